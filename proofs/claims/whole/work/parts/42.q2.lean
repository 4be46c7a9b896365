section Q2
variable {n : Nat → Nat} {V : XV} {T : RV} {M : MD}
theorem nI_ne {a b : Nat} (h : a ≠ b) (ha : a < 2 ^ 31) (hb : b < 2 ^ 31) : ¬ nI a = nI b := fun e => h (by have := congrArg Int32.toInt e; rw [nI_toInt ha, nI_toInt hb] at this; omega)
theorem nI_inj {a b : Nat} (e : nI a = nI b) (ha : a < 2 ^ 31) (hb : b < 2 ^ 31) : a = b := by have := congrArg Int32.toInt e; rw [nI_toInt ha, nI_toInt hb] at this; omega
theorem wfl_st (hW : WF M) {k : Nat} (hk : k < M 0 1) : M 17 k = 119 ∨ M 17 k = 112 ∨ M 17 k = 117 ∨ M 17 k = 100 := (hW.2.2.1 k hk).2.2.2.2.2.2.2.2.2.1
theorem wfl_stb (hW : WF M) {k : Nat} (hk : k < M 0 1) : M 17 k < 2 ^ 31 := by rcases wfl_st hW hk with h | h | h | h <;> omega
theorem wfl_40 (hW : WF M) {k : Nat} (hk : k < M 0 1) : k < 40 := Nat.lt_of_lt_of_le hk hW.1.2.1
theorem wfc_5 (hW : WF M) {k : Nat} (hk : k < M 0 0) : k < 5 := Nat.lt_of_lt_of_le hk hW.1.1
theorem wfp_6 (hW : WF M) {k : Nat} (hk : k < M 0 2) : k < 6 := Nat.lt_of_lt_of_le hk hW.1.2.2.1
theorem rx_n0 (hX : RX n V M) {k : Nat} (hk : k < M 0 0) : k < n 0 := by rw [hX.1.1]; exact hk
theorem rx_n1 (hX : RX n V M) {k : Nat} (hk : k < M 0 1) : k < n 1 := by rw [hX.1.2.1]; exact hk
theorem rx_n2 (hX : RX n V M) {k : Nat} (hk : k < M 0 2) : k < n 2 := by rw [hX.1.2.2.1]; exact hk
theorem x_has (hW : WF M) (hX : RX n V M) {k : Nat} (hk : k < M 0 1) : f_X1_hasCrane n V k = some (if M 17 k = 119 then 0 else 1) := by
  unfold f_X1_hasCrane
  rw [(hX.2.2.1 k hk).2.2.2.2.2.2.2.1]
  by_cases h : M 17 k = 119
  · rw [if_pos h, h, oi_p (show nI 119 = 119 from rfl)]
  · rw [if_neg h, oi_n (show ¬ nI (M 17 k) = 119 from nI_ne (b := 119) h (wfl_stb hW hk) (by omega))]
theorem t_loose (hW : WF M) (hT : RT T M) {k : Nat} (hk : k < M 0 1) : f_X4_isLoose T (nI k) = some (if M 17 k = 119 then (1, rsc (rsc T 27 0) 27 2) else (0, rsc (rsc T 27 0) 27 0)) := by
  unfold f_X4_isLoose
  have h40 := wfl_40 hW hk
  rw [t_some hW hT hk, ob_s, oi_p rfl, og_p (nI_in h40 (by omega)), nI_clamp (by omega)]
  show oi (T.2.1 14 k = 119) _ _ = _
  rw [(hT.2.2.2.1 k hk).2.2.2.2.2.2.2.1]
  by_cases h : M 17 k = 119
  · rw [if_pos h, h, oi_p (show nI 119 = 119 from rfl)]; rfl
  · rw [if_neg h, oi_n (show ¬ nI (M 17 k) = 119 from nI_ne (b := 119) h (wfl_stb hW hk) (by omega))]; rfl
theorem t_loosen (hW : WF M) (hT : RT T M) {p : Int32} (h : p < 0 ∨ nI (M 0 1) ≤ p) : f_X4_isLoose T p = some (1, rsc T 27 1) := by
  unfold f_X4_isLoose
  rw [t_none hW hT h, ob_s, oi_n e10]
theorem st_21 (hR : Rel n V T) : lst_21 Rel n V T := by
  obtain ⟨M, hW, hX, hT, hA⟩ := hR
  intro out p
  rcases p_num p (M 0 1) (Nat.le_trans hW.1.2.1 (by omega)) with ⟨k, hk, rfl⟩ | h
  · by_cases hs : M 17 k = 119
    · refine ⟨(2, n, V, out), (0, rsc (rsc T 27 0) 27 2), ?_, ?_, rfl, fun h => absurd h e20, Rel.of27 hW hX (RT_27 hT) (RA_27 hA)⟩
      · unfold f_L_startOf f_X3_startOf
        rw [x_lfk hW hX hk, ob_s, oc_s (rx_n1 hX hk), x_has hW hX hk, if_pos hs, ob_s, oi_p rfl, ob_s, oi_n n20, oi_n n23, oi_p rfl]
      · unfold f_X4_startOf
        rw [t_loose hW hT hk, if_pos hs, ob_s, oi_n e10]
    · refine ⟨(0, n, V, vp_updL out (0 : Int32).toNatClampNeg (nI (M 19 k)).toInt64), (nI (M 19 k), rsc (rsc T 27 0) 27 0), ?_, ?_, rfl, fun _ => u0 (f := out), Rel.of27 hW hX (RT_27 hT) (RA_27 hA)⟩
      · unfold f_L_startOf f_X3_startOf
        rw [x_lfk hW hX hk, ob_s, oc_s (rx_n1 hX hk), x_has hW hX hk, if_neg hs, ob_s, oi_n e10, ob_s, oi_p rfl, ((hX.2.2.1 k hk).2.2.2.2.2.2.2.2 hs).2]
      · unfold f_X4_startOf
        rw [t_loose hW hT hk, if_neg hs, ob_s, oi_p rfl, og_p (nI_in (wfl_40 hW hk) (by omega)), nI_clamp (Nat.lt_trans (wfl_40 hW hk) (by omega))]
        show some (T.2.1 16 k, _) = _
        rw [((hT.2.2.2.1 k hk).2.2.2.2.2.2.2.2 hs).2]
  · refine ⟨(1, n, V, out), (0, rsc T 27 1), ?_, ?_, rfl, fun h => absurd h e10, Rel.of27 hW hX hT hA⟩
    · unfold f_L_startOf f_X3_startOf
      rw [x_lfn hW hX h, ob_s, oc_n, ob_s, oi_n n30, oi_p rfl]
    · unfold f_X4_startOf
      rw [t_loosen hW hT h, ob_s, oi_n e10]
theorem st_22 (hR : Rel n V T) : lst_22 Rel n V T := by
  obtain ⟨M, hW, hX, hT, hA⟩ := hR
  intro out p
  rcases p_num p (M 0 1) (Nat.le_trans hW.1.2.1 (by omega)) with ⟨k, hk, rfl⟩ | h
  · by_cases hs : M 17 k = 119
    · refine ⟨(2, n, V, out), (0, rsc (rsc T 27 0) 27 2), ?_, ?_, rfl, fun h => absurd h e20, Rel.of27 hW hX (RT_27 hT) (RA_27 hA)⟩
      · unfold f_L_craneOf f_X3_craneOf
        rw [x_lfk hW hX hk, ob_s, oc_s (rx_n1 hX hk), x_has hW hX hk, if_pos hs, ob_s, oi_p rfl, ob_s, oi_n n20, oi_n n23, oi_p rfl]
      · unfold f_X4_craneOf
        rw [t_loose hW hT hk, if_pos hs, ob_s, oi_n e10]
    · refine ⟨(0, n, V, vp_updL out (0 : Int32).toNatClampNeg (nI (M 18 k)).toInt64), (nI (M 18 k), rsc (rsc T 27 0) 27 0), ?_, ?_, rfl, fun _ => u0 (f := out), Rel.of27 hW hX (RT_27 hT) (RA_27 hA)⟩
      · unfold f_L_craneOf f_X3_craneOf
        rw [x_lfk hW hX hk, ob_s, oc_s (rx_n1 hX hk), x_has hW hX hk, if_neg hs, ob_s, oi_n e10, ob_s, oi_p rfl, ((hX.2.2.1 k hk).2.2.2.2.2.2.2.2 hs).1]
      · unfold f_X4_craneOf
        rw [t_loose hW hT hk, if_neg hs, ob_s, oi_p rfl, og_p (nI_in (wfl_40 hW hk) (by omega)), nI_clamp (Nat.lt_trans (wfl_40 hW hk) (by omega))]
        show some (T.2.1 15 k, _) = _
        rw [((hT.2.2.2.1 k hk).2.2.2.2.2.2.2.2 hs).1]
  · refine ⟨(1, n, V, out), (0, rsc T 27 1), ?_, ?_, rfl, fun h => absurd h e10, Rel.of27 hW hX hT hA⟩
    · unfold f_L_craneOf f_X3_craneOf
      rw [x_lfn hW hX h, ob_s, oc_n, ob_s, oi_n n30, oi_p rfl]
    · unfold f_X4_craneOf
      rw [t_loosen hW hT h, ob_s, oi_n e10]
theorem st_23 (hR : Rel n V T) : lst_23 Rel n V T := by
  obtain ⟨M, hW, hX, hT, hA⟩ := hR
  intro out p
  rcases p_num p (M 0 1) (Nat.le_trans hW.1.2.1 (by omega)) with ⟨k, hk, rfl⟩ | h
  · refine ⟨(0, n, V, vp_updL out (0 : Int32).toNatClampNeg (nI (M 16 k) - 1).toInt64), (nI (M 16 k) - 1, rsc T 27 0), ?_, ?_, rfl, fun _ => u0 (f := out), Rel.of27 hW hX hT hA⟩
    · unfold f_L_pourOf f_X3_pourOf
      rw [x_lfk hW hX hk, ob_s, oc_s (rx_n1 hX hk), ob_s, oi_p rfl, (hX.2.2.1 k hk).2.2.2.2.2.2.1]
    · unfold f_X4_pourOf
      rw [t_some hW hT hk, ob_s, oi_p rfl, og_p (nI_in (wfl_40 hW hk) (by omega)), nI_clamp (Nat.lt_trans (wfl_40 hW hk) (by omega))]
      show some (T.2.1 17 k, _) = _
      rw [(hT.2.2.2.1 k hk).2.2.2.2.2.2.1]
  · refine ⟨(1, n, V, out), (0, rsc T 27 1), ?_, ?_, rfl, fun h => absurd h e10, Rel.of27 hW hX hT hA⟩
    · unfold f_L_pourOf f_X3_pourOf
      rw [x_lfn hW hX h, ob_s, oc_n, ob_s, oi_n n30, oi_p rfl]
    · unfold f_X4_pourOf
      rw [t_none hW hT h, ob_s, oi_n e10]
theorem st_24 (hR : Rel n V T) : lst_24 Rel n V T := by
  obtain ⟨M, hW, hX, hT, hA⟩ := hR
  intro out p
  rcases p_num p (M 0 1) (Nat.le_trans hW.1.2.1 (by omega)) with ⟨k, hk, rfl⟩ | h
  · refine ⟨(0, n, V, vp_updL out (0 : Int32).toNatClampNeg (V.2.1 k)), (V.2.1 k, rsc T 27 0), ?_, ?_, rfl, fun _ => u0 (f := out), Rel.of27 hW hX hT hA⟩
    · unfold f_L_airOf f_X3_airOf
      rw [x_lfk hW hX hk, ob_s, oc_s (rx_n1 hX hk), ob_s, oi_p rfl]
    · unfold f_X4_airOf
      rw [t_some hW hT hk, ob_s, oi_p rfl, og_p (nI_in (wfl_40 hW hk) (by omega)), nI_clamp (Nat.lt_trans (wfl_40 hW hk) (by omega))]
      show some (T.2.2 k, _) = _
      rw [hA k hk]
  · refine ⟨(1, n, V, out), (0, rsc T 27 1), ?_, ?_, rfl, fun h => absurd h e10, Rel.of27 hW hX hT hA⟩
    · unfold f_L_airOf f_X3_airOf
      rw [x_lfn hW hX h, ob_s, oc_n, ob_s, oi_n n30, oi_p rfl]
    · unfold f_X4_airOf
      rw [t_none hW hT h, ob_s, oi_n e10]
theorem st_33 (hR : Rel n V T) : lst_33 Rel n V T := by
  obtain ⟨M, hW, hX, hT, hA⟩ := hR
  intro out p
  rcases p_num p (M 0 2) (Nat.le_trans hW.1.2.2.1 (by omega)) with ⟨k, hk, rfl⟩ | h
  · refine ⟨(0, n, V, vp_updL out (0 : Int32).toNatClampNeg (nI (M 20 k)).toInt64), (nI (M 20 k), rsc T 27 0), ?_, ?_, rfl, fun _ => u0 (f := out), Rel.of27 hW hX hT hA⟩
    · unfold f_L_firstOf f_X3_firstOf
      rw [x_pok hW hX hk, ob_s, oc_s (rx_n2 hX hk), ob_s, oi_p rfl, (hX.2.2.2 k hk).1]
    · unfold f_X4_firstOf
      rw [t_pour hW hT hk, ob_s, oi_p rfl, og_p (nI_in (wfp_6 hW hk) (by omega)), nI_clamp (Nat.lt_trans (wfp_6 hW hk) (by omega))]
      show some (T.2.1 20 k, _) = _
      rw [(hT.2.2.2.2 k hk).1]
  · refine ⟨(1, n, V, out), (0, rsc T 27 1), ?_, ?_, rfl, fun h => absurd h e10, Rel.of27 hW hX hT hA⟩
    · unfold f_L_firstOf f_X3_firstOf
      rw [x_pon hW hX h, ob_s, oc_n, ob_s, oi_n n30, oi_p rfl]
    · unfold f_X4_firstOf
      rw [t_nopour hW hT h, ob_s, oi_n e10]
theorem st_34 (hR : Rel n V T) : lst_34 Rel n V T := by
  obtain ⟨M, hW, hX, hT, hA⟩ := hR
  intro out p
  rcases p_num p (M 0 2) (Nat.le_trans hW.1.2.2.1 (by omega)) with ⟨k, hk, rfl⟩ | h
  · refine ⟨(0, n, V, vp_updL out (0 : Int32).toNatClampNeg (nI (M 21 k)).toInt64), (nI (M 21 k), rsc T 27 0), ?_, ?_, rfl, fun _ => u0 (f := out), Rel.of27 hW hX hT hA⟩
    · unfold f_L_loadsOf f_X3_loadsOf
      rw [x_pok hW hX hk, ob_s, oc_s (rx_n2 hX hk), ob_s, oi_p rfl, (hX.2.2.2 k hk).2.1]
    · unfold f_X4_loadsOf
      rw [t_pour hW hT hk, ob_s, oi_p rfl, og_p (nI_in (wfp_6 hW hk) (by omega)), nI_clamp (Nat.lt_trans (wfp_6 hW hk) (by omega))]
      show some (T.2.1 21 k, _) = _
      rw [(hT.2.2.2.2 k hk).2.1]
  · refine ⟨(1, n, V, out), (0, rsc T 27 1), ?_, ?_, rfl, fun h => absurd h e10, Rel.of27 hW hX hT hA⟩
    · unfold f_L_loadsOf f_X3_loadsOf
      rw [x_pon hW hX h, ob_s, oc_n, ob_s, oi_n n30, oi_p rfl]
    · unfold f_X4_loadsOf
      rw [t_nopour hW hT h, ob_s, oi_n e10]
theorem st_40 (hR : Rel n V T) : lst_40 Rel n V T := by
  obtain ⟨M, hW, hX, hT, hA⟩ := hR
  intro out p
  rcases p_num p (M 0 0) (Nat.le_trans hW.1.1 (by omega)) with ⟨k, hk, rfl⟩ | h
  · obtain ⟨x1, x2, x3, -⟩ := hX.2.1 k hk
    obtain ⟨t1, t2, t3, -⟩ := hT.2.1 k hk
    refine ⟨(0, n, V, vp_updL out (0 : Int32).toNatClampNeg (nI (M 1 k) ||| nI (M 2 k) <<< (6 &&& 31) ||| nI (M 3 k) <<< (12 &&& 31) ||| nI (M 0 4) <<< (18 &&& 31)).toInt64), (nI (M 1 k) ||| nI (M 2 k) <<< (6 &&& 31) ||| nI (M 3 k) <<< (12 &&& 31) ||| nI (M 0 4) <<< (18 &&& 31), rsc T 27 0), ?_, ?_, rfl, fun _ => u0 (f := out), Rel.of27 hW hX hT hA⟩
    · unfold f_L_code f_X3_code
      rw [x_crk hW hX hk, ob_s, oc_s (rx_n0 hX hk), ob_s, ob_s, oi_p rfl, x1, x2, x3, hX.1.2.2.2.2.2.2.1]
    · unfold f_X4_code
      have g := nI_in (wfc_5 hW hk) (by omega)
      rw [t_body hW hT hk, ob_s, oi_p rfl, og_p g, og_p g, og_p g, nI_clamp (Nat.lt_trans (wfc_5 hW hk) (by omega)), ob_s]
      show some (T.2.1 1 k ||| T.2.1 2 k <<< (6 &&& 31) ||| T.2.1 3 k <<< (12 &&& 31) ||| T.1 26 <<< (18 &&& 31), _) = _
      rw [t1, t2, t3, hT.1.2.2.2.1]
  · refine ⟨(1, n, V, out), (0, rsc T 27 1), ?_, ?_, rfl, fun h => absurd h e10, Rel.of27 hW hX hT hA⟩
    · unfold f_L_code f_X3_code
      rw [x_crn hW hX h, ob_s, oc_n, ob_s, oi_n n30, oi_p rfl]
    · unfold f_X4_code
      rw [t_nobody hW hT h, ob_s, oi_n e10]
end Q2
