section Q14
variable {n : Nat → Nat} {V : XV} {T : RV} {M : MD}
theorem st_25 (hR : Rel n V T) : lst_25 Rel n V T := by
  obtain ⟨M, hW, hX, hT, hA⟩ := hR
  intro out p1 p2
  have h40 := hW.1.2.1
  rcases p_num p1 (M 0 1) (by omega) with ⟨i, hi, rfl⟩ | h1
  · rcases p_num p2 (M 0 1) (by omega) with ⟨j, hj, rfl⟩ | h2
    · have hi40 := wfl_40 hW hi
      have hj40 := wfl_40 hW hj
      have gi := nI_in hi40 (by omega)
      have gj := nI_in hj40 (by omega)
      have tx : f_X4_shareAir T (nI i) (nI j) = oi (lg_cmp (V.2.1 i &&& V.2.1 j) 0 = 0) (some (0, rsc T 27 0)) (some (1, rsc T 27 0)) := by
        unfold f_X4_shareAir
        rw [t_isl hW hT hi, ob_s, oi_p rfl, t_isl hW hT hj, ob_s, oi_p rfl, t_fl0, ob_s, oi_p rfl, og_p gi, og_p gj, nI_clamp (by omega), nI_clamp (by omega)]
        show oi (lg_cmp (T.2.2 i &&& T.2.2 j) 0 = 0) _ _ = _
        rw [hA i hi, hA j hj]
      by_cases q : lg_cmp (V.2.1 i &&& V.2.1 j) 0 = 0
      · refine ⟨(0, n, V, vp_updL out (0 : Int32).toNatClampNeg 0), (0, rsc T 27 0), ?_, ?_, rfl, fun _ => u0 (f := out), Rel.of27 hW hX hT hA⟩
        · unfold f_L_shareAir f_X3_shareAir
          rw [x_lfk hW hX hi, ob_s, oc_s (rx_n1 hX hi), x_lfk hW hX hj, ob_s, oc_s (rx_n1 hX hj), x_shr, if_neg (fun (h : shr V i j) => h q), ob_s, og_p (show (0 : Int32) &&& 1 = 0 by decide), ob_s, oi_p rfl, oi_p rfl]
        · rw [tx, oi_p q]
      · refine ⟨(0, n, V, vp_updL out (0 : Int32).toNatClampNeg 1), (1, rsc T 27 0), ?_, ?_, rfl, fun _ => (u0 (f := out)).trans (if_neg e10).symm, Rel.of27 hW hX hT hA⟩
        · unfold f_L_shareAir f_X3_shareAir
          rw [x_lfk hW hX hi, ob_s, oc_s (rx_n1 hX hi), x_lfk hW hX hj, ob_s, oc_s (rx_n1 hX hj), x_shr, if_pos (show shr V i j from q), ob_s, og_p (show (1 : Int32) &&& 1 = 1 by decide), ob_s, oi_p rfl, oi_n e10]
        · rw [tx, oi_n q]
    · refine ⟨(1, n, V, out), (0, rsc T 27 1), ?_, ?_, rfl, fun h => absurd h e10, Rel.of27 hW hX hT hA⟩
      · unfold f_L_shareAir f_X3_shareAir
        rw [x_lfk hW hX hi, ob_s, oc_s (rx_n1 hX hi), x_lfn hW hX h2, ob_s, oc_n, ob_s, oi_n n30, oi_p rfl]
      · unfold f_X4_shareAir
        rw [t_isl hW hT hi, ob_s, oi_p rfl, t_nol hW hT h2, ob_s, oi_n e10, t_fl1, ob_s, oi_n e10]
  · refine ⟨(1, n, V, out), (0, rsc T 27 1), ?_, ?_, rfl, fun h => absurd h e10, Rel.of27 hW hX hT hA⟩
    · unfold f_L_shareAir f_X3_shareAir
      rcases p_num p2 (M 0 1) (by omega) with ⟨j, hj, rfl⟩ | h2
      · rw [x_lfn hW hX h1, ob_s, oc_n, x_lfk hW hX hj, ob_s, oc_s (rx_n1 hX hj), ob_s, oi_n n30, oi_p rfl]
      · rw [x_lfn hW hX h1, ob_s, oc_n, x_lfn hW hX h2, ob_s, oc_n, ob_s, oi_n n30, oi_p rfl]
    · unfold f_X4_shareAir
      rw [t_nol hW hT h1, ob_s, oi_n e10, t_fl1, ob_s, oi_n e10]
/-- a number that names a minute, or none -/
theorem p_min (p : Int32) : (∃ m, m < 1440 ∧ p = nI m) ∨ (p < 0 ∨ nI 1440 ≤ p) := by
  by_cases h : p < 0
  · exact Or.inr (Or.inl h)
  · obtain ⟨j, hj, rfl⟩ := nI_of h
    by_cases h2 : j < 1440
    · exact Or.inl ⟨j, h2, rfl⟩
    · exact Or.inr (Or.inr (nI_le (by omega) hj))
theorem x_mink {m : Nat} (h : m < 1440) : f_X3_isMinute (nI m) = some 1 := by
  unfold f_X3_isMinute
  rw [show f_X3_isFrom 0 (nI m) 1439 = some 1 from in_n0 (N := 1439) h (by omega), ob_s]
  exact if_pos (show (1 : Int32) &&& 1 = 1 by decide)
theorem x_minn {p : Int32} (h : p < 0 ∨ nI 1440 ≤ p) : f_X3_isMinute p = some 0 := by
  unfold f_X3_isMinute
  rw [show f_X3_isFrom 0 p 1439 = some 0 from in_out (N := 1439) (by omega) h, ob_s]
  exact if_pos (show (0 : Int32) &&& 1 = 0 by decide)
theorem t_mink {m : Nat} (h : m < 1440) : f_X4_in (nI m) 0 1439 = some 1 := in_n0 (N := 1439) h (by omega)
theorem t_minn {p : Int32} (h : p < 0 ∨ nI 1440 ≤ p) : f_X4_in p 0 1439 = some 0 := in_out (N := 1439) (by omega) h
/-- the first lift of a crane in a minute, from i on, k of them -/
def atk (M : MD) (c m : Nat) : Nat → Nat → Int32
  | 0, _ => -1
  | k + 1, i => if mts M i m (m + 1) ∧ M 18 i = c then nI i else atk M c m k (i + 1)
theorem x_atk (hW : WF M) (hX : RX n V M) {c m : Nat} (hc : c < M 0 0) (hm : m < 1440) : ∀ (K i fu : Nat), i + K = 40 → K < fu → f_X3_liftAt_33 n V fu (nI c) (nI m) (nI i) = some (0, atk M c m (M 0 1 - i) i) := by
  have h40 := hW.1.2.1
  intro K
  induction K with
  | zero =>
    intro i fu h1 h2
    obtain ⟨fu, rfl⟩ : ∃ g, fu = g + 1 := ⟨fu - 1, by omega⟩
    unfold f_X3_liftAt_33
    rw [oi_p (l40 (by omega) (by omega)), show M 0 1 - i = 0 by omega]
    rfl
  | succ K ih =>
    intro i fu h1 h2
    obtain ⟨fu, rfl⟩ : ∃ g, fu = g + 1 := ⟨fu - 1, by omega⟩
    unfold f_X3_liftAt_33
    rw [oi_n (g40 (by omega)), og_p (nI_in (by omega) (by omega)), xr1 hX (by omega), nI_1, nI_1]
    by_cases hi : i < M 0 1
    · rw [if_pos hi, oc_s (rx_n1 hX hi), x_on hW hX hi hc, ob_s, show M 0 1 - i = (M 0 1 - (i + 1)) + 1 by omega]
      unfold atk
      by_cases q : onc M i c
      · rw [if_pos q, oi_n e10, x_mts hW hX hi (by omega) (by omega), ob_s]
        by_cases r : mts M i m (m + 1)
        · rw [if_pos r, oi_n e10, if_pos ⟨r, q.2⟩]
        · rw [if_neg r, oi_p rfl, if_neg (fun (h : mts M i m (m + 1) ∧ M 18 i = c) => r h.1)]
          exact ih (i + 1) fu (by omega) (by omega)
      · rw [if_neg q, oi_p rfl, if_neg (fun (h : mts M i m (m + 1) ∧ M 18 i = c) => q ⟨h.1.1, h.2⟩)]
        exact ih (i + 1) fu (by omega) (by omega)
    · rw [if_neg hi, oc_n, ih (i + 1) fu (by omega) (by omega), show M 0 1 - (i + 1) = 0 by omega, show M 0 1 - i = 0 by omega]
      rfl
theorem t_atk (hW : WF M) (hT : RT T M) {c m : Nat} (hc : c < 1000) (hm : m < 1440) : ∀ (k i fu : Nat), i + k = M 0 1 → k < fu → f_X4_at_2 T fu (nI c) (nI m) (nI i) = some (atk M c m k i) := by
  have h40 := hW.1.2.1
  intro k
  induction k with
  | zero =>
    intro i fu h1 h2
    obtain ⟨fu, rfl⟩ : ∃ g, fu = g + 1 := ⟨fu - 1, by omega⟩
    unfold f_X4_at_2
    rw [hT.1.2.1, oi_p (nI_le (by omega) (by omega))]
    rfl
  | succ k ih =>
    intro i fu h1 h2
    obtain ⟨fu, rfl⟩ : ∃ g, fu = g + 1 := ⟨fu - 1, by omega⟩
    have hi : i < M 0 1 := by omega
    unfold f_X4_at_2 atk
    rw [hT.1.2.1, oi_n (nI_ge (by omega) (by omega)), show f_X4_isIn T (nI i) (nI m) 1 = _ from t_mts hW hT hi (b := 1) (by omega) (by omega), ob_s, nI_1]
    by_cases r : mts M i m (m + 1)
    · have h5' := wfc_5 hW ((hW.2.2.1 i hi).2.2.2.2.2.2.2.2.2.2 r.1).1
      rw [if_pos r, oi_n e10, og_p (nI_in (by omega) (by omega)), nI_clamp (by omega), ((hT.2.2.2.1 i hi).2.2.2.2.2.2.2.2 r.1).1]
      by_cases z : M 18 i = c
      · rw [oi_p (by rw [z]), if_pos ⟨r, z⟩]
      · rw [oi_n (nI_ne z (by omega) (by omega)), if_neg (fun (h : mts M i m (m + 1) ∧ M 18 i = c) => z h.2)]
        exact ih (i + 1) fu (by omega) (by omega)
    · rw [if_neg r, oi_p rfl, if_neg (fun (h : mts M i m (m + 1) ∧ M 18 i = c) => r h.1)]
      exact ih (i + 1) fu (by omega) (by omega)
theorem t_at (hW : WF M) (hT : RT T M) {c m : Nat} (hc : c < 1000) (hm : m < 1440) : f_X4_at T (nI c) (nI m) = some (atk M c m (M 0 1) 0) := by
  unfold f_X4_at
  exact t_atk hW hT hc hm (M 0 1) 0 FU (by omega) (by have := hW.1.2.1; unfold FU; omega)
theorem st_26 (hR : Rel n V T) : lst_26 Rel n V T := by
  obtain ⟨M, hW, hX, hT, hA⟩ := hR
  intro out p1 p2
  have h5 := hW.1.1
  rcases p_num p1 (M 0 0) (by omega) with ⟨c, hc, rfl⟩ | h1
  · rcases p_min p2 with ⟨m, hm, rfl⟩ | h2
    · have hx := x_atk hW hX hc hm 40 0 FU rfl (by unfold FU; omega)
      rw [Nat.sub_zero] at hx
      have hx : f_X3_liftAt_33 n V FU (nI c) (nI m) 0 = some (0, atk M c m (M 0 1) 0) := hx
      refine ⟨(0, n, V, vp_updL out (0 : Int32).toNatClampNeg (atk M c m (M 0 1) 0).toInt64), (atk M c m (M 0 1) 0, rsc T 27 0), ?_, ?_, rfl, fun _ => u0 (f := out), Rel.of27 hW hX hT hA⟩
      · unfold f_L_liftAt f_X3_liftAt
        rw [x_crk hW hX hc, ob_s, oc_s (rx_n0 hX hc), x_mink hm, ob_s, oi_n e10, hx, ob_s, oi_p rfl]
      · unfold f_X4_liftAt f_X4_asked
        rw [t_isc hW hT hc, ob_s, oi_p rfl, t_mink hm, ob_s, oi_n e10, t_fl0, ob_s, oi_p rfl]
        show ob (ob (f_X4_at (rsc T 27 0) (nI c) (nI m)) _) _ = _
        rw [t_at hW (RT_27 hT) (by omega) hm, ob_s, ob_s]
    · refine ⟨(2, n, V, out), (0, rsc T 27 2), ?_, ?_, rfl, fun h => absurd h e20, Rel.of27 hW hX hT hA⟩
      · unfold f_L_liftAt f_X3_liftAt
        rw [x_crk hW hX hc, ob_s, oc_s (rx_n0 hX hc), x_minn h2, ob_s, oi_p rfl, ob_s, oi_n n10, oi_n n13, oi_p rfl]
      · unfold f_X4_liftAt f_X4_asked
        rw [t_isc hW hT hc, ob_s, oi_p rfl, t_minn h2, ob_s, oi_p rfl, t_fl2, ob_s, oi_n e10, ob_s]
  · refine ⟨(1, n, V, out), (0, rsc T 27 1), ?_, ?_, rfl, fun h => absurd h e10, Rel.of27 hW hX hT hA⟩
    · unfold f_L_liftAt f_X3_liftAt
      rw [x_crn hW hX h1, ob_s, oc_n, ob_s, oi_n n30, oi_p rfl]
    · unfold f_X4_liftAt f_X4_asked
      rw [t_noc hW hT h1, ob_s, oi_n e10, t_fl1, ob_s, oi_n e10, ob_s]
end Q14
