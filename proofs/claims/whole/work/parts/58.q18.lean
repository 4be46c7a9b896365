section Q18
variable {n : Nat → Nat} {V : XV} {T : RV} {M : MD}
theorem tb_wf (hW : WF M) {i : Nat} : WF (mput M i 119 0 0) := put_wf hW (Or.inl rfl) (fun h => absurd rfl h) (fun h => absurd rfl h)
theorem tb_rx (hX : RX n V M) {i : Nat} : RX n (xput (xput (xput V 1 i 8 119) 1 i 9 (-1)) 1 i 10 (-1)) (mput M i 119 0 0) := put_rx (s := 119) hX (fun h => absurd rfl h)
theorem tb_0 {i : Nat} : mput M i 119 0 0 0 = M 0 := mput_f (by decide) (by decide) (by decide)
theorem tb_16 {i : Nat} : mput M i 119 0 0 16 = M 16 := mput_f (by decide) (by decide) (by decide)
theorem tb_ra (hA : RA V T M) {i : Nat} : RA (xput (xput (xput V 1 i 8 119) 1 i 9 (-1)) 1 i 10 (-1)) (rar T 14 i 119) (mput M i 119 0 0) := by
  unfold RA
  rw [tb_0]
  exact hA
theorem t_unend (hW : WF M) (hT : RT T M) {l i : Nat} (hi : M 0 1 ≤ i) (hi2 : i < 1000) (fr : Nat) (x : Int32) : f_X4_unplan_37 T (fr + 1) (nI l) x (nI i) = some (x, T) := by
  show oi ((T.1 7) ≤ nI i) _ _ = _
  rw [hT.1.2.1, oi_p (nI_le hi (by omega))]
/-- a lift of its own: nothing behind it is taken back -/
theorem t_up0 (hW : WF M) (hT : RT T M) {l : Nat} (hl : l < M 0 1) (h0 : M 16 l = 0) : ∀ (k i fr : Nat) (x : Int32), i + k = M 0 1 → l < i → k < fr → f_X4_unplan_37 T fr (nI l) x (nI i) = some (x, T) := by
  have h40 := hW.1.2.1
  intro k
  induction k with
  | zero =>
    intro i fr x h1 h2 h3
    obtain ⟨fr, rfl⟩ : ∃ g, fr = g + 1 := ⟨fr - 1, by omega⟩
    exact t_unend hW hT (by omega) (by omega) fr x
  | succ k ih =>
    intro i fr x h1 h2 h3
    obtain ⟨fr, rfl⟩ : ∃ g, fr = g + 1 := ⟨fr - 1, by omega⟩
    rw [t_unp hW hT hl (by omega) fr x, if_neg (fun h => h.2.elim (fun e => by omega) (fun w => w.1 h0))]
    exact ih (i + 1) fr x (by omega) (by omega) (by omega)
theorem t_up1 (hW : WF M) (hT : RT T M) {l : Nat} (hl : l < M 0 1) (h0 : M 16 l = 0) (hs : M 17 l = 112) : ∀ (k i fr : Nat) (x : Int32), i + k = M 0 1 → i ≤ l → k < fr → f_X4_unplan_37 T fr (nI l) x (nI i) = some (x + 1, rar T 14 l 119) := by
  have h40 := hW.1.2.1
  intro k
  induction k with
  | zero => intro i fr x h1 h2 h3; omega
  | succ k ih =>
    intro i fr x h1 h2 h3
    obtain ⟨fr, rfl⟩ : ∃ g, fr = g + 1 := ⟨fr - 1, by omega⟩
    by_cases e : i = l
    · subst e
      rw [t_unp hW hT hl (by omega) fr x, if_pos ⟨hs, Or.inl rfl⟩]
      exact t_up0 (tb_wf hW) (put_rt1 (c := 0) (a := 0) hT) (by rw [tb_0]; exact hl) (by rw [tb_16]; exact h0) k (i + 1) fr (x + 1) (by rw [tb_0]; omega) (by omega) (by omega)
    · rw [t_unp hW hT hl (by omega) fr x, if_neg (fun h => h.2.elim e (fun w => w.1 h0))]
      exact ih (i + 1) fr x (by omega) (by omega) (by omega)
theorem x_unskip (hX : RX n V M) (h40 : M 0 1 ≤ 40) {l : Nat} : ∀ (K i fu : Nat) (x : Int32), i + K = 40 → M 0 1 ≤ i → K < fu → f_X3_unplan_65 n V fu l x 40 (nI i) = some (0, x, V) := by
  intro K
  induction K with
  | zero =>
    intro i fu x h1 h3 h2
    obtain ⟨fu, rfl⟩ : ∃ g, fu = g + 1 := ⟨fu - 1, by omega⟩
    unfold f_X3_unplan_65
    rw [oi_p (l40 (by omega) (by omega))]
  | succ K ih =>
    intro i fu x h1 h3 h2
    obtain ⟨fu, rfl⟩ : ∃ g, fu = g + 1 := ⟨fu - 1, by omega⟩
    unfold f_X3_unplan_65
    rw [oi_n (g40 (by omega)), og_p (nI_in (by omega) (by omega)), xr1 hX (by omega), if_neg (by omega), oc_n, nI_1]
    exact ih (i + 1) fu x (by omega) (by omega) (by omega)
theorem unp_both {l : Nat} : ∀ (k i : Nat) (M : MD) (V : XV) (T : RV) (fx fr : Nat) (x : Int32), WF M → RX n V M → RT T M → RA V T M → l < M 0 1 → M 16 l ≠ 0 → i + k = M 0 1 → 40 - i < fx → k < fr → ∃ (M' : MD) (V' : XV) (T' : RV) (y : Int32), f_X3_unplan_65 n V fx l x 40 (nI i) = some (0, y, V') ∧ f_X4_unplan_37 T fr (nI l) x (nI i) = some (y, T') ∧ WF M' ∧ RX n V' M' ∧ RT T' M' ∧ RA V' T' M' ∧ T'.1 27 = T.1 27 := by
  intro k
  induction k with
  | zero =>
    intro i M V T fx fr x hW hX hT hA hl h0 h1 h2 h3
    have h40 := hW.1.2.1
    obtain ⟨fr, rfl⟩ : ∃ g, fr = g + 1 := ⟨fr - 1, by omega⟩
    exact ⟨M, V, T, x, x_unskip hX h40 (40 - i) i fx x (by omega) (by omega) h2, t_unend hW hT (by omega) (by omega) fr x, hW, hX, hT, hA, rfl⟩
  | succ k ih =>
    intro i M V T fx fr x hW hX hT hA hl h0 h1 h2 h3
    have h40 := hW.1.2.1
    have hi : i < M 0 1 := by omega
    obtain ⟨fx, rfl⟩ : ∃ g, fx = g + 1 := ⟨fx - 1, by omega⟩
    obtain ⟨fr, rfl⟩ : ∃ g, fr = g + 1 := ⟨fr - 1, by omega⟩
    rw [t_unp hW hT hl hi fr x]
    unfold f_X3_unplan_65
    rw [oi_n (g40 (by omega)), og_p (nI_in (by omega) (by omega)), xr1 hX (by omega), if_pos hi, oc_s (rx_n1 hX hi), (hX.2.2.1 i hi).2.2.2.2.2.2.2.1, (hX.2.2.1 i hi).2.2.2.2.2.2.1, (hX.2.2.1 l hl).2.2.2.2.2.2.1, nI_1]
    have stay := ih (i + 1) M V T fx fr x hW hX hT hA hl h0 (by omega) (by omega) (by omega)
    by_cases y : M 16 i = M 16 l
    · rw [oi_p ((po_eq hW hi hl).mpr y)]
      by_cases q : M 17 i = 112
      · rw [oi_p (show nI (M 17 i) = 112 from (st_is hW hi 112 (by omega)).mpr q), if_pos ⟨q, Or.inr ⟨h0, y⟩⟩]
        exact ih (i + 1) (mput M i 119 0 0) _ _ fx fr (x + 1) (tb_wf hW) (tb_rx hX) (put_rt1 hT) (tb_ra hA) (by rw [tb_0]; exact hl) (by rw [tb_16]; exact h0) (by rw [tb_0]; omega) (by omega) (by omega)
      · rw [oi_n (show ¬ nI (M 17 i) = 112 from fun h => q ((st_is hW hi 112 (by omega)).mp h)), if_neg (fun h => q h.1)]
        exact stay
    · rw [oi_n (fun h => y ((po_eq hW hi hl).mp h)), if_neg (fun h => h.2.elim (fun e => y (by rw [e])) (fun w => y w.2))]
      exact stay
theorem st_9 (hR : Rel n V T) : lst_9 Rel n V T := by
  obtain ⟨M, hW, hX, hT, hA⟩ := hR
  intro out p
  have h40 := hW.1.2.1
  rcases p_num p (M 0 1) (by omega) with ⟨l, hl, rfl⟩ | h
  · have l40' := wfl_40 hW hl
    have g := nI_in l40' (by omega)
    have hT2 : RT (rsc (rsc T 27 0) 27 0) M := RT_27 (RT_27 hT)
    by_cases q : M 17 l = 112
    · have e112 : nI (M 17 l) = 112 := (st_is hW hl 112 (by omega)).mpr q
      have tx : f_X4_unplan T (nI l) = f_X4_unplan_37 (rsc (rsc T 27 0) 27 0) FU (nI l) 0 0 := by
        unfold f_X4_unplan
        rw [t_some hW hT hl, ob_s, oi_p rfl, og_p g, nI_clamp (by omega)]
        show oi (T.2.1 14 l = 112) _ _ = _
        rw [(hT.2.2.2.1 l hl).2.2.2.2.2.2.2.1, oi_p e112, t_fl0, ob_s, oi_p rfl]
      by_cases z : M 16 l = 0
      · have e := t_up1 hW hT2 hl z q (M 0 1) 0 FU 0 (by omega) (Nat.zero_le _) (by unfold FU; omega)
        have e : f_X4_unplan_37 (rsc (rsc T 27 0) 27 0) FU (nI l) 0 0 = some (1, rar (rsc (rsc T 27 0) 27 0) 14 l 119) := e
        refine ⟨(0, n, xput (xput (xput V 1 l 8 119) 1 l 9 (-1)) 1 l 10 (-1), vp_updL out (0 : Int32).toNatClampNeg (1 : Int32).toInt64), (1, rar (rsc (rsc T 27 0) 27 0) 14 l 119), ?_, ?_, rfl, fun _ => u0 (f := out), ⟨_, tb_wf hW, tb_rx hX, put_rt1 hT2, tb_ra (RA_27 (RA_27 hA))⟩⟩
        · unfold f_L_unplan f_X3_unplan
          rw [x_lfk hW hX hl, ob_s, oc_s (rx_n1 hX hl), (hX.2.2.1 l hl).2.2.2.2.2.2.2.1, oi_p e112, (hX.2.2.1 l hl).2.2.2.2.2.2.1, oi_p (show nI (M 16 l) - 1 = -1 by rw [z]; decide)]
          rfl
        · rw [tx, e]
      · have h6 := hW.1.2.2.1
        have l9 := (hW.2.2.1 l hl).2.2.2.2.2.2.2.2.1
        obtain ⟨M', V', T', y, e1, e2, w, rx, rt, ra, e3⟩ := unp_both (n := n) (l := l) (M 0 1) 0 M V (rsc (rsc T 27 0) 27 0) FU FU 0 hW hX hT2 (RA_27 (RA_27 hA)) hl z (by omega) (by unfold FU; omega) (by unfold FU; omega)
        have e1 : f_X3_unplan_65 n V FU l 0 40 0 = some (0, y, V') := e1
        have e2 : f_X4_unplan_37 (rsc (rsc T 27 0) 27 0) FU (nI l) 0 0 = some (y, T') := e2
        refine ⟨(0, n, V', vp_updL out (0 : Int32).toNatClampNeg y.toInt64), (y, T'), ?_, ?_, e3, fun _ => u0 (f := out), ⟨M', w, rx, rt, ra⟩⟩
        · unfold f_L_unplan f_X3_unplan
          rw [x_lfk hW hX hl, ob_s, oc_s (rx_n1 hX hl), (hX.2.2.1 l hl).2.2.2.2.2.2.2.1, oi_p e112, (hX.2.2.1 l hl).2.2.2.2.2.2.1, oi_n (show ¬ nI (M 16 l) - 1 = -1 from by rw [nI_m1 (by omega)]; exact m1_ne (by omega)), e1, ob_s, oi_p rfl]
        · rw [tx, e2]
    · have n112 : ¬ nI (M 17 l) = 112 := fun h => q ((st_is hW hl 112 (by omega)).mp h)
      refine ⟨(2, n, V, out), (0, rsc (rsc T 27 0) 27 2), ?_, ?_, rfl, fun h => absurd h e20, Rel.of27 hW hX (RT_27 hT) (RA_27 hA)⟩
      · unfold f_L_unplan f_X3_unplan
        rw [x_lfk hW hX hl, ob_s, oc_s (rx_n1 hX hl), (hX.2.2.1 l hl).2.2.2.2.2.2.2.1, oi_n n112, ob_s, oi_n n20, oi_n n23, oi_p rfl]
      · unfold f_X4_unplan
        rw [t_some hW hT hl, ob_s, oi_p rfl, og_p g, nI_clamp (by omega)]
        show oi (T.2.1 14 l = 112) _ _ = _
        rw [(hT.2.2.2.1 l hl).2.2.2.2.2.2.2.1, oi_n n112, t_fl2, ob_s, oi_n e10]
  · refine ⟨(1, n, V, out), (0, rsc T 27 1), ?_, ?_, rfl, fun h => absurd h e10, Rel.of27 hW hX hT hA⟩
    · unfold f_L_unplan f_X3_unplan
      rw [x_lfn hW hX h, ob_s, oc_n, ob_s, oi_n n30, oi_p rfl]
    · unfold f_X4_unplan
      rw [t_none hW hT h, ob_s, oi_n e10]
end Q18
