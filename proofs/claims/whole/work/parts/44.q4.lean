section Q4
variable {n : Nat → Nat} {V : XV} {T : RV} {M : MD}
theorem nI_div {a b : Nat} (ha : a < 2 ^ 31) (hb : b < 2 ^ 31) (h0 : 0 < b) : nI a / nI b = nI (a / b) := by
  apply Int32.toInt_inj.mp
  have h1 : a / b ≤ a := Nat.div_le_self a b
  rw [Int32.toInt_div, nI_toInt ha, nI_toInt hb, nI_toInt (by omega), ← Int.ofNat_tdiv]
  have h2 : (0 : Int) ≤ ((a / b : Nat) : Int) := Int.natCast_nonneg _
  have h3 : ((a / b : Nat) : Int) ≤ (a : Int) := Int.ofNat_le.mpr h1
  generalize ((a / b : Nat) : Int) = z at h2 h3 ⊢
  exact Int.bmod_eq_of_le (by omega) (by omega)
theorem pl_eq (p q : Int32) : f_X3_isPlace p q = f_X4_isPlace p q := rfl
theorem in_n0 {k N : Nat} (h : k < N + 1) (hN : N ≤ 100000) : f_X4_in (nI k) 0 (nI N) = some 1 := in_ok (nI_pos (by omega)) (nI_nlt (by omega) (by omega))
theorem in_out {p : Int32} {N : Nat} (hN : N ≤ 100000) (h : p < 0 ∨ nI (N + 1) ≤ p) : f_X4_in p 0 (nI N) = some 0 := by
  refine in_no (h.imp id fun h => ?_)
  rw [i_le, nI_toInt (by omega)] at h
  rw [i_lt, nI_toInt (by omega)]
  omega
theorem pl_cases (p q : Int32) : (∃ x y, x < 40 ∧ y < 40 ∧ p = nI x ∧ q = nI y ∧ f_X4_isPlace p q = some 1) ∨ f_X4_isPlace p q = some 0 := by
  unfold f_X4_isPlace
  rcases p_num p 40 (by omega) with ⟨x, hx, rfl⟩ | h
  · rcases p_num q 40 (by omega) with ⟨y, hy, rfl⟩ | h
    · refine Or.inl ⟨x, y, hx, hy, rfl, rfl, ?_⟩
      rw [show f_X4_in (nI x) 0 39 = some 1 from in_n0 (N := 39) hx (by omega), ob_s, oi_n e10, show f_X4_in (nI y) 0 39 = some 1 from in_n0 (N := 39) hy (by omega), ob_s, oi_n e10]
    · refine Or.inr ?_
      rw [show f_X4_in (nI x) 0 39 = some 1 from in_n0 (N := 39) hx (by omega), ob_s, oi_n e10, show f_X4_in q 0 39 = some 0 from in_out (N := 39) (by omega) h, ob_s, oi_p rfl]
  · refine Or.inr ?_
    rw [show f_X4_in p 0 39 = some 0 from in_out (N := 39) (by omega) h, ob_s, oi_p rfl]
theorem st_14 (hR : Rel n V T) : lst_14 Rel n V T := by
  obtain ⟨M, hW, hX, hT, hA⟩ := hR
  intro out p1 p2 p3
  rcases p_num p1 (M 0 0) (Nat.le_trans hW.1.1 (by omega)) with ⟨c, hc, rfl⟩ | h
  · rcases pl_cases p2 p3 with ⟨x, y, hx, hy, rfl, rfl, hp⟩ | hp
    · have hT0 : RT (rsc T 27 0) M := RT_27 hT
      by_cases q : far M c x y ≤ M 3 c * M 3 c
      · refine ⟨(0, n, V, vp_updL out (0 : Int32).toNatClampNeg (lim M c x y).toInt64), (lim M c x y, rsc T 27 0), ?_, ?_, rfl, fun _ => u0 (f := out), Rel.of27 hW hX hT hA⟩
        · unfold f_L_limit f_X3_limit
          rw [x_crk hW hX hc, ob_s, oc_s (rx_n0 hX hc), pl_eq, hp, ob_s, oi_n e10, x_rch hW hX hc hx hy, if_pos q, ob_s, oi_n e10, hX.1.2.2.2.2.2.2.1, x_str hW hX hc hx hy, ob_s, ob_s, oi_p rfl]
        · unfold f_X4_limit
          rw [t_isc hW hT hc, ob_s, oi_p rfl, hp, ob_s, oi_n e10, t_fl0, ob_s, oi_p rfl]
          show ob (f_X4_reaches (rsc T 27 0) (nI c) (nI x) (nI y)) _ = _
          rw [t_rch hW hT0 hc hx hy, if_pos q, ob_s, oi_n e10, t_str hW hT0 hc hx hy, ob_s]
      · refine ⟨(0, n, V, vp_updL out (0 : Int32).toNatClampNeg (0 : Int32).toInt64), (0, rsc T 27 0), ?_, ?_, rfl, fun _ => u0 (f := out), Rel.of27 hW hX hT hA⟩
        · unfold f_L_limit f_X3_limit
          rw [x_crk hW hX hc, ob_s, oc_s (rx_n0 hX hc), pl_eq, hp, ob_s, oi_n e10, x_rch hW hX hc hx hy, if_neg q, ob_s, oi_p rfl, ob_s, oi_p rfl]
        · unfold f_X4_limit
          rw [t_isc hW hT hc, ob_s, oi_p rfl, hp, ob_s, oi_n e10, t_fl0, ob_s, oi_p rfl]
          show ob (f_X4_reaches (rsc T 27 0) (nI c) (nI x) (nI y)) _ = _
          rw [t_rch hW hT0 hc hx hy, if_neg q, ob_s, oi_p rfl]
    · refine ⟨(2, n, V, out), (0, rsc T 27 2), ?_, ?_, rfl, fun h => absurd h e20, Rel.of27 hW hX hT hA⟩
      · unfold f_L_limit f_X3_limit
        rw [x_crk hW hX hc, ob_s, oc_s (rx_n0 hX hc), pl_eq, hp, ob_s, oi_p rfl, ob_s, oi_n n10, oi_n n13, oi_p rfl]
      · unfold f_X4_limit
        rw [t_isc hW hT hc, ob_s, oi_p rfl, hp, ob_s, oi_p rfl, t_fl2, ob_s, oi_n e10]
  · refine ⟨(1, n, V, out), (0, rsc T 27 1), ?_, ?_, rfl, fun h => absurd h e10, Rel.of27 hW hX hT hA⟩
    · unfold f_L_limit f_X3_limit
      rw [x_crn hW hX h, ob_s, oc_n, ob_s, oi_n n30, oi_p rfl]
    · unfold f_X4_limit
      rw [t_noc hW hT h, ob_s, oi_n e10, t_fl1, ob_s, oi_n e10]
/-- a crane reaches both ends of a lift -/
abbrev rch2 (M : MD) (l c : Nat) : Prop := far M c (M 10 l) (M 11 l) ≤ M 3 c * M 3 c ∧ far M c (M 12 l) (M 13 l) ≤ M 3 c * M 3 c
theorem x_rch2 (hW : WF M) (hX : RX n V M) {l c : Nat} (hl : l < M 0 1) (hc : c < M 0 0) : f_X0_reachesEnds n V c l = some (if rch2 M l c then 1 else 0) := by
  obtain ⟨w1, w2, w3, w4, -⟩ := hW.2.2.1 l hl
  obtain ⟨x1, x2, x3, x4, -⟩ := hX.2.2.1 l hl
  unfold f_X0_reachesEnds
  rw [x1, x2, x3, x4, x_rch hW hX hc w1 w2, ob_s]
  by_cases q : far M c (M 10 l) (M 11 l) ≤ M 3 c * M 3 c
  · rw [if_pos q, oi_n e10, x_rch hW hX hc w3 w4, ob_s]
    by_cases r : far M c (M 12 l) (M 13 l) ≤ M 3 c * M 3 c
    · rw [if_pos r, oi_n e10, if_pos ⟨q, r⟩]
    · rw [if_neg r, oi_p rfl, if_neg (fun h => r h.2)]
  · rw [if_neg q, oi_p rfl, if_neg (fun h => q h.1)]
theorem t_rch2 (hW : WF M) (hT : RT T M) {l c : Nat} (hl : l < M 0 1) (hc : c < M 0 0) : f_X4_reachesBoth T (nI l) (nI c) = some (if rch2 M l c then 1 else 0) := by
  obtain ⟨w1, w2, w3, w4, -⟩ := hW.2.2.1 l hl
  obtain ⟨x1, x2, x3, x4, -⟩ := hT.2.2.2.1 l hl
  have g := nI_in (wfl_40 hW hl) (by omega)
  unfold f_X4_reachesBoth
  rw [og_p g, og_p g, og_p g, og_p g, nI_clamp (Nat.lt_trans (wfl_40 hW hl) (by omega)), x1, x2, x3, x4, t_rch hW hT hc w1 w2, ob_s]
  by_cases q : far M c (M 10 l) (M 11 l) ≤ M 3 c * M 3 c
  · rw [if_pos q, oi_n e10, t_rch hW hT hc w3 w4, ob_s]
    by_cases r : far M c (M 12 l) (M 13 l) ≤ M 3 c * M 3 c
    · rw [if_pos r, oi_n e10, if_pos ⟨q, r⟩]
    · rw [if_neg r, oi_p rfl, if_neg (fun h => r h.2)]
  · rw [if_neg q, oi_p rfl, if_neg (fun h => q h.1)]
/-- a lift is too heavy for a crane at one of its ends -/
abbrev hvy (M : MD) (l c : Nat) : Prop := lim M c (M 10 l) (M 11 l) < nI (M 14 l) ∨ lim M c (M 12 l) (M 13 l) < nI (M 14 l)
theorem x_bears (hW : WF M) (hX : RX n V M) {l c : Nat} (hl : l < M 0 1) (hc : c < M 0 0) : f_X0_bearsAtEnds n V c l (V.2.2.1 6) = some (if hvy M l c then 0 else 1) := by
  obtain ⟨w1, w2, w3, w4, -⟩ := hW.2.2.1 l hl
  obtain ⟨x1, x2, x3, x4, x5, -⟩ := hX.2.2.1 l hl
  unfold f_X0_bearsAtEnds
  rw [hX.1.2.2.2.2.2.2.1, x1, x2, x3, x4, x5, x_str hW hX hc w1 w2, ob_s]
  by_cases q : lim M c (M 10 l) (M 11 l) < nI (M 14 l)
  · rw [oi_p q, if_pos (Or.inl q)]
  · rw [oi_n q, x_str hW hX hc w3 w4, ob_s]
    by_cases r : lim M c (M 12 l) (M 13 l) < nI (M 14 l)
    · rw [oi_p r, if_pos (Or.inr r)]
    · rw [oi_n r, if_neg (fun h => h.elim q r)]
theorem t_hvy (hW : WF M) (hT : RT T M) {l c : Nat} (hl : l < M 0 1) (hc : c < M 0 0) : f_X4_isHeavy T (nI l) (nI c) = some (if hvy M l c then 1 else 0) := by
  obtain ⟨w1, w2, w3, w4, -⟩ := hW.2.2.1 l hl
  obtain ⟨x1, x2, x3, x4, x5, -⟩ := hT.2.2.2.1 l hl
  have g := nI_in (wfl_40 hW hl) (by omega)
  unfold f_X4_isHeavy
  rw [og_p g, og_p g, og_p g, og_p g, og_p g, og_p g, nI_clamp (Nat.lt_trans (wfl_40 hW hl) (by omega)), x1, x2, x3, x4, x5, t_str hW hT hc w1 w2, ob_s]
  by_cases q : lim M c (M 10 l) (M 11 l) < nI (M 14 l)
  · rw [oi_p q, if_pos (Or.inl q)]
  · rw [oi_n q, t_str hW hT hc w3 w4, ob_s]
    by_cases r : lim M c (M 12 l) (M 13 l) < nI (M 14 l)
    · rw [oi_n (fun h => by rw [i_lt] at r; rw [i_le] at h; omega), if_pos (Or.inr r)]
    · rw [oi_p (by rw [i_lt] at r; rw [i_le]; omega), if_neg (fun h => h.elim q r)]
end Q4
