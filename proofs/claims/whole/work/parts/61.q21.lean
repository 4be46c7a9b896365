section Q21
variable {n : Nat → Nat} {V : XV} {T : RV} {M : MD}
/-- how many of k lifts from i on are in a state: none, or all -/
theorem gs_inf (M : MD) (s : Nat) : ∀ (k i a : Nat), ∃ c, c ≤ k ∧ fld (gs M s) k i (nI a) = nI (a + c) ∧ (c = 0 → ∀ j, i ≤ j → j < i + k → M 17 j ≠ s) ∧ (c = k ↔ ∀ j, i ≤ j → j < i + k → M 17 j = s) := by
  intro k
  induction k with
  | zero => intro i a; exact ⟨0, Nat.le_refl _, rfl, fun _ j h1 h2 => by omega, ⟨fun _ j h1 h2 => by omega, fun _ => rfl⟩⟩
  | succ k ih =>
    intro i a
    by_cases q : M 17 i = s
    · obtain ⟨c, hc, e, h1, h2⟩ := ih (i + 1) (a + 1)
      refine ⟨c + 1, by omega, ?_, fun h => by omega, ⟨fun h j h3 h4 => ?_, fun h => ?_⟩⟩
      · show fld (gs M s) k (i + 1) (gs M s i (nI a)) = _
        rw [show gs M s i (nI a) = nI (a + 1) by unfold gs; rw [if_pos q, nI_1], e]
        congr 1; omega
      · by_cases z : j = i
        · rw [z]; exact q
        · exact h2.mp (by omega) j (by omega) (by omega)
      · have := h2.mpr (fun j h3 h4 => h j (by omega) (by omega))
        omega
    · obtain ⟨c, hc, e, h1, h2⟩ := ih (i + 1) a
      refine ⟨c, by omega, ?_, fun h j h3 h4 => ?_, ⟨fun h => by omega, fun h => absurd (h i (Nat.le_refl _) (by omega)) q⟩⟩
      · show fld (gs M s) k (i + 1) (gs M s i (nI a)) = _
        rw [show gs M s i (nI a) = nI a by unfold gs; rw [if_neg q]]
        exact e
      · by_cases z : j = i
        · rw [z]; exact q
        · exact h1 h j (by omega) (by omega)
def gwt (M : MD) (i : Nat) (x : Int32) : Int32 := if x < nI (M 19 i) - nI (M 19 (i - 1) + M 15 (i - 1)) then nI (M 19 i) - nI (M 19 (i - 1) + M 15 (i - 1)) else x
theorem x_lw (hW : WF M) (hX : RX n V M) {P : Nat} (hP : P < M 0 2) (hs : ∀ j, M 20 P ≤ j → j < M 20 P + M 21 P → M 17 j ≠ 119) : ∀ (k j fu : Nat) (x : Int32), j + k = M 21 P → 1 ≤ j → k < fu → f_X3_longestWait_41 n V fu P x (nI j) = some (0, fld (gwt M) k (M 20 P + j) x) := by
  have h40 := hW.1.2.1
  obtain ⟨p1, p2, p3, p4, p5⟩ := hW.2.2.2.1 P hP
  obtain ⟨x1, x2, x3⟩ := hX.2.2.2 P hP
  intro k
  induction k with
  | zero =>
    intro j fu x h1 h2 h3
    obtain ⟨fu, rfl⟩ : ∃ g, fu = g + 1 := ⟨fu - 1, by omega⟩
    unfold f_X3_longestWait_41
    rw [x2, oi_p (nI_le (by omega) (by omega))]
    rfl
  | succ k ih =>
    intro j fu x h1 h2 h3
    obtain ⟨fu, rfl⟩ : ∃ g, fu = g + 1 := ⟨fu - 1, by omega⟩
    have hb : M 20 P + j < M 0 1 := by omega
    have ha : M 20 P + j - 1 < M 0 1 := by omega
    unfold f_X3_longestWait_41
    rw [x2, oi_n (nI_ge (by omega) (by omega)), x1, nI_add, nI_m1 (show 1 ≤ M 20 P + j by omega), x_lfk hW hX ha, ob_s, oc_s (rx_n1 hX ha), x_lfk hW hX hb, ob_s, oc_s (rx_n1 hX hb), x_end hX ha (hs _ (by omega) (by omega)), ob_s, nI_1, ((hX.2.2.1 _ hb).2.2.2.2.2.2.2.2 (hs _ (by omega) (by omega))).2]
    exact ih (j + 1) fu _ (by omega) (by omega) (by omega)
theorem t_lw (hW : WF M) (hT : RT T M) {P : Nat} (hP : P < M 0 2) (hs : ∀ j, M 20 P ≤ j → j < M 20 P + M 21 P → M 17 j ≠ 119) : ∀ (k j fu : Nat) (x : Int32), j + k = M 21 P → 1 ≤ j → k < fu → f_X4_longestWait_43 T fu (nI P) x (nI (M 20 P + j)) = some (fld (gwt M) k (M 20 P + j) x, T) := by
  have h40 := hW.1.2.1
  obtain ⟨p1, p2, p3, p4, p5⟩ := hW.2.2.2.1 P hP
  obtain ⟨t1, t2, t3⟩ := hT.2.2.2.2 P hP
  have gP := nI_in (wfp_6 hW hP) (by omega)
  have hP6 := wfp_6 hW hP
  intro k
  induction k with
  | zero =>
    intro j fu x h1 h2 h3
    obtain ⟨fu, rfl⟩ : ∃ g, fu = g + 1 := ⟨fu - 1, by omega⟩
    unfold f_X4_longestWait_43
    rw [og_p gP, og_p gP, nI_clamp (show P < 2 ^ 31 by omega), t1, t2, nI_add, oi_p (nI_le (by omega) (by omega))]
    rfl
  | succ k ih =>
    intro j fu x h1 h2 h3
    obtain ⟨fu, rfl⟩ : ∃ g, fu = g + 1 := ⟨fu - 1, by omega⟩
    have hb : M 20 P + j < M 0 1 := by omega
    have ha : M 20 P + j - 1 < M 0 1 := by omega
    have gb := nI_in (c := M 20 P + j) (N := 40) (by omega) (by omega)
    have ga := nI_in (c := M 20 P + j - 1) (N := 40) (by omega) (by omega)
    have sb := hs (M 20 P + j) (by omega) (by omega)
    have sa := hs (M 20 P + j - 1) (by omega) (by omega)
    unfold f_X4_longestWait_43
    rw [og_p gP, og_p gP, nI_clamp (show P < 2 ^ 31 by omega), t1, t2, nI_add, oi_n (nI_ge (by omega) (by omega)), og_p gb, nI_m1 (show 1 ≤ M 20 P + j by omega), og_p ga, og_p ga, nI_clamp (show M 20 P + j < 2 ^ 31 by omega), nI_clamp (show M 20 P + j - 1 < 2 ^ 31 by omega), ((hT.2.2.2.1 _ hb).2.2.2.2.2.2.2.2 sb).2, ((hT.2.2.2.1 _ ha).2.2.2.2.2.2.2.2 sa).2, (hT.2.2.2.1 _ ha).2.2.2.2.2.1, Int32.sub_sub, nI_add, nI_1]
    show _ = some (fld (gwt M) k (M 20 P + (j + 1)) (gwt M (M 20 P + j) x), T)
    unfold gwt
    by_cases q : x < nI (M 19 (M 20 P + j)) - nI (M 19 (M 20 P + j - 1) + M 15 (M 20 P + j - 1))
    · rw [oi_n (Int32.not_le.mpr q), if_pos q]
      exact ih (j + 1) fu _ (by omega) (by omega) (by omega)
    · rw [oi_p (Int32.not_lt.mp q), if_neg q]
      exact ih (j + 1) fu _ (by omega) (by omega) (by omega)
theorem st_35 (hR : Rel n V T) : lst_35 Rel n V T := by
  obtain ⟨M, hW, hX, hT, hA⟩ := hR
  intro out p
  have h6 := hW.1.2.2.1
  have h40 := hW.1.2.1
  rcases p_num p (M 0 2) (by omega) with ⟨P, hP, rfl⟩ | h
  · obtain ⟨p1, p2, p3, p4, p5⟩ := hW.2.2.2.1 P hP
    obtain ⟨a, ha, ea, e0, e1⟩ := gs_inf M 119 (M 21 P) (M 20 P) 0
    have c1 := cnt_both hW hX (T := rsc T 27 0) (RT_27 hT) hP (s := 119) (by omega)
    rw [show fld (gs M 119) (M 21 P) (M 20 P) 0 = nI (0 + a) from ea, Nat.zero_add] at c1
    have x1 : f_X3_countOfPour n V (nI P) 119 = some (nI a) := c1.1
    have t1 : f_X4_inState (rsc T 27 0) (nI P) 119 = some (nI a) := c1.2
    by_cases q : a = 0
    · have hs := e0 q
      have hz : nI a ≤ 0 := by rw [q]; decide
      have xl := x_lw hW hX hP hs (M 21 P - 1) 1 FU 0 (by omega) (by omega) (by unfold FU; omega)
      have tl := t_lw hW (T := rsc (rsc T 27 0) 27 0) (RT_27 (RT_27 hT)) hP hs (M 21 P - 1) 1 FU 0 (by omega) (by omega) (by unfold FU; omega)
      refine ⟨(0, n, V, vp_updL out (0 : Int32).toNatClampNeg (fld (gwt M) (M 21 P - 1) (M 20 P + 1) 0).toInt64), (fld (gwt M) (M 21 P - 1) (M 20 P + 1) 0, rsc (rsc T 27 0) 27 0), ?_, ?_, rfl, fun _ => u0 (f := out), Rel.of27 hW hX (RT_27 hT) (RA_27 hA)⟩
      · unfold f_L_longestWait f_X3_longestWait
        rw [x_pok hW hX hP, ob_s, oc_s (rx_n2 hX hP), x1, ob_s, oi_p hz, show f_X3_longestWait_41 n V FU P 0 1 = _ from xl, ob_s, oi_p rfl]
      · unfold f_X4_longestWait
        rw [t_pour hW hT hP, ob_s, oi_p rfl, t1, ob_s, oi_p hz, t_fl0, ob_s, oi_p rfl, og_p (nI_in (wfp_6 hW hP) (by omega)), nI_clamp (by omega)]
        show f_X4_longestWait_43 (rsc (rsc T 27 0) 27 0) FU (nI P) 0 (T.2.1 20 P + 1) = _
        rw [(hT.2.2.2.2 P hP).1, nI_1]
        exact tl
    · have hz : ¬ nI a ≤ 0 := nI_ge (a := 0) (by omega) (by omega)
      refine ⟨(2, n, V, out), (0, rsc (rsc T 27 0) 27 2), ?_, ?_, rfl, fun h => absurd h e20, Rel.of27 hW hX (RT_27 hT) (RA_27 hA)⟩
      · unfold f_L_longestWait f_X3_longestWait
        rw [x_pok hW hX hP, ob_s, oc_s (rx_n2 hX hP), x1, ob_s, oi_n hz, ob_s, oi_n n20, oi_n n23, oi_p rfl]
      · unfold f_X4_longestWait
        rw [t_pour hW hT hP, ob_s, oi_p rfl, t1, ob_s, oi_n hz, t_fl2, ob_s, oi_n e10]
  · refine ⟨(1, n, V, out), (0, rsc T 27 1), ?_, ?_, rfl, fun h => absurd h e10, Rel.of27 hW hX hT hA⟩
    · unfold f_L_longestWait f_X3_longestWait
      rw [x_pon hW hX h, ob_s, oc_n, ob_s, oi_n n30, oi_p rfl]
    · unfold f_X4_longestWait
      rw [t_nopour hW hT h, ob_s, oi_n e10]
end Q21
