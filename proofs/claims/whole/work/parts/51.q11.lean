section Q11
variable {n : Nat → Nat} {V : XV} {T : RV} {M : MD}
theorem isF_neg {l c fr : Nat} {r : Int32} (h : isF M V l c fr r) : (∃ a, r = nI a ∧ FIT M V l c a) ∨ r = -1 := h.imp (fun ⟨a, e, _, f, _⟩ => ⟨a, e, f⟩) (fun h => h.1)
theorem m1_ne {a : Nat} (h : a ≤ 10000) : ¬ nI a = -1 := fun e => by
  have h2 := congrArg Int32.toInt e
  rw [nI_toInt (by omega)] at h2
  have : (-1 : Int32).toInt = -1 := by decide
  omega
theorem x_nolift {α : Type} {p q : Int32} {x : Option α} {y : Nat → Option α} (hW : WF M) (hX : RX n V M) (h : (p < 0 ∨ nI (M 0 1) ≤ p) ∨ (∃ l, l < M 0 1 ∧ p = nI l) ∧ (q < 0 ∨ nI (M 0 0) ≤ q)) : ob (f_X3_liftNumbered n V p) (fun u_1 => oc (n 1) u_1 x (fun k_3 => ob (f_X3_craneNumbered n V q) (fun u_5 => oc (n 0) u_5 x (fun _ => y k_3)))) = x := by
  rcases h with h | ⟨⟨l, hl, rfl⟩, h⟩
  · rw [x_lfn hW hX h, ob_s, oc_n]
  · rw [x_lfk hW hX hl, ob_s, oc_s (rx_n1 hX hl), x_crn hW hX h, ob_s, oc_n]
theorem pairs (hW : WF M) (p q : Int32) : (∃ l c, l < M 0 1 ∧ c < M 0 0 ∧ p = nI l ∧ q = nI c) ∨ ((p < 0 ∨ nI (M 0 1) ≤ p) ∨ (∃ l, l < M 0 1 ∧ p = nI l) ∧ (q < 0 ∨ nI (M 0 0) ≤ q)) := by
  rcases p_num p (M 0 1) (Nat.le_trans hW.1.2.1 (by omega)) with ⟨l, hl, rfl⟩ | h
  · rcases p_num q (M 0 0) (Nat.le_trans hW.1.1 (by omega)) with ⟨c, hc, rfl⟩ | h
    · exact Or.inl ⟨l, c, hl, hc, rfl, rfl⟩
    · exact Or.inr (Or.inr ⟨⟨l, hl, rfl⟩, h⟩)
  · exact Or.inr (Or.inl h)
theorem t_eo (hW : WF M) (hT : RT T M) (hA : RA V T M) {l c : Nat} (hl : l < M 0 1) (hc : c < M 0 0) : ∃ r T', isF M V l c 0 r ∧ RT T' M ∧ RA V T' M ∧ ((∃ a, r = nI a ∧ FIT M V l c a ∧ f_X4_earliestOf T (nI l) (nI c) = some (r, rsc T' 27 0)) ∨ (r = -1 ∧ f_X4_earliestOf T (nI l) (nI c) = some (0, rsc T' 27 2))) := by
  obtain ⟨r, T', e, hT', hA', h⟩ := t_first hW (RT_27 (c := 0) hT) (RA_27 (c := 0) hA) hl hc
  refine ⟨r, T', h, hT', hA', ?_⟩
  unfold f_X4_earliestOf
  rw [t_pair hW hT hl hc, ob_s, oi_p rfl, e, ob_s]
  rcases isF_neg h with ⟨a, rfl, f⟩ | rfl
  · have := f.le
    rw [oi_p (show (0 : Int32) ≤ nI a from nI_pos' (by omega)), t_fl0, ob_s, oi_p rfl]
    exact Or.inl ⟨a, rfl, f, rfl⟩
  · rw [oi_n (show ¬ (0 : Int32) ≤ -1 by decide), t_fl2, ob_s, oi_n e10]
    exact Or.inr ⟨rfl, rfl⟩
theorem t_eon (hW : WF M) (hT : RT T M) {p q : Int32} (h : (p < 0 ∨ nI (M 0 1) ≤ p) ∨ (∃ l, l < M 0 1 ∧ p = nI l) ∧ (q < 0 ∨ nI (M 0 0) ≤ q)) : f_X4_earliestOf T p q = some (0, rsc T 27 1) := by
  unfold f_X4_earliestOf
  rw [t_nopair hW hT h, ob_s, oi_n e10]
theorem st_18 (hR : Rel n V T) : lst_18 Rel n V T := by
  obtain ⟨M, hW, hX, hT, hA⟩ := hR
  intro out p1 p2
  rcases pairs hW p1 p2 with ⟨l, c, hl, hc, rfl, rfl⟩ | h
  · obtain ⟨r, T', hr, hT', hA', ht⟩ := t_eo hW hT hA hl hc
    obtain ⟨q, e, hq⟩ := x_first hW hX hl hc
    obtain rfl : q = r := isF_uniq hq hr
    have ex : f_X3_earliest n V (nI l) (nI c) = oi (q = (-1)) (some (4, 0)) (some (0, q)) := by
      unfold f_X3_earliest
      rw [x_lfk hW hX hl, ob_s, oc_s (rx_n1 hX hl), x_crk hW hX hc, ob_s, oc_s (rx_n0 hX hc), e, ob_s]
    rcases ht with ⟨a, rfl, f, ht⟩ | ⟨rfl, ht⟩
    · refine ⟨(0, n, V, vp_updL out (0 : Int32).toNatClampNeg (nI a).toInt64), (nI a, rsc T' 27 0), ?_, ?_, rfl, fun _ => u0 (f := out), Rel.of27 hW hX hT' hA'⟩
      · unfold f_L_earliest
        rw [ex, oi_n (m1_ne (Nat.le_trans f.le (by omega))), ob_s, oi_p rfl]
      · unfold f_X4_earliest
        rw [ht, ob_s]
    · refine ⟨(2, n, V, out), (0, rsc T' 27 2), ?_, ?_, rfl, fun h => absurd h e20, Rel.of27 hW hX hT' hA'⟩
      · unfold f_L_earliest
        rw [ex, oi_p rfl, ob_s, oi_n n40, oi_n n43, oi_p rfl]
      · unfold f_X4_earliest
        rw [ht, ob_s]
  · refine ⟨(1, n, V, out), (0, rsc T 27 1), ?_, ?_, rfl, fun h => absurd h e10, Rel.of27 hW hX hT hA⟩
    · unfold f_L_earliest f_X3_earliest
      rw [x_nolift hW hX h, ob_s, oi_n n30, oi_p rfl]
    · unfold f_X4_earliest
      rw [t_eon hW hT h, ob_s]
theorem x_pass109 (hW : WF M) (hX : RX n V M) {l c a : Nat} (hl : l < M 0 1) (h0 : M 0 3 ≤ a) (h1 : ¬ a + M 15 l ≤ 1440) (h2 : a ≤ 2000) : f_X3_passingObstacle n V l (nI c) (nI a) = some 109 := by
  obtain ⟨l1, l2, l3, l4, l5, l6, l7, l8, -⟩ := hW.2.2.1 l hl
  have x6 := (hX.2.2.1 l hl).2.2.2.2.2.1
  unfold f_X3_passingObstacle
  rw [hX.1.2.2.2.2.2.2.2, oi_n (nI_nlt h0 (by omega)), x6, show (1440 : Int32) - nI (M 15 l) = nI (1440 - M 15 l) from nI_subn (a := 1440) (by omega), oi_n (nI_ge (by omega) (by omega))]
theorem x_ebm (hW : WF M) (hX : RX n V M) {l c : Nat} (hl : l < M 0 1) (hc : c < M 0 0) (hr : rch2 M l c) (hh : ¬ hvy M l c) : ∀ (k m fu : Nat), m + k = 1440 → k < fu → M 0 3 ≤ m → (∀ b, M 0 3 ≤ b → b < m → ¬ FIT M V l c b) → (∃ a, f_X3_earliestByMinutes_50 n V fu (nI c) l 1 (nI m) = some (0, nI a) ∧ isF M V l c (M 0 3) (nI a) ∧ FIT M V l c a) ∨ (f_X3_earliestByMinutes_50 n V fu (nI c) l 1 (nI m) = some (4, 0) ∧ isF M V l c (M 0 3) (-1)) := by
  obtain ⟨l1, l2, l3, l4, l5, l6, l7, l8, -⟩ := hW.2.2.1 l hl
  intro k
  induction k with
  | zero =>
    intro m fu h1 h2 h3 h4
    obtain ⟨fu, rfl⟩ : ∃ g, fu = g + 1 := ⟨fu - 1, by omega⟩
    unfold f_X3_earliestByMinutes_50
    rw [oi_n e10, oi_p (show (1440 : Int32) ≤ nI m from nI_le (a := 1440) (by omega) (by omega))]
    exact Or.inr ⟨rfl, Or.inr ⟨rfl, fun b hb hb2 => by
      have := hb2.2.2.2.1
      exact h4 b hb (by omega) hb2⟩⟩
  | succ k ih =>
    intro m fu h1 h2 h3 h4
    obtain ⟨fu, rfl⟩ : ∃ g, fu = g + 1 := ⟨fu - 1, by omega⟩
    unfold f_X3_earliestByMinutes_50
    rw [oi_n e10, oi_n (show ¬ (1440 : Int32) ≤ nI m from nI_ge (b := 1440) (by omega) (by omega)), nI_1]
    have go : ¬ FIT M V l c m → (∃ a, f_X3_earliestByMinutes_50 n V fu (nI c) l 1 (nI (m + 1)) = some (0, nI a) ∧ isF M V l c (M 0 3) (nI a) ∧ FIT M V l c a) ∨ (f_X3_earliestByMinutes_50 n V fu (nI c) l 1 (nI (m + 1)) = some (4, 0) ∧ isF M V l c (M 0 3) (-1)) := by
      intro h
      refine ih (m + 1) fu (by omega) (by omega) (by omega) ?_
      intro b hb1 hb2
      by_cases z : b = m
      · rw [z]; exact h
      · exact h4 b hb1 (by omega)
    by_cases q : m + M 15 l ≤ 1440
    · rw [x_passing hW hX hl hc h3 q, ob_s]
      by_cases z : pas M V l c m = 45
      · rw [oi_p z]
        have hz := (pas_45 M V l c m).mp z
        have f : FIT M V l c m := ⟨hr, hh, h3, q, hz⟩
        exact Or.inl ⟨m, rfl, Or.inl ⟨m, rfl, h3, f, h4⟩, f⟩
      · rw [oi_n z]
        exact go (fun f => z ((pas_45 M V l c m).mpr f.2.2.2.2))
    · rw [x_pass109 hW hX hl h3 q (by omega), ob_s, oi_n (by decide)]
      exact go (fun f => q f.2.2.2.1)
theorem st_19 (hR : Rel n V T) : lst_19 Rel n V T := by
  obtain ⟨M, hW, hX, hT, hA⟩ := hR
  intro out p1 p2
  have hnow := hW.1.2.2.2.1
  rcases pairs hW p1 p2 with ⟨l, c, hl, hc, rfl, rfl⟩ | h
  · obtain ⟨r, T', hr, hT', hA', ht⟩ := t_eo hW hT hA hl hc
    have ex : (∃ a, f_X3_earliestByMinutes n V (nI l) (nI c) = some (0, nI a) ∧ isF M V l c 0 (nI a) ∧ FIT M V l c a) ∨ (f_X3_earliestByMinutes n V (nI l) (nI c) = some (4, 0) ∧ isF M V l c 0 (-1)) := by
      have none4 : f_X3_earliestByMinutes_50 n V FU (nI c) l 0 (V.2.2.1 7) = some (4, 0) := by
        unfold FU f_X3_earliestByMinutes_50
        exact oi_p rfl
      unfold f_X3_earliestByMinutes
      rw [x_lfk hW hX hl, ob_s, oc_s (rx_n1 hX hl), x_crk hW hX hc, ob_s, oc_s (rx_n0 hX hc), x_lasting hW hX hl hc, ob_s]
      by_cases q : rch2 M l c
      · by_cases z : hvy M l c
        · rw [if_pos q, if_pos z, oi_n (by decide), none4]
          exact Or.inr ⟨rfl, Or.inr ⟨rfl, fun b _ f => f.2.1 z⟩⟩
        · rw [if_pos q, if_neg z, oi_p rfl, hX.1.2.2.2.2.2.2.2]
          rcases x_ebm hW hX hl hc q z (1440 - M 0 3) (M 0 3) FU (by omega) (by unfold FU; omega) (Nat.le_refl _) (fun b h1 h2 => by omega) with ⟨a, e, hf, f⟩ | ⟨e, hf⟩
          · exact Or.inl ⟨a, e, isF_now hf, f⟩
          · exact Or.inr ⟨e, isF_now hf⟩
      · rw [if_neg q, oi_n (by decide), none4]
        exact Or.inr ⟨rfl, Or.inr ⟨rfl, fun b _ f => q f.1⟩⟩
    rcases ht with ⟨a, rfl, f, ht⟩ | ⟨rfl, ht⟩
    · rcases ex with ⟨b, e, hf, f2⟩ | ⟨e, hf⟩
      · refine ⟨(0, n, V, vp_updL out (0 : Int32).toNatClampNeg (nI a).toInt64), (nI a, rsc T' 27 0), ?_, ?_, rfl, fun _ => u0 (f := out), Rel.of27 hW hX hT' hA'⟩
        · unfold f_L_earliestByMinutes
          rw [e, ob_s, oi_p rfl, show nI b = nI a from isF_uniq hf hr]
        · unfold f_X4_earliestByMinutes
          rw [ht, ob_s]
      · exact absurd (isF_uniq hr hf) (m1_ne (Nat.le_trans f.le (by omega)))
    · rcases ex with ⟨b, e, hf, f2⟩ | ⟨e, hf⟩
      · exact absurd (isF_uniq hf hr) (m1_ne (Nat.le_trans f2.le (by omega)))
      · refine ⟨(2, n, V, out), (0, rsc T' 27 2), ?_, ?_, rfl, fun h => absurd h e20, Rel.of27 hW hX hT' hA'⟩
        · unfold f_L_earliestByMinutes
          rw [e, ob_s, oi_n n40, oi_n n43, oi_p rfl]
        · unfold f_X4_earliestByMinutes
          rw [ht, ob_s]
  · refine ⟨(1, n, V, out), (0, rsc T 27 1), ?_, ?_, rfl, fun h => absurd h e10, Rel.of27 hW hX hT hA⟩
    · unfold f_L_earliestByMinutes f_X3_earliestByMinutes
      rw [x_nolift hW hX h, ob_s, oi_n n30, oi_p rfl]
    · unfold f_X4_earliestByMinutes
      rw [t_eon hW hT h, ob_s]
end Q11
