section Q9
variable {n : Nat → Nat} {V : XV} {T : RV} {M : MD}
/-- the first fit from a minute on, or -1 -/
def isF (M : MD) (V : XV) (l c fr : Nat) (r : Int32) : Prop := (∃ a, r = nI a ∧ fr ≤ a ∧ FIT M V l c a ∧ ∀ b, fr ≤ b → b < a → ¬ FIT M V l c b) ∨ (r = -1 ∧ ∀ b, fr ≤ b → ¬ FIT M V l c b)
theorem FIT.le {l c a : Nat} (h : FIT M V l c a) : a ≤ 1440 := by have := h.2.2.2.1; omega
theorem isF_uniq {l c fr : Nat} {r q : Int32} (h1 : isF M V l c fr r) (h2 : isF M V l c fr q) : r = q := by
  rcases h1 with ⟨a, rfl, ha, fa, na⟩ | ⟨rfl, na⟩ <;> rcases h2 with ⟨b, rfl, hb, fb, nb⟩ | ⟨rfl, nb⟩
  · rcases Nat.lt_trichotomy a b with h | h | h
    · exact absurd fa (nb a ha h)
    · rw [h]
    · exact absurd fb (na b hb h)
  · exact absurd fa (nb a ha)
  · exact absurd fb (na b hb)
  · rfl
theorem isF_now {l c : Nat} {r : Int32} (h : isF M V l c (M 0 3) r) : isF M V l c 0 r := by
  rcases h with ⟨a, rfl, ha, fa, na⟩ | ⟨rfl, na⟩
  · exact Or.inl ⟨a, rfl, Nat.zero_le _, fa, fun b _ h hb => na b hb.2.2.1 h hb⟩
  · exact Or.inr ⟨rfl, fun b _ hb => na b hb.2.2.1 hb⟩
theorem x_beh47 (hW : WF M) (hX : RX n V M) {l c a b : Nat} (hc : c < M 0 0) (ha : a ≤ 10000) (hb : b ≤ 10000) : ∀ (K i fu : Nat), i + K = 40 → K < fu → ∃ r, f_X3_behindObstacle_47 n V fu l (nI c) (nI a) (nI b) 40 (nI i) = some (nI r) ∧ ((∃ j, j < M 0 1 ∧ j ≠ l ∧ mts M j a b ∧ (M 18 j = c ∨ shr V j l) ∧ r = M 19 j + M 15 j) ∨ (r = a ∧ ∀ j, i ≤ j → j < M 0 1 → j ≠ l → mts M j a b → M 18 j ≠ c ∧ ¬ shr V j l)) := by
  have h40 := hW.1.2.1
  intro K
  induction K with
  | zero =>
    intro i fu h1 h2
    obtain ⟨fu, rfl⟩ : ∃ g, fu = g + 1 := ⟨fu - 1, by omega⟩
    unfold f_X3_behindObstacle_47
    exact ⟨a, oi_p (show (40 : Int32) ≤ nI i from nI_le (a := 40) (by omega) (by omega)), Or.inr ⟨rfl, fun j h3 h4 => by omega⟩⟩
  | succ K ih =>
    intro i fu h1 h2
    obtain ⟨fu, rfl⟩ : ∃ g, fu = g + 1 := ⟨fu - 1, by omega⟩
    unfold f_X3_behindObstacle_47
    rw [oi_n (show ¬ (40 : Int32) ≤ nI i from nI_ge (b := 40) (by omega) (by omega)), og_p (nI_in (by omega) (by omega)), xr1 hX (by omega), nI_1]
    have go : (i < M 0 1 → i ≠ l → mts M i a b → M 18 i ≠ c ∧ ¬ shr V i l) → ∃ r, f_X3_behindObstacle_47 n V fu l (nI c) (nI a) (nI b) 40 (nI (i + 1)) = some (nI r) ∧ ((∃ j, j < M 0 1 ∧ j ≠ l ∧ mts M j a b ∧ (M 18 j = c ∨ shr V j l) ∧ r = M 19 j + M 15 j) ∨ (r = a ∧ ∀ j, i ≤ j → j < M 0 1 → j ≠ l → mts M j a b → M 18 j ≠ c ∧ ¬ shr V j l)) := by
      intro h0
      obtain ⟨r, e, h⟩ := ih (i + 1) fu (by omega) (by omega)
      refine ⟨r, e, h.imp id fun h => ⟨h.1, fun j h3 h4 => ?_⟩⟩
      by_cases z : j = i
      · subst z; exact h0 h4
      · exact h.2 j (by omega) h4
    by_cases hi : i < M 0 1
    · rw [if_pos hi, oc_s (rx_n1 hX hi)]
      by_cases q : i = l
      · rw [oi_p q]
        exact go (fun _ h => absurd q h)
      · rw [oi_n q, x_mts hW hX hi ha hb, ob_s]
        by_cases r : mts M i a b
        · rw [if_pos r, oi_n e10]
          obtain ⟨x1, x2, x3, x4, x5, x6, x7, x8, x9⟩ := hX.2.2.1 i hi
          have l11 := ((hW.2.2.1 i hi).2.2.2.2.2.2.2.2.2.2 r.1).1
          have h5 := wfc_5 hW hc
          have h5' := wfc_5 hW l11
          rw [(x9 r.1).1]
          by_cases z : M 18 i = c
          · rw [oi_p (by rw [z]), x_end hX hi r.1, ob_s]
            exact ⟨_, rfl, Or.inl ⟨i, hi, q, r, Or.inl z, rfl⟩⟩
          · rw [oi_n (nI_ne z (by omega) (by omega)), x_shr, ob_s]
            by_cases y : shr V i l
            · rw [if_pos y, oi_n e10, x_end hX hi r.1, ob_s]
              exact ⟨_, rfl, Or.inl ⟨i, hi, q, r, Or.inr y, rfl⟩⟩
            · rw [if_neg y, oi_p rfl]
              exact go (fun _ _ _ => ⟨z, y⟩)
        · rw [if_neg r, oi_p rfl]
          exact go (fun _ _ h => absurd h r)
    · rw [if_neg hi, oc_n]
      exact go (fun h => absurd h hi)
theorem x_beh (hW : WF M) (hX : RX n V M) {l c a : Nat} (hl : l < M 0 1) (hc : c < M 0 0) (h1 : a + M 15 l ≤ 1440) : ∃ r, f_X3_behindObstacle n V l (nI c) c (nI a) = some (nI r) ∧ ((r = a ∧ okh M c (a / 60) ((a + M 15 l - 1) / 60 + 1) ∧ fre M V l c a (a + M 15 l)) ∨ (a < r ∧ r ≤ 1440 ∧ ∀ b, a ≤ b → b < r → ¬ FIT M V l c b)) := by
  obtain ⟨l1, l2, l3, l4, l5, l6, l7, l8, -⟩ := hW.2.2.1 l hl
  have x6 := (hX.2.2.1 l hl).2.2.2.2.2.1
  unfold f_X3_behindObstacle
  rw [x6, nI_add, x_lch hW hX hc l7 h1, ob_s]
  have hn := lcv_ne (lch_ne M (c := c) l7 h1)
  have hk := okh_hrs M c a (M 15 l) l7
  cases e : lcl M c (a / 60) (hrs a (M 15 l)) with
  | none =>
    rw [oi_p (show lcv none = -1 from rfl)]
    obtain ⟨r, er, h⟩ := x_beh47 hW hX (l := l) hc (show a ≤ 10000 by omega) (show a + M 15 l ≤ 10000 by omega) 40 0 FU rfl (by unfold FU; omega)
    refine ⟨r, er, ?_⟩
    rcases h with ⟨j, hj, hjl, hm, hs, rfl⟩ | ⟨rfl, h⟩
    · refine Or.inr ⟨hm.2.2, ?_, ?_⟩
      · exact ((hW.2.2.1 j hj).2.2.2.2.2.2.2.2.2.2 hm.1).2
      · intro b hb1 hb2 hf
        have := hf.2.2.2.2.2 j hj hjl ⟨hm.1, by have := hm.2.1; omega, hb2⟩
        exact hs.elim this.1 this.2
    · exact Or.inl ⟨rfl, hk.mp e, fun j hj => h j (Nat.zero_le _) hj⟩
  | some x =>
    have hx := lcl_some M c _ _ x e
    rw [hrs_e l7] at hx
    have hx24 : x < 24 := by omega
    rw [oi_n (show ¬ lcv (some x) = -1 from fun h => by have := (lcv_ne (o := some x) (fun y hy => by cases hy; omega)).mp h; cases this)]
    refine ⟨(x + 1) * 60, ?_, Or.inr ⟨by omega, by omega, ?_⟩⟩
    · show some ((nI x + 1) * 60) = _
      rw [nI_1, show (60 : Int32) = nI 60 from rfl, nI_mul]
    · intro b hb1 hb2 hf
      have h2 := hf.2.2.2.2.1 x (by omega) (by omega)
      rw [hx.2.2] at h2
      cases h2
theorem x_next13 (hW : WF M) (hX : RX n V M) {l c fr : Nat} (hl : l < M 0 1) (hc : c < M 0 0) (hr : rch2 M l c) (hh : ¬ hvy M l c) (hf0 : M 0 3 ≤ fr) : ∀ (k a jm fu : Nat), 1441 - a ≤ k → a ≤ 1500 → jm ≤ a → k < fu → fr ≤ a → (∀ b, fr ≤ b → b < a → ¬ FIT M V l c b) → ∃ r, f_X3_nextFit_13v1 n V fu l (nI c) c (nI a) (nI jm) = some r ∧ isF M V l c fr r := by
  obtain ⟨l1, l2, l3, l4, l5, l6, l7, l8, -⟩ := hW.2.2.1 l hl
  have x6 := (hX.2.2.1 l hl).2.2.2.2.2.1
  intro k
  induction k with
  | zero =>
    intro a jm fu h1 h2 h3 h4 h5 h6
    obtain ⟨fu, rfl⟩ : ∃ g, fu = g + 1 := ⟨fu - 1, by omega⟩
    unfold f_X3_nextFit_13v1
    refine ⟨-1, ?_, Or.inr ⟨rfl, fun b hb hb2 => ?_⟩⟩
    · by_cases q : (1440 : Int32) < nI jm
      · rw [oi_p q]
      · rw [oi_n q, x6, show (1440 : Int32) - nI (M 15 l) = nI (1440 - M 15 l) from nI_subn (a := 1440) (by omega), oi_p (nI_lt (by omega) (by omega))]
    · have := hb2.2.2.2.1
      exact h6 b hb (by omega) hb2
  | succ k ih =>
    intro a jm fu h1 h2 h3 h4 h5 h6
    obtain ⟨fu, rfl⟩ : ∃ g, fu = g + 1 := ⟨fu - 1, by omega⟩
    by_cases q : 1440 < a + M 15 l
    · unfold f_X3_nextFit_13v1
      refine ⟨-1, ?_, Or.inr ⟨rfl, fun b hb hb2 => ?_⟩⟩
      · by_cases q : (1440 : Int32) < nI jm
        · rw [oi_p q]
        · rw [oi_n q, x6, show (1440 : Int32) - nI (M 15 l) = nI (1440 - M 15 l) from nI_subn (a := 1440) (by omega), oi_p (nI_lt (by omega) (by omega))]
      · have := hb2.2.2.2.1
        exact h6 b hb (by omega) hb2
    · have q : a + M 15 l ≤ 1440 := Nat.not_lt.mp q
      unfold f_X3_nextFit_13v1
      rw [oi_n (show ¬ (1440 : Int32) < nI jm from nI_nlt (b := jm) (a := 1440) (by omega) (by omega)), x6, show (1440 : Int32) - nI (M 15 l) = nI (1440 - M 15 l) from nI_subn (a := 1440) (by omega), oi_n (nI_nlt (by omega) (by omega))]
      obtain ⟨r, er, h⟩ := x_beh hW hX hl hc q
      rw [er, ob_s]
      rcases h with ⟨rfl, g1, g2⟩ | ⟨g1, g2, g3⟩
      · rw [oi_p rfl]
        exact ⟨_, rfl, Or.inl ⟨r, rfl, h5, ⟨hr, hh, by omega, q, g1, g2⟩, h6⟩⟩
      · rw [oi_n (nI_ne (by omega) (by omega) (by omega)), nI_1]
        refine ih r (jm + 1) fu (by omega) (by omega) (by omega) (by omega) (by omega) ?_
        intro b hb1 hb2
        by_cases z : b < a
        · exact h6 b hb1 z
        · exact g3 b (by omega) hb2
theorem x_next (hW : WF M) (hX : RX n V M) {l c fr : Nat} (hl : l < M 0 1) (hc : c < M 0 0) (hr : rch2 M l c) (hh : ¬ hvy M l c) (hf0 : M 0 3 ≤ fr) (hf1 : fr ≤ 1500) : ∃ r, f_X3_nextFit n V l (nI c) (nI fr) = some r ∧ isF M V l c fr r := by
  unfold f_X3_nextFit
  rw [x_crk hW hX hc, ob_s, oc_s (rx_n0 hX hc)]
  exact x_next13 hW hX hl hc hr hh hf0 1441 fr 0 FU (by omega) hf1 (by omega) (by unfold FU; omega) (Nat.le_refl _) (fun b h1 h2 => by omega)
theorem x_first (hW : WF M) (hX : RX n V M) {l c : Nat} (hl : l < M 0 1) (hc : c < M 0 0) : ∃ r, f_X3_firstFit n V l (nI c) (V.2.2.1 7) = some r ∧ isF M V l c 0 r := by
  have hnow := hW.1.2.2.2.1
  unfold f_X3_firstFit
  rw [x_lasting hW hX hl hc, ob_s, hX.1.2.2.2.2.2.2.2]
  by_cases q : rch2 M l c
  · by_cases r : hvy M l c
    · rw [if_pos q, if_pos r, oi_n (by decide)]
      exact ⟨-1, rfl, Or.inr ⟨rfl, fun b _ h => h.2.1 r⟩⟩
    · rw [if_pos q, if_neg r, oi_p rfl]
      obtain ⟨v, e, h⟩ := x_next hW hX hl hc q r (Nat.le_refl _) (by omega)
      rw [e, ob_s]
      exact ⟨v, rfl, isF_now h⟩
  · rw [if_neg q, oi_n (by decide)]
    exact ⟨-1, rfl, Or.inr ⟨rfl, fun b _ h => q h.1⟩⟩
end Q9
