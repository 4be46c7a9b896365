section Q19
variable {n : Nat → Nat} {V : XV} {T : RV} {M : MD}
theorem fld_add {α : Type} (g : Nat → α → α) : ∀ (a b i : Nat) (x : α), fld g (a + b) i x = fld g b (i + a) (fld g a i x) := by
  intro a
  induction a with
  | zero => intro b i x; rw [Nat.zero_add]; rfl
  | succ a ih =>
    intro b i x
    rw [show a + 1 + b = (a + b) + 1 by omega]
    show fld g (a + b) (i + 1) (g i x) = _
    rw [ih, show i + 1 + a = i + (a + 1) by omega]
    rfl
theorem fld_id {α : Type} (g : Nat → α → α) : ∀ (k i : Nat) (x : α), (∀ j y, i ≤ j → j < i + k → g j y = y) → fld g k i x = x := by
  intro k
  induction k with
  | zero => intro i x _; rfl
  | succ k ih =>
    intro i x h
    show fld g k (i + 1) (g i x) = x
    rw [h i x (Nat.le_refl _) (by omega)]
    exact ih (i + 1) x (fun j y h1 h2 => h j y (by omega) (by omega))
theorem fld_congr {α : Type} (g f : Nat → α → α) : ∀ (k i : Nat) (x : α), (∀ j y, i ≤ j → j < i + k → g j y = f j y) → fld g k i x = fld f k i x := by
  intro k
  induction k with
  | zero => intro i x _; rfl
  | succ k ih =>
    intro i x h
    show fld g k (i + 1) (g i x) = fld f k (i + 1) (f i x)
    rw [h i x (Nat.le_refl _) (by omega)]
    exact ih (i + 1) _ (fun j y h1 h2 => h j y (by omega) (by omega))
def gc (M : MD) (P s i : Nat) (x : Int32) : Int32 := if M 16 i = P + 1 ∧ M 17 i = s then x + 1 else x
def gs (M : MD) (s i : Nat) (x : Int32) : Int32 := if M 17 i = s then x + 1 else x
theorem gc_gs (hW : WF M) {P s : Nat} (hP : P < M 0 2) (x : Int32) : fld (gc M P s) (M 0 1) 0 x = fld (gs M s) (M 21 P) (M 20 P) x := by
  obtain ⟨p1, p2, p3, p4, p5⟩ := hW.2.2.2.1 P hP
  rw [show M 0 1 = M 20 P + (M 21 P + (M 0 1 - (M 20 P + M 21 P))) by omega, fld_add, fld_add, Nat.zero_add]
  rw [fld_id (gc M P s) (M 20 P) 0 x (fun j y h1 h2 => if_neg (fun h => by have := ((p5 j (by omega)).1.mp h.1).1; omega))]
  rw [fld_id (gc M P s) _ _ _ (fun j y h1 h2 => if_neg (fun h => by have := ((p5 j (by omega)).1.mp h.1).2; omega))]
  refine fld_congr _ _ _ _ _ (fun j y h1 h2 => ?_)
  have h := (p5 j (by omega)).1.mpr ⟨h1, h2⟩
  unfold gc gs
  by_cases q : M 17 j = s
  · rw [if_pos ⟨h, q⟩, if_pos q]
  · rw [if_neg (fun z => q z.2), if_neg q]
theorem x_cnt (hW : WF M) (hX : RX n V M) {P s : Nat} (hP : P < M 0 2) (hs : s < 1000) : ∀ (K i fu : Nat) (x : Int32), i + K = 40 → K < fu → f_X3_countOfPour_16 n V fu (nI P) (nI s) x 40 (nI i) = some (fld (gc M P s) (M 0 1 - i) i x) := by
  have h40 := hW.1.2.1
  have h6 := hW.1.2.2.1
  intro K
  induction K with
  | zero =>
    intro i fu x h1 h2
    obtain ⟨fu, rfl⟩ : ∃ g, fu = g + 1 := ⟨fu - 1, by omega⟩
    unfold f_X3_countOfPour_16
    rw [oi_p (l40 (by omega) (by omega)), show M 0 1 - i = 0 by omega]
    rfl
  | succ K ih =>
    intro i fu x h1 h2
    obtain ⟨fu, rfl⟩ : ∃ g, fu = g + 1 := ⟨fu - 1, by omega⟩
    unfold f_X3_countOfPour_16
    rw [oi_n (g40 (by omega)), og_p (nI_in (by omega) (by omega)), xr1 hX (by omega), nI_1]
    by_cases hi : i < M 0 1
    · have l9 := (hW.2.2.1 i hi).2.2.2.2.2.2.2.2.1
      have ep : nI (M 16 i) - 1 = nI P ↔ M 16 i = P + 1 := by
        refine ⟨fun h => ?_, fun h => by rw [h]; exact nI_sub1 P⟩
        have h2 : nI (M 16 i) - 1 + 1 = nI P + 1 := by rw [h]
        rw [Int32.sub_add_cancel, nI_1] at h2
        exact nI_inj h2 (by omega) (by omega)
      rw [if_pos hi, oc_s (rx_n1 hX hi), (hX.2.2.1 i hi).2.2.2.2.2.2.2.1, (hX.2.2.1 i hi).2.2.2.2.2.2.1, show M 0 1 - i = (M 0 1 - (i + 1)) + 1 by omega]
      unfold fld gc
      by_cases y : M 16 i = P + 1
      · rw [oi_p (ep.mpr y)]
        by_cases q : M 17 i = s
        · rw [oi_p ((st_is hW hi s hs).mpr q), if_pos ⟨y, q⟩]
          exact ih (i + 1) fu (x + 1) (by omega) (by omega)
        · rw [oi_n (fun h => q ((st_is hW hi s hs).mp h)), if_neg (fun h => q h.2)]
          exact ih (i + 1) fu x (by omega) (by omega)
      · rw [oi_n (fun h => y (ep.mp h)), if_neg (fun h => y h.1)]
        exact ih (i + 1) fu x (by omega) (by omega)
    · rw [if_neg hi, oc_n, ih (i + 1) fu x (by omega) (by omega), show M 0 1 - (i + 1) = 0 by omega, show M 0 1 - i = 0 by omega]
      rfl
theorem t_cnt (hW : WF M) (hT : RT T M) {P s : Nat} (hP : P < M 0 2) (hs : s < 1000) : ∀ (k j fu : Nat) (x : Int32), j + k = M 21 P → k < fu → f_X4_inState_5 T fu (nI P) (nI s) x (nI j) = some (fld (gs M s) k (M 20 P + j) x) := by
  have h40 := hW.1.2.1
  obtain ⟨p1, p2, p3, p4, p5⟩ := hW.2.2.2.1 P hP
  have gP := nI_in (wfp_6 hW hP) (by omega)
  have hP6 := wfp_6 hW hP
  obtain ⟨t1, t2, t3⟩ := hT.2.2.2.2 P hP
  intro k
  induction k with
  | zero =>
    intro j fu x h1 h2
    obtain ⟨fu, rfl⟩ : ∃ g, fu = g + 1 := ⟨fu - 1, by omega⟩
    unfold f_X4_inState_5
    rw [og_p gP, nI_clamp (by omega), t2, oi_p (nI_le (by omega) (by omega))]
    rfl
  | succ k ih =>
    intro j fu x h1 h2
    obtain ⟨fu, rfl⟩ : ∃ g, fu = g + 1 := ⟨fu - 1, by omega⟩
    have hi : M 20 P + j < M 0 1 := by omega
    have gP2 : ¬ (nI P < 0 ∨ 6 ≤ P) := by have g := gP; rw [nI_clamp (by omega)] at g; exact g
    unfold f_X4_inState_5
    rw [og_p gP, nI_clamp (by omega), t2, oi_n (nI_ge (by omega) (by omega)), og_p gP2, t1, nI_add, og_p (nI_in (by omega) (by omega)), nI_clamp (by omega), (hT.2.2.2.1 _ hi).2.2.2.2.2.2.2.1, nI_1, Int32.add_zero]
    unfold fld gs
    by_cases q : M 17 (M 20 P + j) = s
    · rw [oi_p ((st_is hW hi s hs).mpr q), if_pos q]
      exact ih (j + 1) fu (x + 1) (by omega) (by omega)
    · rw [oi_n (fun h => q ((st_is hW hi s hs).mp h)), if_neg q]
      exact ih (j + 1) fu x (by omega) (by omega)
/-- how many lifts of a pour are in a state, on both sides -/
theorem cnt_both (hW : WF M) (hX : RX n V M) (hT : RT T M) {P s : Nat} (hP : P < M 0 2) (hs : s < 1000) : f_X3_countOfPour n V (nI P) (nI s) = some (fld (gs M s) (M 21 P) (M 20 P) 0) ∧ f_X4_inState T (nI P) (nI s) = some (fld (gs M s) (M 21 P) (M 20 P) 0) := by
  have h40 := hW.1.2.1
  have p2 := (hW.2.2.2.1 P hP).2.1
  have e1 := x_cnt hW hX hP hs 40 0 FU 0 rfl (by unfold FU; omega)
  rw [Nat.sub_zero, gc_gs hW hP] at e1
  have e2 := t_cnt hW hT hP hs (M 21 P) 0 FU 0 (by omega) (by unfold FU; omega)
  refine ⟨?_, ?_⟩
  · unfold f_X3_countOfPour
    exact e1
  · unfold f_X4_inState
    exact e2
end Q19
