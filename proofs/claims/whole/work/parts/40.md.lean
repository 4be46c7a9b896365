abbrev MD : Type := Nat → Nat → Nat
def wfS (M : MD) : Prop := M 0 0 ≤ 5 ∧ M 0 1 ≤ 40 ∧ M 0 2 ≤ 6 ∧ M 0 3 ≤ 1440 ∧ M 0 4 ≤ 40
def wfC (M : MD) : Prop := ∀ k, k < M 0 0 → M 1 k < 40 ∧ M 2 k < 40 ∧ 1 ≤ M 3 k ∧ M 3 k ≤ 40 ∧ 1 ≤ M 4 k ∧ M 4 k ≤ 999 ∧ 1 ≤ M 5 k ∧ M 5 k ≤ 9999 ∧ M 6 k < 2 ^ 24
def wfL (M : MD) : Prop := ∀ k, k < M 0 1 → M 10 k < 40 ∧ M 11 k < 40 ∧ M 12 k < 40 ∧ M 13 k < 40 ∧ 1 ≤ M 14 k ∧ M 14 k ≤ 999 ∧ 1 ≤ M 15 k ∧ M 15 k ≤ 60 ∧ M 16 k ≤ M 0 2 ∧ (M 17 k = 119 ∨ M 17 k = 112 ∨ M 17 k = 117 ∨ M 17 k = 100) ∧ (M 17 k ≠ 119 → M 18 k < M 0 0 ∧ M 19 k + M 15 k ≤ 1440)
def wfP (M : MD) : Prop := ∀ k, k < M 0 2 → 2 ≤ M 21 k ∧ M 21 k ≤ 8 ∧ M 22 k ≤ 60 ∧ M 20 k + M 21 k ≤ M 0 1 ∧ ∀ j, j < M 0 1 → (M 16 j = k + 1 ↔ (M 20 k ≤ j ∧ j < M 20 k + M 21 k)) ∧ (M 16 j = k + 1 → ∀ f, 10 ≤ f → f ≤ 15 → M f j = M f (M 20 k))
def wfO (M : MD) : Prop := ∀ i j, i < j → j < M 0 1 → M 17 i ≠ 119 → M 17 j ≠ 119 → M 18 i = M 18 j → M 19 i + M 15 i ≤ M 19 j ∨ M 19 j + M 15 j ≤ M 19 i
def WF (M : MD) : Prop := wfS M ∧ wfC M ∧ wfL M ∧ wfP M ∧ wfO M
def rxS (n : Nat → Nat) (V : XV) (M : MD) : Prop := n 0 = M 0 0 ∧ n 1 = M 0 1 ∧ n 2 = M 0 2 ∧ V.2.2.1 3 = nI (M 0 0) ∧ V.2.2.1 4 = nI (M 0 1) ∧ V.2.2.1 5 = nI (M 0 2) ∧ V.2.2.1 6 = nI (M 0 4) ∧ V.2.2.1 7 = nI (M 0 3)
def rxC (V : XV) (M : MD) : Prop := ∀ k, k < M 0 0 → V.1 0 k 0 = nI (M 1 k) ∧ V.1 0 k 1 = nI (M 2 k) ∧ V.1 0 k 2 = nI (M 3 k) ∧ V.1 0 k 3 = nI (M 4 k) ∧ V.1 0 k 4 = nI (M 5 k) ∧ V.1 0 k 5 = nI (M 6 k)
def rxL (V : XV) (M : MD) : Prop := ∀ k, k < M 0 1 → V.1 1 k 0 = nI (M 10 k) ∧ V.1 1 k 1 = nI (M 11 k) ∧ V.1 1 k 2 = nI (M 12 k) ∧ V.1 1 k 3 = nI (M 13 k) ∧ V.1 1 k 4 = nI (M 14 k) ∧ V.1 1 k 5 = nI (M 15 k) ∧ V.1 1 k 6 = nI (M 16 k) - 1 ∧ V.1 1 k 8 = nI (M 17 k) ∧ (M 17 k ≠ 119 → V.1 1 k 9 = nI (M 18 k) ∧ V.1 1 k 10 = nI (M 19 k))
def rxP (V : XV) (M : MD) : Prop := ∀ k, k < M 0 2 → V.1 2 k 0 = nI (M 20 k) ∧ V.1 2 k 1 = nI (M 21 k) ∧ V.1 2 k 2 = nI (M 22 k)
def RX (n : Nat → Nat) (V : XV) (M : MD) : Prop := rxS n V M ∧ rxC V M ∧ rxL V M ∧ rxP V M
def rtS (T : RV) (M : MD) : Prop := T.1 0 = nI (M 0 0) ∧ T.1 7 = nI (M 0 1) ∧ T.1 19 = nI (M 0 2) ∧ T.1 26 = nI (M 0 4) ∧ T.1 25 = nI (M 0 3)
def rtC (T : RV) (M : MD) : Prop := ∀ k, k < M 0 0 → T.2.1 1 k = nI (M 1 k) ∧ T.2.1 2 k = nI (M 2 k) ∧ T.2.1 3 k = nI (M 3 k) ∧ T.2.1 4 k = nI (M 4 k) ∧ T.2.1 5 k = nI (M 5 k) ∧ ∀ h, h < 24 → T.2.1 6 (24 * k + h) = if (M 6 k).testBit h then 1 else 0
def rtZ (T : RV) (M : MD) : Prop := ∀ j, 24 * M 0 0 ≤ j → j < 120 → T.2.1 6 j = 0
def rtL (T : RV) (M : MD) : Prop := ∀ k, k < M 0 1 → T.2.1 8 k = nI (M 10 k) ∧ T.2.1 9 k = nI (M 11 k) ∧ T.2.1 10 k = nI (M 12 k) ∧ T.2.1 11 k = nI (M 13 k) ∧ T.2.1 12 k = nI (M 14 k) ∧ T.2.1 13 k = nI (M 15 k) ∧ T.2.1 17 k = nI (M 16 k) - 1 ∧ T.2.1 14 k = nI (M 17 k) ∧ (M 17 k ≠ 119 → T.2.1 15 k = nI (M 18 k) ∧ T.2.1 16 k = nI (M 19 k))
def rtP (T : RV) (M : MD) : Prop := ∀ k, k < M 0 2 → T.2.1 20 k = nI (M 20 k) ∧ T.2.1 21 k = nI (M 21 k) ∧ T.2.1 22 k = nI (M 22 k)
def RT (T : RV) (M : MD) : Prop := rtS T M ∧ rtC T M ∧ rtZ T M ∧ rtL T M ∧ rtP T M
def RA (V : XV) (T : RV) (M : MD) : Prop := ∀ k, k < M 0 1 → V.2.1 k = T.2.2 k
def Rel (n : Nat → Nat) (V : XV) (T : RV) : Prop := ∃ M : MD, WF M ∧ RX n V M ∧ RT T M ∧ RA V T M
theorem Rel_0 : Rel (fun _ => 0) xV0 rV0 := by
  refine ⟨fun _ _ => 0, ⟨?_, ?_, ?_, ?_, ?_⟩, ⟨?_, ?_, ?_, ?_⟩, ⟨?_, ?_, ?_, ?_, ?_⟩, ?_⟩
  · simp [wfS]
  · intro k h; exact absurd h (Nat.not_lt_zero k)
  · intro k h; exact absurd h (Nat.not_lt_zero k)
  · intro k h; exact absurd h (Nat.not_lt_zero k)
  · intro i j _ h; exact absurd h (Nat.not_lt_zero j)
  · exact ⟨rfl, rfl, rfl, rfl, rfl, rfl, rfl, rfl⟩
  · intro k h; exact absurd h (Nat.not_lt_zero k)
  · intro k h; exact absurd h (Nat.not_lt_zero k)
  · intro k h; exact absurd h (Nat.not_lt_zero k)
  · exact ⟨rfl, rfl, rfl, rfl, rfl⟩
  · intro k h; exact absurd h (Nat.not_lt_zero k)
  · intro j _ _; rfl
  · intro k h; exact absurd h (Nat.not_lt_zero k)
  · intro k h; exact absurd h (Nat.not_lt_zero k)
  · intro k h; exact absurd h (Nat.not_lt_zero k)
theorem RT_27 {T : RV} {M : MD} {c : Int32} (h : RT T M) : RT (rsc T 27 c) M := h
theorem RA_27 {V : XV} {T : RV} {M : MD} {c : Int32} (h : RA V T M) : RA V (rsc T 27 c) M := h
theorem rsc_27 {T : RV} {c : Int32} : (rsc T 27 c).1 27 = c := rfl
theorem ob_s {α β : Type} {a : α} {f : α → Option β} : ob (some a) f = f a := rfl
theorem oi_p {β : Type} {c : Prop} [Decidable c] {x y : Option β} (h : c) : oi c x y = x := if_pos h
theorem oi_n {β : Type} {c : Prop} [Decidable c] {x y : Option β} (h : ¬ c) : oi c x y = y := if_neg h
theorem og_p {β : Type} {c : Prop} [Decidable c] {x : Option β} (h : c) : og c x = x := if_pos h
theorem oc_n {β : Type} {N : Nat} {x : Option β} {y : Nat → Option β} : oc N none x y = x := rfl
theorem oc_s {β : Type} {N k : Nat} {x : Option β} {y : Nat → Option β} (h : k < N) : oc N (some k) x y = y k := by
  simp [oc, h]
/-- a number that names one of N things, or none -/
theorem p_num (p : Int32) (N : Nat) (hN : N ≤ 100) : (∃ k, k < N ∧ p = nI k) ∨ (p < 0 ∨ nI N ≤ p) := by
  by_cases h : p < 0
  · exact Or.inr (Or.inl h)
  · obtain ⟨j, hj, rfl⟩ := nI_of h
    by_cases h2 : j < N
    · exact Or.inl ⟨j, h2, rfl⟩
    · exact Or.inr (Or.inr (nI_le (by omega) hj))
theorem nI_subn {a b : Nat} (h : b ≤ a) : nI a - nI b = nI (a - b) := by
  have h1 : nI (a - b) + nI b = nI a := by rw [nI_add, Nat.sub_add_cancel h]
  rw [← h1, Int32.add_sub_cancel]
theorem nI_m1 {a : Nat} (h : 1 ≤ a) : nI a - 1 = nI (a - 1) := nI_subn h
theorem in_no {p lo hi : Int32} (h : p < lo ∨ hi < p) : f_X4_in p lo hi = some 0 := by
  unfold f_X4_in
  by_cases h1 : p < lo
  · rw [oi_p h1]
  · rw [oi_n h1, oi_p (h.resolve_left h1)]
theorem in_ok {p lo hi : Int32} (h1 : ¬ p < lo) (h2 : ¬ hi < p) : f_X4_in p lo hi = some 1 := by
  unfold f_X4_in
  rw [oi_n h1, oi_n h2]
theorem i_lt {a b : Int32} : a < b ↔ a.toInt < b.toInt := Int32.lt_iff_toInt_lt
theorem i_le {a b : Int32} : a ≤ b ↔ a.toInt ≤ b.toInt := Int32.le_iff_toInt_le
/-- what asks for a number below N, in the reference -/
theorem in_num {p : Int32} {N : Nat} (hN : N ≤ 100) (h : p < 0 ∨ nI N ≤ p) : f_X4_in p 0 (nI N - 1) = some 0 := by
  refine in_no ?_
  rcases h with h | h
  · exact Or.inl h
  · by_cases h0 : N = 0
    · subst h0
      rcases Int.lt_or_le p.toInt 0 with h2 | h2
      · exact Or.inl (by rw [i_lt]; exact h2)
      · refine Or.inr ?_
        rw [i_lt]
        have : (nI 0 - 1).toInt = -1 := by decide
        omega
    · refine Or.inr ?_
      rw [nI_m1 (by omega), i_lt, nI_toInt (by omega)]
      rw [i_le, nI_toInt (by omega)] at h
      omega
theorem in_numk {k N : Nat} (hN : N ≤ 100) (h : k < N) : f_X4_in (nI k) 0 (nI N - 1) = some 1 := by
  refine in_ok (nI_pos (by omega)) ?_
  rw [nI_m1 (by omega)]
  exact nI_nlt (by omega) (by omega)
section NUM
variable {n : Nat → Nat} {V : XV} {T : RV} {M : MD}
theorem x_crn (hW : WF M) (hX : RX n V M) {p : Int32} (h : p < 0 ∨ nI (M 0 0) ≤ p) : f_X3_craneNumbered n V p = some none := by
  unfold f_X3_craneNumbered
  have h5 := hW.1.1
  by_cases h1 : p < 0
  · rw [oi_p h1]
  · rw [oi_n h1]
    have h := h.resolve_left h1
    by_cases h2 : (5 : Int32) ≤ p
    · rw [oi_p h2]
    · obtain ⟨j, hj, rfl⟩ := nI_of h1
      have hj5 : j < 5 := Nat.not_le.mp fun q => h2 (nI_le (a := 5) q hj)
      rw [oi_n h2, og_p (nI_in hj5 (by omega))]
      have : ¬ j < n 0 := by
        rw [hX.1.1]
        intro q
        exact nI_ge q (by omega) h
      unfold xref
      rw [nI_clamp hj, if_neg this, oc_n]
theorem x_crk (hW : WF M) (hX : RX n V M) {k : Nat} (h : k < M 0 0) : f_X3_craneNumbered n V (nI k) = some (some k) := by
  unfold f_X3_craneNumbered
  have h5 := hW.1.1
  rw [oi_n (nI_pos (by omega)), oi_n (show ¬ (5 : Int32) ≤ nI k from nI_ge (b := 5) (by omega) (by omega)), og_p (nI_in (by omega) (by omega))]
  have : k < n 0 := by rw [hX.1.1]; exact h
  unfold xref
  rw [nI_clamp (by omega), if_pos this, oc_s this]
theorem x_lfn (hW : WF M) (hX : RX n V M) {p : Int32} (h : p < 0 ∨ nI (M 0 1) ≤ p) : f_X3_liftNumbered n V p = some none := by
  unfold f_X3_liftNumbered
  have h5 := hW.1.2.1
  by_cases h1 : p < 0
  · rw [oi_p h1]
  · rw [oi_n h1]
    have h := h.resolve_left h1
    by_cases h2 : (40 : Int32) ≤ p
    · rw [oi_p h2]
    · obtain ⟨j, hj, rfl⟩ := nI_of h1
      have hj5 : j < 40 := Nat.not_le.mp fun q => h2 (nI_le (a := 40) q hj)
      rw [oi_n h2, og_p (nI_in hj5 (by omega))]
      have : ¬ j < n 1 := by
        rw [hX.1.2.1]
        intro q
        exact nI_ge q (by omega) h
      unfold xref
      rw [nI_clamp hj, if_neg this, oc_n]
theorem x_lfk (hW : WF M) (hX : RX n V M) {k : Nat} (h : k < M 0 1) : f_X3_liftNumbered n V (nI k) = some (some k) := by
  unfold f_X3_liftNumbered
  have h5 := hW.1.2.1
  rw [oi_n (nI_pos (by omega)), oi_n (show ¬ (40 : Int32) ≤ nI k from nI_ge (b := 40) (by omega) (by omega)), og_p (nI_in (by omega) (by omega))]
  have : k < n 1 := by rw [hX.1.2.1]; exact h
  unfold xref
  rw [nI_clamp (by omega), if_pos this, oc_s this]
theorem x_pon (hW : WF M) (hX : RX n V M) {p : Int32} (h : p < 0 ∨ nI (M 0 2) ≤ p) : f_X3_pourNumbered n V p = some none := by
  unfold f_X3_pourNumbered
  have h5 := hW.1.2.2.1
  by_cases h1 : p < 0
  · rw [oi_p h1]
  · rw [oi_n h1]
    have h := h.resolve_left h1
    by_cases h2 : (6 : Int32) ≤ p
    · rw [oi_p h2]
    · obtain ⟨j, hj, rfl⟩ := nI_of h1
      have hj5 : j < 6 := Nat.not_le.mp fun q => h2 (nI_le (a := 6) q hj)
      rw [oi_n h2, og_p (nI_in hj5 (by omega))]
      have : ¬ j < n 2 := by
        rw [hX.1.2.2.1]
        intro q
        exact nI_ge q (by omega) h
      unfold xref
      rw [nI_clamp hj, if_neg this, oc_n]
theorem x_pok (hW : WF M) (hX : RX n V M) {k : Nat} (h : k < M 0 2) : f_X3_pourNumbered n V (nI k) = some (some k) := by
  unfold f_X3_pourNumbered
  have h5 := hW.1.2.2.1
  rw [oi_n (nI_pos (by omega)), oi_n (show ¬ (6 : Int32) ≤ nI k from nI_ge (b := 6) (by omega) (by omega)), og_p (nI_in (by omega) (by omega))]
  have : k < n 2 := by rw [hX.1.2.2.1]; exact h
  unfold xref
  rw [nI_clamp (by omega), if_pos this, oc_s this]
theorem t_noc (hW : WF M) (hT : RT T M) {p : Int32} (h : p < 0 ∨ nI (M 0 0) ≤ p) : f_X4_isNoCrane T p = some 1 := by
  have h5 := hW.1.1
  unfold f_X4_isNoCrane
  rw [hT.1.1, in_num (by omega) h, ob_s, oi_p rfl]
theorem t_isc (hW : WF M) (hT : RT T M) {k : Nat} (h : k < M 0 0) : f_X4_isNoCrane T (nI k) = some 0 := by
  have h5 := hW.1.1
  unfold f_X4_isNoCrane
  rw [hT.1.1, in_numk (by omega) h, ob_s, oi_n (by decide)]
theorem t_nol (hW : WF M) (hT : RT T M) {p : Int32} (h : p < 0 ∨ nI (M 0 1) ≤ p) : f_X4_isNoLift T p = some 1 := by
  have h5 := hW.1.2.1
  unfold f_X4_isNoLift
  rw [hT.1.2.1, in_num (by omega) h, ob_s, oi_p rfl]
theorem t_isl (hW : WF M) (hT : RT T M) {k : Nat} (h : k < M 0 1) : f_X4_isNoLift T (nI k) = some 0 := by
  have h5 := hW.1.2.1
  unfold f_X4_isNoLift
  rw [hT.1.2.1, in_numk (by omega) h, ob_s, oi_n (by decide)]
theorem t_fl0 : f_X4_fails T 0 = some (0, rsc T 27 0) := rfl
theorem t_fl1 : f_X4_fails T 1 = some (1, rsc T 27 1) := rfl
theorem t_fl2 : f_X4_fails T 2 = some (1, rsc T 27 2) := rfl
theorem t_fl3 : f_X4_fails T 3 = some (1, rsc T 27 3) := rfl
theorem t_none (hW : WF M) (hT : RT T M) {p : Int32} (h : p < 0 ∨ nI (M 0 1) ≤ p) : f_X4_isNone T p = some (1, rsc T 27 1) := by
  unfold f_X4_isNone
  rw [t_nol hW hT h, ob_s, oi_n (by decide), t_fl1, ob_s]
  exact if_pos (show (1 : Int32) &&& 1 = 1 by decide)
theorem t_some (hW : WF M) (hT : RT T M) {k : Nat} (h : k < M 0 1) : f_X4_isNone T (nI k) = some (0, rsc T 27 0) := by
  unfold f_X4_isNone
  rw [t_isl hW hT h, ob_s, oi_p rfl, t_fl0, ob_s]
  exact if_pos (show (0 : Int32) &&& 1 = 0 by decide)
theorem t_nobody (hW : WF M) (hT : RT T M) {p : Int32} (h : p < 0 ∨ nI (M 0 0) ≤ p) : f_X4_isNobody T p = some (1, rsc T 27 1) := by
  unfold f_X4_isNobody
  rw [t_noc hW hT h, ob_s, oi_n (by decide), t_fl1, ob_s]
  exact if_pos (show (1 : Int32) &&& 1 = 1 by decide)
theorem t_body (hW : WF M) (hT : RT T M) {k : Nat} (h : k < M 0 0) : f_X4_isNobody T (nI k) = some (0, rsc T 27 0) := by
  unfold f_X4_isNobody
  rw [t_isc hW hT h, ob_s, oi_p rfl, t_fl0, ob_s]
  exact if_pos (show (0 : Int32) &&& 1 = 0 by decide)
theorem t_nopour (hW : WF M) (hT : RT T M) {p : Int32} (h : p < 0 ∨ nI (M 0 2) ≤ p) : f_X4_isNoPour T p = some (1, rsc T 27 1) := by
  have h5 := hW.1.2.2.1
  unfold f_X4_isNoPour
  rw [hT.1.2.2.1, in_num (by omega) h, ob_s, oi_p rfl, t_fl1, ob_s]
  exact if_pos (show (1 : Int32) &&& 1 = 1 by decide)
theorem t_pour (hW : WF M) (hT : RT T M) {k : Nat} (h : k < M 0 2) : f_X4_isNoPour T (nI k) = some (0, rsc T 27 0) := by
  have h5 := hW.1.2.2.1
  unfold f_X4_isNoPour
  rw [hT.1.2.2.1, in_numk (by omega) h, ob_s, oi_n (by decide), t_fl0, ob_s]
  exact if_pos (show (0 : Int32) &&& 1 = 0 by decide)
end NUM
