section Q7
variable {n : Nat → Nat} {V : XV} {T : RV} {M : MD}
abbrev shr (V : XV) (i l : Nat) : Prop := ¬ lg_cmp (V.2.1 i &&& V.2.1 l) 0 = 0
/-- what is in the way of a lift in its minutes: the others from i on, k of them -/
def wyk (M : MD) (V : XV) (l c a b : Nat) : Nat → Nat → Bool → Int32
  | 0, _, f => if f = true then 97 else 45
  | k + 1, i, f => if i = l then wyk M V l c a b k (i + 1) f else if mts M i a b then (if M 18 i = c then 99 else wyk M V l c a b k (i + 1) (f || decide (shr V i l))) else wyk M V l c a b k (i + 1) f
theorem xr1 (hX : RX n V M) {i : Nat} (hi : i < 1000) : xref n 1 (nI i) = if i < M 0 1 then some i else none := by
  unfold xref
  rw [nI_clamp (by omega), hX.1.2.1]
theorem x_shr {i l : Nat} : f_X1_sharesAir n V i l = some (if shr V i l then 1 else 0) := by
  unfold f_X1_sharesAir
  by_cases q : lg_cmp (V.2.1 i &&& V.2.1 l) 0 = 0
  · rw [oi_p q, if_neg (fun h => h q)]
  · rw [oi_n q, if_pos q]
theorem x_wyk (hW : WF M) (hX : RX n V M) {l c a b : Nat} (hc : c < M 0 0) (ha : a ≤ 10000) (hb : b ≤ 10000) : ∀ (K i fu : Nat) (f : Bool), i + K = 40 → K < fu → f_X3_passingObstacle_76 n V fu l (nI c) (nI a) (nI b) (if f = true then 97 else 45) 40 (nI i) = some (wyk M V l c a b (M 0 1 - i) i f) := by
  have h40 := hW.1.2.1
  intro K
  induction K with
  | zero =>
    intro i fu f h1 h2
    obtain ⟨fu, rfl⟩ : ∃ g, fu = g + 1 := ⟨fu - 1, by omega⟩
    unfold f_X3_passingObstacle_76
    rw [oi_p (show (40 : Int32) ≤ nI i from nI_le (a := 40) (by omega) (by omega)), show M 0 1 - i = 0 by omega]
    unfold wyk
    cases f
    · exact if_pos (by decide)
    · exact if_pos (by decide)
  | succ K ih =>
    intro i fu f h1 h2
    obtain ⟨fu, rfl⟩ : ∃ g, fu = g + 1 := ⟨fu - 1, by omega⟩
    unfold f_X3_passingObstacle_76
    rw [oi_n (show ¬ (40 : Int32) ≤ nI i from nI_ge (b := 40) (by omega) (by omega)), og_p (nI_in (by omega) (by omega)), xr1 hX (by omega), nI_1]
    by_cases hi : i < M 0 1
    · rw [if_pos hi, oc_s (rx_n1 hX hi), show M 0 1 - i = (M 0 1 - (i + 1)) + 1 by omega]
      unfold wyk
      by_cases q : i = l
      · rw [oi_p q, if_pos q]
        exact ih (i + 1) fu f (by omega) (by omega)
      · rw [oi_n q, if_neg q, x_mts hW hX hi ha hb, ob_s]
        by_cases r : mts M i a b
        · rw [if_pos r, if_pos r, oi_n e10]
          obtain ⟨x1, x2, x3, x4, x5, x6, x7, x8, x9⟩ := hX.2.2.1 i hi
          have l11 := ((hW.2.2.1 i hi).2.2.2.2.2.2.2.2.2.2 r.1).1
          have h5 := wfc_5 hW hc
          have h5' := wfc_5 hW l11
          rw [(x9 r.1).1]
          by_cases z : M 18 i = c
          · rw [oi_p (by rw [z]), if_pos z]
          · rw [oi_n (nI_ne z (by omega) (by omega)), if_neg z, x_shr, ob_s]
            by_cases y : shr V i l
            · rw [if_pos y, oi_n e10, decide_eq_true y, Bool.or_true]
              exact ih (i + 1) fu true (by omega) (by omega)
            · rw [if_neg y, oi_p rfl, decide_eq_false y, Bool.or_false]
              exact ih (i + 1) fu f (by omega) (by omega)
        · rw [if_neg r, if_neg r, oi_p rfl]
          exact ih (i + 1) fu f (by omega) (by omega)
    · rw [if_neg hi, oc_n, ih (i + 1) fu f (by omega) (by omega), show M 0 1 - (i + 1) = 0 by omega, show M 0 1 - i = 0 by omega]
      rfl
theorem t_wyk (hW : WF M) (hT : RT T M) (hA : RA V T M) {l c a : Nat} (hl : l < M 0 1) (hc : c < M 0 0) (ha : a ≤ 5000) : ∀ (k i fu : Nat) (f : Bool), i + k = M 0 1 → k < fu → f_X4_why_73 T fu (nI l) (nI c) (nI a) (if f = true then 1 else 0) (nI i) = some (wyk M V l c a (a + M 15 l) k i f) := by
  have h40 := hW.1.2.1
  have hlen := (hW.2.2.1 l hl).2.2.2.2.2.2.2.1
  have gl := nI_in (wfl_40 hW hl) (by omega)
  have hl40 := wfl_40 hW hl
  have gl' : ¬ (nI l < 0 ∨ 40 ≤ l) := by rw [nI_clamp (by omega)] at gl; exact gl
  intro k
  induction k with
  | zero =>
    intro i fu f h1 h2
    obtain ⟨fu, rfl⟩ : ∃ g, fu = g + 1 := ⟨fu - 1, by omega⟩
    unfold f_X4_why_73 wyk
    rw [hT.1.2.1, oi_p (nI_le (by omega) (by omega))]
    cases f
    · exact if_pos rfl
    · exact if_neg e10
  | succ k ih =>
    intro i fu f h1 h2
    obtain ⟨fu, rfl⟩ : ∃ g, fu = g + 1 := ⟨fu - 1, by omega⟩
    have hi : i < M 0 1 := by omega
    have gi := nI_in (c := i) (N := 40) (by omega) (by omega)
    have gi' : ¬ (nI i < 0 ∨ 40 ≤ i) := by have g := gi; rw [nI_clamp (by omega)] at g; exact g
    unfold f_X4_why_73 wyk
    rw [hT.1.2.1, oi_n (nI_ge (by omega) (by omega)), nI_1]
    by_cases q : i = l
    · rw [oi_p (by rw [q]), if_pos q]
      exact ih (i + 1) fu f (by omega) (by omega)
    · rw [oi_n (nI_ne q (by omega) (by omega)), if_neg q, og_p gl, nI_clamp (by omega), (hT.2.2.2.1 l hl).2.2.2.2.2.1, t_mts hW hT hi (by omega) (by omega), ob_s]
      by_cases r : mts M i a (a + M 15 l)
      · rw [if_pos r, if_pos r, oi_n e10, og_p gi, nI_clamp (by omega)]
        have l11 := ((hW.2.2.1 i hi).2.2.2.2.2.2.2.2.2.2 r.1).1
        have h5 := wfc_5 hW hc
        have h5' := wfc_5 hW l11
        rw [((hT.2.2.2.1 i hi).2.2.2.2.2.2.2.2 r.1).1]
        by_cases z : M 18 i = c
        · rw [oi_p (by rw [z]), if_pos z]
        · rw [oi_n (nI_ne z (by omega) (by omega)), if_neg z]
          cases f
          · rw [oi_p (show (if false = true then (1 : Int32) else 0) = 0 from rfl), og_p gi', og_p gl', ← hA i hi, ← hA l hl]
            by_cases y : lg_cmp (V.2.1 i &&& V.2.1 l) 0 = 0
            · rw [oi_p y, decide_eq_false (fun (h : shr V i l) => h y)]
              exact ih (i + 1) fu false (by omega) (by omega)
            · rw [oi_n y, decide_eq_true (show shr V i l from y)]
              exact ih (i + 1) fu true (by omega) (by omega)
          · rw [oi_n (show ¬ (if true = true then (1 : Int32) else 0) = 0 from e10), Bool.true_or]
            exact ih (i + 1) fu true (by omega) (by omega)
      · rw [if_neg r, if_neg r, oi_p rfl]
        exact ih (i + 1) fu f (by omega) (by omega)
/-- no other lift is in the way -/
def fre (M : MD) (V : XV) (l c a b : Nat) : Prop := ∀ j, j < M 0 1 → j ≠ l → mts M j a b → M 18 j ≠ c ∧ ¬ shr V j l
theorem wyk_chr (M : MD) (V : XV) (l c a b : Nat) : ∀ (k i : Nat) (f : Bool), wyk M V l c a b k i f = 45 ∨ wyk M V l c a b k i f = 97 ∨ wyk M V l c a b k i f = 99 := by
  intro k
  induction k with
  | zero => intro i f; unfold wyk; cases f <;> simp
  | succ k ih =>
    intro i f
    unfold wyk
    split
    · exact ih _ _
    · split
      · split
        · exact Or.inr (Or.inr rfl)
        · exact ih _ _
      · exact ih _ _
theorem wyk_45 (M : MD) (V : XV) (l c a b : Nat) : ∀ (k i : Nat) (f : Bool), wyk M V l c a b k i f = 45 ↔ (f = false ∧ ∀ j, i ≤ j → j < i + k → j ≠ l → mts M j a b → M 18 j ≠ c ∧ ¬ shr V j l) := by
  intro k
  induction k with
  | zero =>
    intro i f
    unfold wyk
    cases f
    · exact ⟨fun _ => ⟨rfl, fun j h1 h2 => by omega⟩, fun _ => rfl⟩
    · exact ⟨fun h => absurd h (by decide), fun h => absurd h.1 (by decide)⟩
  | succ k ih =>
    intro i f
    unfold wyk
    have step : ∀ (P : Nat → Prop), P i → ((∀ j, i + 1 ≤ j → j < i + 1 + k → P j) ↔ (∀ j, i ≤ j → j < i + (k + 1) → P j)) := by
      intro P hp
      refine ⟨fun h j h1 h2 => ?_, fun h j h1 h2 => h j (by omega) (by omega)⟩
      by_cases e : j = i
      · rw [e]; exact hp
      · exact h j (by omega) (by omega)
    by_cases q : i = l
    · rw [if_pos q, ih]
      exact and_congr Iff.rfl (step (fun j => j ≠ l → mts M j a b → M 18 j ≠ c ∧ ¬ shr V j l) (fun h => absurd q h))
    · rw [if_neg q]
      by_cases r : mts M i a b
      · rw [if_pos r]
        by_cases z : M 18 i = c
        · rw [if_pos z]
          exact ⟨fun h => absurd h (by decide), fun h => absurd z (h.2 i (by omega) (by omega) q r).1⟩
        · rw [if_neg z, ih]
          by_cases y : shr V i l
          · rw [decide_eq_true y, Bool.or_true]
            exact ⟨fun h => absurd h.1 (by decide), fun h => absurd y (h.2 i (by omega) (by omega) q r).2⟩
          · rw [decide_eq_false y, Bool.or_false]
            exact and_congr Iff.rfl (step (fun j => j ≠ l → mts M j a b → M 18 j ≠ c ∧ ¬ shr V j l) (fun _ _ => ⟨z, y⟩))
      · rw [if_neg r, ih]
        exact and_congr Iff.rfl (step (fun j => j ≠ l → mts M j a b → M 18 j ≠ c ∧ ¬ shr V j l) (fun _ h => absurd h r))
theorem wyk_fre (M : MD) (V : XV) (l c a b : Nat) : wyk M V l c a b (M 0 1) 0 false = 45 ↔ fre M V l c a b := by
  rw [wyk_45]
  exact ⟨fun h j h1 => h.2 j (Nat.zero_le _) (by omega), fun h => ⟨rfl, fun j _ h2 => h j (by omega)⟩⟩
end Q7
