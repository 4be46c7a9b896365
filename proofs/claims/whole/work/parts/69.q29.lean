/-! the air of a rectangle, bit by bit -/
theorem one_sh : ∀ k, k < 64 → ∀ b, b < 64 → lb ((1 : Int64) <<< ((nI k).toInt64 &&& 63)) b = decide (b = k) := by decide +kernel
def btw (v a b : Nat) : Prop := if b ≤ a then b ≤ v ∧ v ≤ a else a ≤ v ∧ v ≤ b
theorem btw_mm (x1 x2 v : Nat) : ((if x2 < x1 then x2 else x1) / 5 ≤ v ∧ v ≤ (if x1 < x2 then x2 else x1) / 5) ↔ btw v (x1 / 5) (x2 / 5) := by
  unfold btw
  split <;> split <;> split <;> omega
theorem x_ab54 (KK : Int32 → Int32 → Int32 → Int64 → Int32 → Option Int64) {l r t y : Nat} (hr : r < 8) (hy : y < 8) : ∀ (d x fu : Nat) (acc : Int64), x + d = r + 1 → d < fu → ∃ acc' : Int64, f_X3_airBetween_54 KK fu (nI l) (nI r) (nI t) acc (nI y) (nI x) = KK (nI l) (nI r) (nI t) acc' (nI y) ∧ ∀ b, b < 64 → (lb acc' b = true ↔ (lb acc b = true ∨ (b / 8 = y ∧ x ≤ b % 8 ∧ b % 8 ≤ r))) := by
  intro d
  induction d with
  | zero =>
    intro x fu acc h1 h2
    obtain ⟨fu, rfl⟩ : ∃ g, fu = g + 1 := ⟨fu - 1, by omega⟩
    refine ⟨acc, ?_, fun b _ => ⟨Or.inl, fun h => h.elim id (fun h => by omega)⟩⟩
    unfold f_X3_airBetween_54
    rw [oi_p (nI_lt (by omega) (by omega))]
  | succ d ih =>
    intro x fu acc h1 h2
    obtain ⟨fu, rfl⟩ : ∃ g, fu = g + 1 := ⟨fu - 1, by omega⟩
    obtain ⟨acc', e, h⟩ := ih (x + 1) fu (acc ||| (1 <<< ((nI (8 * y + x)).toInt64 &&& 63))) (by omega) (by omega)
    refine ⟨acc', ?_, fun b hb => ?_⟩
    · unfold f_X3_airBetween_54
      rw [oi_n (nI_nlt (by omega) (by omega)), show 8 * nI y + nI x = nI (8 * y + x) by rw [show (8 : Int32) = nI 8 from rfl, nI_mul, nI_add], nI_1]
      exact e
    · rw [h b hb, lb_or, Bool.or_eq_true, one_sh (8 * y + x) (by omega) b hb, decide_eq_true_iff, or_assoc]
      refine or_congr Iff.rfl ⟨fun h => ?_, fun h => ?_⟩
      · rcases h with h | h <;> omega
      · by_cases z : b = 8 * y + x
        · exact Or.inl z
        · exact Or.inr (by omega)
theorem x_ab43 {l r t : Nat} (hr : r < 8) (ht : t < 8) (hl : l ≤ r) : ∀ (d y fu : Nat) (acc : Int64), y + d = t + 1 → d < fu → ∃ acc' : Int64, f_X3_airBetween_43 fu (nI l) (nI r) (nI t) acc (nI y) = some acc' ∧ ∀ b, b < 64 → (lb acc' b = true ↔ (lb acc b = true ∨ (y ≤ b / 8 ∧ b / 8 ≤ t ∧ l ≤ b % 8 ∧ b % 8 ≤ r))) := by
  intro d
  induction d with
  | zero =>
    intro y fu acc h1 h2
    obtain ⟨fu, rfl⟩ : ∃ g, fu = g + 1 := ⟨fu - 1, by omega⟩
    refine ⟨acc, ?_, fun b _ => ⟨Or.inl, fun h => h.elim id (fun h => by omega)⟩⟩
    unfold f_X3_airBetween_43
    rw [oi_p (nI_lt (by omega) (by omega))]
  | succ d ih =>
    intro y fu acc h1 h2
    obtain ⟨fu, rfl⟩ : ∃ g, fu = g + 1 := ⟨fu - 1, by omega⟩
    obtain ⟨a1, e1, k1⟩ := x_ab54 (fun (e_3 : Int32) (e_4 : Int32) (e_5 : Int32) (e_6 : Int64) (e_7 : Int32) => f_X3_airBetween_43 fu e_3 e_4 e_5 e_6 (e_7 + 1)) (l := l) (t := t) hr (show y < 8 by omega) (r + 1 - l) l FU acc (by omega) (by unfold FU; omega)
    obtain ⟨a2, e2, k2⟩ := ih (y + 1) fu a1 (by omega) (by omega)
    refine ⟨a2, ?_, fun b hb => ?_⟩
    · unfold f_X3_airBetween_43
      rw [oi_n (nI_nlt (by omega) (by omega))]
      refine Eq.trans e1 ?_
      show f_X3_airBetween_43 fu (nI l) (nI r) (nI t) a1 (nI y + 1) = _
      rw [nI_1]
      exact e2
    · rw [k2 b hb, k1 b hb, or_assoc]
      refine or_congr Iff.rfl ⟨fun h => ?_, fun h => ?_⟩
      · rcases h with h | h <;> omega
      · by_cases z : b / 8 = y
        · exact Or.inl ⟨z, h.2.2⟩
        · exact Or.inr (by omega)
theorem in_nat {v a b : Nat} (hv : v < 1000) (ha : a < 1000) (hb : b < 1000) : (f_X4_in (nI v) (nI a) (nI b) = some 1 ∧ a ≤ v ∧ v ≤ b) ∨ (f_X4_in (nI v) (nI a) (nI b) = some 0 ∧ ¬ (a ≤ v ∧ v ≤ b)) := by
  by_cases h : a ≤ v ∧ v ≤ b
  · exact Or.inl ⟨in_ok (nI_nlt h.1 (by omega)) (nI_nlt h.2 (by omega)), h⟩
  · by_cases z : v < a
    · exact Or.inr ⟨in_no (Or.inl (nI_lt z (by omega))), h⟩
    · exact Or.inr ⟨in_no (Or.inr (nI_lt (by omega) (by omega))), h⟩
theorem t_btw {v a b : Nat} (hv : v < 1000) (ha : a < 1000) (hb : b < 1000) : (f_X4_isBetween (nI v) (nI a) (nI b) = some 1 ∧ btw v a b) ∨ (f_X4_isBetween (nI v) (nI a) (nI b) = some 0 ∧ ¬ btw v a b) := by
  have f0 : og ((0 : Int32) &&& 1 = 0) (some (0 : Int32)) = some 0 := if_pos (by decide)
  have f1 : og ((1 : Int32) &&& 1 = 1) (some (1 : Int32)) = some 1 := if_pos (by decide)
  unfold f_X4_isBetween btw
  by_cases q : b ≤ a
  · rw [oi_p (nI_le q (by omega)), if_pos q]
    rcases in_nat hv hb ha with ⟨e, h⟩ | ⟨e, h⟩
    · rw [e, ob_s]; exact Or.inl ⟨f1, h⟩
    · rw [e, ob_s]; exact Or.inr ⟨f0, h⟩
  · rw [oi_n (nI_ge (by omega) (by omega)), if_neg q]
    rcases in_nat hv ha hb with ⟨e, h⟩ | ⟨e, h⟩
    · rw [e, ob_s]; exact Or.inl ⟨f1, h⟩
    · rw [e, ob_s]; exact Or.inr ⟨f0, h⟩
theorem t_air6 {x1 y1 x2 y2 : Nat} (h1 : x1 < 40) (h2 : y1 < 40) (h3 : x2 < 40) (h4 : y2 < 40) : ∀ (d k fu : Nat) (acc : Int64), k + d = 64 → d < fu → ∃ acc' : Int64, f_X4_air_6 fu (nI x1) (nI y1) (nI x2) (nI y2) acc (nI k) = some acc' ∧ ∀ b, b < 64 → (lb acc' b = true ↔ (lb acc b = true ∨ (k ≤ b ∧ btw (b % 8) (x1 / 5) (x2 / 5) ∧ btw (b / 8) (y1 / 5) (y2 / 5)))) := by
  have d5 : ∀ x, x < 40 → nI x / 5 = nI (x / 5) := fun x hx => nI_div (b := 5) (by omega) (by omega) (by omega)
  intro d
  induction d with
  | zero =>
    intro k fu acc g1 g2
    obtain ⟨fu, rfl⟩ : ∃ g, fu = g + 1 := ⟨fu - 1, by omega⟩
    refine ⟨acc, ?_, fun b _ => ⟨Or.inl, fun h => h.elim id (fun h => by omega)⟩⟩
    unfold f_X4_air_6
    rw [oi_p (show (64 : Int32) ≤ nI k from nI_le (a := 64) (by omega) (by omega))]
  | succ d ih =>
    intro k fu acc g1 g2
    obtain ⟨fu, rfl⟩ : ∃ g, fu = g + 1 := ⟨fu - 1, by omega⟩
    have e1 : nI k / 8 = nI (k / 8) := nI_div (b := 8) (by omega) (by omega) (by omega)
    have e2 : nI k - nI (k / 8) * 8 = nI (k % 8) := by
      rw [show (8 : Int32) = nI 8 from rfl, nI_mul, nI_subn (by omega)]
      congr 1
      omega
    have skip : ¬ (btw (k % 8) (x1 / 5) (x2 / 5) ∧ btw (k / 8) (y1 / 5) (y2 / 5)) → ∃ acc' : Int64, f_X4_air_6 fu (nI x1) (nI y1) (nI x2) (nI y2) acc (nI (k + 1)) = some acc' ∧ ∀ b, b < 64 → (lb acc' b = true ↔ (lb acc b = true ∨ (k ≤ b ∧ btw (b % 8) (x1 / 5) (x2 / 5) ∧ btw (b / 8) (y1 / 5) (y2 / 5)))) := by
      intro hn
      obtain ⟨acc', e, h⟩ := ih (k + 1) fu acc (by omega) (by omega)
      refine ⟨acc', e, fun b hb => ?_⟩
      rw [h b hb]
      refine or_congr Iff.rfl ⟨fun h => ⟨by omega, h.2⟩, fun h => ⟨?_, h.2⟩⟩
      by_cases z : b = k
      · subst z; exact absurd h.2 hn
      · omega
    unfold f_X4_air_6
    rw [oi_n (show ¬ (64 : Int32) ≤ nI k from nI_ge (b := 64) (by omega) (by omega)), e1, e2, d5 x1 h1, d5 y1 h2, d5 x2 h3, d5 y2 h4, nI_1]
    rcases t_btw (show k % 8 < 1000 by omega) (show x1 / 5 < 1000 by omega) (show x2 / 5 < 1000 by omega) with ⟨b1, c1⟩ | ⟨b1, c1⟩
    · rw [b1, ob_s, oi_n e10]
      rcases t_btw (show k / 8 < 1000 by omega) (show y1 / 5 < 1000 by omega) (show y2 / 5 < 1000 by omega) with ⟨b2, c2⟩ | ⟨b2, c2⟩
      · rw [b2, ob_s, oi_n e10]
        obtain ⟨acc', e, h⟩ := ih (k + 1) fu (acc ||| (1 <<< ((nI k).toInt64 &&& 63))) (by omega) (by omega)
        refine ⟨acc', e, fun b hb => ?_⟩
        rw [h b hb, lb_or, Bool.or_eq_true, one_sh k (by omega) b hb, decide_eq_true_iff, or_assoc]
        refine or_congr Iff.rfl ⟨fun h => ?_, fun h => ?_⟩
        · rcases h with h | h
          · subst h; exact ⟨Nat.le_refl _, c1, c2⟩
          · exact ⟨by omega, h.2⟩
        · by_cases z : b = k
          · exact Or.inl z
          · exact Or.inr ⟨by omega, h.2⟩
      · rw [b2, ob_s, oi_p rfl]
        exact skip (fun h => c2 h.2)
    · rw [b1, ob_s, oi_p rfl]
      exact skip (fun h => c1 h.1)
/-- both ways to the air of a lift -/
theorem air_both {x1 y1 x2 y2 : Nat} (h1 : x1 < 40) (h2 : y1 < 40) (h3 : x2 < 40) (h4 : y2 < 40) : ∃ a : Int64, f_X3_airBetween (nI x1) (nI y1) (nI x2) (nI y2) = some a ∧ f_X4_air (nI x1) (nI y1) (nI x2) (nI y2) = some a := by
  obtain ⟨a, ea, ha⟩ := t_air6 h1 h2 h3 h4 64 0 FU 0 rfl (by unfold FU; omega)
  have mn : ∀ p q : Nat, p < 40 → q < 40 → (if nI q < nI p then nI q else nI p) / 5 = nI ((if q < p then q else p) / 5) := by
    intro p q hp hq
    by_cases z : q < p
    · rw [if_pos (nI_lt z (by omega)), if_pos z]
      exact nI_div (b := 5) (by omega) (by omega) (by omega)
    · rw [if_neg (nI_nlt (by omega) (by omega)), if_neg z]
      exact nI_div (b := 5) (by omega) (by omega) (by omega)
  have mx : ∀ p q : Nat, p < 40 → q < 40 → (if nI p < nI q then nI q else nI p) / 5 = nI ((if p < q then q else p) / 5) := by
    intro p q hp hq
    by_cases z : p < q
    · rw [if_pos (nI_lt z (by omega)), if_pos z]
      exact nI_div (b := 5) (by omega) (by omega) (by omega)
    · rw [if_neg (nI_nlt (by omega) (by omega)), if_neg z]
      exact nI_div (b := 5) (by omega) (by omega) (by omega)
  have hr : (if x1 < x2 then x2 else x1) / 5 < 8 := by split <;> omega
  have ht : (if y1 < y2 then y2 else y1) / 5 < 8 := by split <;> omega
  have hlr : (if x2 < x1 then x2 else x1) / 5 ≤ (if x1 < x2 then x2 else x1) / 5 := by split <;> split <;> omega
  have hlt : (if y2 < y1 then y2 else y1) / 5 ≤ (if y1 < y2 then y2 else y1) / 5 := by split <;> split <;> omega
  obtain ⟨c, ec, hc⟩ := x_ab43 hr ht hlr ((if y1 < y2 then y2 else y1) / 5 + 1 - (if y2 < y1 then y2 else y1) / 5) ((if y2 < y1 then y2 else y1) / 5) FU 0 (by omega) (by unfold FU; omega)
  have e : c = a := lb_ext (fun b hb => by
    rw [hc b hb, ha b hb, lb_0]
    have z1 := btw_mm x1 x2 (b % 8)
    have z2 := btw_mm y1 y2 (b / 8)
    constructor
    · rintro (h | ⟨h1, h2, h3, h4⟩)
      · cases h
      · exact Or.inr ⟨Nat.zero_le _, z1.mp ⟨h3, h4⟩, z2.mp ⟨h1, h2⟩⟩
    · rintro (h | ⟨_, h1, h2⟩)
      · cases h
      · exact Or.inr ⟨(z2.mpr h2).1, (z2.mpr h2).2, (z1.mpr h1).1, (z1.mpr h1).2⟩)
  refine ⟨a, ?_, ?_⟩
  · unfold f_X3_airBetween
    rw [mn x1 x2 h1 h3, mx x1 x2 h1 h3, mx y1 y2 h2 h4, mn y1 y2 h2 h4, ← e]
    exact ec
  · unfold f_X4_air
    exact ea
