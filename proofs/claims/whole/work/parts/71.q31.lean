section Q31
variable {n : Nat → Nat} {V : XV} {T : RV} {M : MD}
/-- c lifts more on the class's side, from L on, all alike -/
def layX (V V' : XV) (L c : Nat) (g : Nat → Int32) (air : Int64) : Prop := V'.1 0 = V.1 0 ∧ V'.1 2 = V.1 2 ∧ (∀ k f, V'.1 1 k f = if L ≤ k ∧ k < L + c then g f else V.1 1 k f) ∧ (∀ k, V'.2.1 k = if L ≤ k ∧ k < L + c then air else V.2.1 k) ∧ ∀ s, V'.2.2.1 s = if s = 4 then nI (L + c) else V.2.2.1 s
def layT (T T' : RV) (L c : Nat) (v : Nat → Int32) (air : Int64) : Prop := (∀ s, T'.1 s = if s = 7 then nI (L + c) else T.1 s) ∧ (∀ f k, T'.2.1 f k = if (8 ≤ f ∧ f ≤ 14 ∨ f = 17) ∧ L ≤ k ∧ k < L + c then v f else T.2.1 f k) ∧ ∀ k, T'.2.2 k = if L ≤ k ∧ k < L + c then air else T.2.2 k
theorem if_join {α : Type} {P Q R : Prop} [Decidable P] [Decidable Q] [Decidable R] {a b : α} (h : R ↔ (P ∨ Q)) : (if P then a else if Q then a else b) = if R then a else b := by
  by_cases p : P
  · rw [if_pos p, if_pos (h.mpr (Or.inl p))]
  · by_cases q : Q
    · rw [if_neg p, if_pos q, if_pos (h.mpr (Or.inr q))]
    · rw [if_neg p, if_neg q, if_neg (fun r => (h.mp r).elim p q)]
theorem layX_join {V1 V2 : XV} {L j : Nat} {g : Nat → Int32} {air : Int64} (h1 : layX V V1 L 1 g air) (h2 : layX V1 V2 (L + 1) j g air) : layX V V2 L (j + 1) g air := by
  obtain ⟨a1, a2, a3, a4, a5⟩ := h1
  obtain ⟨b1, b2, b3, b4, b5⟩ := h2
  refine ⟨b1.trans a1, b2.trans a2, fun k f => ?_, fun k => ?_, fun s => ?_⟩
  · rw [b3, a3]; exact if_join (by omega)
  · rw [b4, a4]; exact if_join (by omega)
  · rw [b5, a5]
    by_cases q : s = 4
    · rw [if_pos q, if_pos q]; congr 1; omega
    · rw [if_neg q, if_neg q, if_neg q]
theorem layT_join {T1 T2 : RV} {L j : Nat} {v : Nat → Int32} {air : Int64} (h1 : layT T T1 L 1 v air) (h2 : layT T1 T2 (L + 1) j v air) : layT T T2 L (j + 1) v air := by
  obtain ⟨a1, a2, a3⟩ := h1
  obtain ⟨b1, b2, b3⟩ := h2
  refine ⟨fun s => ?_, fun f k => ?_, fun k => ?_⟩
  · rw [b1, a1]
    by_cases q : s = 7
    · rw [if_pos q, if_pos q]; congr 1; omega
    · rw [if_neg q, if_neg q, if_neg q]
  · rw [b2, a2]; exact if_join (by omega)
  · rw [b3, a3]; exact if_join (by omega)
theorem layX_0 {L : Nat} {g : Nat → Int32} {air : Int64} (h : V.2.2.1 4 = nI L) : layX V V L 0 g air :=
  ⟨rfl, rfl, fun k f => (if_neg (by omega)).symm, fun k => (if_neg (by omega)).symm, fun s => by
    by_cases q : s = 4
    · rw [if_pos q, q, h]; rfl
    · rw [if_neg q]⟩
theorem layT_0 {L : Nat} {v : Nat → Int32} {air : Int64} (h : T.1 7 = nI L) : layT T T L 0 v air :=
  ⟨fun s => by
    by_cases q : s = 7
    · rw [if_pos q, q, h]; rfl
    · rw [if_neg q], fun f k => (if_neg (by omega)).symm, fun k => (if_neg (by omega)).symm⟩
theorem layX_1 {L : Nat} {g : Nat → Int32} {air : Int64} : layX V (xsc (xnai (xnew V 1 L g) L air) 4 (nI (L + 1))) L 1 g air := by
  refine ⟨rfl, rfl, fun k f => ?_, fun k => ?_, fun s => ?_⟩
  · show va_up (V.1 1) L g k f = _
    by_cases q : k = L
    · subst q; rw [va_up_self, if_pos (by omega)]
    · rw [va_up_ne _ _ q, if_neg (by omega)]
  · show va_up V.2.1 L air k = _
    by_cases q : k = L
    · subst q; rw [va_up_self, if_pos (by omega)]
    · rw [va_up_ne _ _ q, if_neg (by omega)]
  · show va_up V.2.2.1 4 (nI (L + 1)) s = _
    by_cases q : s = 4
    · subst q; rw [va_up_self, if_pos rfl]
    · rw [va_up_ne _ _ q, if_neg q]
def vT (p1 p2 p3 p4 p5 p6 p7 : Int32) : Nat → Int32 := fun f => match f with
  | 8 => p1
  | 9 => p2
  | 10 => p3
  | 11 => p4
  | 12 => p5
  | 13 => p6
  | 14 => 119
  | _ => p7
theorem t_lay1 {x1 y1 x2 y2 L : Nat} {p5 p6 p7 : Int32} {air : Int64} (ha : f_X4_air (nI x1) (nI y1) (nI x2) (nI y2) = some air) (hL : L < 40) (h7 : T.1 7 = nI L) : ∃ T' : RV, f_X4_lays T (nI x1) (nI y1) (nI x2) (nI y2) p5 p6 p7 = some T' ∧ layT T T' L 1 (vT (nI x1) (nI y1) (nI x2) (nI y2) p5 p6 p7) air := by
  have g := nI_in (c := L) (N := 40) hL (by omega)
  refine ⟨rsc (rlg (rar (rar (rar (rar (rar (rar (rar (rar T 8 L (nI x1)) 9 L (nI y1)) 10 L (nI x2)) 11 L (nI y2)) 12 L p5) 13 L p6) 14 L 119) 17 L p7) L air) 7 (nI (L + 1)), ?_, fun s => ?_, fun f k => ?_, fun k => ?_⟩
  · have l1 : ∀ (X : RV) (i : Nat) (v : Int64), (rlg X i v).1 = X.1 := fun _ _ _ => rfl
    unfold f_X4_lays
    rw [show vp_nar .char 119 = 119 from rfl]
    simp only [rar_1, l1, h7, og_p g, ob_s, ha, nI_1]
    rw [nI_clamp (by omega)]
  · show va_up T.1 7 (nI (L + 1)) s = _
    by_cases q : s = 7
    · subst q; rw [va_up_self, if_pos rfl]
    · rw [va_up_ne _ _ q, if_neg q]
  · show (rar (rar (rar (rar (rar (rar (rar (rar T 8 L (nI x1)) 9 L (nI y1)) 10 L (nI x2)) 11 L (nI y2)) 12 L p5) 13 L p6) 14 L 119) 17 L p7).2.1 f k = _
    rw [rar_r, rar_r, rar_r, rar_r, rar_r, rar_r, rar_r, rar_r]
    by_cases q : (8 ≤ f ∧ f ≤ 14 ∨ f = 17) ∧ L ≤ k ∧ k < L + 1
    · rw [if_pos q]
      obtain rfl : k = L := by omega
      rcases (show f = 8 ∨ f = 9 ∨ f = 10 ∨ f = 11 ∨ f = 12 ∨ f = 13 ∨ f = 14 ∨ f = 17 by omega) with rfl | rfl | rfl | rfl | rfl | rfl | rfl | rfl <;> simp [vT]
    · rw [if_neg q, if_neg (by omega), if_neg (by omega), if_neg (by omega), if_neg (by omega), if_neg (by omega), if_neg (by omega), if_neg (by omega), if_neg (by omega)]
  · show vp_updL T.2.2 L air k = _
    unfold vp_updL
    by_cases q : k = L
    · rw [if_pos q, if_pos (by omega)]
    · rw [if_neg q, if_neg (by omega)]
/-- the table with c lifts more -/
def layM (M M' : MD) (c : Nat) (g : Nat → Nat) : Prop := M' 0 1 = M 0 1 + c ∧ ∀ f k, 10 ≤ f → f ≤ 19 → M' f k = if (M 0 1 ≤ k ∧ k < M 0 1 + c) ∧ f ≤ 17 then g f else M f k
theorem layM_o {M' : MD} {c : Nat} {g : Nat → Nat} (h : layM M M' c g) {f k : Nat} (h1 : 10 ≤ f) (h2 : f ≤ 19) (hk : k < M 0 1) : M' f k = M f k := by
  rw [h.2 f k h1 h2, if_neg (by omega)]
theorem layM_n {M' : MD} {c : Nat} {g : Nat → Nat} (h : layM M M' c g) {f k : Nat} (h1 : 10 ≤ f) (h2 : f ≤ 17) (hk : M 0 1 ≤ k) (hk2 : k < M 0 1 + c) : M' f k = g f := by
  rw [h.2 f k h1 (by omega), if_pos ⟨⟨hk, hk2⟩, h2⟩]
abbrev gok (g : Nat → Nat) (N : Nat) : Prop := g 10 < 40 ∧ g 11 < 40 ∧ g 12 < 40 ∧ g 13 < 40 ∧ 1 ≤ g 14 ∧ g 14 ≤ 999 ∧ 1 ≤ g 15 ∧ g 15 ≤ 60 ∧ g 16 ≤ N ∧ g 17 = 119
theorem lay_wfL {M' : MD} {c : Nat} {g : Nat → Nat} (hW : WF M) (h : layM M M' c g) (h0 : M' 0 0 = M 0 0) (h2 : M 0 2 ≤ M' 0 2) (hg : gok g (M' 0 2)) : wfL M' := by
  intro k hk
  rw [h.1] at hk
  obtain ⟨g1, g2, g3, g4, g5, g6, g7, g8, g9, g10⟩ := hg
  by_cases q : k < M 0 1
  · obtain ⟨l1, l2, l3, l4, l5, l6, l7, l8, l9, l10, l11⟩ := hW.2.2.1 k q
    rw [layM_o h (f := 10) (by omega) (by omega) q, layM_o h (f := 11) (by omega) (by omega) q, layM_o h (f := 12) (by omega) (by omega) q, layM_o h (f := 13) (by omega) (by omega) q, layM_o h (f := 14) (by omega) (by omega) q, layM_o h (f := 15) (by omega) (by omega) q, layM_o h (f := 16) (by omega) (by omega) q, layM_o h (f := 17) (by omega) (by omega) q, layM_o h (f := 18) (by omega) (by omega) q, layM_o h (f := 19) (by omega) (by omega) q, h0]
    exact ⟨l1, l2, l3, l4, l5, l6, l7, l8, by omega, l10, l11⟩
  · have q1 : M 0 1 ≤ k := by omega
    rw [layM_n h (f := 10) (by omega) (by omega) q1 hk, layM_n h (f := 11) (by omega) (by omega) q1 hk, layM_n h (f := 12) (by omega) (by omega) q1 hk, layM_n h (f := 13) (by omega) (by omega) q1 hk, layM_n h (f := 14) (by omega) (by omega) q1 hk, layM_n h (f := 15) (by omega) (by omega) q1 hk, layM_n h (f := 16) (by omega) (by omega) q1 hk, layM_n h (f := 17) (by omega) (by omega) q1 hk]
    exact ⟨g1, g2, g3, g4, g5, g6, g7, g8, g9, Or.inl g10, fun hn => absurd g10 hn⟩
theorem lay_wfO {M' : MD} {c : Nat} {g : Nat → Nat} (hW : WF M) (h : layM M M' c g) (hg : g 17 = 119) : wfO M' := by
  intro i j hij hj hi1 hj1 hc
  rw [h.1] at hj
  by_cases q : j < M 0 1
  · have q2 : i < M 0 1 := by omega
    rw [layM_o h (f := 17) (by omega) (by omega) q2] at hi1
    rw [layM_o h (f := 17) (by omega) (by omega) q] at hj1
    rw [layM_o h (f := 18) (by omega) (by omega) q2, layM_o h (f := 18) (by omega) (by omega) q] at hc
    rw [layM_o h (f := 19) (by omega) (by omega) q2, layM_o h (f := 19) (by omega) (by omega) q, layM_o h (f := 15) (by omega) (by omega) q2, layM_o h (f := 15) (by omega) (by omega) q]
    exact hW.2.2.2.2 i j hij q hi1 hj1 hc
  · rw [layM_n h (f := 17) (by omega) (by omega) (by omega) hj] at hj1
    exact absurd hg hj1
theorem lay_rxL {M' : MD} {V' : XV} {c : Nat} {g : Nat → Nat} {gl : Nat → Int32} (hX : rxL V M) (h : layM M M' c g) (hV : ∀ k f, V'.1 1 k f = if M 0 1 ≤ k ∧ k < M 0 1 + c then gl f else V.1 1 k f) (hg : gl 0 = nI (g 10) ∧ gl 1 = nI (g 11) ∧ gl 2 = nI (g 12) ∧ gl 3 = nI (g 13) ∧ gl 4 = nI (g 14) ∧ gl 5 = nI (g 15) ∧ gl 6 = nI (g 16) - 1 ∧ gl 8 = nI (g 17)) (h17 : g 17 = 119) : rxL V' M' := by
  intro k hk
  rw [h.1] at hk
  obtain ⟨g1, g2, g3, g4, g5, g6, g7, g8⟩ := hg
  by_cases q : k < M 0 1
  · have z : ¬ (M 0 1 ≤ k ∧ k < M 0 1 + c) := by omega
    rw [layM_o h (f := 10) (by omega) (by omega) q, layM_o h (f := 11) (by omega) (by omega) q, layM_o h (f := 12) (by omega) (by omega) q, layM_o h (f := 13) (by omega) (by omega) q, layM_o h (f := 14) (by omega) (by omega) q, layM_o h (f := 15) (by omega) (by omega) q, layM_o h (f := 16) (by omega) (by omega) q, layM_o h (f := 17) (by omega) (by omega) q, layM_o h (f := 18) (by omega) (by omega) q, layM_o h (f := 19) (by omega) (by omega) q]
    simp only [hV, if_neg z]
    exact hX k q
  · have q1 : M 0 1 ≤ k := by omega
    rw [layM_n h (f := 10) (by omega) (by omega) q1 hk, layM_n h (f := 11) (by omega) (by omega) q1 hk, layM_n h (f := 12) (by omega) (by omega) q1 hk, layM_n h (f := 13) (by omega) (by omega) q1 hk, layM_n h (f := 14) (by omega) (by omega) q1 hk, layM_n h (f := 15) (by omega) (by omega) q1 hk, layM_n h (f := 16) (by omega) (by omega) q1 hk, layM_n h (f := 17) (by omega) (by omega) q1 hk]
    refine ⟨?_, ?_, ?_, ?_, ?_, ?_, ?_, ?_, fun hn => absurd h17 hn⟩ <;> rw [hV, if_pos ⟨q1, hk⟩] <;> assumption
theorem lay_rtL {M' : MD} {T' : RV} {c : Nat} {g : Nat → Nat} {v : Nat → Int32} (hX : rtL T M) (h : layM M M' c g) (hV : ∀ f k, f ≤ 17 → T'.2.1 f k = if (8 ≤ f ∧ f ≤ 14 ∨ f = 17) ∧ M 0 1 ≤ k ∧ k < M 0 1 + c then v f else T.2.1 f k) (hg : v 8 = nI (g 10) ∧ v 9 = nI (g 11) ∧ v 10 = nI (g 12) ∧ v 11 = nI (g 13) ∧ v 12 = nI (g 14) ∧ v 13 = nI (g 15) ∧ v 17 = nI (g 16) - 1 ∧ v 14 = nI (g 17)) (h17 : g 17 = 119) : rtL T' M' := by
  intro k hk
  rw [h.1] at hk
  obtain ⟨g1, g2, g3, g4, g5, g6, g7, g8⟩ := hg
  by_cases q : k < M 0 1
  · have z : ∀ f, ¬ ((8 ≤ f ∧ f ≤ 14 ∨ f = 17) ∧ M 0 1 ≤ k ∧ k < M 0 1 + c) := fun f => by omega
    rw [layM_o h (f := 10) (by omega) (by omega) q, layM_o h (f := 11) (by omega) (by omega) q, layM_o h (f := 12) (by omega) (by omega) q, layM_o h (f := 13) (by omega) (by omega) q, layM_o h (f := 14) (by omega) (by omega) q, layM_o h (f := 15) (by omega) (by omega) q, layM_o h (f := 16) (by omega) (by omega) q, layM_o h (f := 17) (by omega) (by omega) q, layM_o h (f := 18) (by omega) (by omega) q, layM_o h (f := 19) (by omega) (by omega) q]
    rw [hV 8 k (by decide), hV 9 k (by decide), hV 10 k (by decide), hV 11 k (by decide), hV 12 k (by decide), hV 13 k (by decide), hV 14 k (by decide), hV 15 k (by decide), hV 16 k (by decide), hV 17 k (by decide), if_neg (z 8), if_neg (z 9), if_neg (z 10), if_neg (z 11), if_neg (z 12), if_neg (z 13), if_neg (z 14), if_neg (z 15), if_neg (z 16), if_neg (z 17)]
    exact hX k q
  · have q1 : M 0 1 ≤ k := by omega
    rw [layM_n h (f := 10) (by omega) (by omega) q1 hk, layM_n h (f := 11) (by omega) (by omega) q1 hk, layM_n h (f := 12) (by omega) (by omega) q1 hk, layM_n h (f := 13) (by omega) (by omega) q1 hk, layM_n h (f := 14) (by omega) (by omega) q1 hk, layM_n h (f := 15) (by omega) (by omega) q1 hk, layM_n h (f := 16) (by omega) (by omega) q1 hk, layM_n h (f := 17) (by omega) (by omega) q1 hk]
    refine ⟨?_, ?_, ?_, ?_, ?_, ?_, ?_, ?_, fun hn => absurd h17 hn⟩ <;> rw [hV _ _ (by decide), if_pos (by omega)] <;> assumption
theorem lay_ra {M' : MD} {V' : XV} {T' : RV} {c : Nat} {g : Nat → Nat} {air : Int64} (hA : RA V T M) (h : layM M M' c g) (hV : ∀ k, V'.2.1 k = if M 0 1 ≤ k ∧ k < M 0 1 + c then air else V.2.1 k) (hT : ∀ k, T'.2.2 k = if M 0 1 ≤ k ∧ k < M 0 1 + c then air else T.2.2 k) : RA V' T' M' := by
  intro k hk
  rw [h.1] at hk
  rw [hV, hT]
  by_cases q : k < M 0 1
  · rw [if_neg (by omega), if_neg (by omega)]; exact hA k q
  · rw [if_pos (by omega), if_pos (by omega)]
/-- what a lift's numbers must be, on both sides -/
theorem p_rl (p : Int32) (lo N : Nat) (hl : lo < 1000) (hN : N < 100000) : (∃ k, lo ≤ k ∧ k ≤ N ∧ p = nI k ∧ f_X4_in p (nI lo) (nI N) = some 1) ∨ f_X4_in p (nI lo) (nI N) = some 0 := by
  by_cases h : p < nI lo
  · exact Or.inr (in_no (Or.inl h))
  · have h0 : ¬ p < 0 := fun z => h (by
      rw [i_lt] at z ⊢
      rw [nI_toInt (by omega)]
      have h0 : (0 : Int32).toInt = 0 := rfl
      omega)
    obtain ⟨j, hj, rfl⟩ := nI_of h0
    by_cases h2 : j ≤ N
    · refine Or.inl ⟨j, ?_, h2, rfl, in_ok h (nI_nlt h2 (by omega))⟩
      rw [nI_if hj (by omega)] at h
      omega
    · exact Or.inr (in_no (Or.inr (nI_lt (by omega) hj)))
theorem burden_e (p q : Int32) : f_X3_isBurden p q = ob (f_X4_in p 1 999) (fun u_1 => oi (u_1 = 0) (some 0) (ob (f_X4_in q 1 60) (fun u_4 => oi (u_4 = 0) (some 0) (some 1)))) := rfl
theorem lift_or (p1 p2 p3 p4 p5 p6 : Int32) : (∃ x1 y1 x2 y2 w m, x1 < 40 ∧ y1 < 40 ∧ x2 < 40 ∧ y2 < 40 ∧ 1 ≤ w ∧ w ≤ 999 ∧ 1 ≤ m ∧ m ≤ 60 ∧ p1 = nI x1 ∧ p2 = nI y1 ∧ p3 = nI x2 ∧ p4 = nI y2 ∧ p5 = nI w ∧ p6 = nI m ∧ f_X4_isLift p1 p2 p3 p4 p5 p6 = some 1 ∧ ∀ (α : Type) (x y : Option α), ob (f_X3_isPlace p1 p2) (fun u_1 => oi (u_1 = 0) x (ob (f_X3_isPlace p3 p4) (fun u_4 => oi (u_4 = 0) x (ob (f_X3_isBurden p5 p6) (fun u_7 => oi (u_7 = 0) x y))))) = y) ∨ (f_X4_isLift p1 p2 p3 p4 p5 p6 = some 0 ∧ ∀ (α : Type) (x y : Option α), ob (f_X3_isPlace p1 p2) (fun u_1 => oi (u_1 = 0) x (ob (f_X3_isPlace p3 p4) (fun u_4 => oi (u_4 = 0) x (ob (f_X3_isBurden p5 p6) (fun u_7 => oi (u_7 = 0) x y))))) = x) := by
  simp only [pl_eq, burden_e]
  unfold f_X4_isLift
  rcases pl_cases p1 p2 with ⟨x1, y1, hx1, hy1, rfl, rfl, h1⟩ | h1
  · rcases pl_cases p3 p4 with ⟨x2, y2, hx2, hy2, rfl, rfl, h2⟩ | h2
    · rcases p_rl p5 1 999 (by omega) (by omega) with ⟨w, hw1, hw2, rfl, h3⟩ | h3
      · have h3 : f_X4_in (nI w) 1 999 = some 1 := h3
        rcases p_rl p6 1 60 (by omega) (by omega) with ⟨m, hm1, hm2, rfl, h4⟩ | h4
        · have h4 : f_X4_in (nI m) 1 60 = some 1 := h4
          refine Or.inl ⟨x1, y1, x2, y2, w, m, hx1, hy1, hx2, hy2, hw1, hw2, hm1, hm2, rfl, rfl, rfl, rfl, rfl, rfl, ?_, fun α x y => ?_⟩
          · rw [h1, ob_s, oi_n e10, h2, ob_s, oi_n e10, h3, ob_s, oi_n e10, h4, ob_s, oi_n e10]
          · rw [h1, ob_s, oi_n e10, h2, ob_s, oi_n e10, h3, ob_s, oi_n e10, h4, ob_s, oi_n e10, ob_s, oi_n e10]
        · have h4 : f_X4_in p6 1 60 = some 0 := h4
          refine Or.inr ⟨?_, fun α x y => ?_⟩
          · rw [h1, ob_s, oi_n e10, h2, ob_s, oi_n e10, h3, ob_s, oi_n e10, h4, ob_s, oi_p rfl]
          · rw [h1, ob_s, oi_n e10, h2, ob_s, oi_n e10, h3, ob_s, oi_n e10, h4, ob_s, oi_p rfl, ob_s, oi_p rfl]
      · have h3 : f_X4_in p5 1 999 = some 0 := h3
        refine Or.inr ⟨?_, fun α x y => ?_⟩
        · rw [h1, ob_s, oi_n e10, h2, ob_s, oi_n e10, h3, ob_s, oi_p rfl]
        · rw [h1, ob_s, oi_n e10, h2, ob_s, oi_n e10, h3, ob_s, oi_p rfl, ob_s, oi_p rfl]
    · refine Or.inr ⟨?_, fun α x y => ?_⟩
      · rw [h1, ob_s, oi_n e10, h2, ob_s, oi_p rfl]
      · rw [h1, ob_s, oi_n e10, h2, ob_s, oi_p rfl]
  · refine Or.inr ⟨?_, fun α x y => ?_⟩
    · rw [h1, ob_s, oi_p rfl]
    · rw [h1, ob_s, oi_p rfl]
end Q31
