section Q3
variable {n : Nat → Nat} {V : XV} {T : RV} {M : MD}
/-- the square of a difference -/
def dsq (a b : Nat) : Nat := if a ≤ b then (b - a) * (b - a) else (a - b) * (a - b)
theorem dsq_eq : ∀ a, a < 40 → ∀ b, b < 40 → (nI a - nI b) * (nI a - nI b) = nI (dsq a b) := by decide +kernel
theorem dsq_comm (a b : Nat) : dsq a b = dsq b a := by
  unfold dsq
  by_cases h1 : a ≤ b <;> by_cases h2 : b ≤ a
  · have : a = b := by omega
    subst this; rfl
  · rw [if_pos h1, if_neg h2]
  · rw [if_neg h1, if_pos h2]
  · omega
theorem dsq_le {a b : Nat} (ha : a < 40) (hb : b < 40) : dsq a b ≤ 1521 := by
  unfold dsq
  split
  · exact Nat.mul_le_mul (show b - a ≤ 39 by omega) (show b - a ≤ 39 by omega)
  · exact Nat.mul_le_mul (show a - b ≤ 39 by omega) (show a - b ≤ 39 by omega)
theorem nI_mul (a b : Nat) : nI a * nI b = nI (a * b) := (Int32.ofNat_mul a b).symm
def far (M : MD) (c x y : Nat) : Nat := dsq x (M 1 c) + dsq y (M 2 c)
theorem far_le (hW : WF M) {c x y : Nat} (hc : c < M 0 0) (hx : x < 40) (hy : y < 40) : far M c x y ≤ 3042 := by
  have h := hW.2.1 c hc
  have h1 := dsq_le hx h.1
  have h2 := dsq_le hy h.2.1
  unfold far
  omega
theorem x_sq (hW : WF M) (hX : RX n V M) {c x y : Nat} (hc : c < M 0 0) (hx : x < 40) (hy : y < 40) : f_X0_squareTo n V c (nI x) (nI y) = some (nI (far M c x y)) := by
  have h := hW.2.1 c hc
  obtain ⟨x1, x2, -⟩ := hX.2.1 c hc
  unfold f_X0_squareTo far
  rw [x1, x2, dsq_eq x hx _ h.1, dsq_eq y hy _ h.2.1, nI_add]
theorem t_aw (hW : WF M) (hT : RT T M) {c x y : Nat} (hc : c < M 0 0) (hx : x < 40) (hy : y < 40) : f_X4_away T (nI c) (nI x) (nI y) = some (nI (far M c x y)) := by
  have h := hW.2.1 c hc
  obtain ⟨x1, x2, -⟩ := hT.2.1 c hc
  have g := nI_in (wfc_5 hW hc) (by omega)
  unfold f_X4_away far
  rw [og_p g, og_p g, og_p g, og_p g, nI_clamp (Nat.lt_trans (wfc_5 hW hc) (by omega)), x1, x2, dsq_eq _ h.1 x hx, dsq_eq _ h.2.1 y hy, nI_add, ob_s, dsq_comm, dsq_comm (M 2 c)]
def rch (M : MD) (c x y : Nat) : Prop := far M c x y ≤ M 3 c * M 3 c
theorem nI_if {a b : Nat} (ha : a < 2 ^ 31) (hb : b < 2 ^ 31) : nI a < nI b ↔ a < b := by
  rw [i_lt, nI_toInt ha, nI_toInt hb]; omega
theorem nI_iff {a b : Nat} (ha : a < 2 ^ 31) (hb : b < 2 ^ 31) : nI a ≤ nI b ↔ a ≤ b := by
  rw [i_le, nI_toInt ha, nI_toInt hb]; omega
theorem x_rch (hW : WF M) (hX : RX n V M) {c x y : Nat} (hc : c < M 0 0) (hx : x < 40) (hy : y < 40) : f_X0_reaches n V c (nI x) (nI y) = some (if far M c x y ≤ M 3 c * M 3 c then 1 else 0) := by
  have h := hW.2.1 c hc
  have hf := far_le hW hc hx hy
  have hr : M 3 c * M 3 c ≤ 1600 := Nat.mul_le_mul h.2.2.2.1 h.2.2.2.1
  unfold f_X0_reaches
  rw [x_sq hW hX hc hx hy, ob_s, (hX.2.1 c hc).2.2.1, nI_mul]
  by_cases q : far M c x y ≤ M 3 c * M 3 c
  · rw [if_pos q, oi_n (nI_nlt q (by omega))]
  · rw [if_neg q, oi_p (nI_lt (by omega) (by omega))]
theorem t_rch (hW : WF M) (hT : RT T M) {c x y : Nat} (hc : c < M 0 0) (hx : x < 40) (hy : y < 40) : f_X4_reaches T (nI c) (nI x) (nI y) = some (if far M c x y ≤ M 3 c * M 3 c then 1 else 0) := by
  have h := hW.2.1 c hc
  have hf := far_le hW hc hx hy
  have hr : M 3 c * M 3 c ≤ 1600 := Nat.mul_le_mul h.2.2.2.1 h.2.2.2.1
  have g := nI_in (wfc_5 hW hc) (by omega)
  unfold f_X4_reaches
  rw [t_aw hW hT hc hx hy, ob_s, og_p g, og_p g, nI_clamp (Nat.lt_trans (wfc_5 hW hc) (by omega)), (hT.2.1 c hc).2.2.1, nI_mul]
  by_cases q : far M c x y ≤ M 3 c * M 3 c
  · rw [if_pos q, oi_n (nI_nlt q (by omega))]
  · rw [if_neg q, oi_p (nI_lt (by omega) (by omega))]
/-- the least distance from d on whose square is not less -/
def dst (q : Nat) : Nat → Nat → Nat
  | 0, d => d
  | f + 1, d => if q ≤ d * d then d else dst q f (d + 1)
def limv (M : MD) (c d : Nat) : Int32 := ((if nI (M 5 c) / nI d < nI (M 4 c) then nI (M 5 c) / nI d else nI (M 4 c)) * (100 - 3 * nI (M 0 4))) / 100
def lim (M : MD) (c x y : Nat) : Int32 := if M 0 4 ≤ 20 then limv M c (dst (far M c x y) 55 1) else 0
theorem x_lim (hW : WF M) (hX : RX n V M) {c : Nat} (hc : c < M 0 0) {q : Nat} (hq : q ≤ 3042) : ∀ (f d fu : Nat), d + f = 56 → 1 ≤ d → f < fu → f_X0_strengthAt_19 n V fu c (nI (M 0 4)) (nI q) (nI d) = some (limv M c (dst q f d)) := by
  obtain ⟨x1, x2, x3, x4, x5, x6⟩ := hX.2.1 c hc
  intro f
  induction f with
  | zero =>
    intro d fu h1 h2 h3
    obtain ⟨fu, rfl⟩ : ∃ g, fu = g + 1 := ⟨fu - 1, by omega⟩
    have hd : d = 56 := by omega
    subst hd
    unfold f_X0_strengthAt_19
    rw [oi_p (show (56 : Int32) ≤ nI 56 from by decide), og_p (nI_ne0 (by omega) (by omega)), x4, x5]
    rfl
  | succ f ih =>
    intro d fu h1 h2 h3
    obtain ⟨fu, rfl⟩ : ∃ g, fu = g + 1 := ⟨fu - 1, by omega⟩
    unfold f_X0_strengthAt_19 dst
    have hdd : d * d ≤ 56 * 56 := Nat.mul_le_mul (by omega) (by omega)
    rw [oi_n (show ¬ (56 : Int32) ≤ nI d from nI_ge (b := 56) (by omega) (by omega)), nI_mul]
    by_cases hqd : q ≤ d * d
    · rw [oi_p (nI_le hqd (by omega)), if_pos hqd, og_p (nI_ne0 (by omega) (by omega)), x4, x5]
      rfl
    · rw [oi_n (nI_ge (by omega) (by omega)), if_neg hqd, nI_1]
      exact ih (d + 1) fu (by omega) (by omega) (by omega)
theorem x_str (hW : WF M) (hX : RX n V M) {c x y : Nat} (hc : c < M 0 0) (hx : x < 40) (hy : y < 40) : f_X0_strengthAt n V c (nI x) (nI y) (nI (M 0 4)) = some (lim M c x y) := by
  have h4 := hW.1.2.2.2.2
  unfold f_X0_strengthAt lim
  by_cases h : M 0 4 ≤ 20
  · rw [oi_p (show nI (M 0 4) ≤ 20 from nI_le (b := 20) h (by omega)), if_pos h, x_sq hW hX hc hx hy, ob_s]
    exact x_lim hW hX hc (far_le hW hc hx hy) 55 1 FU rfl (by omega) (by unfold FU; omega)
  · rw [oi_n (show ¬ nI (M 0 4) ≤ 20 from nI_ge (a := 20) (by omega) (by omega)), if_neg h]
theorem t_lim (hW : WF M) (hT : RT T M) {c x y : Nat} (hc : c < M 0 0) (hx : x < 40) (hy : y < 40) : ∀ (f d fu : Nat), d + f = 56 → 1 ≤ d → f < fu → f_X4_limitAt_14 T fu (nI c) (nI x) (nI y) (nI d) = some (limv M c (dst (far M c x y) f d)) := by
  obtain ⟨x1, x2, x3, x4, x5, x6⟩ := hT.2.1 c hc
  have g := nI_in (wfc_5 hW hc) (by omega)
  have hf := far_le hW hc hx hy
  have key : ∀ d, 1 ≤ d → d < 100 → og (¬ (nI c < 0 ∨ 5 ≤ (nI c).toNatClampNeg)) (og (¬ nI d = 0) (og (¬ (nI c < 0 ∨ 5 ≤ (nI c).toNatClampNeg)) (oi ((T.2.1 4 (nI c).toNatClampNeg) ≤ ((T.2.1 5 (nI c).toNatClampNeg) / nI d)) (og (¬ (nI c < 0 ∨ 5 ≤ (nI c).toNatClampNeg)) (some (((T.2.1 4 (nI c).toNatClampNeg) * (100 - (3 * (T.1 26)))) / 100))) (og (¬ (nI c < 0 ∨ 5 ≤ (nI c).toNatClampNeg)) (og (¬ nI d = 0) (some ((((T.2.1 5 (nI c).toNatClampNeg) / nI d) * (100 - (3 * (T.1 26)))) / 100))))))) = some (limv M c d) := by
    intro d h1 h2
    rw [og_p g, og_p (nI_ne0 h1 (by omega)), og_p g, og_p g, og_p g, og_p (nI_ne0 h1 (by omega)), nI_clamp (Nat.lt_trans (wfc_5 hW hc) (by omega)), x4, x5, hT.1.2.2.2.1]
    unfold limv
    by_cases q : nI (M 5 c) / nI d < nI (M 4 c)
    · rw [if_pos q, oi_n (fun r => by rw [i_lt] at q; rw [i_le] at r; omega)]
    · rw [if_neg q, oi_p (by rw [i_lt] at q; rw [i_le]; omega)]
  intro f
  induction f with
  | zero =>
    intro d fu h1 h2 h3
    obtain ⟨fu, rfl⟩ : ∃ g, fu = g + 1 := ⟨fu - 1, by omega⟩
    have hd : d = 56 := by omega
    subst hd
    unfold f_X4_limitAt_14
    rw [t_aw hW hT hc hx hy, ob_s, nI_mul, oi_p (nI_le (by omega) (by omega))]
    exact key 56 (by omega) (by omega)
  | succ f ih =>
    intro d fu h1 h2 h3
    obtain ⟨fu, rfl⟩ : ∃ g, fu = g + 1 := ⟨fu - 1, by omega⟩
    have hdd : d * d ≤ 56 * 56 := Nat.mul_le_mul (by omega) (by omega)
    unfold f_X4_limitAt_14 dst
    rw [t_aw hW hT hc hx hy, ob_s, nI_mul]
    by_cases hqd : far M c x y ≤ d * d
    · rw [oi_p (nI_le hqd (by omega)), if_pos hqd]
      exact key d h2 (by omega)
    · rw [oi_n (nI_ge (by omega) (by omega)), if_neg hqd, nI_1]
      exact ih (d + 1) fu (by omega) (by omega) (by omega)
theorem t_str (hW : WF M) (hT : RT T M) {c x y : Nat} (hc : c < M 0 0) (hx : x < 40) (hy : y < 40) : f_X4_limitAt T (nI c) (nI x) (nI y) = some (lim M c x y) := by
  have h4 := hW.1.2.2.2.2
  unfold f_X4_limitAt lim
  rw [hT.1.2.2.2.1]
  by_cases h : M 0 4 ≤ 20
  · rw [oi_p (show nI (M 0 4) ≤ 20 from nI_le (b := 20) h (by omega)), if_pos h]
    exact t_lim hW hT hc hx hy 55 1 FU rfl (by omega) (by unfold FU; omega)
  · rw [oi_n (show ¬ nI (M 0 4) ≤ 20 from nI_ge (a := 20) (by omega) (by omega)), if_neg h]
end Q3
