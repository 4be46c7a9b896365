section Q6
variable {n : Nat → Nat} {V : XV} {T : RV} {M : MD}
theorem x_hour (hW : WF M) (hX : RX n V M) {c h : Nat} (hc : c < M 0 0) (hh : h < 24) : f_X0_hasHour n V c (nI h) = some (if (M 6 c).testBit h then 1 else 0) := by
  obtain ⟨-, -, -, -, -, -, -, -, hm⟩ := hW.2.1 c hc
  have e := bit_sh hm hh
  unfold f_X0_hasHour
  rw [(hX.2.1 c hc).2.2.2.2.2]
  by_cases q : (M 6 c).testBit h = true
  · rw [if_pos q] at e ⊢
    rw [e, oi_p rfl]
  · rw [if_neg q] at e ⊢
    rw [e, oi_n (by decide)]
/-- the last hour of k hours from s on that has no permit -/
def lcl (M : MD) (c s : Nat) : Nat → Option Nat
  | 0 => none
  | k + 1 => if (M 6 c).testBit (s + k) then lcl M c s k else some (s + k)
def lcv (o : Option Nat) : Int32 := match o with
  | none => -1
  | some h => nI h
/-- each hour from s on and before e has a permit -/
abbrev okh (M : MD) (c s e : Nat) : Prop := ∀ j, j < e → s ≤ j → (M 6 c).testBit j = true
theorem lcl_none (M : MD) (c s : Nat) : ∀ k, lcl M c s k = none ↔ okh M c s (s + k) := by
  intro k
  induction k with
  | zero => exact ⟨fun _ j h1 h2 => by omega, fun _ => rfl⟩
  | succ k ih =>
    unfold lcl
    by_cases q : (M 6 c).testBit (s + k) = true
    · rw [if_pos q, ih]
      refine ⟨fun h j h1 h2 => ?_, fun h j h1 h2 => h j (by omega) h2⟩
      by_cases e : j = s + k
      · rw [e]; exact q
      · exact h j (by omega) h2
    · rw [if_neg q]
      exact ⟨fun h => (by cases h), fun h => absurd (h (s + k) (by omega) (by omega)) q⟩
theorem lcl_some (M : MD) (c s : Nat) : ∀ k h, lcl M c s k = some h → s ≤ h ∧ h < s + k ∧ (M 6 c).testBit h = false := by
  intro k
  induction k with
  | zero => intro h e; cases e
  | succ k ih =>
    intro h e
    unfold lcl at e
    by_cases q : (M 6 c).testBit (s + k) = true
    · rw [if_pos q] at e
      obtain ⟨h1, h2, h3⟩ := ih h e
      exact ⟨h1, by omega, h3⟩
    · rw [if_neg q] at e
      cases e
      exact ⟨by omega, by omega, by simpa using q⟩
theorem nI_sub1 (a : Nat) : nI (a + 1) - 1 = nI a := by rw [nI_m1 (by omega)]; rfl
theorem x_lch7 (hW : WF M) (hX : RX n V M) {c st : Nat} (hc : c < M 0 0) (hst : st ≤ 2000) : ∀ (k fu : Nat), st / 60 + k ≤ 24 → k < fu → f_X0_lastClosedHour_7 n V fu c (nI st) (nI (st / 60 + k) - 1) = some (lcv (lcl M c (st / 60) k)) := by
  have e60 : nI st / 60 = nI (st / 60) := nI_div (b := 60) (by omega) (by omega) (by omega)
  intro k
  induction k with
  | zero =>
    intro fu h1 h2
    obtain ⟨fu, rfl⟩ : ∃ g, fu = g + 1 := ⟨fu - 1, by omega⟩
    unfold f_X0_lastClosedHour_7
    rw [e60, oi_p]
    · rfl
    · generalize st / 60 = s at h1 ⊢
      rw [Nat.add_zero] at h1 ⊢
      cases s with
      | zero => decide
      | succ s => rw [nI_sub1]; exact nI_lt (by omega) (by omega)
  | succ k ih =>
    intro fu h1 h2
    obtain ⟨fu, rfl⟩ : ∃ g, fu = g + 1 := ⟨fu - 1, by omega⟩
    unfold f_X0_lastClosedHour_7 lcl
    rw [e60, show nI (st / 60 + (k + 1)) - 1 = nI (st / 60 + k) from nI_sub1 _, oi_n (nI_nlt (by omega) (by omega)), x_hour hW hX hc (by omega), ob_s]
    by_cases q : (M 6 c).testBit (st / 60 + k) = true
    · rw [if_pos q, if_pos q, oi_n e10, ← Int32.sub_eq_add_neg]
      exact ih fu (by omega) (by omega)
    · rw [if_neg q, if_neg q, oi_p rfl]
      rfl
/-- the hours that the minutes from a on, b of them, lie in -/
abbrev hrs (a b : Nat) : Nat := (a + b - 1) / 60 + 1 - a / 60
theorem hrs_e {a b : Nat} (hb : 1 ≤ b) : a / 60 + hrs a b = (a + b - 1) / 60 + 1 := by
  have : a / 60 ≤ (a + b - 1) / 60 := Nat.div_le_div_right (by omega)
  unfold hrs
  omega
theorem x_lch (hW : WF M) (hX : RX n V M) {c a b : Nat} (hc : c < M 0 0) (hb : 1 ≤ b) (he : a + b ≤ 1440) : f_X0_lastClosedHour n V c (nI a) (nI (a + b)) = some (lcv (lcl M c (a / 60) (hrs a b))) := by
  unfold f_X0_lastClosedHour
  have e1 : (nI (a + b) - 1) / 60 = nI (a / 60 + hrs a b) - 1 := by
    rw [nI_m1 (by omega), show nI (a + b - 1) / 60 = nI ((a + b - 1) / 60) from nI_div (b := 60) (by omega) (by omega) (by omega), hrs_e hb, nI_sub1]
  rw [e1]
  have h2 : (a + b - 1) / 60 < 24 := by omega
  have h3 := hrs_e (a := a) hb
  exact x_lch7 hW hX hc (by omega) _ _ (by omega) (by unfold FU; omega)
theorem t_perm (hW : WF M) (hT : RT T M) {c h : Nat} (hc : c < M 0 0) (hh : h < 24) : (¬ ((24 * nI c + nI h) < 0 ∨ 120 ≤ (24 * nI c + nI h).toNatClampNeg)) ∧ T.2.1 6 (24 * nI c + nI h).toNatClampNeg = if (M 6 c).testBit h then 1 else 0 := by
  have e : 24 * nI c + nI h = nI (24 * c + h) := by rw [show (24 : Int32) = nI 24 from rfl, nI_mul, nI_add]
  have h5 := wfc_5 hW hc
  rw [e]
  refine ⟨nI_in (by omega) (by omega), ?_⟩
  rw [nI_clamp (by omega)]
  exact (hT.2.1 c hc).2.2.2.2.2 h hh
theorem t_hp6 (hW : WF M) (hT : RT T M) {c a b : Nat} (hc : c < M 0 0) (hb : 1 ≤ b) (he : a + b ≤ 1440) : ∀ (k h fu : Nat), h + k = (a + b - 1) / 60 + 1 → k < fu → f_X4_hasPermit_6 T fu (nI c) (nI a) (nI b) (nI h) = some (if okh M c h ((a + b - 1) / 60 + 1) then 1 else 0) := by
  have e1 : (nI a + nI b - 1) / 60 = nI ((a + b - 1) / 60) := by
    rw [nI_add, nI_m1 (by omega)]
    exact nI_div (b := 60) (by omega) (by omega) (by omega)
  have h24 : (a + b - 1) / 60 < 24 := by omega
  generalize (a + b - 1) / 60 = e at e1 h24 ⊢
  intro k
  induction k with
  | zero =>
    intro h fu h1 h2
    obtain ⟨fu, rfl⟩ : ∃ g, fu = g + 1 := ⟨fu - 1, by omega⟩
    unfold f_X4_hasPermit_6
    rw [e1, oi_p (nI_lt (by omega) (by omega)), if_pos (fun j h3 h4 => by omega)]
  | succ k ih =>
    intro h fu h1 h2
    obtain ⟨fu, rfl⟩ : ∃ g, fu = g + 1 := ⟨fu - 1, by omega⟩
    obtain ⟨g1, g2⟩ := t_perm hW hT hc (show h < 24 by omega)
    unfold f_X4_hasPermit_6
    rw [e1, oi_n (nI_nlt (by omega) (by omega)), og_p g1, g2]
    by_cases q : (M 6 c).testBit h = true
    · rw [if_pos q, oi_n e10, nI_1, ih (h + 1) fu (by omega) (by omega)]
      have : okh M c (h + 1) (e + 1) ↔ okh M c h (e + 1) := by
        refine ⟨fun r j h3 h4 => ?_, fun r j h3 h4 => r j h3 (by omega)⟩
        by_cases z : j = h
        · rw [z]; exact q
        · exact r j h3 (by omega)
      by_cases r : okh M c h (e + 1)
      · rw [if_pos r, if_pos (this.mpr r)]
      · rw [if_neg r, if_neg (fun x => r (this.mp x))]
    · rw [if_neg q, oi_p rfl, if_neg (fun r => q (r h (by omega) (by omega)))]
theorem t_hp (hW : WF M) (hT : RT T M) {c a b : Nat} (hc : c < M 0 0) (hb : 1 ≤ b) (he : a + b ≤ 1440) : f_X4_hasPermit T (nI c) (nI a) (nI b) = some (if okh M c (a / 60) ((a + b - 1) / 60 + 1) then 1 else 0) := by
  unfold f_X4_hasPermit
  rw [show nI a / 60 = nI (a / 60) from nI_div (b := 60) (by omega) (by omega) (by omega)]
  exact t_hp6 hW hT hc hb he (hrs a b) _ _ (hrs_e hb) (by unfold FU hrs; omega)
theorem lcv_ne {o : Option Nat} (h : ∀ x, o = some x → x < 100) : (lcv o = -1 ↔ o = none) := by
  cases o with
  | none => exact ⟨fun _ => rfl, fun _ => rfl⟩
  | some x =>
    refine ⟨fun e => ?_, fun e => (by cases e)⟩
    have h1 : nI x = -1 := e
    have h2 := congrArg Int32.toInt h1
    rw [nI_toInt (by have := h x rfl; omega)] at h2
    have : (-1 : Int32).toInt = -1 := by decide
    omega
/-- a lift that has a crane lies in a minute from a on and before b -/
abbrev mts (M : MD) (k a b : Nat) : Prop := M 17 k ≠ 119 ∧ M 19 k < b ∧ a < M 19 k + M 15 k
theorem x_end (hX : RX n V M) {k : Nat} (hk : k < M 0 1) (hs : M 17 k ≠ 119) : f_X1_end n V k = some (nI (M 19 k + M 15 k)) := by
  obtain ⟨x1, x2, x3, x4, x5, x6, x7, x8, x9⟩ := hX.2.2.1 k hk
  unfold f_X1_end
  rw [(x9 hs).2, x6, nI_add]
theorem x_mts (hW : WF M) (hX : RX n V M) {k a b : Nat} (hk : k < M 0 1) (ha : a ≤ 10000) (hb : b ≤ 10000) : f_X1_meets n V k (nI a) (nI b) = some (if mts M k a b then 1 else 0) := by
  obtain ⟨x1, x2, x3, x4, x5, x6, x7, x8, x9⟩ := hX.2.2.1 k hk
  obtain ⟨l1, l2, l3, l4, l5, l6, l7, l8, l9, l10, l11⟩ := hW.2.2.1 k hk
  unfold f_X1_meets
  rw [x_has hW hX hk, ob_s]
  by_cases hs : M 17 k = 119
  · rw [if_pos hs, oi_p rfl, if_neg (fun h => h.1 hs)]
  · have l11 := l11 hs
    rw [if_neg hs, oi_n e10, (x9 hs).2]
    by_cases q : M 19 k < b
    · rw [oi_n (nI_ge q (by omega)), x_end hX hk hs, ob_s]
      by_cases r : a < M 19 k + M 15 k
      · rw [oi_n (nI_ge r (by omega)), if_pos ⟨hs, q, r⟩]
      · rw [oi_p (nI_le (by omega) (by omega)), if_neg (fun h => r h.2.2)]
    · rw [oi_p (nI_le (by omega) (by omega)), if_neg (fun h => q h.2.1)]
theorem t_mts (hW : WF M) (hT : RT T M) {k a b : Nat} (hk : k < M 0 1) (ha : a ≤ 10000) (hb : b ≤ 10000) : f_X4_isIn T (nI k) (nI a) (nI b) = some (if mts M k a (a + b) then 1 else 0) := by
  obtain ⟨x1, x2, x3, x4, x5, x6, x7, x8, x9⟩ := hT.2.2.2.1 k hk
  obtain ⟨l1, l2, l3, l4, l5, l6, l7, l8, l9, l10, l11⟩ := hW.2.2.1 k hk
  have g := nI_in (wfl_40 hW hk) (by omega)
  unfold f_X4_isIn
  rw [og_p g, og_p g, og_p g, og_p g, nI_clamp (Nat.lt_trans (wfl_40 hW hk) (by omega)), x8]
  by_cases hs : M 17 k = 119
  · rw [oi_p (show nI (M 17 k) = 119 from by rw [hs]; rfl), if_neg (fun h => h.1 hs)]
  · have l11 := l11 hs
    rw [oi_n (show ¬ nI (M 17 k) = 119 from nI_ne (b := 119) hs (wfl_stb hW hk) (by omega)), (x9 hs).2, x6, nI_add, nI_add]
    by_cases q : M 19 k < a + b
    · rw [oi_n (nI_ge q (by omega))]
      by_cases r : a < M 19 k + M 15 k
      · rw [oi_n (nI_ge r (by omega)), if_pos ⟨hs, q, r⟩]
      · rw [oi_p (nI_le (by omega) (by omega)), if_neg (fun h => r h.2.2)]
    · rw [oi_p (nI_le (by omega) (by omega)), if_neg (fun h => q h.2.1)]
end Q6
