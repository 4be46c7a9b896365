theorem sm_hours (g : Nat → Nat) : ∀ b, sm (fun m => g (m / 60)) (60 * b) = 60 * sm g b := by
  intro b
  induction b with
  | zero => rfl
  | succ b ih =>
    rw [Nat.mul_succ, sm_app, ih, sm_congr (g := fun _ => g b) 60 (fun i hi => by
      show g ((60 * b + i) / 60) = g b
      rw [show (60 * b + i) / 60 = b by omega])]
    show 60 * sm g b + sm (fun _ => g b) 60 = 60 * (sm g b + g b)
    have : ∀ k, sm (fun _ => g b) k = k * g b := by
      intro k
      induction k with
      | zero => rw [Nat.zero_mul]; rfl
      | succ k ih2 =>
        show sm (fun _ => g b) k + g b = _
        rw [ih2, Nat.succ_mul]
    rw [this 60]
    omega
def bit1 (N h : Nat) : Nat := if N.testBit h then 1 else 0
theorem bit1_e (N h : Nat) : N / 2 ^ h % 2 = bit1 N h := by
  unfold bit1
  rw [Nat.testBit_eq_decide_div_mod_eq]
  rcases Nat.mod_two_eq_zero_or_one (N / 2 ^ h) with e | e <;> simp [e]
theorem bc24 {N : Nat} (hN : N < 2 ^ 24) : f_J6_bitCount_0f7a4 (nI N) = some (nI (sm (bit1 N) 24)) := by
  rw [bc32 (by omega), sm_congr (g := bit1 N) 32 (fun i _ => bit1_e N i)]
  rw [show sm (bit1 N) 32 = sm (bit1 N) 24 from sm_tail 24 8 (fun i h1 _ => by
    rw [← bit1_e, Nat.div_eq_of_lt (Nat.lt_of_lt_of_le hN (Nat.pow_le_pow_right (by decide) h1))])]
theorem sm_bit_le (N : Nat) : ∀ k, sm (bit1 N) k ≤ k := by
  intro k
  induction k with
  | zero => exact Nat.le_refl _
  | succ k ih =>
    have : bit1 N k ≤ 1 := by unfold bit1; split <;> omega
    show sm (bit1 N) k + bit1 N k ≤ k + 1
    omega
section Q26
variable {n : Nat → Nat} {V : XV} {T : RV} {M : MD}
theorem x_allow (hW : WF M) (hX : RX n V M) {c : Nat} (hc : c < M 0 0) : f_X0_minutesAllowed n V c = some (nI (sm (bit1 (M 6 c)) 24 * 60)) := by
  unfold f_X0_minutesAllowed
  rw [(hX.2.1 c hc).2.2.2.2.2, bc24 (hW.2.1 c hc).2.2.2.2.2.2.2.2, ob_s, show (60 : Int32) = nI 60 from rfl, nI_mul]
theorem t_permd4 (hW : WF M) (hT : RT T M) {c : Nat} (hc : c < M 0 0) : ∀ (k h fu : Nat), h + k = 24 → k < fu → f_X4_permitted_4 T fu (nI c) (nI (sm (bit1 (M 6 c)) h)) (nI h) = some (nI (sm (bit1 (M 6 c)) 24)) := by
  intro k
  induction k with
  | zero =>
    intro h fu h1 h2
    obtain ⟨fu, rfl⟩ : ∃ g, fu = g + 1 := ⟨fu - 1, by omega⟩
    unfold f_X4_permitted_4
    rw [oi_p (show (24 : Int32) ≤ nI h from nI_le (a := 24) (by omega) (by omega)), show h = 24 by omega]
  | succ k ih =>
    intro h fu h1 h2
    obtain ⟨fu, rfl⟩ : ∃ g, fu = g + 1 := ⟨fu - 1, by omega⟩
    have hn := ih (h + 1) fu (by omega) (by omega)
    rw [show sm (bit1 (M 6 c)) (h + 1) = sm (bit1 (M 6 c)) h + bit1 (M 6 c) h from rfl] at hn
    obtain ⟨g1, g2⟩ := t_perm hW hT hc (show h < 24 by omega)
    unfold f_X4_permitted_4
    rw [oi_n (show ¬ (24 : Int32) ≤ nI h from nI_ge (b := 24) (by omega) (by omega)), og_p g1, g2, nI_1, nI_1, Int32.add_zero]
    by_cases q : (M 6 c).testBit h = true
    · rw [if_pos q, oi_n e10]
      rw [show bit1 (M 6 c) h = 1 from if_pos q] at hn
      exact hn
    · rw [if_neg q, oi_p rfl]
      rw [show bit1 (M 6 c) h = 0 from if_neg q] at hn
      exact hn
theorem t_permd (hW : WF M) (hT : RT T M) {c : Nat} (hc : c < M 0 0) : f_X4_permitted T (nI c) = some (nI (sm (bit1 (M 6 c)) 24)) := by
  have h := t_permd4 hW hT hc 24 0 FU rfl (by unfold FU; omega)
  unfold f_X4_permitted
  exact h
/-- a minute with a permit -/
def al (M : MD) (c m : Nat) : Nat := bit1 (M 6 c) (m / 60)
def lifw (M : MD) (c i m : Nat) : Nat := if M 19 i ≤ m ∧ m < M 19 i + M 15 i then al M c m else 0
def liW (M : MD) (c i : Nat) : Nat := if i < M 0 1 ∧ onc M i c then sm (lifw M c i) 1440 else 0
theorem x_caw51 (KK : Int32 → Int32 → Int32 → Int32 → Option Int32) (hW : WF M) (hX : RX n V M) {c i : Nat} (hc : c < M 0 0) (hi : i < M 0 1) (hs : M 17 i ≠ 119) : ∀ (d m a fu : Nat), m + d = M 19 i + M 15 i → M 19 i ≤ m → d < fu → f_X3_countAllowedWork_51 KK n V fu (nI c) c (nI (a + sm (lifw M c i) m)) 40 (nI i) i (nI m) = KK (nI c) (nI (a + sm (lifw M c i) (M 19 i + M 15 i))) 40 (nI i) := by
  have he := ((hW.2.2.1 i hi).2.2.2.2.2.2.2.2.2.2 hs).2
  intro d
  induction d with
  | zero =>
    intro m a fu h1 h2 h3
    obtain ⟨fu, rfl⟩ : ∃ g, fu = g + 1 := ⟨fu - 1, by omega⟩
    unfold f_X3_countAllowedWork_51
    rw [x_end hX hi hs, ob_s, oi_p (nI_le (by omega) (by omega)), show m = M 19 i + M 15 i by omega]
  | succ d ih =>
    intro m a fu h1 h2 h3
    obtain ⟨fu, rfl⟩ : ∃ g, fu = g + 1 := ⟨fu - 1, by omega⟩
    have hn := ih (m + 1) a fu (by omega) (by omega) (by omega)
    rw [show sm (lifw M c i) (m + 1) = sm (lifw M c i) m + al M c m by
      show sm (lifw M c i) m + lifw M c i m = _
      unfold lifw
      rw [if_pos (show M 19 i ≤ m ∧ m < M 19 i + M 15 i by omega)]] at hn
    unfold f_X3_countAllowedWork_51
    rw [x_end hX hi hs, ob_s, oi_n (nI_ge (by omega) (by omega)), show nI m / 60 = nI (m / 60) from nI_div (b := 60) (by omega) (by omega) (by omega), x_hour hW hX hc (show m / 60 < 24 by omega), ob_s, nI_1, nI_1]
    by_cases q : (M 6 c).testBit (m / 60) = true
    · rw [if_pos q, oi_n e10]
      rw [show al M c m = 1 from if_pos q] at hn
      exact hn
    · rw [if_neg q, oi_p rfl]
      rw [show al M c m = 0 from if_neg q] at hn
      exact hn
theorem x_caw16 (hW : WF M) (hX : RX n V M) {c : Nat} (hc : c < M 0 0) : ∀ (K i fu : Nat), i + K = 40 → K < fu → f_X3_countAllowedWork_16 n V fu (nI c) c (nI (sm (liW M c) i)) 40 (nI i) = some (nI (sm (liW M c) 40)) := by
  intro K
  induction K with
  | zero =>
    intro i fu h1 h2
    obtain ⟨fu, rfl⟩ : ∃ g, fu = g + 1 := ⟨fu - 1, by omega⟩
    obtain rfl : i = 40 := by omega
    unfold f_X3_countAllowedWork_16
    rw [oi_p (l40 (by omega) (by omega))]
  | succ K ih =>
    intro i fu h1 h2
    obtain ⟨fu, rfl⟩ : ∃ g, fu = g + 1 := ⟨fu - 1, by omega⟩
    have hn := ih (i + 1) fu (by omega) (by omega)
    rw [show sm (liW M c) (i + 1) = sm (liW M c) i + liW M c i from rfl] at hn
    unfold f_X3_countAllowedWork_16
    rw [oi_n (g40 (by omega)), og_p (nI_in (by omega) (by omega)), xr1 hX (by omega), nI_1]
    by_cases hi : i < M 0 1
    · rw [if_pos hi, oc_s (rx_n1 hX hi), x_on hW hX hi hc, ob_s]
      by_cases q : onc M i c
      · rw [if_pos q, oi_n e10, ((hX.2.2.1 i hi).2.2.2.2.2.2.2.2 q.1).2]
        have he := ((hW.2.2.1 i hi).2.2.2.2.2.2.2.2.2.2 q.1).2
        have hl := (hW.2.2.1 i hi).2.2.2.2.2.2.2.1
        have z0 : sm (lifw M c i) (M 19 i) = 0 := sm_zero _ (fun m hm => if_neg (by omega))
        have z1 : sm (lifw M c i) 1440 = sm (lifw M c i) (M 19 i + M 15 i) := by
          rw [show 1440 = (M 19 i + M 15 i) + (1440 - (M 19 i + M 15 i)) by omega]
          exact sm_tail _ _ (fun m hm _ => if_neg (by omega))
        rw [show liW M c i = sm (lifw M c i) (M 19 i + M 15 i) by unfold liW; rw [if_pos ⟨hi, q⟩, z1]] at hn
        have h := x_caw51 (fun (e_14 : Int32) (e_15 : Int32) (e_16 : Int32) (e_17 : Int32) => f_X3_countAllowedWork_16 n V fu e_14 c e_15 e_16 (e_17 + 1)) hW hX hc hi q.1 (M 15 i) (M 19 i) (sm (liW M c) i) FU rfl (Nat.le_refl _) (by unfold FU; omega)
        rw [z0, Nat.add_zero] at h
        refine Eq.trans h ?_
        show f_X3_countAllowedWork_16 n V fu (nI c) c (nI (sm (liW M c) i + sm (lifw M c i) (M 19 i + M 15 i))) 40 (nI i + 1) = _
        rw [nI_1]
        exact hn
      · rw [if_neg q, oi_p rfl]
        rw [show liW M c i = 0 from if_neg (fun h => q h.2), Nat.add_zero] at hn
        exact hn
    · rw [if_neg hi, oc_n]
      rw [show liW M c i = 0 from if_neg (fun h => hi h.1), Nat.add_zero] at hn
      exact hn
/-- the minutes with a permit, without a lift a0 each, with one a1 each -/
def pq (M : MD) (c a0 a1 m : Nat) : Nat := if (M 6 c).testBit (m / 60) = true then (if atk M c m (M 0 1) 0 < 0 then a0 else a1) else 0
theorem caw_eq (hW : WF M) (c : Nat) : sm (liW M c) 40 = sm (pq M c 0 1) 1440 := by
  have h40 := hW.1.2.1
  have e1 : sm (liW M c) 40 = sm (fun i => sm (fun m => if lm M m i ∧ M 18 i = c then al M c m else 0) 1440) 40 := sm_congr 40 (fun i _ => by
    unfold liW
    by_cases q : i < M 0 1 ∧ onc M i c
    · rw [if_pos q]
      refine sm_congr 1440 (fun m _ => ?_)
      unfold lifw
      by_cases r : M 19 i ≤ m ∧ m < M 19 i + M 15 i
      · rw [if_pos r, if_pos ⟨⟨q.1, q.2.1, by omega, r.2⟩, q.2.2⟩]
      · rw [if_neg r, if_neg (fun h => r (by have := h.1.2.2; omega))]
    · rw [if_neg q]
      exact (sm_zero _ (fun m _ => if_neg (fun h => q ⟨h.1.1, h.1.2.1, h.2⟩))).symm)
  rw [e1, sm_swap (fun i m => if lm M m i ∧ M 18 i = c then al M c m else 0)]
  refine sm_congr _ (fun m _ => ?_)
  unfold pq
  rcases at_or M c m with ⟨e, h⟩ | ⟨j, hj, hc, e⟩
  · rw [e, if_pos (show (-1 : Int32) < 0 by decide), ite_self]
    exact sm_zero _ (fun i _ => if_neg (fun q => h i q.1 q.2))
  · have := hj.1
    rw [e, if_neg (nI_pos (by omega))]
    exact sm_one (show j < 40 by omega) (if_pos ⟨hj, hc⟩) (fun i _ hn => if_neg (fun q => hn (lm_uniq hW q.1 hj (q.2.trans hc.symm))))
theorem x_caw (hW : WF M) (hX : RX n V M) {c : Nat} (hc : c < M 0 0) : f_X3_countAllowedWork n V (nI c) c = some (nI (sm (pq M c 0 1) 1440)) := by
  have h := x_caw16 hW hX hc 40 0 FU rfl (by unfold FU; omega)
  rw [caw_eq hW] at h
  unfold f_X3_countAllowedWork
  exact h
theorem t_pm5 (hW : WF M) (hT : RT T M) {c a0 a1 : Nat} {w : Int32} (hc : c < M 0 0) (h0 : (0 = w ∧ a0 = 1) ∨ (¬ 0 = w ∧ a0 = 0)) (h1 : (1 = w ∧ a1 = 1) ∨ (¬ 1 = w ∧ a1 = 0)) : ∀ (k m fu : Nat), m + k = 1440 → k < fu → f_X4_permittedMinutes_5 T fu (nI c) w (nI (sm (pq M c a0 a1) m)) (nI m) = some (nI (sm (pq M c a0 a1) 1440)) := by
  have h5 := hW.1.1
  have h40 := hW.1.2.1
  intro k
  induction k with
  | zero =>
    intro m fu h2 h3
    obtain ⟨fu, rfl⟩ : ∃ g, fu = g + 1 := ⟨fu - 1, by omega⟩
    unfold f_X4_permittedMinutes_5
    rw [oi_p (show (1440 : Int32) ≤ nI m from nI_le (a := 1440) (by omega) (by omega)), show m = 1440 by omega]
  | succ k ih =>
    intro m fu h2 h3
    obtain ⟨fu, rfl⟩ : ∃ g, fu = g + 1 := ⟨fu - 1, by omega⟩
    have hn := ih (m + 1) fu (by omega) (by omega)
    rw [show sm (pq M c a0 a1) (m + 1) = sm (pq M c a0 a1) m + pq M c a0 a1 m from rfl] at hn
    obtain ⟨g1, g2⟩ := t_perm hW hT hc (show m / 60 < 24 by omega)
    unfold f_X4_permittedMinutes_5
    rw [oi_n (show ¬ (1440 : Int32) ≤ nI m from nI_ge (b := 1440) (by omega) (by omega)), show nI m / 60 = nI (m / 60) from nI_div (b := 60) (by omega) (by omega) (by omega), og_p g1, g2, nI_1, nI_1, Int32.add_zero]
    by_cases q : (M 6 c).testBit (m / 60) = true
    · rw [if_pos q, oi_n e10, t_at hW hT (show c < 1000 by omega) (show m < 1440 by omega), ob_s]
      by_cases r : atk M c m (M 0 1) 0 < 0
      · rw [show pq M c a0 a1 m = a0 by unfold pq; rw [if_pos q, if_pos r]] at hn
        rw [oi_p r]
        rcases h0 with ⟨e, ea⟩ | ⟨e, ea⟩
        · rw [oi_p e]; subst ea; exact hn
        · rw [oi_n e]; subst ea; exact hn
      · rw [show pq M c a0 a1 m = a1 by unfold pq; rw [if_pos q, if_neg r]] at hn
        rw [oi_n r]
        rcases h1 with ⟨e, ea⟩ | ⟨e, ea⟩
        · rw [oi_p e]; subst ea; exact hn
        · rw [oi_n e]; subst ea; exact hn
    · rw [if_neg q, oi_p rfl]
      rw [show pq M c a0 a1 m = 0 from if_neg q] at hn
      exact hn
theorem t_free (hW : WF M) (hT : RT T M) {c : Nat} (hc : c < M 0 0) : f_X4_permittedMinutes T (nI c) 0 = some (nI (sm (pq M c 1 0) 1440)) := by
  have h := t_pm5 hW hT (a0 := 1) (a1 := 0) (w := 0) hc (Or.inl ⟨rfl, rfl⟩) (Or.inr ⟨by decide, rfl⟩) 1440 0 FU rfl (by unfold FU; omega)
  unfold f_X4_permittedMinutes
  exact h
theorem t_work (hW : WF M) (hT : RT T M) {c : Nat} (hc : c < M 0 0) : f_X4_permittedMinutes T (nI c) 1 = some (nI (sm (pq M c 0 1) 1440)) := by
  have h := t_pm5 hW hT (a0 := 0) (a1 := 1) (w := 1) hc (Or.inr ⟨by decide, rfl⟩) (Or.inl ⟨rfl, rfl⟩) 1440 0 FU rfl (by unfold FU; omega)
  unfold f_X4_permittedMinutes
  exact h
theorem pq_sum (M : MD) (c : Nat) : sm (pq M c 0 1) 1440 + sm (pq M c 1 0) 1440 = sm (bit1 (M 6 c)) 24 * 60 := by
  rw [← sm_addf, sm_congr (g := fun m => bit1 (M 6 c) (m / 60)) 1440 (fun m _ => by
    show pq M c 0 1 m + pq M c 1 0 m = bit1 (M 6 c) (m / 60)
    unfold pq bit1
    by_cases q : (M 6 c).testBit (m / 60) = true
    · rw [if_pos q, if_pos q, if_pos q]
      split <;> rfl
    · rw [if_neg q, if_neg q, if_neg q])]
  have h := sm_hours (bit1 (M 6 c)) 24
  rw [show 60 * 24 = 1440 from rfl] at h
  rw [h, Nat.mul_comm]
theorem st_28 (hR : Rel n V T) : lst_28 Rel n V T := by
  obtain ⟨M, hW, hX, hT, hA⟩ := hR
  intro out p
  have h5 := hW.1.1
  rcases p_num p (M 0 0) (by omega) with ⟨c, hc, rfl⟩ | h
  · have es := pq_sum M c
    refine ⟨(0, n, V, vp_updL out (0 : Int32).toNatClampNeg (nI (sm (pq M c 1 0) 1440)).toInt64), (nI (sm (pq M c 1 0) 1440), rsc T 27 0), ?_, ?_, rfl, fun _ => u0 (f := out), Rel.of27 hW hX hT hA⟩
    · unfold f_L_freeMinutes f_X3_freeMinutes
      rw [x_crk hW hX hc, ob_s, oc_s (rx_n0 hX hc), x_allow hW hX hc, ob_s, x_caw hW hX hc, ob_s, ob_s, oi_p rfl, ← es, ← nI_add, Int32.add_comm, Int32.add_sub_cancel]
    · unfold f_X4_freeMinutes
      rw [t_body hW hT hc, ob_s, oi_p rfl, t_free hW (T := rsc T 27 0) (RT_27 hT) hc, ob_s]
  · refine ⟨(1, n, V, out), (0, rsc T 27 1), ?_, ?_, rfl, fun h => absurd h e10, Rel.of27 hW hX hT hA⟩
    · unfold f_L_freeMinutes f_X3_freeMinutes
      rw [x_crn hW hX h, ob_s, oc_n, ob_s, oi_n n30, oi_p rfl]
    · unfold f_X4_freeMinutes
      rw [t_nobody hW hT h, ob_s, oi_n e10]
end Q26
