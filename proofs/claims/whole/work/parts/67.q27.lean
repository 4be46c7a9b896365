theorem iN_or (a b : Nat) : nI a ||| nI b = nI (a ||| b) := by
  apply Int32.toBitVec_inj.1
  show BitVec.ofNat 32 a ||| BitVec.ofNat 32 b = BitVec.ofNat 32 (a ||| b)
  apply BitVec.eq_of_getLsbD_eq
  intro i hi
  simp [hi]
theorem boh : ∀ h, h < 24 → ∀ k, k < 25 → ((1 : Int32) <<< (nI k &&& 31) - 1) <<< (nI h &&& 31) = nI ((2 ^ k - 1) * 2 ^ h) := by decide +kernel
theorem msk_lt : ∀ h, h < 24 → ∀ k, k < 25 → h + k ≤ 24 → (2 ^ k - 1) * 2 ^ h < 2 ^ 24 := by decide +kernel
theorem msk_bit (h k j : Nat) : ((2 ^ k - 1) * 2 ^ h).testBit j = decide (h ≤ j ∧ j < h + k) := by
  rw [← Nat.shiftLeft_eq, Nat.testBit_shiftLeft, Nat.testBit_two_pow_sub_one]
  by_cases q : h ≤ j
  · by_cases r : j < h + k
    · simp [q, r, show j - h < k by omega]
    · simp [q, r, show ¬ j - h < k by omega]
  · simp [q]
/-- bits taken off a number below 2^24 -/
def off (N m : Nat) : Nat := N &&& (m ^^^ (2 ^ 24 - 1))
theorem off_bit (N m j : Nat) (hj : j < 24) : (off N m).testBit j = (N.testBit j && !m.testBit j) := by
  unfold off
  rw [Nat.testBit_and, Nat.testBit_xor, Nat.testBit_two_pow_sub_one]
  simp [hj]
theorem off_lt {N m : Nat} (hN : N < 2 ^ 24) : off N m < 2 ^ 24 := Nat.lt_of_le_of_lt Nat.and_le_left hN
theorem iN_off {N m : Nat} (hN : N < 2 ^ 24) : nI N &&& (nI m ^^^ (-1)) = nI (off N m) := by
  apply Int32.toBitVec_inj.1
  apply BitVec.eq_of_getLsbD_eq
  intro i hi
  have em : ((-1 : Int32).toBitVec).getLsbD i = true := by
    have : ∀ i, i < 32 → ((-1 : Int32).toBitVec).getLsbD i = true := by decide +kernel
    exact this i hi
  have e0 : ∀ z : Nat, (nI z).toBitVec.getLsbD i = z.testBit i := fun z => by
    show (BitVec.ofNat 32 z).getLsbD i = _
    rw [BitVec.getLsbD_ofNat]
    simp [hi]
  rw [Int32.toBitVec_and, Int32.toBitVec_xor, BitVec.getLsbD_and, BitVec.getLsbD_xor, em, e0, e0, e0]
  unfold off
  rw [Nat.testBit_and, Nat.testBit_xor, Nat.testBit_two_pow_sub_one]
  by_cases q : i < 24
  · simp [q]
  · have : N.testBit i = false := Nat.testBit_lt_two_pow (Nat.lt_of_lt_of_le hN (Nat.pow_le_pow_right (by decide) (by omega)))
    simp [this]
section Q27
variable {n : Nat → Nat} {V : XV} {T : RV} {M : MD}
theorem hours_ok {h k : Nat} (hh : h < 24) (hk : 1 ≤ k) (hs : h + k ≤ 24) : f_X3_areHours (nI h) (nI k) = some 1 := by
  unfold f_X3_areHours
  rw [show f_X3_isFrom 0 (nI h) 23 = some 1 from in_n0 (N := 23) hh (by omega), ob_s, oi_n e10, show (24 : Int32) - nI h = nI (24 - h) from nI_subn (a := 24) (by omega), show f_X3_isFrom 1 (nI k) (nI (24 - h)) = some 1 from in_ok (lo := 1) (nI_nlt (a := k) (b := 1) (by omega) (by omega)) (nI_nlt (by omega) (by omega)), ob_s, oi_n e10]
theorem span_ok (hW : WF M) (hT : RT T M) {c h k : Nat} (hc : c < M 0 0) (hh : h < 24) (hk : 1 ≤ k) (hs : h + k ≤ 24) : f_X4_isNoSpan T (nI c) (nI h) (nI k) = some (0, rsc T 27 0) := by
  unfold f_X4_isNoSpan
  rw [t_isc hW hT hc, ob_s, oi_p rfl, show f_X4_in (nI h) 0 23 = some 1 from in_n0 (N := 23) hh (by omega), ob_s, oi_n e10, show f_X4_in (nI k) 1 24 = some 1 from in_ok (lo := 1) (hi := 24) (nI_nlt (a := k) (b := 1) (by omega) (by omega)) (nI_nlt (a := 24) (b := k) (by omega) (by omega)), ob_s, oi_n e10, nI_add, oi_p (show nI (h + k) ≤ 24 from nI_le (b := 24) hs (by omega)), t_fl0, ob_s]
  exact if_pos (show (0 : Int32) &&& 1 = 0 by decide)
theorem span_no (hW : WF M) (hT : RT T M) {p q r : Int32} (h : p < 0 ∨ nI (M 0 0) ≤ p) : f_X4_isNoSpan T p q r = some (1, rsc T 27 1) := by
  unfold f_X4_isNoSpan
  rw [t_noc hW hT h, ob_s, oi_n e10, t_fl1, ob_s]
  exact if_pos (show (1 : Int32) &&& 1 = 1 by decide)
theorem hours_or (hW : WF M) (hT : RT T M) {c : Nat} (hc : c < M 0 0) (p q : Int32) : (∃ h k, h < 24 ∧ 1 ≤ k ∧ h + k ≤ 24 ∧ p = nI h ∧ q = nI k) ∨ (f_X3_areHours p q = some 0 ∧ f_X4_isNoSpan T (nI c) p q = some (1, rsc T 27 2)) := by
  have f2 : og ((1 : Int32) &&& 1 = 1) (some ((1 : Int32), rsc T 27 2)) = some (1, rsc T 27 2) := if_pos (by decide)
  rcases p_num p 24 (by omega) with ⟨h, hh, rfl⟩ | hp
  · have a1 : f_X3_isFrom 0 (nI h) 23 = some 1 := in_n0 (N := 23) hh (by omega)
    have a2 : f_X4_in (nI h) 0 23 = some 1 := a1
    have a3 : (24 : Int32) - nI h = nI (24 - h) := nI_subn (a := 24) (by omega)
    have bad : (q < 1 ∨ nI 25 ≤ q) → f_X3_areHours (nI h) q = some 0 ∧ f_X4_isNoSpan T (nI c) (nI h) q = some (1, rsc T 27 2) := by
      intro hq
      have h25 : q < 1 ∨ 24 < q := hq.imp id (fun z => by
        rw [i_le, nI_toInt (by omega)] at z
        rw [i_lt]
        have : (24 : Int32).toInt = 24 := by decide
        omega)
      have b1 : f_X3_isFrom 1 q (nI (24 - h)) = some 0 := in_no (lo := 1) (h25.imp id (fun z => by
        rw [i_lt] at z ⊢
        rw [nI_toInt (by omega)]
        have : (24 : Int32).toInt = 24 := by decide
        omega))
      have b2 : f_X4_in q 1 24 = some 0 := in_no h25
      refine ⟨?_, ?_⟩
      · unfold f_X3_areHours
        rw [a1, ob_s, oi_n e10, a3, b1, ob_s, oi_p rfl]
      · unfold f_X4_isNoSpan
        rw [t_isc hW hT hc, ob_s, oi_p rfl, a2, ob_s, oi_n e10, b2, ob_s, oi_p rfl, t_fl2, ob_s]
        exact f2
    rcases p_num q 25 (by omega) with ⟨k, hk, rfl⟩ | hq
    · by_cases k0 : k = 0
      · exact Or.inr (bad (Or.inl (by rw [k0]; decide)))
      · by_cases hs : h + k ≤ 24
        · exact Or.inl ⟨h, k, hh, by omega, hs, rfl, rfl⟩
        · have b1 : f_X3_isFrom 1 (nI k) (nI (24 - h)) = some 0 := in_no (lo := 1) (Or.inr (nI_lt (by omega) (by omega)))
          have b2 : f_X4_in (nI k) 1 24 = some 1 := in_ok (nI_nlt (a := k) (b := 1) (by omega) (by omega)) (nI_nlt (a := 24) (b := k) (by omega) (by omega))
          refine Or.inr ⟨?_, ?_⟩
          · unfold f_X3_areHours
            rw [a1, ob_s, oi_n e10, a3, b1, ob_s, oi_p rfl]
          · unfold f_X4_isNoSpan
            rw [t_isc hW hT hc, ob_s, oi_p rfl, a2, ob_s, oi_n e10, b2, ob_s, oi_n e10, nI_add, oi_n (show ¬ nI (h + k) ≤ 24 from nI_ge (a := 24) (by omega) (by omega)), t_fl2, ob_s]
            exact f2
    · refine Or.inr (bad (hq.imp (fun z => ?_) id))
      rw [i_lt] at z ⊢
      have h0 : (0 : Int32).toInt = 0 := rfl
      have h1 : (1 : Int32).toInt = 1 := by decide
      omega
  · refine Or.inr ⟨?_, ?_⟩
    · unfold f_X3_areHours
      rw [show f_X3_isFrom 0 p 23 = some 0 from in_out (N := 23) (by omega) hp, ob_s, oi_p rfl]
    · unfold f_X4_isNoSpan
      rw [t_isc hW hT hc, ob_s, oi_p rfl, show f_X4_in p 0 23 = some 0 from in_out (N := 23) (by omega) hp, ob_s, oi_p rfl, t_fl2, ob_s]
      exact f2
/-- the state with other permits of a crane -/
def mperm (M : MD) (c N : Nat) : MD := fun f k => if f = 6 ∧ k = c then N else M f k
theorem mperm_f {c N f : Nat} (h : f ≠ 6) : mperm M c N f = M f := by
  funext k
  exact if_neg (fun e => h e.1)
theorem mperm_6 {c N k : Nat} : mperm M c N 6 k = if k = c then N else M 6 k := by
  unfold mperm
  by_cases h : k = c
  · rw [if_pos ⟨rfl, h⟩, if_pos h]
  · rw [if_neg (fun e => h e.2), if_neg h]
theorem perm_wf (hW : WF M) {c N : Nat} (hN : N < 2 ^ 24) : WF (mperm M c N) := by
  refine ⟨?_, ?_, ?_, ?_, ?_⟩
  · unfold wfS; rw [mperm_f (f := 0) (by decide)]; exact hW.1
  · unfold wfC
    rw [mperm_f (f := 0) (by decide), mperm_f (f := 1) (by decide), mperm_f (f := 2) (by decide), mperm_f (f := 3) (by decide), mperm_f (f := 4) (by decide), mperm_f (f := 5) (by decide)]
    intro k hk
    obtain ⟨w1, w2, w3, w4, w5, w6, w7, w8, w9⟩ := hW.2.1 k hk
    refine ⟨w1, w2, w3, w4, w5, w6, w7, w8, ?_⟩
    rw [mperm_6]
    by_cases q : k = c
    · rw [if_pos q]; exact hN
    · rw [if_neg q]; exact w9
  · unfold wfL
    rw [mperm_f (f := 0) (by decide), mperm_f (f := 10) (by decide), mperm_f (f := 11) (by decide), mperm_f (f := 12) (by decide), mperm_f (f := 13) (by decide), mperm_f (f := 14) (by decide), mperm_f (f := 15) (by decide), mperm_f (f := 16) (by decide), mperm_f (f := 17) (by decide), mperm_f (f := 18) (by decide), mperm_f (f := 19) (by decide)]
    exact hW.2.2.1
  · unfold wfP
    rw [mperm_f (f := 0) (by decide), mperm_f (f := 16) (by decide), mperm_f (f := 20) (by decide), mperm_f (f := 21) (by decide), mperm_f (f := 22) (by decide)]
    intro k hk
    obtain ⟨p1, p2, p3, p4, p5⟩ := hW.2.2.2.1 k hk
    refine ⟨p1, p2, p3, p4, fun j hj => ⟨(p5 j hj).1, fun e f hf1 hf2 => ?_⟩⟩
    rw [mperm_f (f := f) (by omega)]
    exact (p5 j hj).2 e f hf1 hf2
  · unfold wfO
    rw [mperm_f (f := 0) (by decide), mperm_f (f := 15) (by decide), mperm_f (f := 17) (by decide), mperm_f (f := 18) (by decide), mperm_f (f := 19) (by decide)]
    exact hW.2.2.2.2
theorem xput_0 {l f g k : Nat} {v : Int32} : (xput V 0 l f v).1 0 k g = if k = l ∧ g = f then v else V.1 0 k g := by
  show va_up V.1 0 (va_up (V.1 0) l (va_up (V.1 0 l) f v)) 0 k g = _
  by_cases h : k = l
  · subst h
    by_cases z : g = f
    · subst z; simp [va_up]
    · simp [va_up, z]
  · simp [va_up, h]
theorem perm_rx (hX : RX n V M) {c N : Nat} : RX n (xput V 0 c 5 (nI N)) (mperm M c N) := by
  obtain ⟨x1, x2, x3, x4⟩ := hX
  refine ⟨?_, ?_, ?_, ?_⟩
  · unfold rxS; rw [mperm_f (f := 0) (by decide)]; exact x1
  · unfold rxC
    rw [mperm_f (f := 0) (by decide), mperm_f (f := 1) (by decide), mperm_f (f := 2) (by decide), mperm_f (f := 3) (by decide), mperm_f (f := 4) (by decide), mperm_f (f := 5) (by decide)]
    intro k hk
    obtain ⟨y1, y2, y3, y4, y5, y6⟩ := x2 k hk
    rw [mperm_6]
    by_cases q : k = c
    · subst q
      simp only [xput_0, if_true]
      exact ⟨y1, y2, y3, y4, y5, rfl⟩
    · rw [if_neg q]
      simp only [xput_0, q, false_and, if_false]
      exact ⟨y1, y2, y3, y4, y5, y6⟩
  · unfold rxL
    rw [mperm_f (f := 0) (by decide), mperm_f (f := 10) (by decide), mperm_f (f := 11) (by decide), mperm_f (f := 12) (by decide), mperm_f (f := 13) (by decide), mperm_f (f := 14) (by decide), mperm_f (f := 15) (by decide), mperm_f (f := 16) (by decide), mperm_f (f := 17) (by decide), mperm_f (f := 18) (by decide), mperm_f (f := 19) (by decide)]
    exact x3
  · unfold rxP
    rw [mperm_f (f := 0) (by decide), mperm_f (f := 20) (by decide), mperm_f (f := 21) (by decide), mperm_f (f := 22) (by decide)]
    exact x4
/-- the reference's row of permits written over in a stretch -/
abbrev prmT (T T' : RV) (c j e : Nat) (v : Int32) : Prop := T'.1 = T.1 ∧ T'.2.2 = T.2.2 ∧ (∀ g, g ≠ 6 → T'.2.1 g = T.2.1 g) ∧ ∀ x, T'.2.1 6 x = if 24 * c + j ≤ x ∧ x < 24 * c + e then v else T.2.1 6 x
theorem prm_step {T' : RV} {c j e : Nat} {v : Int32} (hj : j < e) (h : prmT (rar T 6 (24 * c + j) v) T' c (j + 1) e v) : prmT T T' c j e v := by
  obtain ⟨h1, h2, h3, h4⟩ := h
  refine ⟨h1, h2, fun g hg => ?_, fun x => ?_⟩
  · rw [h3 g hg]
    funext x
    rw [rar_r, if_neg (fun z => hg z.1)]
  · rw [h4 x, rar_r]
    by_cases q : 24 * c + (j + 1) ≤ x ∧ x < 24 * c + e
    · rw [if_pos q, if_pos (by omega)]
    · rw [if_neg q]
      by_cases z : x = 24 * c + j
      · rw [if_pos ⟨rfl, z⟩, if_pos (by omega)]
      · rw [if_neg (fun y => z y.2), if_neg (by omega)]
theorem prm_rt (hW : WF M) (hT : RT T M) {T' : RV} {c h e N : Nat} {v : Int32} (hc : c < M 0 0) (he : e ≤ 24) (hp : prmT T T' c h e v) (hN : ∀ i, i < 24 → (if h ≤ i ∧ i < e then v else if (M 6 c).testBit i then 1 else 0) = if N.testBit i then 1 else 0) : RT T' (mperm M c N) := by
  obtain ⟨p1, p2, p3, p4⟩ := hp
  obtain ⟨t1, t2, t3, t4, t5⟩ := hT
  refine ⟨?_, ?_, ?_, ?_, ?_⟩
  · unfold rtS; rw [mperm_f (f := 0) (by decide), p1]; exact t1
  · unfold rtC
    rw [mperm_f (f := 0) (by decide), mperm_f (f := 1) (by decide), mperm_f (f := 2) (by decide), mperm_f (f := 3) (by decide), mperm_f (f := 4) (by decide), mperm_f (f := 5) (by decide), p3 1 (by decide), p3 2 (by decide), p3 3 (by decide), p3 4 (by decide), p3 5 (by decide)]
    intro k hk
    obtain ⟨y1, y2, y3, y4, y5, y6⟩ := t2 k hk
    refine ⟨y1, y2, y3, y4, y5, fun i hi => ?_⟩
    rw [p4, mperm_6]
    by_cases q : k = c
    · subst q
      rw [if_pos rfl, y6 i hi, ← hN i hi]
      by_cases r : h ≤ i ∧ i < e
      · rw [if_pos r, if_pos (by omega)]
      · rw [if_neg r, if_neg (by omega)]
    · rw [if_neg q, if_neg (by omega), y6 i hi]
  · unfold rtZ
    rw [mperm_f (f := 0) (by decide)]
    intro j hj1 hj2
    rw [p4, if_neg (by omega)]
    exact t3 j hj1 hj2
  · unfold rtL
    rw [mperm_f (f := 0) (by decide), mperm_f (f := 10) (by decide), mperm_f (f := 11) (by decide), mperm_f (f := 12) (by decide), mperm_f (f := 13) (by decide), mperm_f (f := 14) (by decide), mperm_f (f := 15) (by decide), mperm_f (f := 16) (by decide), mperm_f (f := 17) (by decide), mperm_f (f := 18) (by decide), mperm_f (f := 19) (by decide), p3 8 (by decide), p3 9 (by decide), p3 10 (by decide), p3 11 (by decide), p3 12 (by decide), p3 13 (by decide), p3 14 (by decide), p3 15 (by decide), p3 16 (by decide), p3 17 (by decide)]
    exact t4
  · unfold rtP
    rw [mperm_f (f := 0) (by decide), mperm_f (f := 20) (by decide), mperm_f (f := 21) (by decide), mperm_f (f := 22) (by decide), p3 20 (by decide), p3 21 (by decide), p3 22 (by decide)]
    exact t5
theorem prm_ra (hA : RA V T M) {T' : RV} {c h e N x : Nat} {v y : Int32} (hp : prmT T T' c h e v) : RA (xput V 0 c x y) T' (mperm M c N) := by
  unfold RA
  rw [mperm_f (f := 0) (by decide), hp.2.1]
  exact hA
theorem t_prm15 {c h k : Nat} (hc : c < 5) (he : h + k ≤ 24) : ∀ (d j : Nat) (T : RV) (fu : Nat), j + d = h + k → d < fu → ∃ T' : RV, f_X4_permit_15 T fu (nI c) (nI h) (nI k) (nI j) = ob (f_X4_permitted T' (nI c)) (fun u => some (u, T')) ∧ prmT T T' c j (h + k) 1 := by
  intro d
  induction d with
  | zero =>
    intro j T fu h1 h2
    obtain ⟨fu, rfl⟩ : ∃ g, fu = g + 1 := ⟨fu - 1, by omega⟩
    refine ⟨T, ?_, rfl, rfl, fun _ _ => rfl, fun x => (if_neg (by omega)).symm⟩
    unfold f_X4_permit_15
    rw [nI_add, oi_p (nI_le (by omega) (by omega))]
  | succ d ih =>
    intro j T fu h1 h2
    obtain ⟨fu, rfl⟩ : ∃ g, fu = g + 1 := ⟨fu - 1, by omega⟩
    obtain ⟨T', e, hp⟩ := ih (j + 1) (rar T 6 (24 * c + j) 1) fu (by omega) (by omega)
    refine ⟨T', ?_, prm_step (by omega) hp⟩
    unfold f_X4_permit_15
    rw [nI_add, oi_n (nI_ge (by omega) (by omega)), show 24 * nI c + nI j = nI (24 * c + j) by rw [show (24 : Int32) = nI 24 from rfl, nI_mul, nI_add], og_p (nI_in (by omega) (by omega)), nI_clamp (by omega), show vp_nar .boolean 1 = 1 from rfl, ob_s, nI_1]
    exact e
theorem t_eprm15 {c h k : Nat} (hc : c < 5) (he : h + k ≤ 24) : ∀ (d j : Nat) (T : RV) (fu : Nat), j + d = h + k → d < fu → ∃ T' : RV, f_X4_endPermit_15 T fu (nI c) (nI h) (nI k) (nI j) = ob (f_X4_drops T') (fun u => some (u.1, u.2)) ∧ prmT T T' c j (h + k) 0 := by
  intro d
  induction d with
  | zero =>
    intro j T fu h1 h2
    obtain ⟨fu, rfl⟩ : ∃ g, fu = g + 1 := ⟨fu - 1, by omega⟩
    refine ⟨T, ?_, rfl, rfl, fun _ _ => rfl, fun x => (if_neg (by omega)).symm⟩
    unfold f_X4_endPermit_15
    rw [nI_add, oi_p (nI_le (by omega) (by omega))]
  | succ d ih =>
    intro j T fu h1 h2
    obtain ⟨fu, rfl⟩ : ∃ g, fu = g + 1 := ⟨fu - 1, by omega⟩
    obtain ⟨T', e, hp⟩ := ih (j + 1) (rar T 6 (24 * c + j) 0) fu (by omega) (by omega)
    refine ⟨T', ?_, prm_step (by omega) hp⟩
    unfold f_X4_endPermit_15
    rw [nI_add, oi_n (nI_ge (by omega) (by omega)), show 24 * nI c + nI j = nI (24 * c + j) by rw [show (24 : Int32) = nI 24 from rfl, nI_mul, nI_add], og_p (nI_in (by omega) (by omega)), nI_clamp (by omega), show vp_nar .boolean 0 = 0 from rfl, ob_s, nI_1]
    exact e
theorem st_1 (hR : Rel n V T) : lst_1 Rel n V T := by
  obtain ⟨M, hW, hX, hT, hA⟩ := hR
  intro out p1 p2 p3
  have h5 := hW.1.1
  rcases p_num p1 (M 0 0) (by omega) with ⟨c, hc, rfl⟩ | h1
  · rcases hours_or hW hT hc p2 p3 with ⟨h, k, hh, hk, hs, rfl, rfl⟩ | ⟨b1, b2⟩
    · have hM6 := (hW.2.1 c hc).2.2.2.2.2.2.2.2
      obtain ⟨N, eN⟩ : ∃ N, N = M 6 c ||| (2 ^ k - 1) * 2 ^ h := ⟨_, rfl⟩
      have hN : N < 2 ^ 24 := by rw [eN]; exact Nat.or_lt_two_pow hM6 (msk_lt h hh k (by omega) hs)
      obtain ⟨T', e, hp⟩ := t_prm15 (c := c) (h := h) (k := k) (by omega) hs k h (rsc T 27 0) FU rfl (by unfold FU; omega)
      have hT' : RT T' (mperm M c N) := prm_rt hW (RT_27 hT) hc hs hp (fun i hi => by
        rw [eN, Nat.testBit_or, msk_bit]
        by_cases q : h ≤ i ∧ i < h + k
        · rw [if_pos q]; simp [q]
        · rw [if_neg q]; simp [q])
      have hW' : WF (mperm M c N) := perm_wf hW hN
      have hX' : RX n (xput V 0 c 5 (nI N)) (mperm M c N) := perm_rx hX
      have hA' : RA (xput V 0 c 5 (nI N)) T' (mperm M c N) := prm_ra (RA_27 hA) hp
      have hc' : c < mperm M c N 0 0 := by rw [mperm_f (f := 0) (by decide)]; exact hc
      have e6 : mperm M c N 6 c = N := by rw [mperm_6, if_pos rfl]
      have et := t_permd hW' hT' hc'
      rw [e6] at et
      refine ⟨(0, n, xput V 0 c 5 (nI N), vp_updL out (0 : Int32).toNatClampNeg (nI (sm (bit1 N) 24)).toInt64), (nI (sm (bit1 N) 24), T'), ?_, ?_, ?_, fun _ => u0 (f := out), ⟨_, hW', hX', hT', hA'⟩⟩
      · unfold f_L_permit f_X3_permit f_X3_bitsOfHours
        rw [x_crk hW hX hc, ob_s, oc_s (rx_n0 hX hc), hours_ok hh hk hs, ob_s, oi_n e10, boh h hh k (by omega), ob_s, (hX.2.1 c hc).2.2.2.2.2, iN_or, ← eN, ob_s, xput_0, if_pos ⟨rfl, rfl⟩, bc24 hN, ob_s, ob_s, oi_p rfl]
      · unfold f_X4_permit
        rw [span_ok hW hT hc hh hk hs, ob_s, oi_p rfl, e, et, ob_s]
      · show T'.1 27 = 0
        rw [hp.1]; rfl
    · refine ⟨(2, n, V, out), (0, rsc T 27 2), ?_, ?_, rfl, fun h => absurd h e20, Rel.of27 hW hX hT hA⟩
      · unfold f_L_permit f_X3_permit
        rw [x_crk hW hX hc, ob_s, oc_s (rx_n0 hX hc), b1, ob_s, oi_p rfl, ob_s, oi_n n10, oi_n n13, oi_p rfl]
      · unfold f_X4_permit
        rw [b2, ob_s, oi_n e10]
  · refine ⟨(1, n, V, out), (0, rsc T 27 1), ?_, ?_, rfl, fun h => absurd h e10, Rel.of27 hW hX hT hA⟩
    · unfold f_L_permit f_X3_permit
      rw [x_crn hW hX h1, ob_s, oc_n, ob_s, oi_n n30, oi_p rfl]
    · unfold f_X4_permit
      rw [span_no hW hT h1, ob_s, oi_n e10]
theorem st_2 (hR : Rel n V T) : lst_2 Rel n V T := by
  obtain ⟨M, hW, hX, hT, hA⟩ := hR
  intro out p1 p2 p3
  have h5 := hW.1.1
  rcases p_num p1 (M 0 0) (by omega) with ⟨c, hc, rfl⟩ | h1
  · rcases hours_or hW hT hc p2 p3 with ⟨h, k, hh, hk, hs, rfl, rfl⟩ | ⟨b1, b2⟩
    · have hM6 := (hW.2.1 c hc).2.2.2.2.2.2.2.2
      obtain ⟨N, eN⟩ : ∃ N, N = off (M 6 c) ((2 ^ k - 1) * 2 ^ h) := ⟨_, rfl⟩
      have hN : N < 2 ^ 24 := by rw [eN]; exact off_lt hM6
      obtain ⟨T', e, hp⟩ := t_eprm15 (c := c) (h := h) (k := k) (by omega) hs k h (rsc T 27 0) FU rfl (by unfold FU; omega)
      have hT' : RT T' (mperm M c N) := prm_rt hW (RT_27 hT) hc hs hp (fun i hi => by
        rw [eN, off_bit _ _ _ hi, msk_bit]
        by_cases q : h ≤ i ∧ i < h + k
        · rw [if_pos q]; simp [q]
        · rw [if_neg q]; simp [q])
      have hW' : WF (mperm M c N) := perm_wf hW hN
      have hX' : RX n (xput V 0 c 5 (nI N)) (mperm M c N) := perm_rx hX
      have hA' : RA (xput V 0 c 5 (nI N)) T' (mperm M c N) := prm_ra (RA_27 hA) hp
      obtain ⟨V2, T2, y, d1, d2, hrel, d3⟩ := drops_ok hW' hX' hT' hA'
      refine ⟨(0, n, V2, vp_updL out (0 : Int32).toNatClampNeg y.toInt64), (y, T2), ?_, ?_, ?_, fun _ => u0 (f := out), hrel⟩
      · unfold f_L_endPermit f_X3_endPermit f_X3_bitsOfHours
        rw [x_crk hW hX hc, ob_s, oc_s (rx_n0 hX hc), hours_ok hh hk hs, ob_s, oi_n e10, boh h hh k (by omega), ob_s, (hX.2.1 c hc).2.2.2.2.2, iN_off hM6, ← eN, ob_s, d1, ob_s, ob_s, oi_p rfl]
      · unfold f_X4_endPermit
        rw [span_ok hW hT hc hh hk hs, ob_s, oi_p rfl, e, d2, ob_s]
      · show T2.1 27 = 0
        rw [d3, hp.1]; rfl
    · refine ⟨(2, n, V, out), (0, rsc T 27 2), ?_, ?_, rfl, fun h => absurd h e20, Rel.of27 hW hX hT hA⟩
      · unfold f_L_endPermit f_X3_endPermit
        rw [x_crk hW hX hc, ob_s, oc_s (rx_n0 hX hc), b1, ob_s, oi_p rfl, ob_s, oi_n n10, oi_n n13, oi_p rfl]
      · unfold f_X4_endPermit
        rw [b2, ob_s, oi_n e10]
  · refine ⟨(1, n, V, out), (0, rsc T 27 1), ?_, ?_, rfl, fun h => absurd h e10, Rel.of27 hW hX hT hA⟩
    · unfold f_L_endPermit f_X3_endPermit
      rw [x_crn hW hX h1, ob_s, oc_n, ob_s, oi_n n30, oi_p rfl]
    · unfold f_X4_endPermit
      rw [span_no hW hT h1, ob_s, oi_n e10]
end Q27
