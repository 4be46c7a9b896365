/-! sums of naturals over places, and longs put together by 'or' -/
def sm (f : Nat → Nat) : Nat → Nat
  | 0 => 0
  | k + 1 => sm f k + f k
theorem sm_congr {f g : Nat → Nat} : ∀ k, (∀ i, i < k → f i = g i) → sm f k = sm g k := by
  intro k
  induction k with
  | zero => intro _; rfl
  | succ k ih =>
    intro h
    show sm f k + f k = sm g k + g k
    rw [ih (fun i hi => h i (by omega)), h k (by omega)]
theorem sm_addf (f g : Nat → Nat) : ∀ k, sm (fun i => f i + g i) k = sm f k + sm g k := by
  intro k
  induction k with
  | zero => rfl
  | succ k ih =>
    show sm (fun i => f i + g i) k + (f k + g k) = (sm f k + f k) + (sm g k + g k)
    rw [ih]; omega
theorem sm_zero {f : Nat → Nat} : ∀ k, (∀ i, i < k → f i = 0) → sm f k = 0 := by
  intro k
  induction k with
  | zero => intro _; rfl
  | succ k ih =>
    intro h
    show sm f k + f k = 0
    rw [ih (fun i hi => h i (by omega)), h k (by omega)]
theorem sm_swap (f : Nat → Nat → Nat) (b : Nat) : ∀ a, sm (fun i => sm (f i) b) a = sm (fun j => sm (fun i => f i j) a) b := by
  intro a
  induction a with
  | zero => exact (sm_zero b (fun _ _ => rfl)).symm
  | succ a ih =>
    show sm (fun i => sm (f i) b) a + sm (f a) b = _
    rw [ih, ← sm_addf]
    rfl
theorem sm_pick (v : Nat → Nat) (a : Nat) : ∀ k, sm (fun i => if i = a then v i else 0) k = if a < k then v a else 0 := by
  intro k
  induction k with
  | zero => rfl
  | succ k ih =>
    show sm (fun i => if i = a then v i else 0) k + (if k = a then v k else 0) = _
    rw [ih]
    by_cases h : k = a
    · subst h
      rw [if_pos rfl, if_neg (Nat.lt_irrefl k), if_pos (Nat.lt_succ_self k), Nat.zero_add]
    · rw [if_neg h, Nat.add_zero]
      by_cases h2 : a < k
      · rw [if_pos h2, if_pos (by omega)]
      · rw [if_neg h2, if_neg (by omega)]
theorem sm_one {f : Nat → Nat} {k a v : Nat} (ha : a < k) (h : f a = v) (h0 : ∀ i, i < k → i ≠ a → f i = 0) : sm f k = v := by
  have e : sm f k = sm (fun i => if i = a then f i else 0) k := sm_congr k (fun i hi => by
    by_cases z : i = a
    · rw [if_pos z]
    · rw [if_neg z]; exact h0 i hi z)
  rw [e, sm_pick f a k, if_pos ha, h]
theorem sm_le {f g : Nat → Nat} : ∀ k, (∀ i, i < k → f i ≤ g i) → sm f k ≤ sm g k := by
  intro k
  induction k with
  | zero => intro _; exact Nat.le_refl _
  | succ k ih =>
    intro h
    have h1 := ih (fun i hi => h i (by omega))
    have h2 := h k (by omega)
    show sm f k + f k ≤ sm g k + g k
    omega
theorem sm_tail {f : Nat → Nat} (a : Nat) : ∀ b, (∀ i, a ≤ i → i < a + b → f i = 0) → sm f (a + b) = sm f a := by
  intro b
  induction b with
  | zero => intro _; rfl
  | succ b ih =>
    intro h
    show sm f (a + b) + f (a + b) = _
    rw [ih (fun i h1 h2 => h i h1 (by omega)), h (a + b) (by omega) (by omega), Nat.add_zero]
def orf (f : Nat → Int64) : Nat → Int64
  | 0 => 0
  | k + 1 => orf f k ||| f k
abbrev lb (x : Int64) (b : Nat) : Bool := x.toBitVec.getLsbD b
theorem lb_or (x y : Int64) (b : Nat) : lb (x ||| y) b = (lb x b || lb y b) := by unfold lb; rw [Int64.toBitVec_or, BitVec.getLsbD_or]
theorem lb_0 (b : Nat) : lb 0 b = false := BitVec.getLsbD_zero
theorem lb_ext {x y : Int64} (h : ∀ b, b < 64 → (lb x b = true ↔ lb y b = true)) : x = y := Int64.toBitVec_inj.mp (BitVec.eq_of_getLsbD_eq (fun b hb => Bool.eq_iff_iff.mpr (h b hb)))
theorem orf_bit (f : Nat → Int64) (b : Nat) : ∀ k, lb (orf f k) b = true ↔ ∃ i, i < k ∧ lb (f i) b = true := by
  intro k
  induction k with
  | zero =>
    constructor
    · intro h
      rw [show orf f 0 = 0 from rfl, lb_0] at h
      cases h
    · rintro ⟨i, h, _⟩
      omega
  | succ k ih =>
    show lb (orf f k ||| f k) b = true ↔ _
    rw [lb_or, Bool.or_eq_true, ih]
    constructor
    · rintro (⟨i, h1, h2⟩ | h)
      · exact ⟨i, by omega, h2⟩
      · exact ⟨k, by omega, h⟩
    · rintro ⟨i, h1, h2⟩
      by_cases z : i = k
      · exact Or.inr (by rw [← z]; exact h2)
      · exact Or.inl ⟨i, by omega, h2⟩
section Q22
variable {n : Nat → Nat} {V : XV} {T : RV} {M : MD}
/-- a lift that is there has a minute -/
abbrev lm (M : MD) (m i : Nat) : Prop := i < M 0 1 ∧ mts M i m (m + 1)
theorem lm_uniq (hW : WF M) {m i j : Nat} (hi : lm M m i) (hj : lm M m j) (hc : M 18 i = M 18 j) : i = j := by
  obtain ⟨h1, h2, h3, h4⟩ := hi
  obtain ⟨g1, g2, g3, g4⟩ := hj
  rcases Nat.lt_trichotomy i j with h | h | h
  · have := hW.2.2.2.2 i j h g1 h2 g2 hc
    omega
  · exact h
  · have := hW.2.2.2.2 j i h h1 g2 h2 hc.symm
    omega
theorem atk_or (M : MD) (c m : Nat) : ∀ k i, (atk M c m k i = -1 ∧ ∀ j, i ≤ j → j < i + k → ¬ (mts M j m (m + 1) ∧ M 18 j = c)) ∨ ∃ j, i ≤ j ∧ j < i + k ∧ atk M c m k i = nI j ∧ mts M j m (m + 1) ∧ M 18 j = c := by
  intro k
  induction k with
  | zero => intro i; exact Or.inl ⟨rfl, fun j h1 h2 => by omega⟩
  | succ k ih =>
    intro i
    unfold atk
    by_cases q : mts M i m (m + 1) ∧ M 18 i = c
    · rw [if_pos q]
      exact Or.inr ⟨i, Nat.le_refl _, by omega, rfl, q.1, q.2⟩
    · rw [if_neg q]
      rcases ih (i + 1) with ⟨e, h⟩ | ⟨j, h1, h2, e, h3, h4⟩
      · refine Or.inl ⟨e, fun j h1 h2 => ?_⟩
        by_cases z : j = i
        · rw [z]; exact q
        · exact h j (by omega) (by omega)
      · exact Or.inr ⟨j, by omega, by omega, e, h3, h4⟩
theorem at_or (M : MD) (c m : Nat) : (atk M c m (M 0 1) 0 = -1 ∧ ∀ j, lm M m j → M 18 j ≠ c) ∨ ∃ j, lm M m j ∧ M 18 j = c ∧ atk M c m (M 0 1) 0 = nI j := by
  rcases atk_or M c m (M 0 1) 0 with ⟨e, h⟩ | ⟨j, h1, h2, e, h3, h4⟩
  · exact Or.inl ⟨e, fun j hj hc => h j (Nat.zero_le _) (by have := hj.1; omega) ⟨hj.2, hc⟩⟩
  · exact Or.inr ⟨j, ⟨by omega, h3⟩, h4, e⟩
/-! at work in a minute -/
def fw (M : MD) (m i : Nat) : Nat := if lm M m i then 1 else 0
def gw2 (M : MD) (m c : Nat) : Nat := if atk M c m (M 0 1) 0 < 0 then 0 else 1
theorem x_aw (hW : WF M) (hX : RX n V M) {m : Nat} (hm : m < 1440) : ∀ (K i fu : Nat), i + K = 40 → K < fu → f_X3_atWork_29 n V fu (nI m) (nI (sm (fw M m) i)) 40 (nI i) = some (0, nI (sm (fw M m) 40)) := by
  intro K
  induction K with
  | zero =>
    intro i fu h1 h2
    obtain ⟨fu, rfl⟩ : ∃ g, fu = g + 1 := ⟨fu - 1, by omega⟩
    unfold f_X3_atWork_29
    rw [oi_p (l40 (by omega) (by omega)), show i = 40 by omega]
  | succ K ih =>
    intro i fu h1 h2
    obtain ⟨fu, rfl⟩ : ∃ g, fu = g + 1 := ⟨fu - 1, by omega⟩
    have hn := ih (i + 1) fu (by omega) (by omega)
    have es : sm (fw M m) (i + 1) = sm (fw M m) i + fw M m i := rfl
    unfold f_X3_atWork_29
    rw [oi_n (g40 (by omega)), og_p (nI_in (by omega) (by omega)), xr1 hX (by omega), nI_1, nI_1]
    by_cases hi : i < M 0 1
    · rw [if_pos hi, oc_s (rx_n1 hX hi), x_mts hW hX hi (by omega) (by omega), ob_s]
      by_cases r : mts M i m (m + 1)
      · rw [if_pos r, oi_n e10, nI_1]
        rw [es, show fw M m i = 1 from if_pos ⟨hi, r⟩] at hn
        exact hn
      · rw [if_neg r, oi_p rfl]
        rw [es, show fw M m i = 0 from if_neg (fun h => r h.2), Nat.add_zero] at hn
        exact hn
    · rw [if_neg hi, oc_n]
      rw [es, show fw M m i = 0 from if_neg (fun h => hi h.1), Nat.add_zero] at hn
      exact hn
theorem t_awk (hW : WF M) (hT : RT T M) {m : Nat} (hm : m < 1440) : ∀ (k c fu : Nat), c + k = M 0 0 → k < fu → f_X4_atWork_14 T fu (nI m) (nI (sm (gw2 M m) c)) (nI c) = some (nI (sm (gw2 M m) (M 0 0)), T) := by
  have h5 := hW.1.1
  intro k
  induction k with
  | zero =>
    intro c fu h1 h2
    obtain ⟨fu, rfl⟩ : ∃ g, fu = g + 1 := ⟨fu - 1, by omega⟩
    unfold f_X4_atWork_14
    rw [hT.1.1, oi_p (nI_le (by omega) (by omega)), show c = M 0 0 by omega]
  | succ k ih =>
    intro c fu h1 h2
    obtain ⟨fu, rfl⟩ : ∃ g, fu = g + 1 := ⟨fu - 1, by omega⟩
    have hn := ih (c + 1) fu (by omega) (by omega)
    have es : sm (gw2 M m) (c + 1) = sm (gw2 M m) c + gw2 M m c := rfl
    unfold f_X4_atWork_14
    rw [hT.1.1, oi_n (nI_ge (by omega) (by omega)), t_at hW hT (show c < 1000 by omega) hm, ob_s, nI_1, nI_1, Int32.add_zero]
    by_cases q : atk M c m (M 0 1) 0 < 0
    · rw [oi_p q]
      rw [es, show gw2 M m c = 0 from if_pos q, Nat.add_zero] at hn
      exact hn
    · rw [oi_n q]
      rw [es, show gw2 M m c = 1 from if_neg q] at hn
      exact hn
theorem aw_eq (hW : WF M) (m : Nat) : sm (fw M m) 40 = sm (gw2 M m) (M 0 0) := by
  have h40 := hW.1.2.1
  have e1 : sm (fw M m) 40 = sm (fun i => sm (fun c => if lm M m i ∧ M 18 i = c then 1 else 0) (M 0 0)) 40 := sm_congr 40 (fun i _ => by
    unfold fw
    by_cases q : lm M m i
    · rw [if_pos q]
      have hc := ((hW.2.2.1 i q.1).2.2.2.2.2.2.2.2.2.2 q.2.1).1
      refine Eq.symm (sm_one (f := fun c => if lm M m i ∧ M 18 i = c then 1 else 0) (v := 1) hc (if_pos ⟨q, rfl⟩) (fun c _ hn => if_neg (fun h => hn h.2.symm)))
    · rw [if_neg q]
      exact (sm_zero _ (fun c _ => if_neg (fun h => q h.1))).symm)
  rw [e1, sm_swap (fun i c => if lm M m i ∧ M 18 i = c then 1 else 0)]
  refine sm_congr _ (fun c _ => ?_)
  unfold gw2
  rcases at_or M c m with ⟨e, h⟩ | ⟨j, hj, hc, e⟩
  · rw [e, if_pos (by decide)]
    exact sm_zero _ (fun i _ => if_neg (fun q => h i q.1 q.2))
  · have := hj.1
    rw [e, if_neg (nI_pos (by omega))]
    exact sm_one (show j < 40 by omega) (if_pos ⟨hj, hc⟩) (fun i _ hn => if_neg (fun q => hn (lm_uniq hW q.1 hj (q.2.trans hc.symm))))
theorem t_nomink (T : RV) {m : Nat} (h : m < 1440) : f_X4_isNoMinute T (nI m) = some (0, rsc T 27 0) := by
  unfold f_X4_isNoMinute
  rw [t_mink h, ob_s, oi_n e10, t_fl0, ob_s]
  exact if_pos (show (0 : Int32) &&& 1 = 0 by decide)
theorem t_nominn (T : RV) {p : Int32} (h : p < 0 ∨ nI 1440 ≤ p) : f_X4_isNoMinute T p = some (1, rsc T 27 1) := by
  unfold f_X4_isNoMinute
  rw [t_minn h, ob_s, oi_p rfl, t_fl1, ob_s]
  exact if_pos (show (1 : Int32) &&& 1 = 1 by decide)
theorem st_29 (hR : Rel n V T) : lst_29 Rel n V T := by
  obtain ⟨M, hW, hX, hT, hA⟩ := hR
  intro out p
  have h5 := hW.1.1
  rcases p_min p with ⟨m, hm, rfl⟩ | h
  · have hx := x_aw hW hX hm 40 0 FU rfl (by unfold FU; omega)
    have ht := t_awk hW (T := rsc T 27 0) (RT_27 hT) hm (M 0 0) 0 FU (by omega) (by unfold FU; omega)
    rw [← aw_eq hW m] at ht
    refine ⟨(0, n, V, vp_updL out (0 : Int32).toNatClampNeg (nI (sm (fw M m) 40)).toInt64), (nI (sm (fw M m) 40), rsc T 27 0), ?_, ?_, rfl, fun _ => u0 (f := out), Rel.of27 hW hX hT hA⟩
    · unfold f_L_atWork f_X3_atWork
      rw [x_mink hm, ob_s, oi_n e10, show f_X3_atWork_29 n V FU (nI m) 0 40 0 = _ from hx, ob_s, oi_p rfl]
    · unfold f_X4_atWork
      rw [t_nomink T hm, ob_s, oi_p rfl]
      exact ht
  · refine ⟨(1, n, V, out), (0, rsc T 27 1), ?_, ?_, rfl, fun h => absurd h e10, Rel.of27 hW hX hT hA⟩
    · unfold f_L_atWork f_X3_atWork
      rw [x_minn h, ob_s, oi_p rfl, ob_s, oi_n n10, oi_p rfl]
    · unfold f_X4_atWork
      rw [t_nominn T h, ob_s, oi_n e10]
/-! the air in a minute -/
def fa (M : MD) (V : XV) (m i : Nat) : Int64 := if lm M m i then V.2.1 i else 0
def ga (M : MD) (V : XV) (m c : Nat) : Int64 := if atk M c m (M 0 1) 0 < 0 then 0 else V.2.1 (atk M c m (M 0 1) 0).toNatClampNeg
theorem x_air (hW : WF M) (hX : RX n V M) {m : Nat} (hm : m < 1440) : ∀ (K i fu : Nat), i + K = 40 → K < fu → f_X3_airInMinute_16 n V fu (nI m) (orf (fa M V m) i) 40 (nI i) = some (orf (fa M V m) 40) := by
  intro K
  induction K with
  | zero =>
    intro i fu h1 h2
    obtain ⟨fu, rfl⟩ : ∃ g, fu = g + 1 := ⟨fu - 1, by omega⟩
    unfold f_X3_airInMinute_16
    rw [oi_p (l40 (by omega) (by omega)), show i = 40 by omega]
  | succ K ih =>
    intro i fu h1 h2
    obtain ⟨fu, rfl⟩ : ∃ g, fu = g + 1 := ⟨fu - 1, by omega⟩
    have hn := ih (i + 1) fu (by omega) (by omega)
    have es : orf (fa M V m) (i + 1) = orf (fa M V m) i ||| fa M V m i := rfl
    unfold f_X3_airInMinute_16
    rw [oi_n (g40 (by omega)), og_p (nI_in (by omega) (by omega)), xr1 hX (by omega), nI_1, nI_1]
    by_cases hi : i < M 0 1
    · rw [if_pos hi, oc_s (rx_n1 hX hi), x_mts hW hX hi (by omega) (by omega), ob_s]
      by_cases r : mts M i m (m + 1)
      · rw [if_pos r, oi_n e10]
        rw [es, show fa M V m i = V.2.1 i from if_pos ⟨hi, r⟩] at hn
        exact hn
      · rw [if_neg r, oi_p rfl]
        rw [es, show fa M V m i = 0 from if_neg (fun h => r h.2), Int64.or_zero] at hn
        exact hn
    · rw [if_neg hi, oc_n]
      rw [es, show fa M V m i = 0 from if_neg (fun h => hi h.1), Int64.or_zero] at hn
      exact hn
theorem t_air5 (hW : WF M) (hT : RT T M) (hA : RA V T M) {m : Nat} (hm : m < 1440) : ∀ (k c fu : Nat), c + k = M 0 0 → k < fu → f_X4_airIn_5 T fu (nI m) (orf (ga M V m) c) (nI c) = some (orf (ga M V m) (M 0 0)) := by
  have h5 := hW.1.1
  have h40 := hW.1.2.1
  intro k
  induction k with
  | zero =>
    intro c fu h1 h2
    obtain ⟨fu, rfl⟩ : ∃ g, fu = g + 1 := ⟨fu - 1, by omega⟩
    unfold f_X4_airIn_5
    rw [hT.1.1, oi_p (nI_le (by omega) (by omega)), show c = M 0 0 by omega]
  | succ k ih =>
    intro c fu h1 h2
    obtain ⟨fu, rfl⟩ : ∃ g, fu = g + 1 := ⟨fu - 1, by omega⟩
    have hn := ih (c + 1) fu (by omega) (by omega)
    have es : orf (ga M V m) (c + 1) = orf (ga M V m) c ||| ga M V m c := rfl
    unfold f_X4_airIn_5
    rw [hT.1.1, oi_n (nI_ge (by omega) (by omega)), t_at hW hT (show c < 1000 by omega) hm, ob_s, nI_1, ob_s]
    rcases at_or M c m with ⟨e, h⟩ | ⟨j, hj, hc, e⟩
    · have q : atk M c m (M 0 1) 0 < 0 := by rw [e]; decide
      rw [oi_p q]
      rw [es, show ga M V m c = 0 from if_pos q, Int64.or_zero] at hn
      exact hn
    · have hj1 := hj.1
      have q : ¬ atk M c m (M 0 1) 0 < 0 := by rw [e]; exact nI_pos (by omega)
      rw [es, show ga M V m c = V.2.1 j by unfold ga; rw [if_neg q, e, nI_clamp (by omega)]] at hn
      rw [oi_n q, e, og_p (nI_in (by omega) (by omega)), nI_clamp (show j < 2 ^ 31 by omega), ← hA j hj1]
      exact hn
theorem air_eq (hW : WF M) (m : Nat) : orf (fa M V m) 40 = orf (ga M V m) (M 0 0) := by
  have h40 := hW.1.2.1
  refine lb_ext (fun b _ => ?_)
  rw [orf_bit, orf_bit]
  constructor
  · rintro ⟨i, hi, h⟩
    unfold fa at h
    by_cases q : lm M m i
    · rw [if_pos q] at h
      refine ⟨M 18 i, ((hW.2.2.1 i q.1).2.2.2.2.2.2.2.2.2.2 q.2.1).1, ?_⟩
      unfold ga
      rcases at_or M (M 18 i) m with ⟨e, h2⟩ | ⟨j, hj, hc, e⟩
      · exact absurd rfl (h2 i q)
      · obtain rfl : j = i := lm_uniq hW hj q hc
        rw [e, if_neg (nI_pos (by omega)), nI_clamp (by omega)]
        exact h
    · rw [if_neg q, lb_0] at h
      cases h
  · rintro ⟨c, hc, h⟩
    unfold ga at h
    rcases at_or M c m with ⟨e, h2⟩ | ⟨j, hj, hc, e⟩
    · rw [e, if_pos (by decide), lb_0] at h
      cases h
    · have hj1 := hj.1
      rw [e, if_neg (nI_pos (by omega)), nI_clamp (by omega)] at h
      refine ⟨j, by omega, ?_⟩
      unfold fa
      rw [if_pos hj]
      exact h
theorem x_airm (hW : WF M) (hX : RX n V M) {m : Nat} (hm : m < 1440) : f_X3_airInMinute n V (nI m) = some (orf (fa M V m) 40) := by
  have h := x_air hW hX hm 40 0 FU rfl (by unfold FU; omega)
  unfold f_X3_airInMinute
  exact h
theorem t_airm (hW : WF M) (hT : RT T M) (hA : RA V T M) {m : Nat} (hm : m < 1440) : f_X4_airIn T (nI m) = some (orf (fa M V m) 40) := by
  have h := t_air5 hW hT hA hm (M 0 0) 0 FU (by omega) (by have := hW.1.1; unfold FU; omega)
  rw [← air_eq hW m] at h
  unfold f_X4_airIn
  exact h
theorem st_30 (hR : Rel n V T) : lst_30 Rel n V T := by
  obtain ⟨M, hW, hX, hT, hA⟩ := hR
  intro out p
  rcases p_min p with ⟨m, hm, rfl⟩ | h
  · refine ⟨(0, n, V, vp_updL out (0 : Int32).toNatClampNeg (orf (fa M V m) 40)), (orf (fa M V m) 40, rsc T 27 0), ?_, ?_, rfl, fun _ => u0 (f := out), Rel.of27 hW hX hT hA⟩
    · unfold f_L_airAt f_X3_airAt
      rw [x_mink hm, ob_s, oi_n e10, x_airm hW hX hm, ob_s, ob_s, oi_p rfl]
    · unfold f_X4_airAt
      rw [t_nomink T hm, ob_s, oi_p rfl, t_airm hW (T := rsc T 27 0) (RT_27 hT) (RA_27 hA) hm, ob_s]
  · refine ⟨(1, n, V, out), (0, rsc T 27 1), ?_, ?_, rfl, fun h => absurd h e10, Rel.of27 hW hX hT hA⟩
    · unfold f_L_airAt f_X3_airAt
      rw [x_minn h, ob_s, oi_p rfl, ob_s, oi_n n10, oi_p rfl]
    · unfold f_X4_airAt
      rw [t_nominn T h, ob_s, oi_n e10]
end Q22
