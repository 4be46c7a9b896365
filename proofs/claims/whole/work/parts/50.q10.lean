section Q10
variable {n : Nat → Nat} {V : XV} {T : RV} {M : MD}
/-- a minute is free for a lift -/
def opn (M : MD) (V : XV) (l c m : Nat) : Prop := M 0 3 ≤ m ∧ (M 6 c).testBit (m / 60) = true ∧ fre M V l c m (m + 1)
abbrev canl (M : MD) (l c : Nat) : Prop := rch2 M l c ∧ ¬ hvy M l c
theorem t_op30 (hW : WF M) (hT : RT T M) (hA : RA V T M) {l c m : Nat} (hl : l < M 0 1) (hc : c < M 0 0) (hm : m ≤ 1440) : ∀ (k i fu : Nat), i + k = M 0 1 → k < fu → (f_X4_isOpen_30 T fu (nI l) (nI c) (nI m) (nI i) = some 1 ∧ ∀ j, i ≤ j → j < M 0 1 → j ≠ l → mts M j m (m + 1) → M 18 j ≠ c ∧ ¬ shr V j l) ∨ (f_X4_isOpen_30 T fu (nI l) (nI c) (nI m) (nI i) = some 0 ∧ ¬ fre M V l c m (m + 1)) := by
  have h40 := hW.1.2.1
  have gl := nI_in (wfl_40 hW hl) (by omega)
  have hl40 := wfl_40 hW hl
  intro k
  induction k with
  | zero =>
    intro i fu h1 h2
    obtain ⟨fu, rfl⟩ : ∃ g, fu = g + 1 := ⟨fu - 1, by omega⟩
    unfold f_X4_isOpen_30
    rw [hT.1.2.1, oi_p (nI_le (by omega) (by omega))]
    exact Or.inl ⟨rfl, fun j h3 h4 => by omega⟩
  | succ k ih =>
    intro i fu h1 h2
    obtain ⟨fu, rfl⟩ : ∃ g, fu = g + 1 := ⟨fu - 1, by omega⟩
    have hi : i < M 0 1 := by omega
    have gi := nI_in (c := i) (N := 40) (by omega) (by omega)
    have go : (i ≠ l → mts M i m (m + 1) → M 18 i ≠ c ∧ ¬ shr V i l) → (f_X4_isOpen_30 T fu (nI l) (nI c) (nI m) (nI (i + 1)) = some 1 ∧ ∀ j, i ≤ j → j < M 0 1 → j ≠ l → mts M j m (m + 1) → M 18 j ≠ c ∧ ¬ shr V j l) ∨ (f_X4_isOpen_30 T fu (nI l) (nI c) (nI m) (nI (i + 1)) = some 0 ∧ ¬ fre M V l c m (m + 1)) := by
      intro h0
      refine (ih (i + 1) fu (by omega) (by omega)).imp (fun h => ⟨h.1, fun j h3 h4 => ?_⟩) id
      by_cases z : j = i
      · subst z; exact h0
      · exact h.2 j (by omega) h4
    unfold f_X4_isOpen_30
    rw [hT.1.2.1, oi_n (nI_ge (by omega) (by omega)), nI_1]
    by_cases q : i = l
    · rw [oi_p (by rw [q])]
      exact go (fun h => absurd q h)
    · rw [oi_n (nI_ne q (by omega) (by omega)), show f_X4_isIn T (nI i) (nI m) 1 = _ from t_mts hW hT hi (b := 1) (by omega) (by omega), ob_s]
      by_cases r : mts M i m (m + 1)
      · rw [if_pos r, oi_n e10, og_p gi, og_p gi, og_p gl, nI_clamp (by omega), nI_clamp (by omega), ← hA i hi, ← hA l hl]
        have l11 := ((hW.2.2.1 i hi).2.2.2.2.2.2.2.2.2.2 r.1).1
        have h5 := wfc_5 hW hc
        have h5' := wfc_5 hW l11
        rw [((hT.2.2.2.1 i hi).2.2.2.2.2.2.2.2 r.1).1]
        by_cases z : M 18 i = c
        · rw [oi_p (by rw [z])]
          exact Or.inr ⟨rfl, fun h => (h i hi q r).1 z⟩
        · rw [oi_n (nI_ne z (by omega) (by omega))]
          by_cases y : lg_cmp (V.2.1 i &&& V.2.1 l) 0 = 0
          · rw [oi_p y]
            exact go (fun _ _ => ⟨z, fun h => h y⟩)
          · rw [oi_n y]
            exact Or.inr ⟨rfl, fun h => (h i hi q r).2 y⟩
      · rw [if_neg r, oi_p rfl]
        exact go (fun _ h => absurd h r)
theorem t_open (hW : WF M) (hT : RT T M) (hA : RA V T M) {l c m : Nat} (hl : l < M 0 1) (hc : c < M 0 0) (hm : m < 1440) : (f_X4_isOpen T (nI l) (nI c) (nI m) = some 1 ∧ opn M V l c m) ∨ (f_X4_isOpen T (nI l) (nI c) (nI m) = some 0 ∧ ¬ opn M V l c m) := by
  have hnow := hW.1.2.2.2.1
  obtain ⟨g1, g2⟩ := t_perm hW hT hc (show m / 60 < 24 by omega)
  unfold f_X4_isOpen
  rw [hT.1.2.2.2.2, show nI m / 60 = nI (m / 60) from nI_div (b := 60) (by omega) (by omega) (by omega)]
  by_cases q : M 0 3 ≤ m
  · rw [oi_n (nI_nlt q (by omega)), og_p g1, g2]
    by_cases r : (M 6 c).testBit (m / 60) = true
    · rw [if_pos r, oi_n e10]
      refine (t_op30 hW hT hA hl hc (by omega) (M 0 1) 0 FU (by omega) (by have := hW.1.2.1; unfold FU; omega)).imp (fun h => ⟨h.1, q, r, fun j hj => h.2 j (Nat.zero_le _) hj⟩) (fun h => ⟨h.1, fun x => h.2 x.2.2⟩)
    · rw [if_neg r, oi_p rfl]
      exact Or.inr ⟨rfl, fun h => r h.2.1⟩
  · rw [oi_p (nI_lt (by omega) (by omega))]
    exact Or.inr ⟨rfl, fun h => q h.1⟩
/-- r minutes are free from x on, and no more -/
def RLn (M : MD) (V : XV) (l c x r : Nat) : Prop := (∀ y, x ≤ y → y < x + r → canl M l c ∧ opn M V l c y) ∧ x + r ≤ 1440 ∧ (x + r < 1440 → ¬ (canl M l c ∧ opn M V l c (x + r)))
def RM (M : MD) (V : XV) (T : RV) (l c : Nat) : Prop := ∀ x, x ≤ 1440 → ∃ r, T.2.1 23 x = nI r ∧ RLn M V l c x r
theorem RT_23 {i : Nat} {v : Int32} (h : RT T M) : RT (rar T 23 i v) M := h
theorem RA_23 {i : Nat} {v : Int32} (h : RA V T M) : RA V (rar T 23 i v) M := h
theorem rar_23 {i x : Nat} {v : Int32} : (rar T 23 i v).2.1 23 x = if x = i then v else T.2.1 23 x := by
  show va_up T.2.1 23 (upd (T.2.1 23) i v) 23 x = _
  simp [va_up, upd]
theorem t_lk38 (hW : WF M) {l c : Nat} (hl : l < M 0 1) (hc : c < M 0 0) {cv : Int32} (hcv : (cv = 0 ∧ ¬ canl M l c) ∨ (cv = 1 ∧ canl M l c)) : ∀ (k : Nat) (T : RV) (fu : Nat), k ≤ 1440 → k < fu → RT T M → RA V T M → (∀ x, k ≤ x → x ≤ 1440 → ∃ r, T.2.1 23 x = nI r ∧ RLn M V l c x r) → ∃ T', f_X4_looks_38 T fu (nI l) (nI c) cv (nI k - 1) = some T' ∧ RT T' M ∧ RA V T' M ∧ RM M V T' l c := by
  intro k
  induction k with
  | zero =>
    intro T fu h1 h2 hT hA h3
    obtain ⟨fu, rfl⟩ : ∃ g, fu = g + 1 := ⟨fu - 1, by omega⟩
    unfold f_X4_looks_38
    rw [oi_p (show nI 0 - 1 < 0 by decide)]
    exact ⟨T, rfl, hT, hA, fun x hx => h3 x (Nat.zero_le _) hx⟩
  | succ k ih =>
    intro T fu h1 h2 hT hA h3
    obtain ⟨fu, rfl⟩ : ∃ g, fu = g + 1 := ⟨fu - 1, by omega⟩
    have g := nI_in (c := k) (N := 1441) (by omega) (by omega)
    have g1 := nI_in (c := k + 1) (N := 1441) (by omega) (by omega)
    have next : ∀ (v : Int32) (r : Nat), v = nI r → RLn M V l c k r → ∃ T', f_X4_looks_38 (rar T 23 k v) fu (nI l) (nI c) cv (nI k - 1) = some T' ∧ RT T' M ∧ RA V T' M ∧ RM M V T' l c := by
      intro v r hv hr
      refine ih (rar T 23 k v) fu (by omega) (by omega) (RT_23 hT) (RA_23 hA) ?_
      intro x hx1 hx2
      rw [rar_23]
      by_cases e : x = k
      · rw [if_pos e, e]; exact ⟨r, hv, hr⟩
      · rw [if_neg e]; exact h3 x (by omega) hx2
    have zero : ¬ (canl M l c ∧ opn M V l c k) → RLn M V l c k 0 := fun h => ⟨fun y h1 h2 => by omega, by omega, fun _ => h⟩
    unfold f_X4_looks_38
    rw [nI_sub1, oi_n (nI_pos (by omega)), ← Int32.sub_eq_add_neg]
    rcases hcv with ⟨hcv, hcn⟩ | ⟨hcv, hcn⟩
    · rw [oi_p hcv, og_p g, nI_clamp (by omega), ob_s]
      exact next 0 0 rfl (zero (fun h => hcn h.1))
    · rw [oi_n (by rw [hcv]; exact e10)]
      rcases t_open hW hT hA hl hc (show k < 1440 by omega) with ⟨e, ho⟩ | ⟨e, ho⟩
      · rw [e, ob_s, oi_n e10, nI_1, og_p g1, og_p g, nI_clamp (by omega), nI_clamp (by omega), ob_s]
        obtain ⟨r, hr1, hr2, hr3, hr4⟩ := h3 (k + 1) (Nat.le_refl _) (by omega)
        refine next _ (r + 1) (by rw [hr1, nI_1]) ⟨fun y h1 h2 => ?_, by omega, fun h => ?_⟩
        · by_cases e : y = k
          · rw [e]; exact ⟨hcn, ho⟩
          · exact hr2 y (by omega) (by omega)
        · rw [show k + (r + 1) = k + 1 + r by omega] at h ⊢
          exact hr4 h
      · rw [e, ob_s, oi_p rfl, og_p g, nI_clamp (by omega), ob_s]
        exact next 0 0 rfl (zero (fun h => ho h.2))
theorem t_looks (hW : WF M) (hT : RT T M) (hA : RA V T M) {l c : Nat} (hl : l < M 0 1) (hc : c < M 0 0) : ∃ T', f_X4_looks T (nI l) (nI c) = some T' ∧ RT T' M ∧ RA V T' M ∧ RM M V T' l c := by
  have fin : ∀ cv : Int32, ((cv = 0 ∧ ¬ canl M l c) ∨ (cv = 1 ∧ canl M l c)) → ∃ T', og (¬ ((1440 : Int32) < 0 ∨ 1441 ≤ ((1440 : Int32)).toNatClampNeg)) (ob (some (rar T 23 (1440 : Int32).toNatClampNeg 0)) (fun V_5 => f_X4_looks_38 V_5 FU (nI l) (nI c) cv 1439)) = some T' ∧ RT T' M ∧ RA V T' M ∧ RM M V T' l c := by
    intro cv hcv
    rw [og_p (show ¬ ((1440 : Int32) < 0 ∨ 1441 ≤ ((1440 : Int32)).toNatClampNeg) from nI_in (c := 1440) (by omega) (by omega)), show (1440 : Int32).toNatClampNeg = 1440 from nI_clamp (n := 1440) (by omega), ob_s]
    refine t_lk38 hW hl hc hcv 1440 (rar T 23 1440 0) FU (Nat.le_refl _) (by unfold FU; omega) (RT_23 hT) (RA_23 hA) ?_
    intro x h1 h2
    have : x = 1440 := by omega
    subst this
    rw [rar_23, if_pos rfl]
    exact ⟨0, rfl, fun y h1 h2 => by omega, by omega, fun h => by omega⟩
  unfold f_X4_looks
  rw [t_rch2 hW hT hl hc, ob_s]
  by_cases q : rch2 M l c
  · rw [if_pos q, oi_n e10, t_hvy hW hT hl hc, ob_s]
    by_cases r : hvy M l c
    · rw [if_pos r, oi_n e10]
      exact fin 0 (Or.inl ⟨rfl, fun h => h.2 r⟩)
    · rw [if_neg r, oi_p rfl]
      exact fin 1 (Or.inr ⟨rfl, q, r⟩)
  · rw [if_neg q, oi_p rfl]
    exact fin 0 (Or.inl ⟨rfl, fun h => q h.1⟩)
theorem fit_ops (hW : WF M) {l c m : Nat} (hl : l < M 0 1) : FIT M V l c m ↔ (m + M 15 l ≤ 1440 ∧ ∀ y, m ≤ y → y < m + M 15 l → canl M l c ∧ opn M V l c y) := by
  obtain ⟨l1, l2, l3, l4, l5, l6, l7, l8, -⟩ := hW.2.2.1 l hl
  constructor
  · rintro ⟨h1, h2, h3, h4, h5, h6⟩
    refine ⟨h4, fun y hy1 hy2 => ⟨⟨h1, h2⟩, by omega, h5 _ ?_ ?_, fun j hj hjl hm => h6 j hj hjl ⟨hm.1, by have := hm.2.1; omega, by have := hm.2.2; omega⟩⟩⟩
    · have : y / 60 ≤ (m + M 15 l - 1) / 60 := Nat.div_le_div_right (by omega)
      omega
    · exact Nat.div_le_div_right hy1
  · rintro ⟨h4, h⟩
    have h0 := h m (Nat.le_refl _) (by omega)
    refine ⟨h0.1.1, h0.1.2, h0.2.1, h4, fun j hj1 hj2 => ?_, fun j hj hjl hm => ?_⟩
    · by_cases z : 60 * j ≤ m
      · have e : m / 60 = j := by omega
        rw [← e]; exact h0.2.2.1
      · have := (h (60 * j) (by omega) (by omega)).2.2.1
        rw [show 60 * j / 60 = j by omega] at this
        exact this
    · obtain ⟨g1, g2, g3⟩ := hm
      have hlen := (hW.2.2.1 j hj).2.2.2.2.2.2.1
      by_cases z : M 19 j ≤ m
      · exact h0.2.2.2 j hj hjl ⟨g1, by omega, g3⟩
      · exact (h (M 19 j) (by omega) (by omega)).2.2.2 j hj hjl ⟨g1, by omega, by omega⟩
theorem rl_fit (hW : WF M) {l c m r : Nat} (hl : l < M 0 1) (h : RLn M V l c m r) : M 15 l ≤ r ↔ FIT M V l c m := by
  rw [fit_ops hW hl]
  constructor
  · intro h1
    exact ⟨by have := h.2.1; omega, fun y hy1 hy2 => h.1 y hy1 (by omega)⟩
  · intro h1
    refine Nat.not_lt.mp fun h2 => ?_
    exact h.2.2 (by omega) (h1.2 (m + r) (by omega) (by omega))
theorem t_ffm (hW : WF M) (hT : RT T M) {l c fr : Nat} (hl : l < M 0 1) (hR : RM M V T l c) : ∀ (k m fu : Nat), m + k = 1440 → k < fu → fr ≤ m → (∀ b, fr ≤ b → b < m → ¬ FIT M V l c b) → ∃ r, f_X4_fitsFrom_2 T fu (nI l) (nI m) = some r ∧ isF M V l c fr r := by
  obtain ⟨l1, l2, l3, l4, l5, l6, l7, l8, -⟩ := hW.2.2.1 l hl
  have gl := nI_in (wfl_40 hW hl) (by omega)
  have hl40 := wfl_40 hW hl
  intro k
  induction k with
  | zero =>
    intro m fu h1 h2 h3 h4
    obtain ⟨fu, rfl⟩ : ∃ g, fu = g + 1 := ⟨fu - 1, by omega⟩
    unfold f_X4_fitsFrom_2
    rw [oi_p (show (1440 : Int32) ≤ nI m from nI_le (a := 1440) (by omega) (by omega))]
    exact ⟨-1, rfl, Or.inr ⟨rfl, fun b hb hb2 => by
      have := hb2.2.2.2.1
      exact h4 b hb (by omega) hb2⟩⟩
  | succ k ih =>
    intro m fu h1 h2 h3 h4
    obtain ⟨fu, rfl⟩ : ∃ g, fu = g + 1 := ⟨fu - 1, by omega⟩
    unfold f_X4_fitsFrom_2
    obtain ⟨r, hr, hRL⟩ := hR m (by omega)
    have hr2 := hRL.2.1
    rw [oi_n (show ¬ (1440 : Int32) ≤ nI m from nI_ge (b := 1440) (by omega) (by omega)), og_p (nI_in (by omega) (by omega)), og_p gl, nI_clamp (by omega), nI_clamp (by omega), hr, (hT.2.2.2.1 l hl).2.2.2.2.2.1, nI_1]
    by_cases q : M 15 l ≤ r
    · rw [oi_n (nI_nlt q (by omega))]
      exact ⟨_, rfl, Or.inl ⟨m, rfl, h3, (rl_fit hW hl hRL).mp q, h4⟩⟩
    · rw [oi_p (nI_lt (by omega) (by omega))]
      refine ih (m + 1) fu (by omega) (by omega) (by omega) ?_
      intro b hb1 hb2
      by_cases z : b = m
      · rw [z]; exact fun h => q ((rl_fit hW hl hRL).mpr h)
      · exact h4 b hb1 (by omega)
theorem t_fits (hW : WF M) (hT : RT T M) {l c fr : Nat} (hl : l < M 0 1) (hR : RM M V T l c) (hf : fr ≤ 1440) : ∃ r, f_X4_fitsFrom T (nI l) (nI fr) = some r ∧ isF M V l c fr r :=
  t_ffm hW hT hl hR (1440 - fr) fr FU (by omega) (by unfold FU; omega) (Nat.le_refl _) (fun b h1 h2 => by omega)
theorem t_first (hW : WF M) (hT : RT T M) (hA : RA V T M) {l c : Nat} (hl : l < M 0 1) (hc : c < M 0 0) : ∃ r T', f_X4_first T (nI l) (nI c) = some (r, T') ∧ RT T' M ∧ RA V T' M ∧ isF M V l c 0 r := by
  obtain ⟨T', e, hT', hA', hR⟩ := t_looks hW hT hA hl hc
  obtain ⟨r, e2, h⟩ := t_fits hW hT' hl hR (Nat.zero_le _)
  refine ⟨r, T', ?_, hT', hA', h⟩
  unfold f_X4_first
  rw [e, ob_s]
  show ob (f_X4_fitsFrom T' (nI l) (nI 0)) _ = _
  rw [e2, ob_s]
end Q10
