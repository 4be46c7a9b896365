section Q34
variable {n : Nat → Nat} {V : XV} {T : RV} {M : MD}
theorem RM_24 {l c i : Nat} {v : Int32} (h : RM M V T l c) : RM M V (rar T 24 i v) l c := h
theorem RM_rw {l c r i : Nat} {v : Int32} (h : RM M V T l c) : RM M (xrwp V r i v) T l c := h
theorem RT_24 {i : Nat} {v : Int32} (h : RT T M) : RT (rar T 24 i v) M := h
theorem RA_24 {i : Nat} {v : Int32} (h : RA V T M) : RA V (rar T 24 i v) M := h
theorem t_iw (hW : WF M) (hT : RT T M) {P : Nat} (hP : P < M 0 2) : ∀ (d k fu : Nat), k + d = M 21 P → d < fu → (f_X4_isWaiting_2 T fu (nI P) (nI k) = some 1 ∧ ∀ j, k ≤ j → j < M 21 P → M 17 (M 20 P + j) = 119) ∨ (f_X4_isWaiting_2 T fu (nI P) (nI k) = some 0 ∧ ¬ ∀ j, k ≤ j → j < M 21 P → M 17 (M 20 P + j) = 119) := by
  have h40 := hW.1.2.1
  obtain ⟨p1, p2, p3, p4, p5⟩ := hW.2.2.2.1 P hP
  obtain ⟨t1, t2, t3⟩ := hT.2.2.2.2 P hP
  have gP := nI_in (wfp_6 hW hP) (by omega)
  have hP6 := wfp_6 hW hP
  have gP2 : ¬ (nI P < 0 ∨ 6 ≤ P) := by have g := gP; rw [nI_clamp (by omega)] at g; exact g
  intro d
  induction d with
  | zero =>
    intro k fu h1 h2
    obtain ⟨fu, rfl⟩ : ∃ g, fu = g + 1 := ⟨fu - 1, by omega⟩
    unfold f_X4_isWaiting_2
    rw [og_p gP, nI_clamp (by omega), t2, oi_p (nI_le (by omega) (by omega))]
    exact Or.inl ⟨rfl, fun j h3 h4 => by omega⟩
  | succ d ih =>
    intro k fu h1 h2
    obtain ⟨fu, rfl⟩ : ∃ g, fu = g + 1 := ⟨fu - 1, by omega⟩
    have hi : M 20 P + k < M 0 1 := by omega
    unfold f_X4_isWaiting_2
    rw [og_p gP, nI_clamp (by omega), t2, oi_n (nI_ge (by omega) (by omega)), og_p gP2, t1, nI_add, og_p (nI_in (by omega) (by omega)), nI_clamp (by omega), (hT.2.2.2.1 _ hi).2.2.2.2.2.2.2.1, nI_1]
    by_cases q : M 17 (M 20 P + k) = 119
    · rw [oi_p (show nI (M 17 (M 20 P + k)) = 119 from (st_is hW hi 119 (by omega)).mpr q)]
      refine (ih (k + 1) fu (by omega) (by omega)).imp (fun h => ⟨h.1, fun j h3 h4 => ?_⟩) (fun h => ⟨h.1, fun z => h.2 (fun j h3 h4 => z j (by omega) h4)⟩)
      by_cases z : j = k
      · rw [z]; exact q
      · exact h.2 j (by omega) h4
    · rw [oi_n (show ¬ nI (M 17 (M 20 P + k)) = 119 from fun h => q ((st_is hW hi 119 (by omega)).mp h))]
      exact Or.inr ⟨rfl, fun h => q (h k (Nat.le_refl _) (by omega))⟩
/-- what both sides keep while starts are sought -/
abbrev inv34 (n : Nat → Nat) (M : MD) (V0 : XV) (V : XV) (T : RV) (l c : Nat) : Prop := RX n V M ∧ RT T M ∧ RA V T M ∧ RM M V T l c ∧ V.2.1 = V0.2.1
theorem FIT_eq {V' : XV} {l c a : Nat} (h : V'.2.1 = V.2.1) : FIT M V' l c a ↔ FIT M V l c a := by
  unfold FIT fre shr
  rw [h]
theorem fill_both {V0 : XV} {P l c : Nat} (hW : WF M) (hP : P < M 0 2) (hl : l < M 0 1) (hc : c < M 0 0) : ∀ (d k s : Nat) (V : XV) (T : RV) (fx fr : Nat), k + 1 + d = M 21 P → d + 1 < fx → d < fr → inv34 n M V0 V T l c → FIT M V0 l c s → T.2.1 24 k = nI s → ∃ (V' : XV) (T' : RV), inv34 n M V0 V' T' l c ∧ (∀ j, j < k → V'.2.2.2 0 j = V.2.2.2 0 j ∧ T'.2.1 24 j = T.2.1 24 j) ∧ ((f_X3_fillRowStarts_7 n V fx P l (nI c) (nI s) (nI k) = some (0, V') ∧ f_X4_fitsAll_17 T fr (nI P) (nI l) (nI (k + 1)) = some (0, T')) ∨ (f_X3_fillRowStarts_7 n V fx P l (nI c) (nI s) (nI k) = some (1, V') ∧ f_X4_fitsAll_17 T fr (nI P) (nI l) (nI (k + 1)) = some (1, T') ∧ ∃ st : Nat → Nat, st k = s ∧ ∀ j, k ≤ j → j < M 21 P → V'.2.2.2 0 j = nI (st j) ∧ T'.2.1 24 j = nI (st j) ∧ FIT M V0 l c (st j) ∧ (j + 1 < M 21 P → st j + M 15 l ≤ st (j + 1)))) := by
  have h40 := hW.1.2.1
  obtain ⟨p1, p2, p3, p4, p5⟩ := hW.2.2.2.1 P hP
  have gP := nI_in (wfp_6 hW hP) (by omega)
  have hP6 := wfp_6 hW hP
  have hl40 := wfl_40 hW hl
  have gl := nI_in hl40 (by omega)
  have gP2 : ¬ (nI P < 0 ∨ 6 ≤ P) := by have g := gP; rw [nI_clamp (by omega)] at g; exact g
  have gl2 : ¬ (nI l < 0 ∨ 40 ≤ l) := by have g := gl; rw [nI_clamp (by omega)] at g; exact g
  obtain ⟨l1, l2, l3, l4, l5, l6, l7, l8, -⟩ := hW.2.2.1 l hl
  intro d
  induction d with
  | zero =>
    intro k s V T fx fr h1 h2 h3 hI hF h4
    obtain ⟨fx, rfl⟩ : ∃ g, fx = g + 1 + 1 := ⟨fx - 2, by omega⟩
    obtain ⟨fr, rfl⟩ : ∃ g, fr = g + 1 := ⟨fr - 1, by omega⟩
    obtain ⟨hX, hT, hA, hR, hV⟩ := hI
    have x2 := (hX.2.2.2 P hP).2.1
    have x2' : (xrwp V 0 k (nI s)).1 2 P 1 = nI (M 21 P) := x2
    obtain ⟨t1, t2, t3⟩ := hT.2.2.2.2 P hP
    refine ⟨xrwp V 0 k (nI s), T, ⟨RX_rw hX, hT, RA_rw hA, RM_rw hR, hV⟩, fun j hj => ⟨?_, rfl⟩, Or.inr ⟨?_, ?_, fun _ => s, rfl, fun j hj1 hj2 => ?_⟩⟩
    · rw [xrw_r, if_neg (by omega)]
    · unfold f_X3_fillRowStarts_7
      rw [x2, oi_n (nI_ge (by omega) (by omega)), oi_n (show ¬ (8 : Int32) ≤ nI k from nI_ge (b := 8) (by omega) (by omega)), og_p (nI_in (by omega) (by omega)), nI_clamp (show k < 2 ^ 31 by omega), ob_s, x2', nI_1, oi_p (nI_le (by omega) (by omega))]
      unfold f_X3_fillRowStarts_7
      rw [x2', oi_p (nI_le (by omega) (by omega))]
    · unfold f_X4_fitsAll_17
      rw [og_p gP, nI_clamp (show P < 2 ^ 31 by omega), t2, oi_p (nI_le (by omega) (by omega))]
    · obtain rfl : j = k := by omega
      refine ⟨?_, h4, hF, fun h => by omega⟩
      rw [xrw_r, if_pos rfl]
  | succ d ih =>
    intro k s V T fx fr h1 h2 h3 hI hF h4
    obtain ⟨fx, rfl⟩ : ∃ g, fx = g + 1 := ⟨fx - 1, by omega⟩
    obtain ⟨fr, rfl⟩ : ∃ g, fr = g + 1 := ⟨fr - 1, by omega⟩
    obtain ⟨hX, hT, hA, hR, hV⟩ := hI
    have x2 := (hX.2.2.2 P hP).2.1
    have x2' : (xrwp V 0 k (nI s)).1 2 P 1 = nI (M 21 P) := x2
    have x3' : (xrwp V 0 k (nI s)).1 2 P 2 = nI (M 22 P) := (hX.2.2.2 P hP).2.2
    have x6' : (xrwp V 0 k (nI s)).1 1 l 5 = nI (M 15 l) := (hX.2.2.1 l hl).2.2.2.2.2.1
    obtain ⟨t1, t2, t3⟩ := hT.2.2.2.2 P hP
    have t6 := (hT.2.2.2.1 l hl).2.2.2.2.2.1
    obtain ⟨f1, f2, f3, f4, f5, f6⟩ := hF
    have hF : FIT M V0 l c s := ⟨f1, f2, f3, f4, f5, f6⟩
    obtain ⟨r, er, hr⟩ := x_next hW (RX_rw (r := 0) (i := k) (v := nI s) hX) hl hc f1 f2 (show M 0 3 ≤ s + M 15 l by omega) (by omega)
    obtain ⟨r2, er2, hr2⟩ := t_fits hW hT hl hR (fr := s + M 15 l) f4
    have hr : isF M V l c (s + M 15 l) r := hr
    obtain rfl : r2 = r := isF_uniq hr2 hr
    have gk := nI_in (c := k) (N := 8) (by omega) (by omega)
    have gk1 := nI_in (c := k + 1) (N := 8) (by omega) (by omega)
    have gk2 : ¬ (nI (k + 1) < 0 ∨ 8 ≤ k + 1) := by have g := gk1; rw [nI_clamp (by omega)] at g; exact g
    have hX4 : RX n (xrwp V 0 k (nI s)) M := RX_rw hX
    have ew : (rar T 24 (k + 1) r2).2.1 24 (k + 1) = r2 := by rw [rar_r, if_pos ⟨rfl, rfl⟩]
    have e22 : (rar T 24 (k + 1) r2).2.1 22 P = nI (M 22 P) := t3
    have hj : ∀ j, j < k → (xrwp V 0 k (nI s)).2.2.2 0 j = V.2.2.2 0 j ∧ (rar T 24 (k + 1) r2).2.1 24 j = T.2.1 24 j := by
      intro j hj
      rw [xrw_r, if_neg (by omega), rar_r, if_neg (by omega)]
      exact ⟨rfl, rfl⟩
    have tx : f_X3_fillRowStarts_7 n V (fx + 1) P l (nI c) (nI s) (nI k) = oi (r2 = (-1)) (some (0, xrwp V 0 k (nI s))) (oi ((r2 - nI (s + M 15 l)) ≤ nI (M 22 P)) (f_X3_fillRowStarts_7 n (xrwp V 0 k (nI s)) fx P l (nI c) r2 (nI (k + 1))) (some (0, xrwp V 0 k (nI s)))) := by
      rw [f_X3_fillRowStarts_7]
      rw [x2, oi_n (nI_ge (by omega) (by omega)), oi_n (show ¬ (8 : Int32) ≤ nI k from nI_ge (b := 8) (by omega) (by omega)), og_p gk, nI_clamp (show k < 2 ^ 31 by omega), ob_s, x2', nI_1, oi_n (nI_ge (by omega) (by omega)), x6', nI_add, er, ob_s, x3']
    have tt : f_X4_fitsAll_17 T (fr + 1) (nI P) (nI l) (nI (k + 1)) = oi (r2 < 0) (some (0, rar T 24 (k + 1) r2)) (oi ((r2 - nI (s + M 15 l)) ≤ nI (M 22 P)) (f_X4_fitsAll_17 (rar T 24 (k + 1) r2) fr (nI P) (nI l) (nI (k + 1 + 1))) (some (0, rar T 24 (k + 1) r2))) := by
      rw [f_X4_fitsAll_17]
      rw [og_p gP, nI_clamp (show P < 2 ^ 31 by omega), t2, oi_n (nI_ge (by omega) (by omega)), nI_sub1, og_p gk, og_p gl, nI_clamp (show k < 2 ^ 31 by omega), nI_clamp (show l < 2 ^ 31 by omega), h4, t6, nI_add, er2, ob_s, og_p gk1, nI_clamp (show k + 1 < 2 ^ 31 by omega), ob_s, og_p gk2, ew, og_p gk2, og_p gP2, e22, nI_1]
    rw [tx, tt]
    rcases hr with ⟨a, rfl, ha, hFa, -⟩ | ⟨rfl, -⟩
    · have hFa : FIT M V0 l c a := (FIT_eq hV).mp hFa
      have ha2 := hFa.le
      by_cases q : (nI a - nI (s + M 15 l)) ≤ nI (M 22 P)
      · obtain ⟨V', T', hI', hj', hres⟩ := ih (k + 1) a (xrwp V 0 k (nI s)) (rar T 24 (k + 1) (nI a)) fx fr (by omega) (by omega) (by omega) ⟨hX4, RT_24 hT, RA_24 (RA_rw hA), RM_24 (RM_rw hR), hV⟩ hFa ew
        refine ⟨V', T', hI', fun j hjk => ⟨(hj' j (by omega)).1.trans (hj j hjk).1, (hj' j (by omega)).2.trans (hj j hjk).2⟩, ?_⟩
        rw [oi_n (m1_ne (by omega)), oi_p q, oi_n (nI_pos (by omega)), oi_p q]
        refine hres.imp id (fun ⟨e1, e2, st, hst, hall⟩ => ⟨e1, e2, fun j => if j = k then s else st j, if_pos rfl, fun j hj1 hj2 => ?_⟩)
        show V'.2.2.2 0 j = nI (if j = k then s else st j) ∧ T'.2.1 24 j = nI (if j = k then s else st j) ∧ FIT M V0 l c (if j = k then s else st j) ∧ (j + 1 < M 21 P → (if j = k then s else st j) + M 15 l ≤ (if j + 1 = k then s else st (j + 1)))
        by_cases z : j = k
        · subst z
          obtain ⟨w1, w2⟩ := hj' j (by omega)
          rw [if_pos rfl, if_neg (show ¬ j + 1 = j by omega), hst, w1, w2, xrw_r, if_pos rfl, rar_r, if_neg (by omega)]
          exact ⟨rfl, h4, hF, fun _ => ha⟩
        · obtain ⟨w1, w2, w3, w4⟩ := hall j (by omega) hj2
          rw [if_neg z, if_neg (show ¬ j + 1 = k by omega)]
          exact ⟨w1, w2, w3, w4⟩
      · refine ⟨xrwp V 0 k (nI s), rar T 24 (k + 1) (nI a), ⟨hX4, RT_24 hT, RA_24 (RA_rw hA), RM_24 (RM_rw hR), hV⟩, hj, Or.inl ⟨?_, ?_⟩⟩
        · rw [oi_n (m1_ne (by omega)), oi_n q]
        · rw [oi_n (nI_pos (by omega)), oi_n q]
    · refine ⟨xrwp V 0 k (nI s), rar T 24 (k + 1) (-1), ⟨hX4, RT_24 hT, RA_24 (RA_rw hA), RM_24 (RM_rw hR), hV⟩, hj, Or.inl ⟨?_, ?_⟩⟩
      · rw [oi_p rfl]
      · rw [oi_p (show (-1 : Int32) < 0 by decide)]
end Q34
