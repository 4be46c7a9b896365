section Q35
variable {n : Nat → Nat} {V : XV} {T : RV} {M : MD}
/-- both searches for the starts of a pour -/
theorem find_both {V0 : XV} {P l c : Nat} (hW : WF M) (hP : P < M 0 2) (el : M 20 P = l) (hl : l < M 0 1) (hc : c < M 0 0) : ∀ (K s at0 : Nat) (V : XV) (T : RV) (fx fr : Nat), 1441 - s ≤ K → at0 ≤ s → K + 1 < fx → K + 1 < fr → inv34 n M V0 V T l c → FIT M V0 l c s → ∃ (V' : XV) (T' : RV), inv34 n M V0 V' T' l c ∧ ((f_X3_findRowStarts_30 n V fx P (nI c) l (nI s) (nI at0) = some (0, V') ∧ f_X4_planPour_71 T fr (nI P) (nI c) (nI s) = some (0, rsc T' 27 3)) ∨ ∃ (s1 : Nat) (st : Nat → Nat), f_X3_findRowStarts_30 n V fx P (nI c) l (nI s) (nI at0) = some (1, V') ∧ f_X4_planPour_71 T fr (nI P) (nI c) (nI s) = f_X4_planPour_122 (rsc T' 27 0) FU (nI P) (nI c) (nI s1) 0 ∧ st 0 = s1 ∧ ∀ j, j < M 21 P → V'.2.2.2 0 j = nI (st j) ∧ T'.2.1 24 j = nI (st j) ∧ FIT M V0 l c (st j) ∧ (j + 1 < M 21 P → st j + M 15 l ≤ st (j + 1))) := by
  obtain ⟨p1, p2, p3, p4, p5⟩ := hW.2.2.2.1 P hP
  have gP := nI_in (wfp_6 hW hP) (by omega)
  have hP6 := wfp_6 hW hP
  obtain ⟨l1, l2, l3, l4, l5, l6, l7, l8, -⟩ := hW.2.2.1 l hl
  intro K
  induction K with
  | zero =>
    intro s at0 V T fx fr h1 h2 h3 h4 hI hF
    have := hF.le
    omega
  | succ K ih =>
    intro s at0 V T fx fr h1 h2 h3 h4 hI hF
    obtain ⟨fx, rfl⟩ : ∃ g, fx = g + 1 := ⟨fx - 1, by omega⟩
    obtain ⟨fr, rfl⟩ : ∃ g, fr = g + 1 := ⟨fr - 1, by omega⟩
    have hs := hF.le
    have hs4 := hF.2.2.2.1
    have hs3 := hF.2.2.1
    obtain ⟨hX, hT, hA, hR, hV⟩ := hI
    have t1 := (hT.2.2.2.2 P hP).1
    obtain ⟨V1, T1, hI1, -, hres⟩ := fill_both (n := n) (V0 := V0) hW hP hl hc (M 21 P - 1) 0 s V (rar T 24 0 (nI s)) FU FU (by omega) (by unfold FU; omega) (by unfold FU; omega) ⟨hX, RT_24 hT, RA_24 hA, RM_24 hR, hV⟩ hF (by rw [rar_r, if_pos ⟨rfl, rfl⟩])
    have ef : f_X4_fitsAll T (nI P) (nI s) = f_X4_fitsAll_17 (rar T 24 0 (nI s)) FU (nI P) (nI l) (nI (0 + 1)) := by
      unfold f_X4_fitsAll
      rw [og_p gP, og_p (show ¬ ((0 : Int32) < 0 ∨ 8 ≤ ((0 : Int32)).toNatClampNeg) by decide), nI_clamp (show P < 2 ^ 31 by omega), t1, el, ob_s]
      rfl
    have ex : f_X3_findRowStarts_30 n V (fx + 1) P (nI c) l (nI s) (nI at0) = ob (f_X3_fillRowStarts_7 n V FU P l (nI c) (nI s) (nI 0)) (fun u_9 => oi (u_9.1 = 0) (ob (f_X3_nextFit n u_9.2 l (nI c) (nI (s + 1))) (fun u_12 => f_X3_findRowStarts_30 n u_9.2 fx P (nI c) l u_12 (nI (at0 + 1)))) (some (1, u_9.2))) := by
      rw [f_X3_findRowStarts_30]
      rw [oi_n (show ¬ (1440 : Int32) < nI at0 from nI_nlt (a := 1440) (b := at0) (by omega) (by omega)), oi_n (m1_ne (by omega)), nI_1, nI_1]
      rfl
    have et : f_X4_planPour_71 T (fr + 1) (nI P) (nI c) (nI s) = ob (f_X4_fitsAll_17 (rar T 24 0 (nI s)) FU (nI P) (nI l) (nI (0 + 1))) (fun u_27 => oi (u_27.1 = 0) (og (¬ (nI P < 0 ∨ 6 ≤ (nI P).toNatClampNeg)) (ob (f_X4_fitsFrom u_27.2 (u_27.2.2.1 20 (nI P).toNatClampNeg) (nI s + 1)) (fun u_38 => f_X4_planPour_71 u_27.2 fr (nI P) (nI c) u_38))) (oi (0 ≤ nI s) (ob (f_X4_fails u_27.2 0) (fun u_31 => oi (u_31.1 = 0) (f_X4_planPour_122 u_31.2 FU (nI P) (nI c) (nI s) 0) (some (0, u_31.2)))) (ob (f_X4_fails u_27.2 3) (fun u_34 => oi (u_34.1 = 0) (f_X4_planPour_122 u_34.2 FU (nI P) (nI c) (nI s) 0) (some (0, u_34.2)))))) := by
      rw [f_X4_planPour_71]
      rw [oi_n (nI_pos (by omega)), ef]
    rw [ex, et]
    rcases hres with ⟨e1, e2⟩ | ⟨e1, e2, st, hst, hall⟩
    · obtain ⟨hX1, hT1, hA1, hR1, hV1⟩ := hI1
      obtain ⟨r, er, hr⟩ := x_next hW hX1 hl hc hF.1 hF.2.1 (show M 0 3 ≤ s + 1 by omega) (by omega)
      obtain ⟨r2, er2, hr2⟩ := t_fits hW hT1 hl hR1 (fr := s + 1) (by omega)
      obtain rfl : r2 = r := isF_uniq hr2 hr
      have t1' := (hT1.2.2.2.2 P hP).1
      have ex2 : ob (f_X3_fillRowStarts_7 n V FU P l (nI c) (nI s) (nI 0)) (fun u_9 => oi (u_9.1 = 0) (ob (f_X3_nextFit n u_9.2 l (nI c) (nI (s + 1))) (fun u_12 => f_X3_findRowStarts_30 n u_9.2 fx P (nI c) l u_12 (nI (at0 + 1)))) (some (1, u_9.2))) = f_X3_findRowStarts_30 n V1 fx P (nI c) l r2 (nI (at0 + 1)) := by
        rw [e1, ob_s, oi_p rfl, er, ob_s]
      have et2 : ob (f_X4_fitsAll_17 (rar T 24 0 (nI s)) FU (nI P) (nI l) (nI (0 + 1))) (fun u_27 => oi (u_27.1 = 0) (og (¬ (nI P < 0 ∨ 6 ≤ (nI P).toNatClampNeg)) (ob (f_X4_fitsFrom u_27.2 (u_27.2.2.1 20 (nI P).toNatClampNeg) (nI s + 1)) (fun u_38 => f_X4_planPour_71 u_27.2 fr (nI P) (nI c) u_38))) (oi (0 ≤ nI s) (ob (f_X4_fails u_27.2 0) (fun u_31 => oi (u_31.1 = 0) (f_X4_planPour_122 u_31.2 FU (nI P) (nI c) (nI s) 0) (some (0, u_31.2)))) (ob (f_X4_fails u_27.2 3) (fun u_34 => oi (u_34.1 = 0) (f_X4_planPour_122 u_34.2 FU (nI P) (nI c) (nI s) 0) (some (0, u_34.2)))))) = f_X4_planPour_71 T1 fr (nI P) (nI c) r2 := by
        rw [e2, ob_s, oi_p rfl, og_p gP, nI_clamp (show P < 2 ^ 31 by omega)]
        show ob (f_X4_fitsFrom T1 (T1.2.1 20 P) (nI s + 1)) _ = _
        rw [t1', el, nI_1, er2, ob_s]
      rw [ex2, et2]
      rcases hr with ⟨a, rfl, ha, hFa, -⟩ | ⟨rfl, -⟩
      · have hFa : FIT M V0 l c a := (FIT_eq hV1).mp hFa
        have := hFa.le
        exact ih a (at0 + 1) V1 T1 fx fr (by omega) (by omega) (by omega) (by omega) ⟨hX1, hT1, hA1, hR1, hV1⟩ hFa
      · obtain ⟨fx, rfl⟩ : ∃ g, fx = g + 1 := ⟨fx - 1, by omega⟩
        obtain ⟨fr, rfl⟩ : ∃ g, fr = g + 1 := ⟨fr - 1, by omega⟩
        refine ⟨V1, T1, ⟨hX1, hT1, hA1, hR1, hV1⟩, Or.inl ⟨?_, ?_⟩⟩
        · rw [f_X3_findRowStarts_30]
          by_cases q : (1440 : Int32) < nI (at0 + 1)
          · rw [oi_p q]
          · rw [oi_n q, oi_p rfl]
        · rw [f_X4_planPour_71]
          rw [oi_p (show (-1 : Int32) < 0 by decide), oi_n (show ¬ (0 : Int32) ≤ -1 by decide), t_fl3, ob_s, oi_n e10]
    · refine ⟨V1, T1, hI1, Or.inr ⟨s, st, ?_, ?_, hst, fun j hj => hall j (Nat.zero_le _) hj⟩⟩
      · rw [e1, ob_s, oi_n e10]
      · rw [e2, ob_s, oi_n e10, oi_p (nI_pos' (by omega)), t_fl0, ob_s, oi_p rfl]
/-- a lift may be put so that no two of a crane meet -/
abbrev okp (M : MD) (c i a : Nat) : Prop := a + M 15 i ≤ 1440 ∧ ∀ j, j < M 0 1 → j ≠ i → M 17 j ≠ 119 → M 18 j = c → a + M 15 i ≤ M 19 j ∨ M 19 j + M 15 j ≤ a
theorem put_both {P c : Nat} : ∀ (d k : Nat) (M : MD) (V : XV) (T : RV) (fx fr : Nat) (st : Nat → Nat), k + d = M 21 P → d < fx → d < fr → WF M → RX n V M → RT T M → RA V T M → P < M 0 2 → c < M 0 0 → (∀ j, j < M 21 P → V.2.2.2 0 j = nI (st j) ∧ T.2.1 24 j = nI (st j)) → (∀ j, k ≤ j → j < M 21 P → okp M c (M 20 P + j) (st j)) → (∀ i j, k ≤ i → i < j → j < M 21 P → st i + M 15 (M 20 P + i) ≤ st j) → ∃ (M' : MD) (V' : XV) (T' : RV), f_X3_planPour_68 n V fx (nI c) P (nI k) = some (0, nI (st 0), V') ∧ f_X4_planPour_122 T fr (nI P) (nI c) (nI (st 0)) (nI k) = some (nI (st 0), T') ∧ WF M' ∧ RX n V' M' ∧ RT T' M' ∧ RA V' T' M' ∧ T'.1 27 = T.1 27 := by
  intro d
  induction d with
  | zero =>
    intro k M V T fx fr st h1 h2 h3 hW hX hT hA hP hc hst hok hch
    obtain ⟨fx, rfl⟩ : ∃ g, fx = g + 1 := ⟨fx - 1, by omega⟩
    obtain ⟨fr, rfl⟩ : ∃ g, fr = g + 1 := ⟨fr - 1, by omega⟩
    obtain ⟨p1, p2, p3, p4, p5⟩ := hW.2.2.2.1 P hP
    have gP := nI_in (wfp_6 hW hP) (by omega)
    have hP6 := wfp_6 hW hP
    refine ⟨M, V, T, ?_, ?_, hW, hX, hT, hA, rfl⟩
    · rw [f_X3_planPour_68]
      rw [(hX.2.2.2 P hP).2.1, oi_p (nI_le (by omega) (by omega)), og_p (show ¬ ((0 : Int32) < 0 ∨ 8 ≤ ((0 : Int32)).toNatClampNeg) by decide), show (0 : Int32).toNatClampNeg = 0 from rfl, (hst 0 (by omega)).1]
    · rw [f_X4_planPour_122]
      rw [og_p gP, nI_clamp (show P < 2 ^ 31 by omega), (hT.2.2.2.2 P hP).2.1, oi_p (nI_le (by omega) (by omega))]
  | succ d ih =>
    intro k M V T fx fr st h1 h2 h3 hW hX hT hA hP hc hst hok hch
    obtain ⟨fx, rfl⟩ : ∃ g, fx = g + 1 := ⟨fx - 1, by omega⟩
    obtain ⟨fr, rfl⟩ : ∃ g, fr = g + 1 := ⟨fr - 1, by omega⟩
    have h40 := hW.1.2.1
    obtain ⟨p1, p2, p3, p4, p5⟩ := hW.2.2.2.1 P hP
    have gP := nI_in (wfp_6 hW hP) (by omega)
    have hP6 := wfp_6 hW hP
    have gP2 : ¬ (nI P < 0 ∨ 6 ≤ P) := by have g := gP; rw [nI_clamp (by omega)] at g; exact g
    have gk := nI_in (c := k) (N := 8) (by omega) (by omega)
    have hi : M 20 P + k < M 0 1 := by omega
    obtain ⟨i, ei⟩ : ∃ i, i = M 20 P + k := ⟨_, rfl⟩
    have hi' : i < M 0 1 := by rw [ei]; exact hi
    obtain ⟨ho1, ho2⟩ := hok k (Nat.le_refl _) (by omega)
    rw [← ei] at ho1 ho2
    have e0 : mput M i 112 c (st k) 0 = M 0 := mput_f (by decide) (by decide) (by decide)
    have e15 : mput M i 112 c (st k) 15 = M 15 := mput_f (by decide) (by decide) (by decide)
    have e20 : mput M i 112 c (st k) 20 = M 20 := mput_f (by decide) (by decide) (by decide)
    have e21 : mput M i 112 c (st k) 21 = M 21 := mput_f (by decide) (by decide) (by decide)
    have w' : WF (mput M i 112 c (st k)) := put_wf hW (by omega) (fun _ => ⟨hc, ho1⟩) (fun _ => ho2)
    have x' : RX n (xput (xput (xput V 1 i 8 112) 1 i 9 (nI c)) 1 i 10 (nI (st k))) (mput M i 112 c (st k)) := put_rx (s := 112) hX (fun _ => ⟨rfl, rfl⟩)
    have t' : RT (rar (rar (rar T 14 i 112) 15 i (nI c)) 16 i (nI (st k))) (mput M i 112 c (st k)) := put_rt (s := 112) hT
    have a' : RA (xput (xput (xput V 1 i 8 112) 1 i 9 (nI c)) 1 i 10 (nI (st k))) (rar (rar (rar T 14 i 112) 15 i (nI c)) 16 i (nI (st k))) (mput M i 112 c (st k)) := put_ra hA
    obtain ⟨M', V', T', g1, g2, g3, g4, g5, g6, g7⟩ := ih (k + 1) (mput M i 112 c (st k)) _ _ fx fr st (by rw [e21]; omega) (by omega) (by omega) w' x' t' a' (by rw [e0]; exact hP) (by rw [e0]; exact hc) (fun j hj => by rw [e21] at hj; exact hst j hj) (fun j hj1 hj2 => by
      rw [e21] at hj2
      obtain ⟨z1, z2⟩ := hok j (by omega) hj2
      unfold okp
      rw [e0, e15, e20]
      refine ⟨z1, fun y hy1 hy2 hy3 hy4 => ?_⟩
      by_cases q : y = i
      · rw [q, mput_19]
        have := hch k j (Nat.le_refl _) (by omega) hj2
        rw [← ei] at this
        exact Or.inr this
      · rw [mput_o (Or.inl q)] at hy3 hy4 ⊢
        exact z2 y hy1 hy2 hy3 hy4) (fun x y hx1 hx2 hx3 => by
      rw [e21] at hx3
      rw [e15, e20]
      exact hch x y (by omega) hx2 hx3)
    refine ⟨M', V', T', ?_, ?_, g3, g4, g5, g6, g7⟩
    · rw [f_X3_planPour_68]
      rw [(hX.2.2.2 P hP).2.1, oi_n (nI_ge (by omega) (by omega)), oi_n (show ¬ (8 : Int32) ≤ nI k from nI_ge (b := 8) (by omega) (by omega)), (hX.2.2.2 P hP).1, nI_add, ← ei, x_lfk hW hX hi', ob_s, oc_s (rx_n1 hX hi'), og_p gk, nI_clamp (show k < 2 ^ 31 by omega), (hst k (by omega)).1, x_put, ob_s, nI_1]
      exact g1
    · rw [f_X4_planPour_122]
      rw [og_p gP, nI_clamp (show P < 2 ^ 31 by omega), (hT.2.2.2.2 P hP).2.1, oi_n (nI_ge (by omega) (by omega)), og_p gP2, og_p gk, (hT.2.2.2.2 P hP).1, nI_clamp (show k < 2 ^ 31 by omega), (hst k (by omega)).2, nI_add, ← ei, t_takes (show i < 40 by omega), ob_s, nI_1]
      exact g2
theorem st_8 (hR : Rel n V T) : lst_8 Rel n V T := by
  obtain ⟨M, hW, hX, hT, hA⟩ := hR
  intro out p1 p2
  have h40 := hW.1.2.1
  have h6 := hW.1.2.2.1
  have h5 := hW.1.1
  have hnow := hW.1.2.2.2.1
  rcases p_num p1 (M 0 2) (by omega) with ⟨P, hP, rfl⟩ | h1
  · have eP : f_X4_in (nI P) 0 (nI (M 0 2) - 1) = some 1 := in_numk (by omega) hP
    rcases p_num p2 (M 0 0) (by omega) with ⟨c, hc, rfl⟩ | h2
    · obtain ⟨q1, q2, q3, q4, q5⟩ := hW.2.2.2.1 P hP
      have gP := nI_in (wfp_6 hW hP) (by omega)
      have hP6 := wfp_6 hW hP
      obtain ⟨a, ha, ea, e0, e1⟩ := gs_inf M 119 (M 21 P) (M 20 P) 0
      have c1 := (cnt_both hW hX hT hP (s := 119) (by omega)).1
      rw [show fld (gs M 119) (M 21 P) (M 20 P) 0 = nI (0 + a) from ea, Nat.zero_add] at c1
      have x1 : f_X3_countOfPour n V (nI P) 119 = some (nI a) := c1
      have tw := t_iw hW hT hP (M 21 P) 0 FU (by omega) (by unfold FU; omega)
      by_cases q : a = M 21 P
      · have hall : ∀ j, j < M 21 P → M 17 (M 20 P + j) = 119 := fun j hj => e1.mp q (M 20 P + j) (by omega) (by omega)
        have tw1 : f_X4_isWaiting T (nI P) = some 1 := by
          rcases tw with ⟨e, -⟩ | ⟨-, h⟩
          · exact e
          · exact absurd (fun j _ hj => hall j hj) h
        obtain ⟨l, el⟩ : ∃ l, M 20 P = l := ⟨_, rfl⟩
        have hl : l < M 0 1 := by omega
        obtain ⟨T1, et1, hT1, hA1, hR1⟩ := t_looks hW (T := rsc T 27 0) (RT_27 hT) (RA_27 hA) hl hc
        obtain ⟨r2, er2, hr2⟩ := t_fits hW hT1 hl hR1 (fr := 0) (Nat.zero_le _)
        obtain ⟨r, er, hr⟩ := x_first hW hX hl hc
        obtain rfl : r2 = r := isF_uniq hr2 hr
        have tx : f_X4_planPour T (nI P) (nI c) = f_X4_planPour_71 T1 FU (nI P) (nI c) r2 := by
          unfold f_X4_planPour
          rw [hT.1.2.2.1, eP, ob_s, oi_n e10, t_isc hW hT hc, ob_s, oi_p rfl, tw1, ob_s, oi_n e10, t_fl0, ob_s, oi_p rfl, og_p gP, nI_clamp (show P < 2 ^ 31 by omega)]
          show ob (f_X4_looks (rsc T 27 0) (T.2.1 20 P) (nI c)) _ = _
          rw [(hT.2.2.2.2 P hP).1, el, et1, ob_s, og_p (by have g := gP; rw [nI_clamp (by omega)] at g; exact g), (hT1.2.2.2.2 P hP).1, el, show f_X4_fitsFrom T1 (nI l) 0 = _ from er2, ob_s]
        have xx : f_X3_findRowStarts n V P (nI c) = f_X3_findRowStarts_30 n V FU P (nI c) l r2 0 := by
          unfold f_X3_findRowStarts
          rw [(hX.2.2.2 P hP).1, el, x_lfk hW hX hl, ob_s, oc_s (rx_n1 hX hl), er, ob_s]
        have fail : ∀ (V' : XV) (T' : RV), RX n V' M → RT T' M → RA V' T' M → f_X3_findRowStarts_30 n V FU P (nI c) l r2 0 = some (0, V') → f_X4_planPour_71 T1 FU (nI P) (nI c) r2 = some (0, rsc T' 27 3) → ∃ (res : Int32 × (Nat → Nat) × XV × (Nat → Int64)) (rr : Int32 × RV), f_L_planPour n V out (nI P) (nI c) = some res ∧ f_X4_planPour T (nI P) (nI c) = some rr ∧ rr.2.1 27 = res.1 ∧ (res.1 = 0 → res.2.2.2 (0 : Int32).toNatClampNeg = Int32.toInt64 rr.1) ∧ Rel res.2.1 res.2.2.1 rr.2 := by
          intro V' T' hX' hT' hA' k1 k2
          refine ⟨(3, n, V', out), (0, rsc T' 27 3), ?_, tx.trans k2, rfl, fun h => absurd h (show ¬ (3 : Int32) = 0 by decide), Rel.of27 hW hX' hT' hA'⟩
          unfold f_L_planPour f_X3_planPour
          rw [x_pok hW hX hP, ob_s, oc_s (rx_n2 hX hP), x_crk hW hX hc, ob_s, oc_s (rx_n0 hX hc), x1, ob_s, (hX.2.2.2 P hP).2.1, oi_p (nI_le (by omega) (by omega)), xx, k1, ob_s, oi_p rfl, ob_s, oi_n n40, oi_n n43, oi_n n42, oi_p rfl]
        rcases hr with ⟨s, rfl, -, hF, -⟩ | ⟨rfl, -⟩
        · have hs := hF.le
          obtain ⟨V', T', hI', hres⟩ := find_both (n := n) (V0 := V) hW hP el hl hc 1441 s 0 V T1 FU FU (by omega) (Nat.zero_le _) (by unfold FU; omega) (by unfold FU; omega) ⟨hX, hT1, hA1, hR1, rfl⟩ hF
          obtain ⟨hX', hT', hA', -, -⟩ := hI'
          rcases hres with ⟨k1, k2⟩ | ⟨s1, st, k1, k2, hst, hall2⟩
          · exact fail V' T' hX' hT' hA' k1 k2
          · have hmono : ∀ j i, i < j → j < M 21 P → st i + M 15 l ≤ st j := by
              intro j
              induction j with
              | zero => intro i h _; omega
              | succ j ihj =>
                intro i h1 h2
                have h3 := (hall2 j (by omega)).2.2.2 h2
                by_cases z : i = j
                · rw [z]; exact h3
                · have := ihj i (by omega) (by omega)
                  omega
            have e15 : ∀ j, j < M 21 P → M 15 (M 20 P + j) = M 15 l := fun j hj => by
              have z := (q5 (M 20 P + j) (by omega))
              have := z.2 (z.1.mpr (by omega)) 15 (by omega) (by omega)
              rw [this, el]
            obtain ⟨M2, V2, T2, g1, g2, g3, g4, g5, g6, g7⟩ := put_both (n := n) (P := P) (c := c) (M 21 P) 0 M V' (rsc T' 27 0) FU FU st (by omega) (by unfold FU; omega) (by unfold FU; omega) hW hX' (RT_27 hT') (RA_27 hA') hP hc (fun j hj => ⟨(hall2 j hj).1, (hall2 j hj).2.1⟩) (fun j _ hj => by
              have hFj := (hall2 j hj).2.2.1
              unfold okp
              rw [e15 j hj]
              refine ⟨hFj.2.2.2.1, fun y hy1 hy2 hy3 hy4 => ?_⟩
              have hyl : y ≠ l := fun h => hy3 (by rw [h, ← el]; exact hall 0 (by omega))
              have hn : ¬ mts M y (st j) (st j + M 15 l) := fun hm => (hFj.2.2.2.2.2 y hy1 hyl hm).1 hy4
              by_cases z : M 19 y < st j + M 15 l
              · have : ¬ st j < M 19 y + M 15 y := fun w => hn ⟨hy3, z, w⟩
                exact Or.inr (by omega)
              · exact Or.inl (by omega)) (fun i j _ h1 h2 => by rw [e15 i (by omega)]; exact hmono j i h1 h2)
            rw [hst] at g1 g2
            refine ⟨(0, n, V2, vp_updL out (0 : Int32).toNatClampNeg (nI s1).toInt64), (nI s1, T2), ?_, tx.trans (k2.trans g2), g7.trans rfl, fun _ => u0 (f := out), ⟨M2, g3, g4, g5, g6⟩⟩
            unfold f_L_planPour f_X3_planPour
            rw [x_pok hW hX hP, ob_s, oc_s (rx_n2 hX hP), x_crk hW hX hc, ob_s, oc_s (rx_n0 hX hc), x1, ob_s, (hX.2.2.2 P hP).2.1, oi_p (nI_le (by omega) (by omega)), xx, show f_X3_findRowStarts_30 n V FU P (nI c) l (nI s) 0 = _ from k1, ob_s, oi_n e10, show f_X3_planPour_68 n V' FU (nI c) P 0 = _ from g1, ob_s, oi_p rfl]
        · refine fail V T1 hX hT1 hA1 ?_ ?_
          · rw [show FU = 1999 + 1 from rfl, f_X3_findRowStarts_30]
            rw [oi_n (show ¬ (1440 : Int32) < 0 by decide), oi_p rfl]
          · rw [show FU = 1999 + 1 from rfl, f_X4_planPour_71]
            rw [oi_p (show (-1 : Int32) < 0 by decide), oi_n (show ¬ (0 : Int32) ≤ -1 by decide), t_fl3, ob_s, oi_n e10]
      · have tw0 : f_X4_isWaiting T (nI P) = some 0 := by
          rcases tw with ⟨-, h⟩ | ⟨e, -⟩
          · refine absurd (e1.mpr (fun j hj1 hj2 => ?_)) q
            have := h (j - M 20 P) (Nat.zero_le _) (by omega)
            rw [show M 20 P + (j - M 20 P) = j by omega] at this
            exact this
          · exact e
        refine ⟨(2, n, V, out), (0, rsc T 27 2), ?_, ?_, rfl, fun h => absurd h e20, Rel.of27 hW hX hT hA⟩
        · unfold f_L_planPour f_X3_planPour
          rw [x_pok hW hX hP, ob_s, oc_s (rx_n2 hX hP), x_crk hW hX hc, ob_s, oc_s (rx_n0 hX hc), x1, ob_s, (hX.2.2.2 P hP).2.1, oi_n (nI_ge (by omega) (by omega)), ob_s, oi_n n20, oi_n n23, oi_p rfl]
        · unfold f_X4_planPour
          rw [hT.1.2.2.1, eP, ob_s, oi_n e10, t_isc hW hT hc, ob_s, oi_p rfl, tw0, ob_s, oi_p rfl, t_fl2, ob_s, oi_n e10]
    · refine ⟨(1, n, V, out), (0, rsc T 27 1), ?_, ?_, rfl, fun h => absurd h e10, Rel.of27 hW hX hT hA⟩
      · unfold f_L_planPour f_X3_planPour
        rw [x_pok hW hX hP, ob_s, oc_s (rx_n2 hX hP), x_crn hW hX h2, ob_s, oc_n, ob_s, oi_n n30, oi_p rfl]
      · unfold f_X4_planPour
        rw [hT.1.2.2.1, eP, ob_s, oi_n e10, t_noc hW hT h2, ob_s, oi_n e10, t_fl1, ob_s, oi_n e10]
  · refine ⟨(1, n, V, out), (0, rsc T 27 1), ?_, ?_, rfl, fun h => absurd h e10, Rel.of27 hW hX hT hA⟩
    · unfold f_L_planPour f_X3_planPour
      rw [x_pon hW hX h1, ob_s, oc_n, ob_s, oi_n n30, oi_p rfl]
    · unfold f_X4_planPour
      rw [hT.1.2.2.1, in_num (by omega) h1, ob_s, oi_p rfl, t_fl1, ob_s, oi_n e10]
end Q35
