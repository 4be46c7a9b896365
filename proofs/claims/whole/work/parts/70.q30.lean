theorem rar_1 {T : RV} {j i : Nat} {v : Int32} : (rar T j i v).1 = T.1 := rfl
theorem rsc_s {T : RV} {f : Nat} {v : Int32} : (rsc T f v).1 f = v := if_pos rfl
theorem r27_0 {T : RV} {v : Int32} : (rsc T 27 v).1 0 = T.1 0 := rfl
theorem r27_7 {T : RV} {v : Int32} : (rsc T 27 v).1 7 = T.1 7 := rfl
theorem r27_19 {T : RV} {v : Int32} : (rsc T 27 v).1 19 = T.1 19 := rfl
section Q30
variable {n : Nat → Nat} {V : XV} {T : RV} {M : MD}
/-- a crane more, with what g says of its fields -/
def mcr (M : MD) (g : Nat → Nat) : MD := fun f k => if f = 0 then (if k = 0 then M 0 0 + 1 else M 0 k) else if k = M 0 0 ∧ f ≤ 6 then g f else M f k
theorem mcr_f {g : Nat → Nat} {f : Nat} (h : 7 ≤ f) : mcr M g f = M f := by
  funext k
  unfold mcr
  rw [if_neg (by omega), if_neg (by omega)]
theorem mcr_o {g : Nat → Nat} {f k : Nat} (h : k ≠ M 0 0) (hf : f ≠ 0) : mcr M g f k = M f k := by
  unfold mcr
  rw [if_neg hf, if_neg (fun z => h z.1)]
theorem mcr_n {g : Nat → Nat} {f : Nat} (h : f ≠ 0) (h2 : f ≤ 6) : mcr M g f (M 0 0) = g f := by
  unfold mcr
  rw [if_neg h, if_pos ⟨rfl, h2⟩]
theorem mcr_0 {g : Nat → Nat} : mcr M g 0 0 = M 0 0 + 1 := rfl
theorem mcr_k {g : Nat → Nat} {k : Nat} (h : k ≠ 0) : mcr M g 0 k = M 0 k := by
  unfold mcr
  rw [if_pos rfl, if_neg h]
theorem cr_wf (hW : WF M) {g : Nat → Nat} (h5 : M 0 0 < 5) (h : g 1 < 40 ∧ g 2 < 40 ∧ 1 ≤ g 3 ∧ g 3 ≤ 40 ∧ 1 ≤ g 4 ∧ g 4 ≤ 999 ∧ 1 ≤ g 5 ∧ g 5 ≤ 9999 ∧ g 6 < 2 ^ 24) : WF (mcr M g) := by
  refine ⟨?_, ?_, ?_, ?_, ?_⟩
  · unfold wfS
    rw [mcr_0, mcr_k (by decide), mcr_k (by decide), mcr_k (by decide), mcr_k (by decide)]
    exact ⟨by omega, hW.1.2⟩
  · intro k hk
    rw [mcr_0] at hk
    by_cases q : k = M 0 0
    · subst q
      rw [mcr_n (f := 1) (by decide) (by decide), mcr_n (f := 2) (by decide) (by decide), mcr_n (f := 3) (by decide) (by decide), mcr_n (f := 4) (by decide) (by decide), mcr_n (f := 5) (by decide) (by decide), mcr_n (f := 6) (by decide) (by decide)]
      exact h
    · rw [mcr_o (f := 1) q (by decide), mcr_o (f := 2) q (by decide), mcr_o (f := 3) q (by decide), mcr_o (f := 4) q (by decide), mcr_o (f := 5) q (by decide), mcr_o (f := 6) q (by decide)]
      exact hW.2.1 k (by omega)
  · unfold wfL
    rw [mcr_k (k := 1) (by decide), mcr_k (k := 2) (by decide), mcr_0, mcr_f (f := 10) (by decide), mcr_f (f := 11) (by decide), mcr_f (f := 12) (by decide), mcr_f (f := 13) (by decide), mcr_f (f := 14) (by decide), mcr_f (f := 15) (by decide), mcr_f (f := 16) (by decide), mcr_f (f := 17) (by decide), mcr_f (f := 18) (by decide), mcr_f (f := 19) (by decide)]
    intro k hk
    obtain ⟨l1, l2, l3, l4, l5, l6, l7, l8, l9, l10, l11⟩ := hW.2.2.1 k hk
    exact ⟨l1, l2, l3, l4, l5, l6, l7, l8, l9, l10, fun hs => ⟨by have := (l11 hs).1; omega, (l11 hs).2⟩⟩
  · unfold wfP
    rw [mcr_k (k := 1) (by decide), mcr_k (k := 2) (by decide), mcr_f (f := 16) (by decide), mcr_f (f := 20) (by decide), mcr_f (f := 21) (by decide), mcr_f (f := 22) (by decide)]
    intro k hk
    obtain ⟨p1, p2, p3, p4, p5⟩ := hW.2.2.2.1 k hk
    refine ⟨p1, p2, p3, p4, fun j hj => ⟨(p5 j hj).1, fun e f hf1 hf2 => ?_⟩⟩
    rw [mcr_f (f := f) (by omega)]
    exact (p5 j hj).2 e f hf1 hf2
  · unfold wfO
    rw [mcr_k (k := 1) (by decide), mcr_f (f := 15) (by decide), mcr_f (f := 17) (by decide), mcr_f (f := 18) (by decide), mcr_f (f := 19) (by decide)]
    exact hW.2.2.2.2
theorem cr_rx (hX : RX n V M) {g : Nat → Nat} (h6 : g 6 = 0) : RX (nup n 0) (xsc (xnew V 0 (n 0) (gC (nI (g 1)) (nI (g 2)) (nI (g 3)) (nI (g 4)) (nI (g 5)))) 3 (nI (M 0 0 + 1))) (mcr M g) := by
  obtain ⟨⟨s1, s2, s3, s4, s5, s6, s7, s8⟩, x2, x3, x4⟩ := hX
  refine ⟨⟨?_, ?_, ?_, rfl, ?_, ?_, ?_, ?_⟩, ?_, ?_, ?_⟩
  · show n 0 + 1 = M 0 0 + 1
    rw [s1]
  · rw [mcr_k (by decide)]; exact s2
  · rw [mcr_k (by decide)]; exact s3
  · rw [mcr_k (by decide)]; exact s5
  · rw [mcr_k (by decide)]; exact s6
  · rw [mcr_k (by decide)]; exact s7
  · rw [mcr_k (by decide)]; exact s8
  · intro k hk
    rw [mcr_0] at hk
    show va_up (V.1 0) (n 0) (gC (nI (g 1)) (nI (g 2)) (nI (g 3)) (nI (g 4)) (nI (g 5))) k 0 = _ ∧ va_up (V.1 0) (n 0) (gC (nI (g 1)) (nI (g 2)) (nI (g 3)) (nI (g 4)) (nI (g 5))) k 1 = _ ∧ va_up (V.1 0) (n 0) (gC (nI (g 1)) (nI (g 2)) (nI (g 3)) (nI (g 4)) (nI (g 5))) k 2 = _ ∧ va_up (V.1 0) (n 0) (gC (nI (g 1)) (nI (g 2)) (nI (g 3)) (nI (g 4)) (nI (g 5))) k 3 = _ ∧ va_up (V.1 0) (n 0) (gC (nI (g 1)) (nI (g 2)) (nI (g 3)) (nI (g 4)) (nI (g 5))) k 4 = _ ∧ va_up (V.1 0) (n 0) (gC (nI (g 1)) (nI (g 2)) (nI (g 3)) (nI (g 4)) (nI (g 5))) k 5 = _
    rw [s1]
    by_cases q : k = M 0 0
    · subst q
      rw [va_up_self, mcr_n (f := 1) (by decide) (by decide), mcr_n (f := 2) (by decide) (by decide), mcr_n (f := 3) (by decide) (by decide), mcr_n (f := 4) (by decide) (by decide), mcr_n (f := 5) (by decide) (by decide), mcr_n (f := 6) (by decide) (by decide), h6]
      exact ⟨rfl, rfl, rfl, rfl, rfl, rfl⟩
    · rw [va_up_ne _ _ q, mcr_o (f := 1) q (by decide), mcr_o (f := 2) q (by decide), mcr_o (f := 3) q (by decide), mcr_o (f := 4) q (by decide), mcr_o (f := 5) q (by decide), mcr_o (f := 6) q (by decide)]
      exact x2 k (by omega)
  · unfold rxL
    rw [mcr_k (k := 1) (by decide), mcr_f (f := 10) (by decide), mcr_f (f := 11) (by decide), mcr_f (f := 12) (by decide), mcr_f (f := 13) (by decide), mcr_f (f := 14) (by decide), mcr_f (f := 15) (by decide), mcr_f (f := 16) (by decide), mcr_f (f := 17) (by decide), mcr_f (f := 18) (by decide), mcr_f (f := 19) (by decide)]
    exact x3
  · unfold rxP
    rw [mcr_k (k := 2) (by decide), mcr_f (f := 20) (by decide), mcr_f (f := 21) (by decide), mcr_f (f := 22) (by decide)]
    exact x4
abbrev crT (T : RV) (i : Nat) (p1 p2 p3 p4 p5 : Int32) : RV := rar (rar (rar (rar (rar T 1 i p1) 2 i p2) 3 i p3) 4 i p4) 5 i p5
theorem cr_rt (hT : RT T M) {g : Nat → Nat} (h5 : M 0 0 < 5) (h6 : g 6 = 0) : RT (rsc (crT T (M 0 0) (nI (g 1)) (nI (g 2)) (nI (g 3)) (nI (g 4)) (nI (g 5))) 0 (nI (M 0 0 + 1))) (mcr M g) := by
  obtain ⟨⟨s1, s2, s3, s4, s5⟩, t2, t3, t4, t5⟩ := hT
  have ro : ∀ f k, (f = 1 ∨ f = 2 ∨ f = 3 ∨ f = 4 ∨ f = 5) → (crT T (M 0 0) (nI (g 1)) (nI (g 2)) (nI (g 3)) (nI (g 4)) (nI (g 5))).2.1 f k = if k = M 0 0 then nI (g f) else T.2.1 f k := by
    intro f k hf
    rcases hf with rfl | rfl | rfl | rfl | rfl <;> simp [rar_r]
  refine ⟨⟨rfl, ?_, ?_, ?_, ?_⟩, ?_, ?_, ?_, ?_⟩
  · rw [mcr_k (by decide)]; exact s2
  · rw [mcr_k (by decide)]; exact s3
  · rw [mcr_k (by decide)]; exact s4
  · rw [mcr_k (by decide)]; exact s5
  · intro k hk
    rw [mcr_0] at hk
    show (crT T (M 0 0) (nI (g 1)) (nI (g 2)) (nI (g 3)) (nI (g 4)) (nI (g 5))).2.1 1 k = _ ∧ (crT T (M 0 0) (nI (g 1)) (nI (g 2)) (nI (g 3)) (nI (g 4)) (nI (g 5))).2.1 2 k = _ ∧ (crT T (M 0 0) (nI (g 1)) (nI (g 2)) (nI (g 3)) (nI (g 4)) (nI (g 5))).2.1 3 k = _ ∧ (crT T (M 0 0) (nI (g 1)) (nI (g 2)) (nI (g 3)) (nI (g 4)) (nI (g 5))).2.1 4 k = _ ∧ (crT T (M 0 0) (nI (g 1)) (nI (g 2)) (nI (g 3)) (nI (g 4)) (nI (g 5))).2.1 5 k = _ ∧ ∀ h, h < 24 → T.2.1 6 (24 * k + h) = _
    rw [ro 1 k (by omega), ro 2 k (by omega), ro 3 k (by omega), ro 4 k (by omega), ro 5 k (by omega)]
    by_cases q : k = M 0 0
    · subst q
      rw [if_pos rfl, if_pos rfl, if_pos rfl, if_pos rfl, if_pos rfl, mcr_n (f := 1) (by decide) (by decide), mcr_n (f := 2) (by decide) (by decide), mcr_n (f := 3) (by decide) (by decide), mcr_n (f := 4) (by decide) (by decide), mcr_n (f := 5) (by decide) (by decide), mcr_n (f := 6) (by decide) (by decide), h6]
      refine ⟨rfl, rfl, rfl, rfl, rfl, fun h hh => ?_⟩
      rw [t3 (24 * M 0 0 + h) (by omega) (by omega), Nat.zero_testBit, if_neg (by decide)]
    · rw [if_neg q, if_neg q, if_neg q, if_neg q, if_neg q, mcr_o (f := 1) q (by decide), mcr_o (f := 2) q (by decide), mcr_o (f := 3) q (by decide), mcr_o (f := 4) q (by decide), mcr_o (f := 5) q (by decide), mcr_o (f := 6) q (by decide)]
      exact t2 k (by omega)
  · intro j hj1 hj2
    rw [mcr_0] at hj1
    exact t3 j (by omega) hj2
  · unfold rtL
    rw [mcr_k (k := 1) (by decide), mcr_f (f := 10) (by decide), mcr_f (f := 11) (by decide), mcr_f (f := 12) (by decide), mcr_f (f := 13) (by decide), mcr_f (f := 14) (by decide), mcr_f (f := 15) (by decide), mcr_f (f := 16) (by decide), mcr_f (f := 17) (by decide), mcr_f (f := 18) (by decide), mcr_f (f := 19) (by decide)]
    exact t4
  · unfold rtP
    rw [mcr_k (k := 2) (by decide), mcr_f (f := 20) (by decide), mcr_f (f := 21) (by decide), mcr_f (f := 22) (by decide)]
    exact t5
theorem cr_ra (hA : RA V T M) {g : Nat → Nat} {k i : Nat} {h : Nat → Int32} {a b p1 p2 p3 p4 p5 : Int32} : RA (xsc (xnew V 0 k h) 3 a) (rsc (crT T i p1 p2 p3 p4 p5) 0 b) (mcr M g) := by
  unfold RA
  rw [mcr_k (k := 1) (by decide)]
  exact hA
/-- a number of a range that begins at 1, or none -/
theorem p_rng (p : Int32) (N : Nat) (hN : N < 100000) : (∃ k, 1 ≤ k ∧ k ≤ N ∧ p = nI k ∧ f_X4_in p 1 (nI N) = some 1) ∨ f_X4_in p 1 (nI N) = some 0 := by
  by_cases h : p < 1
  · exact Or.inr (in_no (Or.inl h))
  · have h0 : ¬ p < 0 := fun z => h (by
      rw [i_lt] at z ⊢
      have h0 : (0 : Int32).toInt = 0 := rfl
      have h1 : (1 : Int32).toInt = 1 := by decide
      omega)
    obtain ⟨j, hj, rfl⟩ := nI_of h0
    by_cases h2 : j ≤ N
    · refine Or.inl ⟨j, ?_, h2, rfl, in_ok h (nI_nlt h2 (by omega))⟩
      rw [show (1 : Int32) = nI 1 from rfl, nI_if hj (by omega)] at h
      omega
    · exact Or.inr (in_no (Or.inr (nI_lt (by omega) hj)))
theorem st_0 (hR : Rel n V T) : lst_0 Rel n V T := by
  obtain ⟨M, hW, hX, hT, hA⟩ := hR
  intro out p1 p2 p3 p4 p5
  have h5 := hW.1.1
  have b1 : ∀ z, f_L_addCrane n V out p1 p2 p3 p4 p5 = z → f_X3_addCrane n V p1 p2 p3 p4 p5 = some (1, 0, n, V) → z = some (1, n, V, out) := by
    intro z e h
    rw [← e]
    unfold f_L_addCrane
    rw [h, ob_s, oi_n n10, oi_p rfl]
  have bad : f_X3_addCrane n V p1 p2 p3 p4 p5 = some (1, 0, n, V) → f_X4_addCrane T p1 p2 p3 p4 p5 = some (0, rsc T 27 1) → ∃ (res : Int32 × (Nat → Nat) × XV × (Nat → Int64)) (rr : Int32 × RV), f_L_addCrane n V out p1 p2 p3 p4 p5 = some res ∧ f_X4_addCrane T p1 p2 p3 p4 p5 = some rr ∧ rr.2.1 27 = res.1 ∧ (res.1 = 0 → res.2.2.2 (0 : Int32).toNatClampNeg = Int32.toInt64 rr.1) ∧ Rel res.2.1 res.2.2.1 rr.2 := by
    intro h1 h2
    exact ⟨(1, n, V, out), (0, rsc T 27 1), b1 _ rfl h1, h2, rfl, fun h => absurd h e10, Rel.of27 hW hX hT hA⟩
  rcases pl_cases p1 p2 with ⟨x, y, hx, hy, rfl, rfl, hp⟩ | hp
  · rcases p_rng p3 40 (by omega) with ⟨r, hr1, hr2, rfl, h3⟩ | h3
    · have h3 : f_X4_in (nI r) 1 40 = some 1 := h3
      rcases p_rng p4 999 (by omega) with ⟨w, hw1, hw2, rfl, h4⟩ | h4
      · have h4 : f_X4_in (nI w) 1 999 = some 1 := h4
        rcases p_rng p5 9999 (by omega) with ⟨m, hm1, hm2, rfl, h6⟩ | h6
        · have h6 : f_X4_in (nI m) 1 9999 = some 1 := h6
          by_cases q : M 0 0 < 5
          · obtain ⟨g, hg⟩ : ∃ g : Nat → Nat, g = fun f => match f with
                | 1 => x
                | 2 => y
                | 3 => r
                | 4 => w
                | 5 => m
                | _ => 0 := ⟨_, rfl⟩
            have g1 : g 1 = x := congrFun hg 1
            have g2 : g 2 = y := congrFun hg 2
            have g3 : g 3 = r := congrFun hg 3
            have g4 : g 4 = w := congrFun hg 4
            have g5 : g 5 = m := congrFun hg 5
            have g6 : g 6 = 0 := congrFun hg 6
            have w' := cr_wf hW q (g := g) (by rw [g1, g2, g3, g4, g5, g6]; exact ⟨hx, hy, hr1, hr2, hw1, hw2, hm1, hm2, by decide⟩)
            have x' := cr_rx hX (g := g) g6
            have t' := cr_rt (T := rsc T 27 0) (RT_27 hT) (g := g) q g6
            have a' := cr_ra (g := g) (T := rsc T 27 0) (RA_27 hA) (k := n 0) (i := M 0 0) (h := gC (nI (g 1)) (nI (g 2)) (nI (g 3)) (nI (g 4)) (nI (g 5))) (a := nI (M 0 0 + 1)) (b := nI (M 0 0 + 1)) (p1 := nI (g 1)) (p2 := nI (g 2)) (p3 := nI (g 3)) (p4 := nI (g 4)) (p5 := nI (g 5))
            rw [g1, g2, g3, g4, g5] at x' t' a'
            refine ⟨(0, nup n 0, _, vp_updL out (0 : Int32).toNatClampNeg (nI (M 0 0)).toInt64), (nI (M 0 0), _), ?_, ?_, rfl, fun _ => u0 (f := out), ⟨_, w', x', t', a'⟩⟩
            · unfold f_L_addCrane f_X3_addCrane
              rw [pl_eq, hp, ob_s, oi_n e10, show f_X3_isFrom 1 (nI r) 40 = some 1 from h3, ob_s, oi_n e10, show f_X3_isFrom 1 (nI w) 999 = some 1 from h4, ob_s, oi_n e10, show f_X3_isFrom 1 (nI m) 9999 = some 1 from h6, ob_s, oi_n e10, hX.1.2.2.2.1, oi_p (show nI (M 0 0) < 5 from nI_lt (b := 5) q (by omega)), og_p (nI_in q (by omega)), og_p (show (nI (M 0 0)).toNatClampNeg = n 0 by rw [nI_clamp (by omega), hX.1.1]), ob_s]
              show ob (ob (some (xsc (xnew V 0 (n 0) _) 3 (V.2.2.1 3 + 1))) _) _ = _
              rw [hX.1.2.2.2.1, nI_1, ob_s, ob_s, oi_p rfl]
              show some (0, nup n 0, _, vp_updL out (0 : Int32).toNatClampNeg (nI (M 0 0 + 1) - 1).toInt64) = _
              rw [nI_sub1]
              rfl
            · unfold f_X4_addCrane
              have gq := nI_in (c := M 0 0) (N := 5) q (by omega)
              rw [hp, ob_s, oi_n e10, h3, ob_s, oi_n e10, h4, ob_s, oi_n e10, h6, ob_s, oi_n e10, hT.1.1, oi_n (show ¬ nI (M 0 0) = 5 from nI_ne (b := 5) (by omega) (by omega) (by omega)), t_fl0, ob_s, oi_p rfl]
              simp only [rar_1, r27_0, hT.1.1, og_p gq, ob_s, nI_1, rsc_s, nI_sub1]
              rw [nI_clamp (by omega)]
              rfl
          · have h50 : M 0 0 = 5 := by omega
            refine ⟨(2, n, V, out), (0, rsc T 27 2), ?_, ?_, rfl, fun h => absurd h e20, Rel.of27 hW hX hT hA⟩
            · unfold f_L_addCrane f_X3_addCrane
              rw [pl_eq, hp, ob_s, oi_n e10, show f_X3_isFrom 1 (nI r) 40 = some 1 from h3, ob_s, oi_n e10, show f_X3_isFrom 1 (nI w) 999 = some 1 from h4, ob_s, oi_n e10, show f_X3_isFrom 1 (nI m) 9999 = some 1 from h6, ob_s, oi_n e10, hX.1.2.2.2.1, oi_n (show ¬ nI (M 0 0) < 5 from nI_nlt (a := M 0 0) (b := 5) (by omega) (by omega)), ob_s, oi_n n20, oi_n (show ¬ (2 : Nat) = 1 by decide), oi_p rfl]
            · unfold f_X4_addCrane
              rw [hp, ob_s, oi_n e10, h3, ob_s, oi_n e10, h4, ob_s, oi_n e10, h6, ob_s, oi_n e10, hT.1.1, oi_p (show nI (M 0 0) = 5 by rw [h50]; rfl), t_fl2, ob_s, oi_n e10]
        · have h6 : f_X4_in p5 1 9999 = some 0 := h6
          refine bad ?_ ?_
          · unfold f_X3_addCrane
            rw [pl_eq, hp, ob_s, oi_n e10, show f_X3_isFrom 1 (nI r) 40 = some 1 from h3, ob_s, oi_n e10, show f_X3_isFrom 1 (nI w) 999 = some 1 from h4, ob_s, oi_n e10, show f_X3_isFrom 1 p5 9999 = some 0 from h6, ob_s, oi_p rfl]
          · unfold f_X4_addCrane
            rw [hp, ob_s, oi_n e10, h3, ob_s, oi_n e10, h4, ob_s, oi_n e10, h6, ob_s, oi_p rfl, t_fl1, ob_s, oi_n e10]
      · have h4 : f_X4_in p4 1 999 = some 0 := h4
        refine bad ?_ ?_
        · unfold f_X3_addCrane
          rw [pl_eq, hp, ob_s, oi_n e10, show f_X3_isFrom 1 (nI r) 40 = some 1 from h3, ob_s, oi_n e10, show f_X3_isFrom 1 p4 999 = some 0 from h4, ob_s, oi_p rfl]
        · unfold f_X4_addCrane
          rw [hp, ob_s, oi_n e10, h3, ob_s, oi_n e10, h4, ob_s, oi_p rfl, t_fl1, ob_s, oi_n e10]
    · have h3 : f_X4_in p3 1 40 = some 0 := h3
      refine bad ?_ ?_
      · unfold f_X3_addCrane
        rw [pl_eq, hp, ob_s, oi_n e10, show f_X3_isFrom 1 p3 40 = some 0 from h3, ob_s, oi_p rfl]
      · unfold f_X4_addCrane
        rw [hp, ob_s, oi_n e10, h3, ob_s, oi_p rfl, t_fl1, ob_s, oi_n e10]
  · refine bad ?_ ?_
    · unfold f_X3_addCrane
      rw [pl_eq, hp, ob_s, oi_p rfl]
    · unfold f_X4_addCrane
      rw [hp, ob_s, oi_p rfl, t_fl1, ob_s, oi_n e10]
end Q30
