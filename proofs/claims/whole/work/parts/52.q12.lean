section Q12
variable {n : Nat → Nat} {V : XV} {T : RV} {M : MD}
/-- the state, the crane and the start of a lift are set -/
def mput (M : MD) (l s c a : Nat) : MD := fun f k => if k = l then (if f = 17 then s else if f = 18 then c else if f = 19 then a else M f k) else M f k
theorem mput_o {l s c a f k : Nat} (h : k ≠ l ∨ (f ≠ 17 ∧ f ≠ 18 ∧ f ≠ 19)) : mput M l s c a f k = M f k := by
  unfold mput
  rcases h with h | ⟨h1, h2, h3⟩
  · rw [if_neg h]
  · by_cases q : k = l
    · rw [if_pos q, if_neg h1, if_neg h2, if_neg h3]
    · rw [if_neg q]
theorem mput_17 {l s c a : Nat} : mput M l s c a 17 l = s := by simp [mput]
theorem mput_18 {l s c a : Nat} : mput M l s c a 18 l = c := by simp [mput]
theorem mput_19 {l s c a : Nat} : mput M l s c a 19 l = a := by simp [mput]
theorem mput_f {l s c a f : Nat} (h1 : f ≠ 17) (h2 : f ≠ 18) (h3 : f ≠ 19) : mput M l s c a f = M f := by
  funext k
  exact mput_o (Or.inr ⟨h1, h2, h3⟩)
theorem put_wf (hW : WF M) {l s c a : Nat} (hs : s = 119 ∨ s = 112 ∨ s = 117 ∨ s = 100) (hc : s ≠ 119 → c < M 0 0 ∧ a + M 15 l ≤ 1440) (ho : s ≠ 119 → ∀ j, j < M 0 1 → j ≠ l → M 17 j ≠ 119 → M 18 j = c → a + M 15 l ≤ M 19 j ∨ M 19 j + M 15 j ≤ a) : WF (mput M l s c a) := by
  obtain ⟨w1, w2, w3, w4, w5⟩ := hW
  refine ⟨?_, ?_, ?_, ?_, ?_⟩
  · unfold wfS
    rw [mput_f (f := 0) (by decide) (by decide) (by decide)]
    exact w1
  · unfold wfC
    rw [mput_f (f := 0) (by decide) (by decide) (by decide), mput_f (f := 1) (by decide) (by decide) (by decide), mput_f (f := 2) (by decide) (by decide) (by decide), mput_f (f := 3) (by decide) (by decide) (by decide), mput_f (f := 4) (by decide) (by decide) (by decide), mput_f (f := 5) (by decide) (by decide) (by decide), mput_f (f := 6) (by decide) (by decide) (by decide)]
    exact w2
  · unfold wfL
    rw [mput_f (f := 0) (by decide) (by decide) (by decide), mput_f (f := 10) (by decide) (by decide) (by decide), mput_f (f := 11) (by decide) (by decide) (by decide), mput_f (f := 12) (by decide) (by decide) (by decide), mput_f (f := 13) (by decide) (by decide) (by decide), mput_f (f := 14) (by decide) (by decide) (by decide), mput_f (f := 15) (by decide) (by decide) (by decide), mput_f (f := 16) (by decide) (by decide) (by decide)]
    intro k hk
    obtain ⟨l1, l2, l3, l4, l5, l6, l7, l8, l9, l10, l11⟩ := w3 k hk
    by_cases q : k = l
    · subst q
      rw [mput_17, mput_18, mput_19]
      exact ⟨l1, l2, l3, l4, l5, l6, l7, l8, l9, hs, hc⟩
    · rw [mput_o (Or.inl q), mput_o (Or.inl q), mput_o (Or.inl q)]
      exact ⟨l1, l2, l3, l4, l5, l6, l7, l8, l9, l10, l11⟩
  · unfold wfP
    rw [mput_f (f := 0) (by decide) (by decide) (by decide), mput_f (f := 16) (by decide) (by decide) (by decide), mput_f (f := 20) (by decide) (by decide) (by decide), mput_f (f := 21) (by decide) (by decide) (by decide), mput_f (f := 22) (by decide) (by decide) (by decide)]
    intro k hk
    obtain ⟨p1, p2, p3, p4, p5⟩ := w4 k hk
    refine ⟨p1, p2, p3, p4, fun j hj => ⟨(p5 j hj).1, fun e f hf1 hf2 => ?_⟩⟩
    rw [mput_f (f := f) (by omega) (by omega) (by omega)]
    exact (p5 j hj).2 e f hf1 hf2
  · unfold wfO
    rw [mput_f (f := 0) (by decide) (by decide) (by decide), mput_f (f := 15) (by decide) (by decide) (by decide)]
    intro i j hij hj
    by_cases qi : i = l
    · subst qi
      have qj : j ≠ i := by omega
      rw [mput_17, mput_18, mput_19, mput_o (Or.inl qj), mput_o (Or.inl qj), mput_o (Or.inl qj)]
      intro h1 h2 h3
      exact ho h1 j hj qj h2 h3.symm
    · rw [mput_o (f := 17) (k := i) (Or.inl qi), mput_o (f := 18) (k := i) (Or.inl qi), mput_o (f := 19) (k := i) (Or.inl qi)]
      by_cases qj : j = l
      · subst qj
        rw [mput_17, mput_18, mput_19]
        intro h1 h2 h3
        exact (ho h2 i (by omega) qi h1 h3).symm
      · rw [mput_o (Or.inl qj), mput_o (Or.inl qj), mput_o (Or.inl qj)]
        exact w5 i j hij hj
theorem xput_1 {l f g k : Nat} {v : Int32} : (xput V 1 l f v).1 1 k g = if k = l ∧ g = f then v else V.1 1 k g := by
  show va_up V.1 1 (va_up (V.1 1) l (va_up (V.1 1 l) f v)) 1 k g = _
  by_cases q : k = l
  · subst q
    by_cases r : g = f <;> simp [va_up, r]
  · simp [va_up, q]
theorem put_rx (hX : RX n V M) {l s c a : Nat} {c' a' : Int32} (hs : s ≠ 119 → c' = nI c ∧ a' = nI a) : RX n (xput (xput (xput V 1 l 8 (nI s)) 1 l 9 c') 1 l 10 a') (mput M l s c a) := by
  obtain ⟨x1, x2, x3, x4⟩ := hX
  refine ⟨?_, ?_, ?_, ?_⟩
  · unfold rxS
    rw [mput_f (f := 0) (by decide) (by decide) (by decide)]
    exact x1
  · unfold rxC
    rw [mput_f (f := 0) (by decide) (by decide) (by decide), mput_f (f := 1) (by decide) (by decide) (by decide), mput_f (f := 2) (by decide) (by decide) (by decide), mput_f (f := 3) (by decide) (by decide) (by decide), mput_f (f := 4) (by decide) (by decide) (by decide), mput_f (f := 5) (by decide) (by decide) (by decide), mput_f (f := 6) (by decide) (by decide) (by decide)]
    exact x2
  · unfold rxL
    rw [mput_f (f := 0) (by decide) (by decide) (by decide), mput_f (f := 10) (by decide) (by decide) (by decide), mput_f (f := 11) (by decide) (by decide) (by decide), mput_f (f := 12) (by decide) (by decide) (by decide), mput_f (f := 13) (by decide) (by decide) (by decide), mput_f (f := 14) (by decide) (by decide) (by decide), mput_f (f := 15) (by decide) (by decide) (by decide), mput_f (f := 16) (by decide) (by decide) (by decide)]
    intro k hk
    obtain ⟨y1, y2, y3, y4, y5, y6, y7, y8, y9⟩ := x3 k hk
    by_cases q : k = l
    · subst q
      rw [mput_17, mput_18, mput_19]
      simp only [xput_1, true_and]
      refine ⟨y1, y2, y3, y4, y5, y6, y7, rfl, fun h => ?_⟩
      obtain ⟨h1, h2⟩ := hs h
      exact ⟨h1, h2⟩
    · rw [mput_o (Or.inl q), mput_o (Or.inl q), mput_o (Or.inl q)]
      simp only [xput_1, q, false_and, if_false]
      exact ⟨y1, y2, y3, y4, y5, y6, y7, y8, y9⟩
  · unfold rxP
    rw [mput_f (f := 0) (by decide) (by decide) (by decide), mput_f (f := 20) (by decide) (by decide) (by decide), mput_f (f := 21) (by decide) (by decide) (by decide), mput_f (f := 22) (by decide) (by decide) (by decide)]
    exact x4
theorem rar_r {j g i k : Nat} {v : Int32} : (rar T j i v).2.1 g k = if g = j ∧ k = i then v else T.2.1 g k := by
  show va_up T.2.1 j (upd (T.2.1 j) i v) g k = _
  by_cases q : g = j
  · subst q
    by_cases r : k = i <;> simp [va_up, upd, r]
  · simp [va_up, q]
theorem put_rt (hT : RT T M) {l s c a : Nat} : RT (rar (rar (rar T 14 l (nI s)) 15 l (nI c)) 16 l (nI a)) (mput M l s c a) := by
  obtain ⟨x1, x2, x3, x4, x5⟩ := hT
  refine ⟨?_, ?_, ?_, ?_, ?_⟩
  · unfold rtS
    rw [mput_f (f := 0) (by decide) (by decide) (by decide)]
    exact x1
  · unfold rtC
    rw [mput_f (f := 0) (by decide) (by decide) (by decide), mput_f (f := 1) (by decide) (by decide) (by decide), mput_f (f := 2) (by decide) (by decide) (by decide), mput_f (f := 3) (by decide) (by decide) (by decide), mput_f (f := 4) (by decide) (by decide) (by decide), mput_f (f := 5) (by decide) (by decide) (by decide), mput_f (f := 6) (by decide) (by decide) (by decide)]
    exact x2
  · unfold rtZ
    rw [mput_f (f := 0) (by decide) (by decide) (by decide)]
    exact x3
  · unfold rtL
    rw [mput_f (f := 0) (by decide) (by decide) (by decide), mput_f (f := 10) (by decide) (by decide) (by decide), mput_f (f := 11) (by decide) (by decide) (by decide), mput_f (f := 12) (by decide) (by decide) (by decide), mput_f (f := 13) (by decide) (by decide) (by decide), mput_f (f := 14) (by decide) (by decide) (by decide), mput_f (f := 15) (by decide) (by decide) (by decide), mput_f (f := 16) (by decide) (by decide) (by decide)]
    intro k hk
    obtain ⟨y1, y2, y3, y4, y5, y6, y7, y8, y9⟩ := x4 k hk
    by_cases q : k = l
    · subst q
      rw [mput_17, mput_18, mput_19]
      simp only [rar_r, and_true]
      exact ⟨y1, y2, y3, y4, y5, y6, y7, rfl, fun _ => ⟨rfl, rfl⟩⟩
    · rw [mput_o (Or.inl q), mput_o (Or.inl q), mput_o (Or.inl q)]
      simp only [rar_r, q, and_false, if_false]
      exact ⟨y1, y2, y3, y4, y5, y6, y7, y8, y9⟩
  · unfold rtP
    rw [mput_f (f := 0) (by decide) (by decide) (by decide), mput_f (f := 20) (by decide) (by decide) (by decide), mput_f (f := 21) (by decide) (by decide) (by decide), mput_f (f := 22) (by decide) (by decide) (by decide)]
    exact x5
theorem put_ra (hA : RA V T M) {l s c a : Nat} {x1 x2 x3 y1 y2 y3 : Int32} : RA (xput (xput (xput V 1 l 8 x1) 1 l 9 x2) 1 l 10 x3) (rar (rar (rar T 14 l y1) 15 l y2) 16 l y3) (mput M l s c a) := by
  unfold RA
  rw [mput_f (f := 0) (by decide) (by decide) (by decide)]
  exact hA
/-- a lift that fits may be planned -/
theorem put_rel (hW : WF M) (hX : RX n V M) (hT : RT T M) (hA : RA V T M) {l c a : Nat} (hc : c < M 0 0) (hf : FIT M V l c a) : Rel n (xput (xput (xput V 1 l 8 112) 1 l 9 (nI c)) 1 l 10 (nI a)) (rar (rar (rar T 14 l 112) 15 l (nI c)) 16 l (nI a)) := by
  refine ⟨mput M l 112 c a, put_wf hW (Or.inr (Or.inl rfl)) (fun _ => ⟨hc, hf.2.2.2.1⟩) ?_, put_rx (s := 112) hX (fun _ => ⟨rfl, rfl⟩), put_rt (s := 112) hT, put_ra hA⟩
  intro _ j hj hjl hj2 hjc
  have hn : ¬ mts M j a (a + M 15 l) := fun h => (hf.2.2.2.2.2 j hj hjl h).1 hjc
  by_cases q : M 19 j < a + M 15 l
  · by_cases r : a < M 19 j + M 15 j
    · exact absurd ⟨hj2, q, r⟩ hn
    · exact Or.inr (by omega)
  · exact Or.inl (by omega)
theorem t_takes {l : Nat} (hl : l < 40) {c a : Int32} : f_X4_takes T (nI l) c a = some (rar (rar (rar T 14 l 112) 15 l c) 16 l a) := by
  have g := nI_in (N := 40) hl (by omega)
  unfold f_X4_takes
  rw [og_p g, ob_s, og_p g, ob_s, og_p g, ob_s, nI_clamp (by omega)]
  rfl
theorem t_bound (hW : WF M) (hT : RT T M) {l c : Nat} (hl : l < M 0 1) (hc : c < M 0 0) : f_X4_isBound T (nI l) (nI c) = some (if M 17 l = 119 ∧ M 16 l = 0 then (0, rsc (rsc T 27 0) 27 0) else (1, rsc (rsc T 27 0) 27 2)) := by
  have g := nI_in (wfl_40 hW hl) (by omega)
  have l40 := wfl_40 hW hl
  obtain ⟨y1, y2, y3, y4, y5, y6, y7, y8, y9⟩ := hT.2.2.2.1 l hl
  have h6 := hW.1.2.2.1
  have l9 := (hW.2.2.1 l hl).2.2.2.2.2.2.2.2.1
  unfold f_X4_isBound
  rw [t_pair hW hT hl hc, ob_s, oi_p rfl, og_p g, og_p g, nI_clamp (by omega)]
  show oi (T.2.1 14 l = 119) (oi (T.2.1 17 l < 0) _ _) _ = _
  rw [y8, y7]
  by_cases q : M 17 l = 119
  · rw [oi_p (show nI (M 17 l) = 119 from by rw [q]; rfl)]
    by_cases r : M 16 l = 0
    · rw [if_pos ⟨q, r⟩, r, oi_p (show nI 0 - 1 < 0 by decide)]
      rfl
    · rw [if_neg (fun h => r h.2), oi_n (show ¬ nI (M 16 l) - 1 < 0 from by rw [nI_m1 (by omega)]; exact nI_pos (by omega))]
      rfl
  · rw [oi_n (show ¬ nI (M 17 l) = 119 from nI_ne (b := 119) q (wfl_stb hW hl) (by omega)), if_neg (fun h => q h.1)]
    rfl
theorem t_boundn (hW : WF M) (hT : RT T M) {p q : Int32} (h : (p < 0 ∨ nI (M 0 1) ≤ p) ∨ (∃ l, l < M 0 1 ∧ p = nI l) ∧ (q < 0 ∨ nI (M 0 0) ≤ q)) : f_X4_isBound T p q = some (1, rsc T 27 1) := by
  unfold f_X4_isBound
  rw [t_nopair hW hT h, ob_s, oi_n e10]
theorem x_put {l : Nat} {c a : Int32} : f_X1_put n V l c a = some (xput (xput (xput V 1 l 8 112) 1 l 9 c) 1 l 10 a) := rfl
/-- the class's guard of the two planning calls -/
theorem x_bound {α : Type} (hW : WF M) (hX : RX n V M) {l : Nat} (hl : l < M 0 1) {x y : Option α} : oi ((V.1 1 l 8) = 119) (oi ((V.1 1 l 6) = (-1)) x y) y = if M 17 l = 119 ∧ M 16 l = 0 then x else y := by
  obtain ⟨y1, y2, y3, y4, y5, y6, y7, y8, y9⟩ := hX.2.2.1 l hl
  have h6 := hW.1.2.2.1
  have l9 := (hW.2.2.1 l hl).2.2.2.2.2.2.2.2.1
  rw [y8, y7]
  by_cases q : M 17 l = 119
  · rw [oi_p (show nI (M 17 l) = 119 from by rw [q]; rfl)]
    by_cases r : M 16 l = 0
    · rw [if_pos ⟨q, r⟩, r, oi_p (show nI 0 - 1 = -1 by decide)]
    · rw [if_neg (fun h => r h.2), oi_n (show ¬ nI (M 16 l) - 1 = -1 from by rw [nI_m1 (by omega)]; exact m1_ne (by omega))]
  · rw [oi_n (show ¬ nI (M 17 l) = 119 from nI_ne (b := 119) q (wfl_stb hW hl) (by omega)), if_neg (fun h => q h.1)]
theorem st_6 (hR : Rel n V T) : lst_6 Rel n V T := by
  obtain ⟨M, hW, hX, hT, hA⟩ := hR
  intro out p1 p2
  rcases pairs hW p1 p2 with ⟨l, c, hl, hc, rfl, rfl⟩ | h
  · have l40 := wfl_40 hW hl
    by_cases q : M 17 l = 119 ∧ M 16 l = 0
    · obtain ⟨r, T', et, hT', hA', hr⟩ := t_first hW (T := rsc (rsc T 27 0) 27 0) (RT_27 (RT_27 hT)) (RA_27 (RA_27 hA)) hl hc
      obtain ⟨z, e, hz⟩ := x_first hW hX hl hc
      obtain rfl : z = r := isF_uniq hz hr
      rcases isF_neg hr with ⟨a, rfl, f⟩ | rfl
      · have ha := f.le
        refine ⟨(0, n, xput (xput (xput V 1 l 8 112) 1 l 9 (nI c)) 1 l 10 (nI a), vp_updL out (0 : Int32).toNatClampNeg (nI a).toInt64), (nI a, rar (rar (rar (rsc T' 27 0) 14 l 112) 15 l (nI c)) 16 l (nI a)), ?_, ?_, rfl, fun _ => u0 (f := out), put_rel hW hX (RT_27 hT') (RA_27 hA') hc f⟩
        · unfold f_L_plan f_X3_plan
          rw [x_lfk hW hX hl, ob_s, oc_s (rx_n1 hX hl), x_crk hW hX hc, ob_s, oc_s (rx_n0 hX hc), x_bound hW hX hl, if_pos q, e, ob_s, oi_n (m1_ne (by omega)), x_put, ob_s, ob_s, oi_p rfl]
        · unfold f_X4_plan
          rw [t_bound hW hT hl hc, if_pos q, ob_s, oi_p rfl]
          show ob (f_X4_first (rsc (rsc T 27 0) 27 0) (nI l) (nI c)) _ = _
          rw [et, ob_s, oi_p (show (0 : Int32) ≤ nI a from nI_pos' (by omega)), t_fl0, ob_s, oi_p rfl]
          show ob (f_X4_takes (rsc T' 27 0) (nI l) (nI c) (nI a)) _ = _
          rw [t_takes l40, ob_s]
      · refine ⟨(3, n, V, out), (0, rsc T' 27 3), ?_, ?_, rfl, fun h => absurd h (by decide : ¬ (3 : Int32) = 0), Rel.of27 hW hX hT' hA'⟩
        · unfold f_L_plan f_X3_plan
          rw [x_lfk hW hX hl, ob_s, oc_s (rx_n1 hX hl), x_crk hW hX hc, ob_s, oc_s (rx_n0 hX hc), x_bound hW hX hl, if_pos q, e, ob_s, oi_p rfl, ob_s, oi_n n40, oi_n n43, oi_n n42, oi_p rfl]
        · unfold f_X4_plan
          rw [t_bound hW hT hl hc, if_pos q, ob_s, oi_p rfl]
          show ob (f_X4_first (rsc (rsc T 27 0) 27 0) (nI l) (nI c)) _ = _
          rw [et, ob_s, oi_n (show ¬ (0 : Int32) ≤ -1 by decide), t_fl3, ob_s, oi_n e10]
    · refine ⟨(2, n, V, out), (0, rsc (rsc T 27 0) 27 2), ?_, ?_, rfl, fun h => absurd h e20, Rel.of27 hW hX (RT_27 hT) (RA_27 hA)⟩
      · unfold f_L_plan f_X3_plan
        rw [x_lfk hW hX hl, ob_s, oc_s (rx_n1 hX hl), x_crk hW hX hc, ob_s, oc_s (rx_n0 hX hc), x_bound hW hX hl, if_neg q, ob_s, oi_n n20, oi_n n23, oi_p rfl]
      · unfold f_X4_plan
        rw [t_bound hW hT hl hc, if_neg q, ob_s, oi_n e10]
  · refine ⟨(1, n, V, out), (0, rsc T 27 1), ?_, ?_, rfl, fun h => absurd h e10, Rel.of27 hW hX hT hA⟩
    · unfold f_L_plan f_X3_plan
      rcases h with h | ⟨⟨l, hl, rfl⟩, h⟩
      · rw [x_lfn hW hX h, ob_s, oc_n, ob_s, oi_n n30, oi_p rfl]
      · rw [x_lfk hW hX hl, ob_s, oc_s (rx_n1 hX hl), x_crn hW hX h, ob_s, oc_n, ob_s, oi_n n30, oi_p rfl]
    · unfold f_X4_plan
      rw [t_boundn hW hT h, ob_s, oi_n e10]
theorem st_7 (hR : Rel n V T) : lst_7 Rel n V T := by
  obtain ⟨M, hW, hX, hT, hA⟩ := hR
  intro out p1 p2 p3
  rcases pairs hW p1 p2 with ⟨l, c, hl, hc, rfl, rfl⟩ | h
  · have l40 := wfl_40 hW hl
    have g := nI_in l40 (by omega)
    by_cases q : M 17 l = 119 ∧ M 16 l = 0
    · obtain ⟨v, hv, hv2, -, hv3⟩ := obst hW hX (T := rsc (rsc T 27 0) 27 0) (RT_27 (RT_27 hT)) (RA_27 (RA_27 hA)) hl hc p3
      by_cases z : v = 45
      · obtain ⟨a, rfl, f⟩ := hv3 z
        have ha := f.le
        refine ⟨(0, n, xput (xput (xput V 1 l 8 112) 1 l 9 (nI c)) 1 l 10 (nI a), vp_updL out (0 : Int32).toNatClampNeg (nI (a + M 15 l)).toInt64), (nI (a + M 15 l), rar (rar (rar (rsc (rsc (rsc T 27 0) 27 0) 27 0) 14 l 112) 15 l (nI c)) 16 l (nI a)), ?_, ?_, rfl, fun _ => u0 (f := out), put_rel hW hX (RT_27 (RT_27 (RT_27 hT))) (RA_27 (RA_27 (RA_27 hA))) hc f⟩
        · have en : f_X1_end n (xput (xput (xput V 1 l 8 112) 1 l 9 (nI c)) 1 l 10 (nI a)) l = some (nI (a + M 15 l)) := by
            unfold f_X1_end
            simp only [xput_1, true_and]
            show some (nI a + V.1 1 l 5) = _
            rw [(hX.2.2.1 l hl).2.2.2.2.2.1, nI_add]
          unfold f_L_planAt f_X3_planAt
          rw [x_lfk hW hX hl, ob_s, oc_s (rx_n1 hX hl), x_crk hW hX hc, ob_s, oc_s (rx_n0 hX hc), x_bound hW hX hl, if_pos q, hv, ob_s, oi_p z, x_put, ob_s, en, ob_s, ob_s, oi_p rfl]
        · unfold f_X4_planAt
          rw [t_bound hW hT hl hc, if_pos q, ob_s, oi_p rfl]
          show ob (f_X4_why (rsc (rsc T 27 0) 27 0) (nI l) (nI c) (nI a)) _ = _
          rw [hv2, ob_s, oi_p z, t_fl0, ob_s, oi_p rfl]
          show ob (f_X4_takes (rsc (rsc (rsc T 27 0) 27 0) 27 0) (nI l) (nI c) (nI a)) _ = _
          rw [t_takes l40, ob_s, og_p g, nI_clamp (by omega)]
          show some (nI a + T.2.1 13 l, _) = _
          rw [(hT.2.2.2.1 l hl).2.2.2.2.2.1, nI_add]
      · refine ⟨(3, n, V, out), (0, rsc (rsc (rsc T 27 0) 27 0) 27 3), ?_, ?_, rfl, fun h => absurd h (by decide : ¬ (3 : Int32) = 0), Rel.of27 hW hX (RT_27 (RT_27 hT)) (RA_27 (RA_27 hA))⟩
        · unfold f_L_planAt f_X3_planAt
          rw [x_lfk hW hX hl, ob_s, oc_s (rx_n1 hX hl), x_crk hW hX hc, ob_s, oc_s (rx_n0 hX hc), x_bound hW hX hl, if_pos q, hv, ob_s, oi_n z, ob_s, oi_n n40, oi_n n43, oi_n n42, oi_p rfl]
        · unfold f_X4_planAt
          rw [t_bound hW hT hl hc, if_pos q, ob_s, oi_p rfl]
          show ob (f_X4_why (rsc (rsc T 27 0) 27 0) (nI l) (nI c) p3) _ = _
          rw [hv2, ob_s, oi_n z, t_fl3, ob_s, oi_n e10]
    · refine ⟨(2, n, V, out), (0, rsc (rsc T 27 0) 27 2), ?_, ?_, rfl, fun h => absurd h e20, Rel.of27 hW hX (RT_27 hT) (RA_27 hA)⟩
      · unfold f_L_planAt f_X3_planAt
        rw [x_lfk hW hX hl, ob_s, oc_s (rx_n1 hX hl), x_crk hW hX hc, ob_s, oc_s (rx_n0 hX hc), x_bound hW hX hl, if_neg q, ob_s, oi_n n20, oi_n n23, oi_p rfl]
      · unfold f_X4_planAt
        rw [t_bound hW hT hl hc, if_neg q, ob_s, oi_n e10]
  · refine ⟨(1, n, V, out), (0, rsc T 27 1), ?_, ?_, rfl, fun h => absurd h e10, Rel.of27 hW hX hT hA⟩
    · unfold f_L_planAt f_X3_planAt
      rcases h with h | ⟨⟨l, hl, rfl⟩, h⟩
      · rw [x_lfn hW hX h, ob_s, oc_n, ob_s, oi_n n30, oi_p rfl]
      · rw [x_lfk hW hX hl, ob_s, oc_s (rx_n1 hX hl), x_crn hW hX h, ob_s, oc_n, ob_s, oi_n n30, oi_p rfl]
    · unfold f_X4_planAt
      rw [t_boundn hW hT h, ob_s, oi_n e10]
end Q12
