section Q28
variable {n : Nat → Nat} {V : XV} {T : RV} {M : MD}
theorem rar_rar {j i : Nat} {x y : Int32} : rar (rar T j i x) j i y = rar T j i y := by
  have : (rar (rar T j i x) j i y).2.1 = (rar T j i y).2.1 := by
    funext g k
    rw [rar_r, rar_r, rar_r]
    by_cases h : g = j ∧ k = i
    · rw [if_pos h, if_pos h]
    · rw [if_neg h, if_neg h, if_neg h]
  exact Prod.ext rfl (Prod.ext this rfl)
theorem ps_wf (hW : WF M) {i s : Nat} (hi : i < M 0 1) (hs : M 17 i ≠ 119) (h : s = 117 ∨ s = 100) : WF (mput M i s (M 18 i) (M 19 i)) := by
  obtain ⟨hc, he⟩ := (hW.2.2.1 i hi).2.2.2.2.2.2.2.2.2.2 hs
  refine put_wf hW (by omega) (fun _ => ⟨hc, he⟩) (fun _ j hj hji hjs hjc => ?_)
  rcases Nat.lt_trichotomy i j with q | q | q
  · exact hW.2.2.2.2 i j q hj hs hjs hjc.symm
  · exact absurd q.symm hji
  · exact (hW.2.2.2.2 j i q hi hjs hs hjc).symm
theorem ps_rx (hX : RX n V M) {i s : Nat} (hi : i < M 0 1) (hs : M 17 i ≠ 119) : RX n (xput V 1 i 8 (nI s)) (mput M i s (M 18 i) (M 19 i)) := by
  obtain ⟨x1, x2, x3, x4⟩ := hX
  refine ⟨?_, ?_, ?_, ?_⟩
  · unfold rxS; rw [mput_f (f := 0) (by decide) (by decide) (by decide)]; exact x1
  · unfold rxC
    rw [mput_f (f := 0) (by decide) (by decide) (by decide), mput_f (f := 1) (by decide) (by decide) (by decide), mput_f (f := 2) (by decide) (by decide) (by decide), mput_f (f := 3) (by decide) (by decide) (by decide), mput_f (f := 4) (by decide) (by decide) (by decide), mput_f (f := 5) (by decide) (by decide) (by decide), mput_f (f := 6) (by decide) (by decide) (by decide)]
    exact x2
  · unfold rxL
    rw [mput_f (f := 0) (by decide) (by decide) (by decide), mput_f (f := 10) (by decide) (by decide) (by decide), mput_f (f := 11) (by decide) (by decide) (by decide), mput_f (f := 12) (by decide) (by decide) (by decide), mput_f (f := 13) (by decide) (by decide) (by decide), mput_f (f := 14) (by decide) (by decide) (by decide), mput_f (f := 15) (by decide) (by decide) (by decide), mput_f (f := 16) (by decide) (by decide) (by decide)]
    intro k hk
    obtain ⟨y1, y2, y3, y4, y5, y6, y7, y8, y9⟩ := x3 k hk
    by_cases q : k = i
    · subst q
      rw [mput_17, mput_18, mput_19]
      simp only [xput_1, true_and]
      exact ⟨y1, y2, y3, y4, y5, y6, y7, rfl, fun _ => y9 hs⟩
    · rw [mput_o (Or.inl q), mput_o (Or.inl q), mput_o (Or.inl q)]
      simp only [xput_1, q, false_and, if_false]
      exact ⟨y1, y2, y3, y4, y5, y6, y7, y8, y9⟩
  · unfold rxP
    rw [mput_f (f := 0) (by decide) (by decide) (by decide), mput_f (f := 20) (by decide) (by decide) (by decide), mput_f (f := 21) (by decide) (by decide) (by decide), mput_f (f := 22) (by decide) (by decide) (by decide)]
    exact x4
theorem ps_rt (hT : RT T M) {i s : Nat} (hi : i < M 0 1) (hs : M 17 i ≠ 119) : RT (rar T 14 i (nI s)) (mput M i s (M 18 i) (M 19 i)) := by
  obtain ⟨x1, x2, x3, x4, x5⟩ := hT
  refine ⟨?_, ?_, ?_, ?_, ?_⟩
  · unfold rtS
    rw [mput_f (f := 0) (by decide) (by decide) (by decide)]
    exact x1
  · unfold rtC
    rw [mput_f (f := 0) (by decide) (by decide) (by decide), mput_f (f := 1) (by decide) (by decide) (by decide), mput_f (f := 2) (by decide) (by decide) (by decide), mput_f (f := 3) (by decide) (by decide) (by decide), mput_f (f := 4) (by decide) (by decide) (by decide), mput_f (f := 5) (by decide) (by decide) (by decide), mput_f (f := 6) (by decide) (by decide) (by decide)]
    exact x2
  · unfold rtZ
    rw [mput_f (f := 0) (by decide) (by decide) (by decide)]
    exact x3
  · unfold rtL
    rw [mput_f (f := 0) (by decide) (by decide) (by decide), mput_f (f := 10) (by decide) (by decide) (by decide), mput_f (f := 11) (by decide) (by decide) (by decide), mput_f (f := 12) (by decide) (by decide) (by decide), mput_f (f := 13) (by decide) (by decide) (by decide), mput_f (f := 14) (by decide) (by decide) (by decide), mput_f (f := 15) (by decide) (by decide) (by decide), mput_f (f := 16) (by decide) (by decide) (by decide)]
    intro k hk
    obtain ⟨y1, y2, y3, y4, y5, y6, y7, y8, y9⟩ := x4 k hk
    by_cases q : k = i
    · subst q
      rw [mput_17, mput_18, mput_19]
      simp only [rar_r, and_true]
      exact ⟨y1, y2, y3, y4, y5, y6, y7, rfl, fun _ => y9 hs⟩
    · rw [mput_o (Or.inl q), mput_o (Or.inl q), mput_o (Or.inl q)]
      simp only [rar_r, q, and_false, if_false]
      exact ⟨y1, y2, y3, y4, y5, y6, y7, y8, y9⟩
  · unfold rtP
    rw [mput_f (f := 0) (by decide) (by decide) (by decide), mput_f (f := 20) (by decide) (by decide) (by decide), mput_f (f := 21) (by decide) (by decide) (by decide), mput_f (f := 22) (by decide) (by decide) (by decide)]
    exact x5
theorem ps_ra (hA : RA V T M) {i s c a : Nat} {x y : Int32} : RA (xput V 1 i 8 x) (rar T 14 i y) (mput M i s c a) := by
  unfold RA
  rw [mput_f (f := 0) (by decide) (by decide) (by decide)]
  exact hA
theorem ps_f (hT : RT T M) {i : Nat} {s : Int32} (hi : i < M 0 1) (hs : M 17 i ≠ 119) : (rar T 14 i s).1 25 = nI (M 0 3) ∧ (rar T 14 i s).2.1 16 i = nI (M 19 i) ∧ (rar T 14 i s).2.1 13 i = nI (M 15 i) :=
  ⟨hT.1.2.2.2.2, ((hT.2.2.2.1 i hi).2.2.2.2.2.2.2.2 hs).2, (hT.2.2.2.1 i hi).2.2.2.2.2.1⟩
theorem x_psskip (hX : RX n V M) (h40 : M 0 1 ≤ 40) : ∀ (K i fu : Nat) (x : Int32), i + K = 40 → M 0 1 ≤ i → K < fu → f_X3_pass_63 n V fu x 40 (nI i) = some (0, x, V) := by
  intro K
  induction K with
  | zero =>
    intro i fu x h1 h3 h2
    obtain ⟨fu, rfl⟩ : ∃ g, fu = g + 1 := ⟨fu - 1, by omega⟩
    unfold f_X3_pass_63
    rw [oi_p (l40 (by omega) (by omega))]
  | succ K ih =>
    intro i fu x h1 h3 h2
    obtain ⟨fu, rfl⟩ : ∃ g, fu = g + 1 := ⟨fu - 1, by omega⟩
    unfold f_X3_pass_63
    rw [oi_n (g40 (by omega)), og_p (nI_in (by omega) (by omega)), xr1 hX (by omega), if_neg (by omega), oc_n, nI_1]
    exact ih (i + 1) fu x (by omega) (by omega) (by omega)
theorem pass_both : ∀ (k i : Nat) (M : MD) (V : XV) (T : RV) (fx fr : Nat) (x : Int32), WF M → RX n V M → RT T M → RA V T M → i + k = M 0 1 → 40 - i < fx → k < fr → ∃ (M' : MD) (V' : XV) (T' : RV) (y : Int32), f_X3_pass_63 n V fx x 40 (nI i) = some (0, y, V') ∧ f_X4_pass_55 T fr x (nI i) = some (y, T') ∧ WF M' ∧ RX n V' M' ∧ RT T' M' ∧ RA V' T' M' ∧ T'.1 27 = T.1 27 := by
  intro k
  induction k with
  | zero =>
    intro i M V T fx fr x hW hX hT hA h1 h2 h3
    have h40 := hW.1.2.1
    obtain ⟨fr, rfl⟩ : ∃ g, fr = g + 1 := ⟨fr - 1, by omega⟩
    refine ⟨M, V, T, x, x_psskip hX h40 (40 - i) i fx x (by omega) (by omega) h2, ?_, hW, hX, hT, hA, rfl⟩
    unfold f_X4_pass_55
    rw [hT.1.2.1, oi_p (nI_le (by omega) (by omega))]
  | succ k ih =>
    intro i M V T fx fr x hW hX hT hA h1 h2 h3
    have h40 := hW.1.2.1
    have hnow := hW.1.2.2.2.1
    have hi : i < M 0 1 := by omega
    obtain ⟨fx, rfl⟩ : ∃ g, fx = g + 1 := ⟨fx - 1, by omega⟩
    obtain ⟨fr, rfl⟩ : ∃ g, fr = g + 1 := ⟨fr - 1, by omega⟩
    have g := nI_in (c := i) (N := 40) (by omega) (by omega)
    have g2 : ¬ (nI i < 0 ∨ 40 ≤ i) := by have z := g; rw [nI_clamp (by omega)] at z; exact z
    have e0 : ∀ s, mput M i s (M 18 i) (M 19 i) 0 = M 0 := fun s => mput_f (by decide) (by decide) (by decide)
    have h117 : M 17 i ≠ 119 → ∃ (M' : MD) (V' : XV) (T' : RV) (y : Int32), f_X3_pass_63 n (xput V 1 i 8 117) fx x 40 (nI (i + 1)) = some (0, y, V') ∧ f_X4_pass_55 (rar T 14 i 117) fr x (nI (i + 1)) = some (y, T') ∧ WF M' ∧ RX n V' M' ∧ RT T' M' ∧ RA V' T' M' ∧ T'.1 27 = T.1 27 := fun hs =>
      ih (i + 1) (mput M i 117 (M 18 i) (M 19 i)) _ _ fx fr x (ps_wf hW hi hs (Or.inl rfl)) (ps_rx (s := 117) hX hi hs) (ps_rt (s := 117) hT hi hs) (ps_ra hA) (by rw [e0]; omega) (by omega) (by omega)
    have h100 : M 17 i ≠ 119 → ∃ (M' : MD) (V' : XV) (T' : RV) (y : Int32), f_X3_pass_63 n (xput V 1 i 8 100) fx (x + 1) 40 (nI (i + 1)) = some (0, y, V') ∧ f_X4_pass_55 (rar T 14 i 100) fr (x + 1) (nI (i + 1)) = some (y, T') ∧ WF M' ∧ RX n V' M' ∧ RT T' M' ∧ RA V' T' M' ∧ T'.1 27 = T.1 27 := fun hs =>
      ih (i + 1) (mput M i 100 (M 18 i) (M 19 i)) _ _ fx fr (x + 1) (ps_wf hW hi hs (Or.inr rfl)) (ps_rx (s := 100) hX hi hs) (ps_rt (s := 100) hT hi hs) (ps_ra hA) (by rw [e0]; omega) (by omega) (by omega)
    unfold f_X3_pass_63 f_X4_pass_55
    rw [oi_n (g40 (by omega)), og_p g, xr1 hX (by omega), if_pos hi, oc_s (rx_n1 hX hi), (hX.2.2.1 i hi).2.2.2.2.2.2.2.1, nI_1, hT.1.2.1, oi_n (nI_ge (by omega) (by omega))]
    repeat rw [og_p g]
    rw [nI_clamp (show i < 2 ^ 31 by omega), (hT.2.2.2.1 i hi).2.2.2.2.2.2.2.1]
    have is : ∀ v : Nat, v < 1000 → M 17 i = v → nI (M 17 i) = nI v := fun v hv e => (st_is hW hi v hv).mpr e
    have nis : ∀ v : Nat, v < 1000 → M 17 i ≠ v → ¬ nI (M 17 i) = nI v := fun v hv e h => e ((st_is hW hi v hv).mp h)
    by_cases q : M 17 i = 112
    · have hs : M 17 i ≠ 119 := by omega
      rw [oi_p (show nI (M 17 i) = 112 from is 112 (by omega) q), oi_p (show nI (M 17 i) = 112 from is 112 (by omega) q)]
      rw [x_end hX hi hs, ob_s, hX.1.2.2.2.2.2.2.2, ((hX.2.2.1 i hi).2.2.2.2.2.2.2.2 hs).2, hT.1.2.2.2.2, ((hT.2.2.2.1 i hi).2.2.2.2.2.2.2.2 hs).2, (hT.2.2.2.1 i hi).2.2.2.2.2.1, nI_add]
      have he := ((hW.2.2.1 i hi).2.2.2.2.2.2.2.2.2.2 hs).2
      have hl := (hW.2.2.1 i hi).2.2.2.2.2.2.1
      have hl2 := (hW.2.2.1 i hi).2.2.2.2.2.2.2.1
      obtain ⟨f25, f16, f13⟩ := ps_f hT hi hs (s := 117)
      by_cases B : M 0 3 ≤ M 19 i
      · rw [oi_p (nI_lt (show M 0 3 < M 19 i + M 15 i by omega) (by omega)), oi_p (nI_le B (by omega)), oi_p (nI_le B (by omega)), oi_n (nI_ge (show M 0 3 < M 19 i + M 15 i by omega) (by omega))]
        exact ih (i + 1) M V T fx fr x hW hX hT hA (by omega) (by omega) (by omega)
      · rw [oi_n (nI_ge (show M 19 i < M 0 3 by omega) (by omega)), oi_n (nI_ge (show M 19 i < M 0 3 by omega) (by omega)), show vp_nar .char 117 = 117 from rfl, show vp_nar .char 100 = 100 from rfl]
        repeat rw [ob_s]
        repeat rw [og_p g2]
        repeat rw [ob_s]
        rw [f25, f16, f13, nI_add]
        by_cases A : M 0 3 < M 19 i + M 15 i
        · rw [oi_p (nI_lt A (by omega)), oi_n (nI_ge A (by omega))]
          exact h117 hs
        · rw [oi_n (nI_nlt (by omega) (by omega)), oi_p (nI_le (by omega) (by omega)), rar_rar]
          exact h100 hs
    · rw [oi_n (show ¬ nI (M 17 i) = 112 from nis 112 (by omega) q), oi_n (show ¬ nI (M 17 i) = 112 from nis 112 (by omega) q)]
      by_cases q2 : M 17 i = 117
      · have hs : M 17 i ≠ 119 := by omega
        rw [oi_p (show nI (M 17 i) = 117 from is 117 (by omega) q2), oi_p (show nI (M 17 i) = 117 from is 117 (by omega) q2)]
        rw [x_end hX hi hs, ob_s, hX.1.2.2.2.2.2.2.2, ((hX.2.2.1 i hi).2.2.2.2.2.2.2.2 hs).2, hT.1.2.2.2.2, ((hT.2.2.2.1 i hi).2.2.2.2.2.2.2.2 hs).2, (hT.2.2.2.1 i hi).2.2.2.2.2.1, nI_add]
        have he := ((hW.2.2.1 i hi).2.2.2.2.2.2.2.2.2.2 hs).2
        have hl := (hW.2.2.1 i hi).2.2.2.2.2.2.1
        have hl2 := (hW.2.2.1 i hi).2.2.2.2.2.2.2.1
        obtain ⟨f25, f16, f13⟩ := ps_f hT hi hs (s := 117)
        by_cases B : M 0 3 ≤ M 19 i
        · rw [oi_p (nI_lt (show M 0 3 < M 19 i + M 15 i by omega) (by omega)), oi_p (nI_le B (by omega)), oi_p (nI_le B (by omega)), oi_n (nI_ge (show M 0 3 < M 19 i + M 15 i by omega) (by omega))]
          exact ih (i + 1) M V T fx fr x hW hX hT hA (by omega) (by omega) (by omega)
        · rw [oi_n (nI_ge (show M 19 i < M 0 3 by omega) (by omega)), oi_n (nI_ge (show M 19 i < M 0 3 by omega) (by omega)), show vp_nar .char 117 = 117 from rfl, show vp_nar .char 100 = 100 from rfl]
          repeat rw [ob_s]
          repeat rw [og_p g2]
          repeat rw [ob_s]
          rw [f25, f16, f13, nI_add]
          by_cases A : M 0 3 < M 19 i + M 15 i
          · rw [oi_p (nI_lt A (by omega)), oi_n (nI_ge A (by omega))]
            exact h117 hs
          · rw [oi_n (nI_nlt (by omega) (by omega)), oi_p (nI_le (by omega) (by omega)), rar_rar]
            exact h100 hs
      · rw [oi_n (show ¬ nI (M 17 i) = 117 from nis 117 (by omega) q2), oi_n (show ¬ nI (M 17 i) = 117 from nis 117 (by omega) q2)]
        exact ih (i + 1) M V T fx fr x hW hX hT hA (by omega) (by omega) (by omega)
def mnow (M : MD) (w : Nat) : MD := fun f k => if f = 0 ∧ k = 3 then w else M f k
theorem mnow_f {w f : Nat} (h : f ≠ 0) : mnow M w f = M f := by
  funext k
  exact if_neg (fun e => h e.1)
theorem now_wf (hW : WF M) {w : Nat} (hw : w ≤ 1440) : WF (mnow M w) := by
  refine ⟨⟨hW.1.1, hW.1.2.1, hW.1.2.2.1, hw, hW.1.2.2.2.2⟩, hW.2.1, hW.2.2.1, ?_, hW.2.2.2.2⟩
  intro k hk
  obtain ⟨p1, p2, p3, p4, p5⟩ := hW.2.2.2.1 k hk
  refine ⟨p1, p2, p3, p4, fun j hj => ⟨(p5 j hj).1, fun e f hf1 hf2 => ?_⟩⟩
  rw [mnow_f (f := f) (by omega), mnow_f (f := 20) (by decide)]
  exact (p5 j hj).2 e f hf1 hf2
theorem now_rx (hX : RX n V M) {w : Nat} : RX n (xsc V 7 (nI w)) (mnow M w) := by
  obtain ⟨⟨x1, x2, x3, x4, x5, x6, x7, x8⟩, y, z, u⟩ := hX
  exact ⟨⟨x1, x2, x3, x4, x5, x6, x7, rfl⟩, y, z, u⟩
theorem now_rt (hT : RT T M) {w : Nat} : RT (rsc T 25 (nI w)) (mnow M w) := by
  obtain ⟨⟨x1, x2, x3, x4, x5⟩, y, z, u, v⟩ := hT
  exact ⟨⟨x1, x2, x3, x4, rfl⟩, y, z, u, v⟩
theorem p_num2 (p : Int32) : (∃ k, 1 ≤ k ∧ k ≤ 240 ∧ p = nI k) ∨ (p < 1 ∨ (240 : Int32) < p) := by
  by_cases h : p < 1
  · exact Or.inr (Or.inl h)
  · have h0 : ¬ p < 0 := fun z => h (by
      rw [i_lt] at z ⊢
      have h0 : (0 : Int32).toInt = 0 := rfl
      have h1 : (1 : Int32).toInt = 1 := by decide
      omega)
    obtain ⟨j, hj, rfl⟩ := nI_of h0
    by_cases h2 : j ≤ 240
    · refine Or.inl ⟨j, ?_, h2, rfl⟩
      rw [show (1 : Int32) = nI 1 from rfl, nI_if hj (by omega)] at h
      omega
    · exact Or.inr (Or.inr (nI_lt (a := 240) (by omega) hj))
theorem st_10 (hR : Rel n V T) : lst_10 Rel n V T := by
  obtain ⟨M, hW, hX, hT, hA⟩ := hR
  intro out p
  have hnow := hW.1.2.2.2.1
  have h40 := hW.1.2.1
  have bad : (p < 1 ∨ (240 : Int32) < p) → ∃ (res : Int32 × (Nat → Nat) × XV × (Nat → Int64)) (rr : Int32 × RV), f_L_pass n V out p = some res ∧ f_X4_pass T p = some rr ∧ rr.2.1 27 = res.1 ∧ (res.1 = 0 → res.2.2.2 (0 : Int32).toNatClampNeg = Int32.toInt64 rr.1) ∧ Rel res.2.1 res.2.2.1 rr.2 := by
    intro h
    have hi : f_X4_in p 1 240 = some 0 := in_no h
    refine ⟨(1, n, V, out), (0, rsc T 27 1), ?_, ?_, rfl, fun h => absurd h e10, Rel.of27 hW hX hT hA⟩
    · unfold f_L_pass f_X3_pass
      rw [show f_X3_isFrom 1 p 240 = some 0 from hi, ob_s, oi_p rfl, ob_s, oi_n n10, oi_p rfl]
    · unfold f_X4_pass
      rw [hi, ob_s, oi_p rfl, t_fl1, ob_s, oi_n e10]
  rcases p_num2 p with ⟨k, hk, hk2, rfl⟩ | h
  · have hi : f_X4_in (nI k) 1 240 = some 1 := in_ok (nI_nlt (a := k) (b := 1) (by omega) (by omega)) (nI_nlt (a := 240) (b := k) (by omega) (by omega))
    by_cases q : M 0 3 + k ≤ 1440
    · obtain ⟨M', V', T', y, e1, e2, w, rx, rt, ra, e3⟩ := pass_both (n := n) (M 0 1) 0 (mnow M (M 0 3 + k)) (xsc V 7 (nI (M 0 3 + k))) (rsc (rsc T 27 0) 25 (nI (M 0 3 + k))) FU FU 0 (now_wf hW q) (now_rx hX) (now_rt (RT_27 hT)) hA (by show 0 + M 0 1 = M 0 1; omega) (by unfold FU; omega) (by unfold FU; omega)
      refine ⟨(0, n, V', vp_updL out (0 : Int32).toNatClampNeg y.toInt64), (y, T'), ?_, ?_, e3, fun _ => u0 (f := out), ⟨M', w, rx, rt, ra⟩⟩
      · unfold f_L_pass f_X3_pass
        rw [show f_X3_isFrom 1 (nI k) 240 = some 1 from hi, ob_s, oi_n e10, hX.1.2.2.2.2.2.2.2, nI_add, oi_p (show nI (M 0 3 + k) ≤ 1440 from nI_le (b := 1440) q (by omega)), ob_s, show f_X3_pass_63 n (xsc V 7 (nI (M 0 3 + k))) FU 0 40 0 = _ from e1, ob_s, oi_p rfl]
      · unfold f_X4_pass
        rw [hi, ob_s, oi_n e10, hT.1.2.2.2.2, nI_add, oi_p (show nI (M 0 3 + k) ≤ 1440 from nI_le (b := 1440) q (by omega)), t_fl0, ob_s, oi_p rfl]
        show ob (some (rsc (rsc T 27 0) 25 (T.1 25 + nI k))) _ = _
        rw [hT.1.2.2.2.2, nI_add, ob_s]
        exact e2
    · refine ⟨(2, n, V, out), (0, rsc T 27 2), ?_, ?_, rfl, fun h => absurd h e20, Rel.of27 hW hX hT hA⟩
      · unfold f_L_pass f_X3_pass
        rw [show f_X3_isFrom 1 (nI k) 240 = some 1 from hi, ob_s, oi_n e10, hX.1.2.2.2.2.2.2.2, nI_add, oi_n (show ¬ nI (M 0 3 + k) ≤ 1440 from nI_ge (a := 1440) (by omega) (by omega)), ob_s, oi_n n20, oi_n (show ¬ (2 : Nat) = 1 by decide), oi_p rfl]
      · unfold f_X4_pass
        rw [hi, ob_s, oi_n e10, hT.1.2.2.2.2, nI_add, oi_n (show ¬ nI (M 0 3 + k) ≤ 1440 from nI_ge (a := 1440) (by omega) (by omega)), t_fl2, ob_s, oi_n e10]
  · exact bad h
end Q28
