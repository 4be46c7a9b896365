section Q15
variable {n : Nat → Nat} {V : XV} {T : RV} {M : MD}
theorem put_rt1 (hT : RT T M) {l c a : Nat} : RT (rar T 14 l 119) (mput M l 119 c a) := by
  obtain ⟨x1, x2, x3, x4, x5⟩ := hT
  refine ⟨?_, ?_, ?_, ?_, ?_⟩
  · unfold rtS
    rw [mput_f (f := 0) (by decide) (by decide) (by decide)]
    exact x1
  · unfold rtC
    rw [mput_f (f := 0) (by decide) (by decide) (by decide), mput_f (f := 1) (by decide) (by decide) (by decide), mput_f (f := 2) (by decide) (by decide) (by decide), mput_f (f := 3) (by decide) (by decide) (by decide), mput_f (f := 4) (by decide) (by decide) (by decide), mput_f (f := 5) (by decide) (by decide) (by decide), mput_f (f := 6) (by decide) (by decide) (by decide)]
    exact x2
  · unfold rtZ
    rw [mput_f (f := 0) (by decide) (by decide) (by decide)]
    exact x3
  · unfold rtL
    rw [mput_f (f := 0) (by decide) (by decide) (by decide), mput_f (f := 10) (by decide) (by decide) (by decide), mput_f (f := 11) (by decide) (by decide) (by decide), mput_f (f := 12) (by decide) (by decide) (by decide), mput_f (f := 13) (by decide) (by decide) (by decide), mput_f (f := 14) (by decide) (by decide) (by decide), mput_f (f := 15) (by decide) (by decide) (by decide), mput_f (f := 16) (by decide) (by decide) (by decide)]
    intro k hk
    obtain ⟨y1, y2, y3, y4, y5, y6, y7, y8, y9⟩ := x4 k hk
    by_cases q : k = l
    · subst q
      rw [mput_17]
      simp only [rar_r, and_true]
      exact ⟨y1, y2, y3, y4, y5, y6, y7, rfl, fun h => absurd rfl h⟩
    · rw [mput_o (Or.inl q), mput_o (Or.inl q), mput_o (Or.inl q)]
      simp only [rar_r, q, and_false, if_false]
      exact ⟨y1, y2, y3, y4, y5, y6, y7, y8, y9⟩
  · unfold rtP
    rw [mput_f (f := 0) (by decide) (by decide) (by decide), mput_f (f := 20) (by decide) (by decide) (by decide), mput_f (f := 21) (by decide) (by decide) (by decide), mput_f (f := 22) (by decide) (by decide) (by decide)]
    exact x5
abbrev unfit (M : MD) (i : Nat) : Prop := hvy M i (M 18 i) ∨ ¬ okh M (M 18 i) (M 19 i / 60) ((M 19 i + M 15 i - 1) / 60 + 1)
theorem x_still (hW : WF M) (hX : RX n V M) {i : Nat} (hi : i < M 0 1) (hs : M 17 i ≠ 119) : f_X3_stillFits n V i = some (if unfit M i then 0 else 1) := by
  obtain ⟨l1, l2, l3, l4, l5, l6, l7, l8, l9, l10, l11⟩ := hW.2.2.1 i hi
  obtain ⟨hc, he⟩ := l11 hs
  obtain ⟨e9, e10'⟩ := (hX.2.2.1 i hi).2.2.2.2.2.2.2.2 hs
  have hn := lcv_ne (lch_ne M (c := M 18 i) l7 he)
  have hk := okh_hrs M (M 18 i) (M 19 i) (M 15 i) l7
  unfold f_X3_stillFits
  rw [e9, x_crk hW hX hc, ob_s, oc_s (rx_n0 hX hc), x_bears hW hX hi hc, ob_s]
  by_cases q : hvy M i (M 18 i)
  · rw [if_pos q, oi_p rfl, if_pos (Or.inl q)]
  · rw [if_neg q, oi_n e10, x_end hX hi hs, ob_s, e10', x_lch hW hX hc l7 he, ob_s]
    by_cases r : okh M (M 18 i) (M 19 i / 60) ((M 19 i + M 15 i - 1) / 60 + 1)
    · rw [oi_p (hn.mpr (hk.mpr r)), if_neg (fun h => h.elim q (fun z => z r))]
    · rw [oi_n (fun h => r (hk.mp (hn.mp h))), if_pos (Or.inr r)]
theorem x_tbskip (hX : RX n V M) (h40 : M 0 1 ≤ 40) : ∀ (K i fu : Nat) (x : Int32), i + K = 40 → M 0 1 ≤ i → K < fu → f_X3_takeBackUnfit_13 n V fu x 40 (nI i) = some (x, V) := by
  intro K
  induction K with
  | zero =>
    intro i fu x h1 h3 h2
    obtain ⟨fu, rfl⟩ : ∃ g, fu = g + 1 := ⟨fu - 1, by omega⟩
    unfold f_X3_takeBackUnfit_13
    rw [oi_p (l40 (by omega) (by omega))]
  | succ K ih =>
    intro i fu x h1 h3 h2
    obtain ⟨fu, rfl⟩ : ∃ g, fu = g + 1 := ⟨fu - 1, by omega⟩
    unfold f_X3_takeBackUnfit_13
    rw [oi_n (g40 (by omega)), og_p (nI_in (by omega) (by omega)), xr1 hX (by omega), if_neg (by omega), oc_n, nI_1]
    exact ih (i + 1) fu x (by omega) (by omega) (by omega)
theorem drops_both : ∀ (k i : Nat) (M : MD) (V : XV) (T : RV) (fx fr : Nat) (x : Int32), WF M → RX n V M → RT T M → RA V T M → i + k = M 0 1 → 40 - i < fx → k < fr → ∃ (M' : MD) (V' : XV) (T' : RV) (y : Int32), f_X3_takeBackUnfit_13 n V fx x 40 (nI i) = some (y, V') ∧ f_X4_drops_4 T fr x (nI i) = some (y, T') ∧ WF M' ∧ RX n V' M' ∧ RT T' M' ∧ RA V' T' M' ∧ T'.1 27 = T.1 27 := by
  intro k
  induction k with
  | zero =>
    intro i M V T fx fr x hW hX hT hA h1 h2 h3
    have h40 := hW.1.2.1
    obtain ⟨fr, rfl⟩ : ∃ g, fr = g + 1 := ⟨fr - 1, by omega⟩
    refine ⟨M, V, T, x, x_tbskip hX h40 (40 - i) i fx x (by omega) (by omega) h2, ?_, hW, hX, hT, hA, rfl⟩
    unfold f_X4_drops_4
    rw [hT.1.2.1, oi_p (nI_le (by omega) (by omega))]
  | succ k ih =>
    intro i M V T fx fr x hW hX hT hA h1 h2 h3
    have h40 := hW.1.2.1
    have hi : i < M 0 1 := by omega
    obtain ⟨fx, rfl⟩ : ∃ g, fx = g + 1 := ⟨fx - 1, by omega⟩
    obtain ⟨fr, rfl⟩ : ∃ g, fr = g + 1 := ⟨fr - 1, by omega⟩
    have g := nI_in (c := i) (N := 40) (by omega) (by omega)
    unfold f_X3_takeBackUnfit_13 f_X4_drops_4
    rw [oi_n (g40 (by omega)), og_p g, xr1 hX (by omega), if_pos hi, oc_s (rx_n1 hX hi), (hX.2.2.1 i hi).2.2.2.2.2.2.2.1, nI_1, hT.1.2.1, oi_n (nI_ge (by omega) (by omega))]
    repeat rw [og_p g]
    rw [nI_clamp (by omega), (hT.2.2.2.1 i hi).2.2.2.2.2.2.2.1]
    by_cases q : M 17 i = 112
    · have hs : M 17 i ≠ 119 := by omega
      obtain ⟨l1, l2, l3, l4, l5, l6, l7, l8, l9, l10, l11⟩ := hW.2.2.1 i hi
      obtain ⟨hc, he⟩ := l11 hs
      obtain ⟨t9, t10⟩ := (hT.2.2.2.1 i hi).2.2.2.2.2.2.2.2 hs
      have e112 : nI (M 17 i) = 112 := (st_is hW hi 112 (by omega)).mpr q
      rw [oi_p e112, oi_p e112, x_still hW hX hi hs, ob_s, t9, t10, (hT.2.2.2.1 i hi).2.2.2.2.2.1, t_hvy hW hT hi hc, ob_s]
      have hdrop : ∃ (M' : MD) (V' : XV) (T' : RV) (y : Int32), f_X3_takeBackUnfit_13 n (xput (xput (xput V 1 i 8 119) 1 i 9 (-1)) 1 i 10 (-1)) fx (x + 1) 40 (nI (i + 1)) = some (y, V') ∧ f_X4_drops_4 (rar T 14 i 119) fr (x + 1) (nI (i + 1)) = some (y, T') ∧ WF M' ∧ RX n V' M' ∧ RT T' M' ∧ RA V' T' M' ∧ T'.1 27 = T.1 27 := by
        refine ih (i + 1) (mput M i 119 0 0) _ _ fx fr (x + 1) (put_wf hW (Or.inl rfl) (fun h => absurd rfl h) (fun h => absurd rfl h)) (put_rx (s := 119) hX (fun h => absurd rfl h)) (put_rt1 hT) ?_ ?_ (by omega) (by omega)
        · unfold RA
          rw [mput_f (f := 0) (by decide) (by decide) (by decide)]
          exact hA
        · rw [mput_f (f := 0) (by decide) (by decide) (by decide)]
          omega
      by_cases z : hvy M i (M 18 i)
      · rw [if_pos (Or.inl z), oi_p rfl, if_pos z, oi_n e10]
        exact hdrop
      · rw [if_neg z, oi_p rfl, t_hp hW hT hc l7 he, ob_s]
        by_cases r : okh M (M 18 i) (M 19 i / 60) ((M 19 i + M 15 i - 1) / 60 + 1)
        · rw [if_neg (fun (h : unfit M i) => h.elim z (fun w => w r)), oi_n e10, if_pos r, oi_n e10]
          exact ih (i + 1) M V T fx fr x hW hX hT hA (by omega) (by omega) (by omega)
        · rw [if_pos (Or.inr r), oi_p rfl, if_neg r, oi_p rfl]
          exact hdrop
    · have n112 : ¬ nI (M 17 i) = 112 := fun h => q ((st_is hW hi 112 (by omega)).mp h)
      rw [oi_n n112, oi_n n112]
      exact ih (i + 1) M V T fx fr x hW hX hT hA (by omega) (by omega) (by omega)
theorem drops_ok (hW : WF M) (hX : RX n V M) (hT : RT T M) (hA : RA V T M) : ∃ (V' : XV) (T' : RV) (y : Int32), f_X3_takeBackUnfit n V = some (y, V') ∧ f_X4_drops T = some (y, T') ∧ Rel n V' T' ∧ T'.1 27 = T.1 27 := by
  have h40 := hW.1.2.1
  obtain ⟨M', V', T', y, e1, e2, w, rx, rt, ra, e3⟩ := drops_both (M 0 1) 0 M V T FU FU 0 hW hX hT hA (by omega) (by unfold FU; omega) (by unfold FU; omega)
  refine ⟨V', T', y, ?_, ?_, ⟨M', w, rx, rt, ra⟩, e3⟩
  · unfold f_X3_takeBackUnfit
    exact e1
  · unfold f_X4_drops
    exact e2
end Q15
