section Q8
variable {n : Nat → Nat} {V : XV} {T : RV} {M : MD}
theorem x_lasting (hW : WF M) (hX : RX n V M) {l c : Nat} (hl : l < M 0 1) (hc : c < M 0 0) : f_X3_lastingObstacle n V l (nI c) = some (if rch2 M l c then (if hvy M l c then 103 else 45) else 114) := by
  unfold f_X3_lastingObstacle
  rw [x_crk hW hX hc, ob_s, oc_s (rx_n0 hX hc), x_rch2 hW hX hl hc, ob_s]
  by_cases q : rch2 M l c
  · rw [if_pos q, if_pos q, oi_n e10, x_bears hW hX hl hc, ob_s]
    by_cases r : hvy M l c
    · rw [if_pos r, if_pos r, oi_p rfl]
    · rw [if_neg r, if_neg r, oi_n e10]
  · rw [if_neg q, if_neg q, oi_p rfl]
def pas (M : MD) (V : XV) (l c a : Nat) : Int32 := if okh M c (a / 60) ((a + M 15 l - 1) / 60 + 1) then wyk M V l c a (a + M 15 l) (M 0 1) 0 false else 104
theorem okh_hrs (M : MD) (c a b : Nat) (hb : 1 ≤ b) : lcl M c (a / 60) (hrs a b) = none ↔ okh M c (a / 60) ((a + b - 1) / 60 + 1) := by
  rw [lcl_none, hrs_e hb]
theorem lch_ne (M : MD) {c a b : Nat} (hb : 1 ≤ b) (he : a + b ≤ 1440) : ∀ x, lcl M c (a / 60) (hrs a b) = some x → x < 100 := by
  intro x hx
  have h1 := (lcl_some M c _ _ x hx).2.1
  rw [hrs_e hb] at h1
  omega
theorem x_passing (hW : WF M) (hX : RX n V M) {l c a : Nat} (hl : l < M 0 1) (hc : c < M 0 0) (h0 : M 0 3 ≤ a) (h1 : a + M 15 l ≤ 1440) : f_X3_passingObstacle n V l (nI c) (nI a) = some (pas M V l c a) := by
  obtain ⟨l1, l2, l3, l4, l5, l6, l7, l8, -⟩ := hW.2.2.1 l hl
  have x6 := (hX.2.2.1 l hl).2.2.2.2.2.1
  unfold f_X3_passingObstacle pas
  rw [hX.1.2.2.2.2.2.2.2, oi_n (nI_nlt h0 (by omega)), x6, show (1440 : Int32) - nI (M 15 l) = nI (1440 - M 15 l) from nI_subn (a := 1440) (by omega), oi_p (nI_le (by omega) (by omega)), x_crk hW hX hc, ob_s, oc_s (rx_n0 hX hc), nI_add, x_lch hW hX hc l7 h1, ob_s]
  have hn := lcv_ne (lch_ne M (c := c) l7 h1)
  have hk := okh_hrs M c a (M 15 l) l7
  by_cases q : okh M c (a / 60) ((a + M 15 l - 1) / 60 + 1)
  · rw [if_pos q, oi_p (hn.mpr (hk.mpr q))]
    exact x_wyk hW hX hc (by omega) (by omega) 40 0 FU false rfl (by unfold FU; omega)
  · rw [if_neg q, oi_n (fun h => q (hk.mp (hn.mp h)))]
def FIT (M : MD) (V : XV) (l c a : Nat) : Prop := rch2 M l c ∧ ¬ hvy M l c ∧ M 0 3 ≤ a ∧ a + M 15 l ≤ 1440 ∧ okh M c (a / 60) ((a + M 15 l - 1) / 60 + 1) ∧ fre M V l c a (a + M 15 l)
theorem pas_45 (M : MD) (V : XV) (l c a : Nat) : pas M V l c a = 45 ↔ (okh M c (a / 60) ((a + M 15 l - 1) / 60 + 1) ∧ fre M V l c a (a + M 15 l)) := by
  unfold pas
  by_cases q : okh M c (a / 60) ((a + M 15 l - 1) / 60 + 1)
  · rw [if_pos q, wyk_fre]
    exact ⟨fun h => ⟨q, h⟩, fun h => h.2⟩
  · rw [if_neg q]
    exact ⟨fun h => absurd h (by decide), fun h => absurd h.1 q⟩
abbrev chr (v : Int32) : Prop := v.toUInt32.toUInt16.toUInt32.toInt32 = v
theorem pas_chr (M : MD) (V : XV) (l c a : Nat) : chr (pas M V l c a) := by
  unfold pas
  split
  · rcases wyk_chr M V l c a (a + M 15 l) (M 0 1) 0 false with h | h | h <;> rw [h] <;> decide
  · decide
theorem t_why (hW : WF M) (hT : RT T M) (hA : RA V T M) {l c a : Nat} (hl : l < M 0 1) (hc : c < M 0 0) (h0 : M 0 3 ≤ a) (h1 : a + M 15 l ≤ 1440) (hr : rch2 M l c) (hh : ¬ hvy M l c) : f_X4_why T (nI l) (nI c) (nI a) = some (pas M V l c a) := by
  obtain ⟨l1, l2, l3, l4, l5, l6, l7, l8, -⟩ := hW.2.2.1 l hl
  have x6 := (hT.2.2.2.1 l hl).2.2.2.2.2.1
  have g := nI_in (wfl_40 hW hl) (by omega)
  have l40 := wfl_40 hW hl
  unfold f_X4_why pas
  rw [t_rch2 hW hT hl hc, if_pos hr, ob_s, oi_n e10, t_hvy hW hT hl hc, if_neg hh, ob_s, oi_p rfl, hT.1.2.2.2.2, oi_n (nI_nlt h0 (by omega)), og_p g, og_p g, nI_clamp (by omega), x6, show (1440 : Int32) - nI (M 15 l) = nI (1440 - M 15 l) from nI_subn (a := 1440) (by omega), oi_p (nI_le (by omega) (by omega)), t_hp hW hT hc l7 h1, ob_s]
  by_cases q : okh M c (a / 60) ((a + M 15 l - 1) / 60 + 1)
  · rw [if_pos q, if_pos q, oi_n e10]
    exact t_wyk hW hT hA hl hc (by omega) (M 0 1) 0 FU false (by omega) (by have := hW.1.2.1; unfold FU; omega)
  · rw [if_neg q, if_neg q, oi_p rfl]
/-- why a lift does not fit, on both sides -/
theorem obst (hW : WF M) (hX : RX n V M) (hT : RT T M) (hA : RA V T M) {l c : Nat} (hl : l < M 0 1) (hc : c < M 0 0) (p : Int32) : ∃ v, f_X3_obstacle n V l (nI c) p = some v ∧ f_X4_why T (nI l) (nI c) p = some v ∧ chr v ∧ (v = 45 → ∃ a, p = nI a ∧ FIT M V l c a) := by
  obtain ⟨l1, l2, l3, l4, l5, l6, l7, l8, -⟩ := hW.2.2.1 l hl
  have hnow := hW.1.2.2.2.1
  by_cases q : rch2 M l c
  · by_cases r : hvy M l c
    · refine ⟨103, ?_, ?_, by decide, fun h => absurd h (by decide)⟩
      · unfold f_X3_obstacle
        rw [x_lasting hW hX hl hc, if_pos q, if_pos r, ob_s, oi_n (by decide)]
        exact if_pos (by decide)
      · unfold f_X4_why
        rw [t_rch2 hW hT hl hc, if_pos q, ob_s, oi_n e10, t_hvy hW hT hl hc, if_pos r, ob_s, oi_n e10]
    · by_cases hb : p < nI (M 0 3) ∨ ¬ p ≤ nI (1440 - M 15 l)
      · refine ⟨109, ?_, ?_, by decide, fun h => absurd h (by decide)⟩
        · unfold f_X3_obstacle f_X3_passingObstacle
          rw [x_lasting hW hX hl hc, if_pos q, if_neg r, ob_s, oi_p rfl, hX.1.2.2.2.2.2.2.2, (hX.2.2.1 l hl).2.2.2.2.2.1, show (1440 : Int32) - nI (M 15 l) = nI (1440 - M 15 l) from nI_subn (a := 1440) (by omega)]
          by_cases hp : p < nI (M 0 3)
          · rw [oi_p hp, ob_s]; exact if_pos (by decide)
          · rw [oi_n hp, oi_n (hb.resolve_left hp), ob_s]; exact if_pos (by decide)
        · have g := nI_in (wfl_40 hW hl) (by omega)
          have l40 := wfl_40 hW hl
          unfold f_X4_why
          rw [t_rch2 hW hT hl hc, if_pos q, ob_s, oi_n e10, t_hvy hW hT hl hc, if_neg r, ob_s, oi_p rfl, hT.1.2.2.2.2, og_p g, nI_clamp (by omega), (hT.2.2.2.1 l hl).2.2.2.2.2.1, show (1440 : Int32) - nI (M 15 l) = nI (1440 - M 15 l) from nI_subn (a := 1440) (by omega)]
          by_cases hp : p < nI (M 0 3)
          · rw [oi_p hp]
          · rw [oi_n hp, oi_n (hb.resolve_left hp)]
      · have hp : ¬ p < nI (M 0 3) := fun h => hb (Or.inl h)
        have hp2 : p ≤ nI (1440 - M 15 l) := Classical.byContradiction fun h => hb (Or.inr h)
        have hp0 : ¬ p < 0 := fun h => hp (by rw [i_lt] at h ⊢; rw [nI_toInt (by omega)]; have : (0 : Int32).toInt = 0 := rfl; omega)
        obtain ⟨a, ha, rfl⟩ := nI_of hp0
        have h0 : M 0 3 ≤ a := by rw [nI_if ha (by omega)] at hp; omega
        have h1 : a + M 15 l ≤ 1440 := by rw [nI_iff ha (by omega)] at hp2; omega
        refine ⟨pas M V l c a, ?_, t_why hW hT hA hl hc h0 h1 q r, pas_chr M V l c a, fun h => ⟨a, rfl, q, r, h0, h1, (pas_45 M V l c a).mp h⟩⟩
        unfold f_X3_obstacle
        rw [x_lasting hW hX hl hc, if_pos q, if_neg r, ob_s, oi_p rfl, x_passing hW hX hl hc h0 h1, ob_s]
        exact if_pos (pas_chr M V l c a)
  · refine ⟨114, ?_, ?_, by decide, fun h => absurd h (by decide)⟩
    · unfold f_X3_obstacle
      rw [x_lasting hW hX hl hc, if_neg q, ob_s, oi_n (by decide)]
      exact if_pos (by decide)
    · unfold f_X4_why
      rw [t_rch2 hW hT hl hc, if_neg q, ob_s, oi_p rfl]
theorem t_nopair (hW : WF M) (hT : RT T M) {p q : Int32} (h : (p < 0 ∨ nI (M 0 1) ≤ p) ∨ (∃ l, l < M 0 1 ∧ p = nI l) ∧ (q < 0 ∨ nI (M 0 0) ≤ q)) : f_X4_isNoPair T p q = some (1, rsc T 27 1) := by
  unfold f_X4_isNoPair
  rcases h with h | ⟨⟨l, hl, rfl⟩, h⟩
  · rw [t_nol hW hT h, ob_s, oi_n e10, t_fl1, ob_s]
    exact if_pos (show (1 : Int32) &&& 1 = 1 by decide)
  · rw [t_isl hW hT hl, ob_s, oi_p rfl, t_noc hW hT h, ob_s, oi_n e10, t_fl1, ob_s]
    exact if_pos (show (1 : Int32) &&& 1 = 1 by decide)
theorem t_pair (hW : WF M) (hT : RT T M) {l c : Nat} (hl : l < M 0 1) (hc : c < M 0 0) : f_X4_isNoPair T (nI l) (nI c) = some (0, rsc T 27 0) := by
  unfold f_X4_isNoPair
  rw [t_isl hW hT hl, ob_s, oi_p rfl, t_isc hW hT hc, ob_s, oi_p rfl, t_fl0, ob_s]
  exact if_pos (show (0 : Int32) &&& 1 = 0 by decide)
theorem st_17 (hR : Rel n V T) : lst_17 Rel n V T := by
  obtain ⟨M, hW, hX, hT, hA⟩ := hR
  intro out p1 p2 p3
  have bad : ∀ h : (p1 < 0 ∨ nI (M 0 1) ≤ p1) ∨ (∃ l, l < M 0 1 ∧ p1 = nI l) ∧ (p2 < 0 ∨ nI (M 0 0) ≤ p2), ∃ (res : Int32 × (Nat → Nat) × XV × (Nat → Int64)) (rr : Int32 × RV), f_L_reason n V out p1 p2 p3 = some res ∧ f_X4_reason T p1 p2 p3 = some rr ∧ rr.2.1 27 = res.1 ∧ (res.1 = 0 → res.2.2.2 (0 : Int32).toNatClampNeg = Int32.toInt64 rr.1) ∧ Rel res.2.1 res.2.2.1 rr.2 := by
    intro h
    refine ⟨(1, n, V, out), (32, rsc T 27 1), ?_, ?_, rfl, fun h => absurd h e10, Rel.of27 hW hX hT hA⟩
    · unfold f_L_reason f_X3_reason
      rcases h with h | ⟨⟨l, hl, rfl⟩, h⟩
      · rw [x_lfn hW hX h, ob_s, oc_n, ob_s, oi_n n30, oi_p rfl]
      · rw [x_lfk hW hX hl, ob_s, oc_s (rx_n1 hX hl), x_crn hW hX h, ob_s, oc_n, ob_s, oi_n n30, oi_p rfl]
    · unfold f_X4_reason
      rw [t_nopair hW hT h, ob_s, oi_n e10]
  rcases p_num p1 (M 0 1) (Nat.le_trans hW.1.2.1 (by omega)) with ⟨l, hl, rfl⟩ | h
  · rcases p_num p2 (M 0 0) (Nat.le_trans hW.1.1 (by omega)) with ⟨c, hc, rfl⟩ | h
    · obtain ⟨v, hv, hv2, hchr, -⟩ := obst hW hX (T := rsc T 27 0) (RT_27 hT) (RA_27 hA) hl hc p3
      refine ⟨(0, n, V, vp_updL out (0 : Int32).toNatClampNeg v.toInt64), (v, rsc T 27 0), ?_, ?_, rfl, fun _ => u0 (f := out), Rel.of27 hW hX hT hA⟩
      · unfold f_L_reason f_X3_reason
        rw [x_lfk hW hX hl, ob_s, oc_s (rx_n1 hX hl), x_crk hW hX hc, ob_s, oc_s (rx_n0 hX hc), hv, ob_s, og_p hchr, ob_s, oi_p rfl]
      · unfold f_X4_reason
        rw [t_pair hW hT hl hc, ob_s, oi_p rfl, hv2, ob_s]
        exact if_pos hchr
    · exact bad (Or.inr ⟨⟨l, hl, rfl⟩, h⟩)
  · exact bad (Or.inl h)
end Q8
