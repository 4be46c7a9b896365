section Q24
variable {n : Nat → Nat} {V : XV} {T : RV} {M : MD}
theorem RX_rw {r i : Nat} {v : Int32} (h : RX n V M) : RX n (xrwp V r i v) M := h
theorem RA_rw {r i : Nat} {v : Int32} (h : RA V T M) : RA (xrwp V r i v) T M := h
theorem xrw_r {r i x : Nat} {v : Int32} : (xrwp V r i v).2.2.2 r x = if x = i then v else V.2.2.2 r x := by
  show va_up V.2.2.2 r (upd (V.2.2.2 r) i v) r x = _
  simp [va_up, upd]
theorem x_fill5 : ∀ (k i : Nat) (V : XV) (fu : Nat), i + k = 1440 → k < fu → RX n V M → RA V T M → (∀ x, x < i → V.2.2.2 1 x = -1) → ∃ V' : XV, f_J7_fill_53178_5 n V fu (-1) (nI i) 1440 = some V' ∧ RX n V' M ∧ RA V' T M ∧ ∀ x, x < 1440 → V'.2.2.2 1 x = -1 := by
  intro k
  induction k with
  | zero =>
    intro i V fu h1 h2 hX hA h3
    obtain ⟨fu, rfl⟩ : ∃ g, fu = g + 1 := ⟨fu - 1, by omega⟩
    refine ⟨V, ?_, hX, hA, fun x hx => h3 x (by omega)⟩
    unfold f_J7_fill_53178_5
    rw [oi_p (show (1440 : Int32) ≤ nI i from nI_le (a := 1440) (by omega) (by omega))]
  | succ k ih =>
    intro i V fu h1 h2 hX hA h3
    obtain ⟨fu, rfl⟩ : ∃ g, fu = g + 1 := ⟨fu - 1, by omega⟩
    unfold f_J7_fill_53178_5
    rw [oi_n (show ¬ (1440 : Int32) ≤ nI i from nI_ge (b := 1440) (by omega) (by omega)), og_p (nI_in (by omega) (by omega)), nI_clamp (by omega), ob_s, nI_1]
    refine ih (i + 1) _ fu (by omega) (by omega) (RX_rw hX) (RA_rw hA) (fun x hx => ?_)
    rw [xrw_r]
    by_cases e : x = i
    · rw [if_pos e]
    · rw [if_neg e]; exact h3 x (by omega)
theorem x_day48 (KK : Int32 → Int32 → XV → Option XV) (hW : WF M) {i c : Nat} (hi : i < M 0 1) (hs : M 17 i ≠ 119) : ∀ (d m : Nat) (V : XV) (fu : Nat), m + d = M 19 i + M 15 i → d < fu → RX n V M → RA V T M → ∃ V' : XV, f_X3_fillDayRow_48 KK n V fu (nI c) (nI i) i (nI m) = KK (nI c) (nI i) V' ∧ RX n V' M ∧ RA V' T M ∧ ∀ x, V'.2.2.2 1 x = if m ≤ x ∧ x < M 19 i + M 15 i then nI i else V.2.2.2 1 x := by
  have he := ((hW.2.2.1 i hi).2.2.2.2.2.2.2.2.2.2 hs).2
  intro d
  induction d with
  | zero =>
    intro m V fu h1 h2 hX hA
    obtain ⟨fu, rfl⟩ : ∃ g, fu = g + 1 := ⟨fu - 1, by omega⟩
    refine ⟨V, ?_, hX, hA, fun x => ?_⟩
    · unfold f_X3_fillDayRow_48
      rw [x_end hX hi hs, ob_s, oi_p (nI_le (by omega) (by omega))]
    · rw [if_neg (by omega)]
  | succ d ih =>
    intro m V fu h1 h2 hX hA
    obtain ⟨fu, rfl⟩ : ∃ g, fu = g + 1 := ⟨fu - 1, by omega⟩
    obtain ⟨V', e, hX', hA', h⟩ := ih (m + 1) (xrwp V 1 m (nI i)) fu (by omega) (by omega) (RX_rw hX) (RA_rw hA)
    refine ⟨V', ?_, hX', hA', fun x => ?_⟩
    · unfold f_X3_fillDayRow_48
      rw [x_end hX hi hs, ob_s, oi_n (nI_ge (by omega) (by omega)), oi_n (show ¬ (1440 : Int32) ≤ nI m from nI_ge (b := 1440) (by omega) (by omega)), og_p (nI_in (by omega) (by omega)), nI_clamp (by omega), ob_s, nI_1]
      exact e
    · rw [h x, xrw_r]
      by_cases q : m + 1 ≤ x ∧ x < M 19 i + M 15 i
      · rw [if_pos q, if_pos (by omega)]
      · rw [if_neg q]
        by_cases z : x = m
        · rw [if_pos z, if_pos (by omega)]
        · rw [if_neg z, if_neg (by omega)]
/-- the row of a day holds, for each minute, the lift of the crane among the first i -/
def dayR (M : MD) (V : XV) (c i : Nat) : Prop := ∀ m, m < 1440 → (∀ j, j < i → lm M m j → M 18 j = c → V.2.2.2 1 m = nI j) ∧ ((∀ j, j < i → lm M m j → M 18 j ≠ c) → V.2.2.2 1 m = -1)
theorem x_day10 (hW : WF M) {c : Nat} (hc : c < M 0 0) : ∀ (K i : Nat) (V : XV) (fu : Nat), i + K = 40 → K < fu → RX n V M → RA V T M → dayR M V c i → ∃ V' : XV, f_X3_fillDayRow_10 n V fu (nI c) (nI i) = some V' ∧ RX n V' M ∧ RA V' T M ∧ dayR M V' c 40 := by
  have h40 := hW.1.2.1
  intro K
  induction K with
  | zero =>
    intro i V fu h1 h2 hX hA hD
    obtain ⟨fu, rfl⟩ : ∃ g, fu = g + 1 := ⟨fu - 1, by omega⟩
    obtain rfl : i = 40 := by omega
    refine ⟨V, ?_, hX, hA, hD⟩
    unfold f_X3_fillDayRow_10
    rw [oi_p (l40 (by omega) (by omega))]
  | succ K ih =>
    intro i V fu h1 h2 hX hA hD
    obtain ⟨fu, rfl⟩ : ∃ g, fu = g + 1 := ⟨fu - 1, by omega⟩
    have skip : (∀ m, lm M m i → M 18 i ≠ c) → ∃ V' : XV, f_X3_fillDayRow_10 n V fu (nI c) (nI (i + 1)) = some V' ∧ RX n V' M ∧ RA V' T M ∧ dayR M V' c 40 := by
      intro h0
      refine ih (i + 1) V fu (by omega) (by omega) hX hA (fun m hm => ⟨fun j hj hl hc => ?_, fun h => (hD m hm).2 (fun j hj => h j (by omega))⟩)
      by_cases z : j = i
      · subst z; exact absurd hc (h0 m hl)
      · exact (hD m hm).1 j (by omega) hl hc
    unfold f_X3_fillDayRow_10
    rw [oi_n (g40 (by omega)), og_p (nI_in (by omega) (by omega)), xr1 hX (by omega), nI_1]
    by_cases hi : i < M 0 1
    · rw [if_pos hi, oc_s (rx_n1 hX hi), x_on hW hX hi hc, ob_s]
      by_cases q : onc M i c
      · rw [if_pos q, oi_n e10, ((hX.2.2.1 i hi).2.2.2.2.2.2.2.2 q.1).2]
        have he := ((hW.2.2.1 i hi).2.2.2.2.2.2.2.2.2.2 q.1).2
        have hl := (hW.2.2.1 i hi).2.2.2.2.2.2.2.1
        have ez : (if 0 < nI (M 19 i) then nI (M 19 i) else 0) = nI (M 19 i) := by
          by_cases z : M 19 i = 0
          · rw [z]; rfl
          · exact if_pos (show (0 : Int32) < nI (M 19 i) from nI_lt (a := 0) (b := M 19 i) (by omega) (by omega))
        rw [ez]
        obtain ⟨V', e, hX', hA', h⟩ := x_day48 (T := T) (fun (e_17 : Int32) (e_18 : Int32) (V_19 : XV) => f_X3_fillDayRow_10 n V_19 fu e_17 (e_18 + 1)) hW (c := c) hi q.1 (M 15 i) (M 19 i) V FU rfl (by unfold FU; omega) hX hA
        rw [e]
        show ∃ V'' : XV, f_X3_fillDayRow_10 n V' fu (nI c) (nI i + 1) = some V'' ∧ _
        rw [nI_1]
        refine ih (i + 1) V' fu (by omega) (by omega) hX' hA' (fun m hm => ⟨fun j hj hl2 hc2 => ?_, fun h3 => ?_⟩)
        · rw [h m]
          by_cases z : j = i
          · subst z
            rw [if_pos (by have := hl2.2; omega)]
          · have hn : ¬ (M 19 i ≤ m ∧ m < M 19 i + M 15 i) := fun y => z (lm_uniq hW hl2 ⟨hi, q.1, by omega, y.2⟩ (hc2.trans q.2.symm))
            rw [if_neg hn]
            exact (hD m hm).1 j (by omega) hl2 hc2
        · have hn : ¬ (M 19 i ≤ m ∧ m < M 19 i + M 15 i) := fun y => h3 i (by omega) ⟨hi, q.1, by omega, y.2⟩ q.2
          rw [h m, if_neg hn]
          exact (hD m hm).2 (fun j hj => h3 j (by omega))
      · rw [if_neg q, oi_p rfl]
        exact skip (fun m hl hc => q ⟨hl.2.1, hc⟩)
    · rw [if_neg hi, oc_n]
      exact skip (fun m hl _ => hi hl.1)
theorem x_day (hW : WF M) (hX : RX n V M) (hA : RA V T M) {c : Nat} (hc : c < M 0 0) : ∃ V' : XV, f_X3_fillDayRow n V (nI c) = some V' ∧ RX n V' M ∧ RA V' T M ∧ ∀ m, m < 1440 → V'.2.2.2 1 m = atk M c m (M 0 1) 0 := by
  have h40 := hW.1.2.1
  obtain ⟨V1, e1, hX1, hA1, h1⟩ := x_fill5 (n := n) (M := M) (T := T) 1440 0 V FU rfl (by unfold FU; omega) hX hA (fun x hx => by omega)
  obtain ⟨V2, e2, hX2, hA2, h2⟩ := x_day10 (T := T) hW hc 40 0 V1 FU rfl (by unfold FU; omega) hX1 hA1 (fun m hm => ⟨fun j hj => by omega, fun _ => h1 m hm⟩)
  refine ⟨V2, ?_, hX2, hA2, fun m hm => ?_⟩
  · unfold f_X3_fillDayRow f_J7_fill_53178
    rw [show f_J7_fill_53178_5 n V FU (-1) 0 1440 = _ from e1, ob_s]
    exact e2
  · rcases at_or M c m with ⟨e, h⟩ | ⟨j, hj, hcj, e⟩
    · rw [e]
      exact (h2 m hm).2 (fun j _ => h j)
    · have := hj.1
      rw [e]
      exact (h2 m hm).1 j (by omega) hj hcj
theorem st_27 (hR : Rel n V T) : lst_27 Rel n V T := by
  obtain ⟨M, hW, hX, hT, hA⟩ := hR
  intro out p1 p2
  have h5 := hW.1.1
  rcases p_num p1 (M 0 0) (by omega) with ⟨c, hc, rfl⟩ | h1
  · rcases p_min p2 with ⟨m, hm, rfl⟩ | h2
    · obtain ⟨V', e, hX', hA', h⟩ := x_day hW hX hA hc
      refine ⟨(0, n, V', vp_updL out (0 : Int32).toNatClampNeg (atk M c m (M 0 1) 0).toInt64), (atk M c m (M 0 1) 0, rsc T 27 0), ?_, ?_, rfl, fun _ => u0 (f := out), Rel.of27 hW hX' hT hA'⟩
      · unfold f_L_liftByMinutes f_X3_liftByMinutes
        rw [x_crk hW hX hc, ob_s, oc_s (rx_n0 hX hc), x_mink hm, ob_s, oi_n e10, e, ob_s, oi_n (show ¬ (1440 : Int32) ≤ nI m from nI_ge (b := 1440) (by omega) (by omega)), og_p (nI_in (by omega) (by omega)), nI_clamp (by omega), h m hm, ob_s, oi_p rfl]
      · unfold f_X4_liftByMinutes f_X4_asked
        rw [t_isc hW hT hc, ob_s, oi_p rfl, t_mink hm, ob_s, oi_n e10, t_fl0, ob_s, oi_p rfl]
        show ob (ob (f_X4_at (rsc T 27 0) (nI c) (nI m)) _) _ = _
        rw [t_at hW (RT_27 hT) (by omega) hm, ob_s, ob_s]
    · refine ⟨(2, n, V, out), (0, rsc T 27 2), ?_, ?_, rfl, fun h => absurd h e20, Rel.of27 hW hX hT hA⟩
      · unfold f_L_liftByMinutes f_X3_liftByMinutes
        rw [x_crk hW hX hc, ob_s, oc_s (rx_n0 hX hc), x_minn h2, ob_s, oi_p rfl, ob_s, oi_n n10, oi_n n13, oi_p rfl]
      · unfold f_X4_liftByMinutes f_X4_asked
        rw [t_isc hW hT hc, ob_s, oi_p rfl, t_minn h2, ob_s, oi_p rfl, t_fl2, ob_s, oi_n e10, ob_s]
  · refine ⟨(1, n, V, out), (0, rsc T 27 1), ?_, ?_, rfl, fun h => absurd h e10, Rel.of27 hW hX hT hA⟩
    · unfold f_L_liftByMinutes f_X3_liftByMinutes
      rw [x_crn hW hX h1, ob_s, oc_n, ob_s, oi_n n30, oi_p rfl]
    · unfold f_X4_liftByMinutes f_X4_asked
      rw [t_noc hW hT h1, ob_s, oi_n e10, t_fl1, ob_s, oi_n e10, ob_s]
end Q24
