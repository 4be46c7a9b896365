section Q13
variable {n : Nat → Nat} {V : XV} {T : RV} {M : MD}
/-- a walk over the lifts from i on, k of them -/
def fld {α : Type} (g : Nat → α → α) : Nat → Nat → α → α
  | 0, _, x => x
  | k + 1, i, x => fld g k (i + 1) (g i x)
theorem g40 {i : Nat} (h : i < 40) : ¬ (40 : Int32) ≤ nI i := nI_ge (b := 40) h (by omega)
theorem l40 {i : Nat} (h : 40 ≤ i) (h2 : i < 1000) : (40 : Int32) ≤ nI i := nI_le (a := 40) h (by omega)
theorem st_is (hW : WF M) {k : Nat} (hk : k < M 0 1) (v : Nat) (hv : v < 1000) : (nI (M 17 k) = nI v) ↔ M 17 k = v := ⟨fun h => nI_inj h (wfl_stb hW hk) (by omega), fun h => by rw [h]⟩
def gw (M : MD) (i : Nat) (x : Int32) : Int32 := if M 17 i = 119 then x + 1 else x
theorem x_waiting (hW : WF M) (hX : RX n V M) : ∀ (K i fu : Nat) (x : Int32), i + K = 40 → K < fu → f_X3_waiting_13 n V fu x 40 (nI i) = some (fld (gw M) (M 0 1 - i) i x) := by
  have h40 := hW.1.2.1
  intro K
  induction K with
  | zero =>
    intro i fu x h1 h2
    obtain ⟨fu, rfl⟩ : ∃ g, fu = g + 1 := ⟨fu - 1, by omega⟩
    unfold f_X3_waiting_13
    rw [oi_p (l40 (by omega) (by omega)), show M 0 1 - i = 0 by omega]
    rfl
  | succ K ih =>
    intro i fu x h1 h2
    obtain ⟨fu, rfl⟩ : ∃ g, fu = g + 1 := ⟨fu - 1, by omega⟩
    unfold f_X3_waiting_13
    rw [oi_n (g40 (by omega)), og_p (nI_in (by omega) (by omega)), xr1 hX (by omega), nI_1]
    by_cases hi : i < M 0 1
    · rw [if_pos hi, oc_s (rx_n1 hX hi), (hX.2.2.1 i hi).2.2.2.2.2.2.2.1, show M 0 1 - i = (M 0 1 - (i + 1)) + 1 by omega]
      unfold fld gw
      by_cases q : M 17 i = 119
      · rw [oi_p (show nI (M 17 i) = 119 from (st_is hW hi 119 (by omega)).mpr q), if_pos q]
        exact ih (i + 1) fu (x + 1) (by omega) (by omega)
      · rw [oi_n (show ¬ nI (M 17 i) = 119 from fun h => q ((st_is hW hi 119 (by omega)).mp h)), if_neg q]
        exact ih (i + 1) fu x (by omega) (by omega)
    · rw [if_neg hi, oc_n, ih (i + 1) fu x (by omega) (by omega), show M 0 1 - (i + 1) = 0 by omega, show M 0 1 - i = 0 by omega]
      rfl
theorem t_waiting (hW : WF M) (hT : RT T M) : ∀ (k i fu : Nat) (x : Int32), i + k = M 0 1 → k < fu → f_X4_waiting_9 T fu x (nI i) = some (fld (gw M) k i x, T) := by
  have h40 := hW.1.2.1
  intro k
  induction k with
  | zero =>
    intro i fu x h1 h2
    obtain ⟨fu, rfl⟩ : ∃ g, fu = g + 1 := ⟨fu - 1, by omega⟩
    unfold f_X4_waiting_9
    rw [hT.1.2.1, oi_p (nI_le (by omega) (by omega))]
    rfl
  | succ k ih =>
    intro i fu x h1 h2
    obtain ⟨fu, rfl⟩ : ∃ g, fu = g + 1 := ⟨fu - 1, by omega⟩
    have hi : i < M 0 1 := by omega
    unfold f_X4_waiting_9 fld gw
    rw [hT.1.2.1, oi_n (nI_ge (by omega) (by omega)), og_p (nI_in (by omega) (by omega)), nI_clamp (by omega), (hT.2.2.2.1 i hi).2.2.2.2.2.2.2.1, nI_1, Int32.add_zero]
    by_cases q : M 17 i = 119
    · rw [oi_p (show nI (M 17 i) = 119 from (st_is hW hi 119 (by omega)).mpr q), if_pos q]
      exact ih (i + 1) fu (x + 1) (by omega) (by omega)
    · rw [oi_n (show ¬ nI (M 17 i) = 119 from fun h => q ((st_is hW hi 119 (by omega)).mp h)), if_neg q]
      exact ih (i + 1) fu x (by omega) (by omega)
theorem st_37 (hR : Rel n V T) : lst_37 Rel n V T := by
  obtain ⟨M, hW, hX, hT, hA⟩ := hR
  have h40 := hW.1.2.1
  refine ⟨fld (gw M) (M 0 1) 0 0, (fld (gw M) (M 0 1) 0 0, rsc T 27 0), ?_, ?_, rfl, Rel.of27 hW hX hT hA⟩
  · have h := x_waiting hW hX 40 0 FU 0 rfl (by unfold FU; omega)
    rw [Nat.sub_zero] at h
    exact h
  · unfold f_X4_waiting
    rw [ob_s]
    exact t_waiting hW (T := rsc T 27 0) (RT_27 hT) (M 0 1) 0 FU 0 (by omega) (by unfold FU; omega)
end Q13
section Q13b
variable {n : Nat → Nat} {V : XV} {T : RV} {M : MD}
def gl (M : MD) (i : Nat) (x : Int64) : Int64 := if M 17 i = 100 then x + (nI (M 14 i)).toInt64 else x
theorem x_lifted (hW : WF M) (hX : RX n V M) : ∀ (K i fu : Nat) (x : Int64), i + K = 40 → K < fu → f_X3_lifted_14 n V fu x 40 (nI i) = some (fld (gl M) (M 0 1 - i) i x) := by
  have h40 := hW.1.2.1
  intro K
  induction K with
  | zero =>
    intro i fu x h1 h2
    obtain ⟨fu, rfl⟩ : ∃ g, fu = g + 1 := ⟨fu - 1, by omega⟩
    unfold f_X3_lifted_14
    rw [oi_p (l40 (by omega) (by omega)), show M 0 1 - i = 0 by omega]
    rfl
  | succ K ih =>
    intro i fu x h1 h2
    obtain ⟨fu, rfl⟩ : ∃ g, fu = g + 1 := ⟨fu - 1, by omega⟩
    unfold f_X3_lifted_14
    rw [oi_n (g40 (by omega)), og_p (nI_in (by omega) (by omega)), xr1 hX (by omega), nI_1]
    by_cases hi : i < M 0 1
    · rw [if_pos hi, oc_s (rx_n1 hX hi), (hX.2.2.1 i hi).2.2.2.2.2.2.2.1, (hX.2.2.1 i hi).2.2.2.2.1, show M 0 1 - i = (M 0 1 - (i + 1)) + 1 by omega]
      unfold fld gl
      by_cases q : M 17 i = 100
      · rw [oi_p (show nI (M 17 i) = 100 from (st_is hW hi 100 (by omega)).mpr q), if_pos q]
        exact ih (i + 1) fu _ (by omega) (by omega)
      · rw [oi_n (show ¬ nI (M 17 i) = 100 from fun h => q ((st_is hW hi 100 (by omega)).mp h)), if_neg q]
        exact ih (i + 1) fu x (by omega) (by omega)
    · rw [if_neg hi, oc_n, ih (i + 1) fu x (by omega) (by omega), show M 0 1 - (i + 1) = 0 by omega, show M 0 1 - i = 0 by omega]
      rfl
theorem t_lifted (hW : WF M) (hT : RT T M) : ∀ (k i fu : Nat) (x : Int64), i + k = M 0 1 → k < fu → f_X4_lifted_9 T fu x (nI i) = some (fld (gl M) k i x, T) := by
  have h40 := hW.1.2.1
  intro k
  induction k with
  | zero =>
    intro i fu x h1 h2
    obtain ⟨fu, rfl⟩ : ∃ g, fu = g + 1 := ⟨fu - 1, by omega⟩
    unfold f_X4_lifted_9
    rw [hT.1.2.1, oi_p (nI_le (by omega) (by omega))]
    rfl
  | succ k ih =>
    intro i fu x h1 h2
    obtain ⟨fu, rfl⟩ : ∃ g, fu = g + 1 := ⟨fu - 1, by omega⟩
    have hi : i < M 0 1 := by omega
    have g := nI_in (c := i) (N := 40) (by omega) (by omega)
    unfold f_X4_lifted_9 fld gl
    rw [hT.1.2.1, oi_n (nI_ge (by omega) (by omega)), og_p g, og_p g, nI_clamp (by omega), (hT.2.2.2.1 i hi).2.2.2.2.2.2.2.1, (hT.2.2.2.1 i hi).2.2.2.2.1, nI_1, Int64.add_zero]
    by_cases q : M 17 i = 100
    · rw [oi_p (show nI (M 17 i) = 100 from (st_is hW hi 100 (by omega)).mpr q), if_pos q]
      exact ih (i + 1) fu _ (by omega) (by omega)
    · rw [oi_n (show ¬ nI (M 17 i) = 100 from fun h => q ((st_is hW hi 100 (by omega)).mp h)), if_neg q]
      exact ih (i + 1) fu x (by omega) (by omega)
theorem st_39 (hR : Rel n V T) : lst_39 Rel n V T := by
  obtain ⟨M, hW, hX, hT, hA⟩ := hR
  have h40 := hW.1.2.1
  refine ⟨fld (gl M) (M 0 1) 0 0, (fld (gl M) (M 0 1) 0 0, rsc T 27 0), ?_, ?_, rfl, Rel.of27 hW hX hT hA⟩
  · have h := x_lifted hW hX 40 0 FU 0 rfl (by unfold FU; omega)
    rw [Nat.sub_zero] at h
    exact h
  · unfold f_X4_lifted
    rw [ob_s]
    exact t_lifted hW (T := rsc T 27 0) (RT_27 hT) (M 0 1) 0 FU 0 (by omega) (by unfold FU; omega)
end Q13b
section Q13c
variable {n : Nat → Nat} {V : XV} {T : RV} {M : MD}
abbrev onc (M : MD) (i c : Nat) : Prop := M 17 i ≠ 119 ∧ M 18 i = c
theorem x_on (hW : WF M) (hX : RX n V M) {k c : Nat} (hk : k < M 0 1) (hc : c < M 0 0) : f_X1_isOn n V k (nI c) = some (if onc M k c then 1 else 0) := by
  unfold f_X1_isOn
  rw [x_has hW hX hk, ob_s]
  by_cases q : M 17 k = 119
  · rw [if_pos q, oi_p rfl, if_neg (fun h => h.1 q)]
  · have h5 := wfc_5 hW hc
    have h5' := wfc_5 hW ((hW.2.2.1 k hk).2.2.2.2.2.2.2.2.2.2 q).1
    rw [if_neg q, oi_n e10, ((hX.2.2.1 k hk).2.2.2.2.2.2.2.2 q).1]
    by_cases z : M 18 k = c
    · rw [oi_p (by rw [z]), if_pos ⟨q, z⟩]
    · rw [oi_n (nI_ne z (by omega) (by omega)), if_neg (fun h => z h.2)]
def gm (M : MD) (c i : Nat) (x : Int32) : Int32 := if onc M i c then x + nI (M 15 i) else x
theorem x_mins (hW : WF M) (hX : RX n V M) {c : Nat} (hc : c < M 0 0) : ∀ (K i fu : Nat) (x : Int32), i + K = 40 → K < fu → f_X3_minutesOf_30 n V fu (nI c) x 40 (nI i) = some (0, fld (gm M c) (M 0 1 - i) i x) := by
  have h40 := hW.1.2.1
  intro K
  induction K with
  | zero =>
    intro i fu x h1 h2
    obtain ⟨fu, rfl⟩ : ∃ g, fu = g + 1 := ⟨fu - 1, by omega⟩
    unfold f_X3_minutesOf_30
    rw [oi_p (l40 (by omega) (by omega)), show M 0 1 - i = 0 by omega]
    rfl
  | succ K ih =>
    intro i fu x h1 h2
    obtain ⟨fu, rfl⟩ : ∃ g, fu = g + 1 := ⟨fu - 1, by omega⟩
    unfold f_X3_minutesOf_30
    rw [oi_n (g40 (by omega)), og_p (nI_in (by omega) (by omega)), xr1 hX (by omega), nI_1]
    by_cases hi : i < M 0 1
    · rw [if_pos hi, oc_s (rx_n1 hX hi), x_on hW hX hi hc, ob_s, (hX.2.2.1 i hi).2.2.2.2.2.1, show M 0 1 - i = (M 0 1 - (i + 1)) + 1 by omega]
      unfold fld gm
      by_cases q : onc M i c
      · rw [if_pos q, if_pos q, oi_n e10]
        exact ih (i + 1) fu _ (by omega) (by omega)
      · rw [if_neg q, if_neg q, oi_p rfl]
        exact ih (i + 1) fu x (by omega) (by omega)
    · rw [if_neg hi, oc_n, ih (i + 1) fu x (by omega) (by omega), show M 0 1 - (i + 1) = 0 by omega, show M 0 1 - i = 0 by omega]
      rfl
theorem t_mins (hW : WF M) (hT : RT T M) {c : Nat} (hc : c < M 0 0) : ∀ (k i fu : Nat) (x : Int32), i + k = M 0 1 → k < fu → f_X4_minutesOf_14 T fu (nI c) x (nI i) = some (fld (gm M c) k i x, T) := by
  have h40 := hW.1.2.1
  intro k
  induction k with
  | zero =>
    intro i fu x h1 h2
    obtain ⟨fu, rfl⟩ : ∃ g, fu = g + 1 := ⟨fu - 1, by omega⟩
    unfold f_X4_minutesOf_14
    rw [hT.1.2.1, oi_p (nI_le (by omega) (by omega))]
    rfl
  | succ k ih =>
    intro i fu x h1 h2
    obtain ⟨fu, rfl⟩ : ∃ g, fu = g + 1 := ⟨fu - 1, by omega⟩
    have hi : i < M 0 1 := by omega
    have g := nI_in (c := i) (N := 40) (by omega) (by omega)
    have h5 := wfc_5 hW hc
    unfold f_X4_minutesOf_14 fld gm
    rw [hT.1.2.1, oi_n (nI_ge (by omega) (by omega)), og_p g, og_p g, og_p g, nI_clamp (by omega), (hT.2.2.2.1 i hi).2.2.2.2.2.2.2.1, (hT.2.2.2.1 i hi).2.2.2.2.2.1, nI_1, Int32.add_zero]
    by_cases q : M 17 i = 119
    · rw [oi_p (show nI (M 17 i) = 119 from (st_is hW hi 119 (by omega)).mpr q), if_neg (fun (h : onc M i c) => h.1 q)]
      exact ih (i + 1) fu x (by omega) (by omega)
    · have h5' := wfc_5 hW ((hW.2.2.1 i hi).2.2.2.2.2.2.2.2.2.2 q).1
      rw [oi_n (show ¬ nI (M 17 i) = 119 from fun h => q ((st_is hW hi 119 (by omega)).mp h)), ((hT.2.2.2.1 i hi).2.2.2.2.2.2.2.2 q).1]
      by_cases z : M 18 i = c
      · rw [oi_p (by rw [z]), if_pos ⟨q, z⟩]
        exact ih (i + 1) fu _ (by omega) (by omega)
      · rw [oi_n (nI_ne z (by omega) (by omega)), if_neg (fun (h : onc M i c) => z h.2)]
        exact ih (i + 1) fu x (by omega) (by omega)
theorem st_38 (hR : Rel n V T) : lst_38 Rel n V T := by
  obtain ⟨M, hW, hX, hT, hA⟩ := hR
  intro out p
  have h40 := hW.1.2.1
  rcases p_num p (M 0 0) (Nat.le_trans hW.1.1 (by omega)) with ⟨c, hc, rfl⟩ | h
  · have hx := x_mins hW hX hc 40 0 FU 0 rfl (by unfold FU; omega)
    rw [Nat.sub_zero] at hx
    have hx : f_X3_minutesOf_30 n V FU (nI c) 0 40 0 = some (0, fld (gm M c) (M 0 1) 0 0) := hx
    refine ⟨(0, n, V, vp_updL out (0 : Int32).toNatClampNeg (fld (gm M c) (M 0 1) 0 0).toInt64), (fld (gm M c) (M 0 1) 0 0, rsc T 27 0), ?_, ?_, rfl, fun _ => u0 (f := out), Rel.of27 hW hX hT hA⟩
    · unfold f_L_minutesOf f_X3_minutesOf
      rw [x_crk hW hX hc, ob_s, oc_s (rx_n0 hX hc), hx, ob_s, oi_p rfl]
    · unfold f_X4_minutesOf
      rw [t_body hW hT hc, ob_s, oi_p rfl]
      exact t_mins hW (T := rsc T 27 0) (RT_27 hT) hc (M 0 1) 0 FU 0 (by omega) (by unfold FU; omega)
  · refine ⟨(1, n, V, out), (0, rsc T 27 1), ?_, ?_, rfl, fun h => absurd h e10, Rel.of27 hW hX hT hA⟩
    · unfold f_L_minutesOf f_X3_minutesOf
      rw [x_crn hW hX h, ob_s, oc_n, ob_s, oi_n n30, oi_p rfl]
    · unfold f_X4_minutesOf
      rw [t_nobody hW hT h, ob_s, oi_n e10]
end Q13c
