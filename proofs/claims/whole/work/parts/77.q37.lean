section Q37
variable {n : Nat → Nat} {V : XV} {T : RV} {M : MD}
theorem sm_const (c : Nat) : ∀ k, sm (fun _ => c) k = k * c := by
  intro k
  induction k with
  | zero => rw [Nat.zero_mul]; rfl
  | succ k ih =>
    show sm (fun _ => c) k + c = _
    rw [ih, Nat.succ_mul]
theorem st_41 (hR : Rel n V T) : lst_41 Rel n V T := by
  obtain ⟨M, hW, hX, hT, hA⟩ := hR
  intro out p
  have h5 := hW.1.1
  rcases p_num p (M 0 0) (by omega) with ⟨c, hc, rfl⟩ | h
  · have hB := sm_bit_le (M 6 c) 24
    have hA1 : sm (pq M c 0 1) 1440 ≤ 1440 := by
      have z := sm_le (f := pq M c 0 1) (g := fun _ => 1) 1440 (fun m _ => by
        unfold pq
        split
        · split <;> omega
        · omega)
      rw [sm_const 1 1440] at z
      omega
    have xa := x_allow hW hX hc
    have xw := x_caw hW hX hc
    have tp := t_permd hW (T := rsc T 27 0) (RT_27 hT) hc
    have tp2 := t_permd hW (T := rsc (rsc T 27 0) 27 0) (RT_27 (RT_27 hT)) hc
    have tw := t_work hW (T := rsc (rsc T 27 0) 27 0) (RT_27 (RT_27 hT)) hc
    generalize sm (bit1 (M 6 c)) 24 = B at hB xa tp tp2
    generalize sm (pq M c 0 1) 1440 = A at hA1 xw tw
    by_cases q : B = 0
    · refine ⟨(2, n, V, out), (0, rsc (rsc T 27 0) 27 2), ?_, ?_, rfl, fun h => absurd h e20, fun h => absurd h e20, Rel.of27 hW hX (RT_27 hT) (RA_27 hA)⟩
      · unfold f_L_workShare f_X3_workShare
        rw [x_crk hW hX hc, ob_s, oc_s (rx_n0 hX hc), xa, ob_s, oi_p (show nI (B * 60) = 0 by rw [q]; rfl), ob_s, oi_n n50, oi_n n53, oi_p rfl]
      · unfold f_X4_workShare
        rw [t_body hW hT hc, ob_s, oi_p rfl, tp, ob_s, oi_p (show nI B = 0 by rw [q]; rfl), t_fl2, ob_s, oi_n e10]
    · obtain ⟨f1, f2, f3⟩ := fd_ok (a := A) (k := B) (by omega) (by omega) (by omega)
      have k1 : FP.fdiv (FP.i2f (nI A)) (FP.i2f (nI (B * 60))) &&& 0x7fffffff ≤ 0x7f800000 := f1
      have k2 : FP.f2d (FP.fdiv (FP.i2f (nI A)) (FP.i2f (nI (B * 60)))) &&& 0x7fffffffffffffff ≤ 0x7ff0000000000000 := f2
      refine ⟨(0, n, V, vf_upd out (0 : Int32).toNatClampNeg (FP.f2d (FP.fdiv (FP.i2f (nI A)) (FP.i2f (nI (B * 60)))))), (FP.fdiv (FP.i2f (nI A)) (FP.i2f (nI (B * 60))), rsc (rsc T 27 0) 27 0), ?_, ?_, rfl, fun _ => f2, fun _ => ?_, Rel.of27 hW hX (RT_27 hT) (RA_27 hA)⟩
      · unfold f_L_workShare f_X3_workShare
        rw [x_crk hW hX hc, ob_s, oc_s (rx_n0 hX hc), xa, ob_s, oi_n (nI_ne0 (show 0 < B * 60 by omega) (by omega)), xw, ob_s, og_p k1, ob_s, oi_p rfl, og_p k2]
      · unfold f_X4_workShare
        rw [t_body hW hT hc, ob_s, oi_p rfl, tp, ob_s, oi_n (nI_ne0 (show 0 < B by omega) (by omega)), t_fl0, ob_s, oi_p rfl, tw, ob_s, tp2, ob_s, show (60 : Int32) * nI B = nI (B * 60) by rw [show (60 : Int32) = nI 60 from rfl, nI_mul, Nat.mul_comm], og_p k1]
      · show Op.cmpValue (FP.dcmp (vf_upd out (0 : Int32).toNatClampNeg (FP.f2d (FP.fdiv (FP.i2f (nI A)) (FP.i2f (nI (B * 60))))) (0 : Int32).toNatClampNeg) (FP.f2d (FP.fdiv (FP.i2f (nI A)) (FP.i2f (nI (B * 60)))))) .l = 0
        rw [show vf_upd out (0 : Int32).toNatClampNeg (FP.f2d (FP.fdiv (FP.i2f (nI A)) (FP.i2f (nI (B * 60))))) (0 : Int32).toNatClampNeg = FP.f2d (FP.fdiv (FP.i2f (nI A)) (FP.i2f (nI (B * 60)))) from if_pos rfl]
        exact f3
  · refine ⟨(1, n, V, out), (0, rsc T 27 1), ?_, ?_, rfl, fun h => absurd h e10, fun h => absurd h e10, Rel.of27 hW hX hT hA⟩
    · unfold f_L_workShare f_X3_workShare
      rw [x_crn hW hX h, ob_s, oc_n, ob_s, oi_n n30, oi_p rfl]
    · unfold f_X4_workShare
      rw [t_nobody hW hT h, ob_s, oi_n e10]
/-- the starts, and how many there are -/
def gS (M : MD) (i : Nat) : Nat := if i < M 0 1 ∧ M 17 i ≠ 119 then M 19 i else 0
def gN (M : MD) (i : Nat) : Nat := if i < M 0 1 ∧ M 17 i ≠ 119 then 1 else 0
theorem x_mean (hW : WF M) (hX : RX n V M) : ∀ (K i fu : Nat), i + K = 40 → K < fu → f_X3_meanStart_16 n V fu (nI (sm (gS M) i)) (nI (sm (gN M) i)) 40 (nI i) = oi (nI (sm (gN M) 40) = 0) (some (5, 0)) (og ((FP.ddiv (FP.i2d (nI (sm (gS M) 40))) (FP.i2d (nI (sm (gN M) 40)))) &&& 0x7fffffffffffffff ≤ 0x7ff0000000000000) (some (0, FP.ddiv (FP.i2d (nI (sm (gS M) 40))) (FP.i2d (nI (sm (gN M) 40)))))) := by
  intro K
  induction K with
  | zero =>
    intro i fu h1 h2
    obtain ⟨fu, rfl⟩ : ∃ g, fu = g + 1 := ⟨fu - 1, by omega⟩
    obtain rfl : i = 40 := by omega
    rw [f_X3_meanStart_16]
    rw [oi_p (l40 (by omega) (by omega))]
  | succ K ih =>
    intro i fu h1 h2
    obtain ⟨fu, rfl⟩ : ∃ g, fu = g + 1 := ⟨fu - 1, by omega⟩
    have hn := ih (i + 1) fu (by omega) (by omega)
    rw [show sm (gS M) (i + 1) = sm (gS M) i + gS M i from rfl, show sm (gN M) (i + 1) = sm (gN M) i + gN M i from rfl] at hn
    rw [f_X3_meanStart_16]
    rw [oi_n (g40 (by omega)), og_p (nI_in (by omega) (by omega)), xr1 hX (by omega), nI_1]
    by_cases hi : i < M 0 1
    · rw [if_pos hi, oc_s (rx_n1 hX hi), x_has hW hX hi, ob_s]
      by_cases q : M 17 i = 119
      · rw [if_pos q, oi_p rfl]
        rw [show gS M i = 0 from if_neg (fun h => h.2 q), show gN M i = 0 from if_neg (fun h => h.2 q), Nat.add_zero, Nat.add_zero] at hn
        exact hn
      · rw [if_neg q, oi_n e10, ((hX.2.2.1 i hi).2.2.2.2.2.2.2.2 q).2, nI_add, nI_1]
        rw [show gS M i = M 19 i from if_pos ⟨hi, q⟩, show gN M i = 1 from if_pos ⟨hi, q⟩] at hn
        exact hn
    · rw [if_neg hi, oc_n]
      rw [show gS M i = 0 from if_neg (fun h => hi h.1), show gN M i = 0 from if_neg (fun h => hi h.1), Nat.add_zero, Nat.add_zero] at hn
      exact hn
theorem t_mean (hW : WF M) (hT : RT T M) : ∀ (k i fu : Nat), i + k = M 0 1 → k < fu → f_X4_meanStart_6 T fu (nI (sm (gS M) i)) (nI (sm (gN M) i)) (nI i) = oi (nI (sm (gN M) (M 0 1)) = 0) (some (0, rsc T 27 1)) (og ((FP.ddiv (FP.i2d (nI (sm (gS M) (M 0 1)))) (FP.i2d (nI (sm (gN M) (M 0 1))))) &&& 0x7fffffffffffffff ≤ 0x7ff0000000000000) (some (FP.ddiv (FP.i2d (nI (sm (gS M) (M 0 1)))) (FP.i2d (nI (sm (gN M) (M 0 1)))), rsc T 27 0))) := by
  have h40 := hW.1.2.1
  intro k
  induction k with
  | zero =>
    intro i fu h1 h2
    obtain ⟨fu, rfl⟩ : ∃ g, fu = g + 1 := ⟨fu - 1, by omega⟩
    obtain rfl : i = M 0 1 := by omega
    rw [f_X4_meanStart_6]
    rw [hT.1.2.1, oi_p (nI_le (by omega) (by omega)), t_fl1, ob_s, oi_n e10, t_fl0, ob_s, oi_p rfl]
  | succ k ih =>
    intro i fu h1 h2
    obtain ⟨fu, rfl⟩ : ∃ g, fu = g + 1 := ⟨fu - 1, by omega⟩
    have hi : i < M 0 1 := by omega
    have g := nI_in (c := i) (N := 40) (by omega) (by omega)
    have hn := ih (i + 1) fu (by omega) (by omega)
    rw [show sm (gS M) (i + 1) = sm (gS M) i + gS M i from rfl, show sm (gN M) (i + 1) = sm (gN M) i + gN M i from rfl] at hn
    rw [f_X4_meanStart_6]
    rw [hT.1.2.1, oi_n (nI_ge (by omega) (by omega))]
    repeat rw [og_p g]
    rw [nI_clamp (show i < 2 ^ 31 by omega), (hT.2.2.2.1 i hi).2.2.2.2.2.2.2.1, nI_1]
    by_cases q : M 17 i = 119
    · rw [oi_p (show nI (M 17 i) = 119 from (st_is hW hi 119 (by omega)).mpr q)]
      rw [show gS M i = 0 from if_neg (fun h => h.2 q), show gN M i = 0 from if_neg (fun h => h.2 q), Nat.add_zero, Nat.add_zero] at hn
      exact hn
    · rw [oi_n (show ¬ nI (M 17 i) = 119 from fun h => q ((st_is hW hi 119 (by omega)).mp h)), ((hT.2.2.2.1 i hi).2.2.2.2.2.2.2.2 q).2, nI_add, nI_1]
      rw [show gS M i = M 19 i from if_pos ⟨hi, q⟩, show gN M i = 1 from if_pos ⟨hi, q⟩] at hn
      exact hn
theorem st_42 (hR : Rel n V T) : lst_42 Rel n V T := by
  obtain ⟨M, hW, hX, hT, hA⟩ := hR
  intro out
  have h40 := hW.1.2.1
  have z1 : sm (gS M) (M 0 1) = sm (gS M) 40 := by
    rw [show 40 = M 0 1 + (40 - M 0 1) by omega]
    exact (sm_tail _ _ (fun i h1 _ => if_neg (fun h => by omega))).symm
  have z2 : sm (gN M) (M 0 1) = sm (gN M) 40 := by
    rw [show 40 = M 0 1 + (40 - M 0 1) by omega]
    exact (sm_tail _ _ (fun i h1 _ => if_neg (fun h => by omega))).symm
  have hS : sm (gS M) 40 ≤ 57600 := by
    have z := sm_le (f := gS M) (g := fun _ => 1440) 40 (fun i _ => by
      unfold gS
      split
      · rename_i h
        have := ((hW.2.2.1 i h.1).2.2.2.2.2.2.2.2.2.2 h.2).2
        omega
      · omega)
    rw [sm_const 1440 40] at z
    exact z
  have hN : sm (gN M) 40 ≤ 40 := by
    have z := sm_le (f := gN M) (g := fun _ => 1) 40 (fun i _ => by unfold gN; split <;> omega)
    rw [sm_const 1 40] at z
    exact z
  have hx := x_mean hW hX 40 0 FU rfl (by unfold FU; omega)
  have ht := t_mean hW hT (M 0 1) 0 FU (by omega) (by unfold FU; omega)
  rw [z1, z2] at ht
  have hx : f_X3_meanStart n V = _ := hx
  have ht : f_X4_meanStart T = _ := ht
  generalize sm (gS M) 40 = S at hS hx ht
  generalize sm (gN M) 40 = N at hN hx ht
  by_cases q : N = 0
  · refine ⟨(1, n, V, out), (0, rsc T 27 1), ?_, ?_, rfl, fun h => absurd h e10, Rel.of27 hW hX hT hA⟩
    · unfold f_L_meanStart
      rw [hx, oi_p (show nI N = 0 by rw [q]; rfl), ob_s, oi_n n50, oi_p rfl]
    · rw [ht, oi_p (show nI N = 0 by rw [q]; rfl)]
  · obtain ⟨f1, f2⟩ := dd_ok (a := S) (b := N) (by omega) (by omega) (by omega)
    have k1 : FP.ddiv (FP.i2d (nI S)) (FP.i2d (nI N)) &&& 0x7fffffffffffffff ≤ 0x7ff0000000000000 := f1
    refine ⟨(0, n, V, vf_upd out (0 : Int32).toNatClampNeg (FP.ddiv (FP.i2d (nI S)) (FP.i2d (nI N)))), (FP.ddiv (FP.i2d (nI S)) (FP.i2d (nI N)), rsc T 27 0), ?_, ?_, rfl, fun _ => ?_, Rel.of27 hW hX hT hA⟩
    · unfold f_L_meanStart
      rw [hx, oi_n (nI_ne0 (show 0 < N by omega) (by omega)), og_p k1, ob_s, oi_p rfl]
    · rw [ht, oi_n (nI_ne0 (show 0 < N by omega) (by omega)), og_p k1]
    · show Op.cmpValue (FP.dcmp (vf_upd out (0 : Int32).toNatClampNeg (FP.ddiv (FP.i2d (nI S)) (FP.i2d (nI N))) (0 : Int32).toNatClampNeg) (FP.ddiv (FP.i2d (nI S)) (FP.i2d (nI N)))) .l = 0
      rw [show vf_upd out (0 : Int32).toNatClampNeg (FP.ddiv (FP.i2d (nI S)) (FP.i2d (nI N))) (0 : Int32).toNatClampNeg = FP.ddiv (FP.i2d (nI S)) (FP.i2d (nI N)) from if_pos rfl]
      exact f2
end Q37
