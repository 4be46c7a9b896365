section Q1
variable {n : Nat → Nat} {V : XV} {T : RV} {M : MD}
theorem Rel.of (hW : WF M) (hX : RX n V M) (hT : RT T M) (hA : RA V T M) : Rel n V T := ⟨M, hW, hX, hT, hA⟩
theorem Rel.of27 {c : Int32} (hW : WF M) (hX : RX n V M) (hT : RT T M) (hA : RA V T M) : Rel n V (rsc T 27 c) := ⟨M, hW, hX, RT_27 hT, RA_27 hA⟩
theorem u0 {f : Nat → Int64} {v : Int64} : vp_updL f (0 : Int32).toNatClampNeg v (0 : Int32).toNatClampNeg = v := if_pos rfl
theorem st_11 (hR : Rel n V T) : lst_11 Rel n V T := by
  obtain ⟨M, hW, hX, hT, hA⟩ := hR
  exact ⟨_, _, rfl, rfl, (hX.1.2.2.2.2.2.2.2).trans hT.1.2.2.2.2.symm, Rel.of27 hW hX hT hA⟩
theorem st_12 (hR : Rel n V T) : lst_12 Rel n V T := by
  obtain ⟨M, hW, hX, hT, hA⟩ := hR
  exact ⟨_, _, rfl, rfl, (hX.1.2.2.2.1).trans hT.1.1.symm, Rel.of27 hW hX hT hA⟩
theorem st_13 (hR : Rel n V T) : lst_13 Rel n V T := by
  obtain ⟨M, hW, hX, hT, hA⟩ := hR
  exact ⟨_, _, rfl, rfl, (hX.1.2.2.2.2.1).trans hT.1.2.1.symm, Rel.of27 hW hX hT hA⟩
theorem st_32 (hR : Rel n V T) : lst_32 Rel n V T := by
  obtain ⟨M, hW, hX, hT, hA⟩ := hR
  exact ⟨_, _, rfl, rfl, (hX.1.2.2.2.2.2.1).trans hT.1.2.2.1.symm, Rel.of27 hW hX hT hA⟩
theorem nI_char {a : Nat} (h : a = 119 ∨ a = 112 ∨ a = 117 ∨ a = 100) : (nI a).toUInt32.toUInt16.toUInt32.toInt32 = nI a := by
  rcases h with rfl | rfl | rfl | rfl <;> decide
theorem e10 : ¬ (1 : Int32) = 0 := by decide
theorem e20 : ¬ (2 : Int32) = 0 := by decide
theorem n30 : ¬ (3 : Nat) = 0 := by decide
theorem n20 : ¬ (2 : Nat) = 0 := by decide
theorem n10 : ¬ (1 : Nat) = 0 := by decide
theorem n40 : ¬ (4 : Nat) = 0 := by decide
theorem n50 : ¬ (5 : Nat) = 0 := by decide
theorem n23 : ¬ (2 : Nat) = 3 := by decide
theorem n13 : ¬ (1 : Nat) = 3 := by decide
theorem n43 : ¬ (4 : Nat) = 3 := by decide
theorem n42 : ¬ (4 : Nat) = 2 := by decide
theorem n53 : ¬ (5 : Nat) = 3 := by decide
theorem st_20 (hR : Rel n V T) : lst_20 Rel n V T := by
  obtain ⟨M, hW, hX, hT, hA⟩ := hR
  intro out p
  rcases p_num p (M 0 1) (Nat.le_trans hW.1.2.1 (by omega)) with ⟨k, hk, rfl⟩ | h
  · obtain ⟨l1, l2, l3, l4, l5, l6, l7, l8, l9, l10, l11⟩ := hW.2.2.1 k hk
    obtain ⟨x1, x2, x3, x4, x5, x6, x7, x8, x9⟩ := hX.2.2.1 k hk
    obtain ⟨t1, t2, t3, t4, t5, t6, t7, t8, t9⟩ := hT.2.2.2.1 k hk
    have hs := l10
    have h40 := hW.1.2.1
    have hkn : k < n 1 := by rw [hX.1.2.1]; exact hk
    refine ⟨(0, n, V, vp_updL out (0 : Int32).toNatClampNeg (nI (M 17 k)).toInt64), (nI (M 17 k), rsc T 27 0), ?_, ?_, rfl, fun _ => u0 (f := out), Rel.of27 hW hX hT hA⟩
    · unfold f_L_stateOf f_X3_stateOf
      rw [x_lfk hW hX hk, ob_s, oc_s hkn, x8, og_p (nI_char hs), ob_s, oi_p rfl]
    · unfold f_X4_stateOf
      rw [t_some hW hT hk, ob_s, oi_p rfl, og_p (nI_in (by omega) (by omega)), nI_clamp (by omega)]
      show og ((T.2.1 14 k).toUInt32.toUInt16.toUInt32.toInt32 = T.2.1 14 k) (some (T.2.1 14 k, rsc T 27 0)) = _
      rw [t8, og_p (nI_char hs)]
  · refine ⟨(1, n, V, out), (32, rsc T 27 1), ?_, ?_, rfl, fun h => absurd h e10, Rel.of27 hW hX hT hA⟩
    · unfold f_L_stateOf f_X3_stateOf
      rw [x_lfn hW hX h, ob_s, oc_n, ob_s, oi_n n30, oi_p rfl]
    · unfold f_X4_stateOf
      rw [t_none hW hT h, ob_s, oi_n e10]
end Q1
