section Q20
variable {n : Nat → Nat} {V : XV} {T : RV} {M : MD}
theorem gs_nat (M : MD) (s : Nat) : ∀ (k i a : Nat), ∃ c, c ≤ k ∧ fld (gs M s) k i (nI a) = nI (a + c) := by
  intro k
  induction k with
  | zero => intro i a; exact ⟨0, Nat.le_refl _, rfl⟩
  | succ k ih =>
    intro i a
    unfold fld gs
    by_cases q : M 17 i = s
    · rw [if_pos q, nI_1]
      obtain ⟨c, hc, e⟩ := ih (i + 1) (a + 1)
      exact ⟨c + 1, by omega, by rw [show (fld (fun i x => if M 17 i = s then x + 1 else x) k (i + 1) (nI (a + 1))) = nI (a + 1 + c) from e]; congr 1; omega⟩
    · rw [if_neg q]
      obtain ⟨c, hc, e⟩ := ih (i + 1) a
      exact ⟨c, by omega, e⟩
theorem st_36 (hR : Rel n V T) : lst_36 Rel n V T := by
  obtain ⟨M, hW, hX, hT, hA⟩ := hR
  intro out p
  have h6 := hW.1.2.2.1
  rcases p_num p (M 0 2) (by omega) with ⟨P, hP, rfl⟩ | h
  · have p2 := (hW.2.2.2.1 P hP).2.1
    obtain ⟨a, ha, ea⟩ := gs_nat M 119 (M 21 P) (M 20 P) 0
    obtain ⟨b, hb, eb⟩ := gs_nat M 117 (M 21 P) (M 20 P) 0
    obtain ⟨d, hd, ed⟩ := gs_nat M 100 (M 21 P) (M 20 P) 0
    have c1 := cnt_both hW hX (T := rsc T 27 0) (RT_27 hT) hP (s := 119) (by omega)
    have c2 := cnt_both hW hX (T := rsc T 27 0) (RT_27 hT) hP (s := 117) (by omega)
    have c3 := cnt_both hW hX (T := rsc T 27 0) (RT_27 hT) hP (s := 100) (by omega)
    rw [show fld (gs M 119) (M 21 P) (M 20 P) 0 = nI (0 + a) from ea, Nat.zero_add] at c1
    rw [show fld (gs M 117) (M 21 P) (M 20 P) 0 = nI (0 + b) from eb, Nat.zero_add] at c2
    rw [show fld (gs M 100) (M 21 P) (M 20 P) 0 = nI (0 + d) from ed, Nat.zero_add] at c3
    have x1 : f_X3_countOfPour n V (nI P) 119 = some (nI a) := c1.1
    have x2 : f_X3_countOfPour n V (nI P) 117 = some (nI b) := c2.1
    have x3 : f_X3_countOfPour n V (nI P) 100 = some (nI d) := c3.1
    have t1 : f_X4_inState (rsc T 27 0) (nI P) 119 = some (nI a) := c1.2
    have t2 : f_X4_inState (rsc T 27 0) (nI P) 117 = some (nI b) := c2.2
    have t3 : f_X4_inState (rsc T 27 0) (nI P) 100 = some (nI d) := c3.2
    have z0 : ∀ q : Nat, q ≤ 100 → q = 0 → nI q ≤ 0 := fun q _ e => by rw [e]; decide
    have z1 : ∀ q : Nat, q ≤ 100 → q ≠ 0 → ¬ nI q ≤ 0 := fun q h e => nI_ge (a := 0) (by omega) (by omega)
    by_cases qa : a = 0
    · refine ⟨(0, n, V, vp_updL out (0 : Int32).toNatClampNeg 0), (0, rsc T 27 0), ?_, ?_, rfl, fun _ => u0 (f := out), Rel.of27 hW hX hT hA⟩
      · unfold f_L_isBroken f_X3_isBroken
        rw [x_pok hW hX hP, ob_s, oc_s (rx_n2 hX hP), x1, ob_s, oi_p (z0 a (by omega) qa), ob_s, oi_p rfl, oi_p rfl]
      · unfold f_X4_isBroken
        rw [t_pour hW hT hP, ob_s, oi_p rfl, t1, ob_s, oi_p (z0 a (by omega) qa)]
    · by_cases qb : b = 0 ∧ d = 0
      · refine ⟨(0, n, V, vp_updL out (0 : Int32).toNatClampNeg 0), (0, rsc T 27 0), ?_, ?_, rfl, fun _ => u0 (f := out), Rel.of27 hW hX hT hA⟩
        · unfold f_L_isBroken f_X3_isBroken
          rw [x_pok hW hX hP, ob_s, oc_s (rx_n2 hX hP), x1, ob_s, oi_n (z1 a (by omega) qa), x2, ob_s, oi_n (show ¬ 0 < nI b by rw [qb.1]; decide), x3, ob_s, oi_p (z0 d (by omega) qb.2), ob_s, oi_p rfl, oi_p rfl]
        · unfold f_X4_isBroken
          rw [t_pour hW hT hP, ob_s, oi_p rfl, t1, ob_s, oi_n (z1 a (by omega) qa), t2, ob_s, t3, ob_s, nI_add, oi_p (z0 (b + d) (by omega) (by omega))]
      · refine ⟨(0, n, V, vp_updL out (0 : Int32).toNatClampNeg 1), (1, rsc T 27 0), ?_, ?_, rfl, fun _ => (u0 (f := out)).trans (if_neg e10).symm, Rel.of27 hW hX hT hA⟩
        · unfold f_L_isBroken f_X3_isBroken
          rw [x_pok hW hX hP, ob_s, oc_s (rx_n2 hX hP), x1, ob_s, oi_n (z1 a (by omega) qa), x2, ob_s]
          by_cases q : b = 0
          · rw [oi_n (show ¬ 0 < nI b by rw [q]; decide), x3, ob_s, oi_n (z1 d (by omega) (fun e => qb ⟨q, e⟩)), ob_s, oi_p rfl, oi_n e10]
          · rw [oi_p (show 0 < nI b from nI_lt (a := 0) (by omega) (by omega)), ob_s, oi_p rfl, oi_n e10]
        · unfold f_X4_isBroken
          rw [t_pour hW hT hP, ob_s, oi_p rfl, t1, ob_s, oi_n (z1 a (by omega) qa), t2, ob_s, t3, ob_s, nI_add, oi_n (z1 (b + d) (by omega) (by omega))]
  · refine ⟨(1, n, V, out), (0, rsc T 27 1), ?_, ?_, rfl, fun h => absurd h e10, Rel.of27 hW hX hT hA⟩
    · unfold f_L_isBroken f_X3_isBroken
      rw [x_pon hW hX h, ob_s, oc_n, ob_s, oi_n n30, oi_p rfl]
    · unfold f_X4_isBroken
      rw [t_nopour hW hT h, ob_s, oi_n e10]
end Q20
