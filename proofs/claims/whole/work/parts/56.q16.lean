section Q16
variable {n : Nat → Nat} {V : XV} {T : RV} {M : MD}
def mwind (M : MD) (w : Nat) : MD := fun f k => if f = 0 ∧ k = 4 then w else M f k
theorem mwind_f {w f : Nat} (h : f ≠ 0) : mwind M w f = M f := by
  funext k
  exact if_neg (fun e => h e.1)
theorem wind_wf (hW : WF M) {w : Nat} (hw : w ≤ 40) : WF (mwind M w) := by
  refine ⟨⟨hW.1.1, hW.1.2.1, hW.1.2.2.1, hW.1.2.2.2.1, hw⟩, hW.2.1, hW.2.2.1, ?_, hW.2.2.2.2⟩
  intro k hk
  obtain ⟨p1, p2, p3, p4, p5⟩ := hW.2.2.2.1 k hk
  refine ⟨p1, p2, p3, p4, fun j hj => ⟨(p5 j hj).1, fun e f hf1 hf2 => ?_⟩⟩
  rw [mwind_f (f := f) (by omega), mwind_f (f := 20) (by decide)]
  exact (p5 j hj).2 e f hf1 hf2
theorem wind_rx (hX : RX n V M) {w : Nat} : RX n (xsc V 6 (nI w)) (mwind M w) := by
  obtain ⟨⟨x1, x2, x3, x4, x5, x6, x7, x8⟩, y, z, u⟩ := hX
  exact ⟨⟨x1, x2, x3, x4, x5, x6, rfl, x8⟩, y, z, u⟩
theorem wind_rt (hT : RT T M) {w : Nat} : RT (rsc T 26 (nI w)) (mwind M w) := by
  obtain ⟨⟨x1, x2, x3, x4, x5⟩, y, z, u, v⟩ := hT
  exact ⟨⟨x1, x2, x3, rfl, x5⟩, y, z, u, v⟩
theorem p_wind (p : Int32) : (∃ w, w < 41 ∧ p = nI w) ∨ (p < 0 ∨ nI 41 ≤ p) := p_num p 41 (by omega)
theorem st_3 (hR : Rel n V T) : lst_3 Rel n V T := by
  obtain ⟨M, hW, hX, hT, hA⟩ := hR
  intro out p
  rcases p_wind p with ⟨w, hw, rfl⟩ | h
  · have hi : f_X4_in (nI w) 0 40 = some 1 := in_n0 (N := 40) hw (by omega)
    obtain ⟨V', T', y, e1, e2, hrel, e3⟩ := drops_ok (n := n) (V := xsc V 6 (nI w)) (T := rsc (rsc T 27 0) 26 (nI w)) (wind_wf hW (show w ≤ 40 by omega)) (wind_rx hX) (wind_rt (RT_27 hT)) hA
    refine ⟨(0, n, V', vp_updL out (0 : Int32).toNatClampNeg y.toInt64), (y, T'), ?_, ?_, e3, fun _ => u0 (f := out), hrel⟩
    · unfold f_L_setWind f_X3_setWind
      rw [show f_X3_isFrom 0 (nI w) 40 = some 1 from hi, ob_s, oi_n e10, ob_s, e1, ob_s, ob_s, oi_p rfl]
    · unfold f_X4_setWind
      rw [hi, ob_s, oi_n e10, t_fl0, ob_s, oi_p rfl, ob_s]
      show ob (f_X4_drops (rsc (rsc T 27 0) 26 (nI w))) _ = _
      rw [e2, ob_s]
  · have hi : f_X4_in p 0 40 = some 0 := in_out (N := 40) (by omega) h
    refine ⟨(1, n, V, out), (0, rsc T 27 1), ?_, ?_, rfl, fun h => absurd h e10, Rel.of27 hW hX hT hA⟩
    · unfold f_L_setWind f_X3_setWind
      rw [show f_X3_isFrom 0 p 40 = some 0 from hi, ob_s, oi_p rfl, ob_s, oi_n n10, oi_p rfl]
    · unfold f_X4_setWind
      rw [hi, ob_s, oi_p rfl, t_fl1, ob_s, oi_n e10]
end Q16
