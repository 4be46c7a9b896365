section Q33
variable {n : Nat → Nat} {V : XV} {T : RV} {M : MD}
theorem x_pl {x1 y1 x2 y2 P c : Nat} {p5 p6 p8 : Int32} {air : Int64} (ea : f_X3_airBetween (nI x1) (nI y1) (nI x2) (nI y2) = some air) (hc : c ≤ 8) : ∀ (d z fu : Nat) (n : Nat → Nat) (V : XV) (L : Nat), z + d = c → d < fu → n 1 = L → L + d ≤ 40 → V.2.2.1 4 = nI L → V.2.2.1 5 = nI P → ∃ (V' : XV) (n' : Nat → Nat), f_X3_addPour_119 (nI x1) (nI y1) (nI x2) (nI y2) p5 p6 (nI c) p8 fu n V (nI z) = some (0, nI P, n', xsc V' 5 (nI (P + 1))) ∧ layX V V' L d (gL (nI x1) (nI y1) (nI x2) (nI y2) p5 p6 (nI P)) air ∧ n' 1 = L + d ∧ ∀ kd, kd ≠ 1 → n' kd = n kd := by
  intro d
  induction d with
  | zero =>
    intro z fu n V L h1 h2 h3 h4 h5 h6
    obtain ⟨fu, rfl⟩ : ∃ g, fu = g + 1 := ⟨fu - 1, by omega⟩
    refine ⟨V, n, ?_, layX_0 h5, h3, fun _ _ => rfl⟩
    unfold f_X3_addPour_119
    rw [oi_p (nI_le (by omega) (by omega)), h6, nI_1, ob_s]
    show some (0, nI (P + 1) - 1, n, _) = _
    rw [nI_sub1]
  | succ d ih =>
    intro z fu n V L h1 h2 h3 h4 h5 h6
    obtain ⟨fu, rfl⟩ : ∃ g, fu = g + 1 := ⟨fu - 1, by omega⟩
    obtain ⟨V', n', e, hl, hn1, hn2⟩ := ih (z + 1) fu (nup n 1) (xsc (xnai (xnew V 1 L (gL (nI x1) (nI y1) (nI x2) (nI y2) p5 p6 (nI P))) L air) 4 (nI (L + 1))) (L + 1) (by omega) (by omega) (show n 1 + 1 = L + 1 by rw [h3]) (by omega) rfl h6
    refine ⟨V', n', ?_, layX_join layX_1 hl, by omega, fun kd hk => (hn2 kd hk).trans (va_up_ne _ _ hk)⟩
    unfold f_X3_addPour_119
    rw [oi_n (nI_ge (by omega) (by omega)), ea, ob_s, h6, h5, og_p (g40 (by omega)), og_p (nI_in (by omega) (by omega)), og_p (show (nI L).toNatClampNeg = n 1 by rw [nI_clamp (by omega), h3]), h3, nI_1, nI_1, ob_s]
    exact e
theorem t_pl {x1 y1 x2 y2 P c : Nat} {p5 p6 : Int32} {air : Int64} (ea : f_X4_air (nI x1) (nI y1) (nI x2) (nI y2) = some air) (hc : c ≤ 8) : ∀ (d z fu : Nat) (T : RV) (L : Nat), z + d = c → d < fu → L + d ≤ 40 → T.1 7 = nI L → T.1 19 = nI P → ∃ T' : RV, f_X4_addPour_126 T fu (nI x1) (nI y1) (nI x2) (nI y2) p5 p6 (nI c) (nI z) = some (nI P, rsc T' 19 (nI (P + 1))) ∧ layT T T' L d (vT (nI x1) (nI y1) (nI x2) (nI y2) p5 p6 (nI P)) air := by
  intro d
  induction d with
  | zero =>
    intro z fu T L h1 h2 h4 h5 h6
    obtain ⟨fu, rfl⟩ : ∃ g, fu = g + 1 := ⟨fu - 1, by omega⟩
    refine ⟨T, ?_, layT_0 h5⟩
    unfold f_X4_addPour_126
    rw [oi_p (nI_le (by omega) (by omega)), h6, nI_1, ob_s, rsc_s, nI_sub1]
  | succ d ih =>
    intro z fu T L h1 h2 h4 h5 h6
    obtain ⟨fu, rfl⟩ : ∃ g, fu = g + 1 := ⟨fu - 1, by omega⟩
    obtain ⟨T1, e1, hl1⟩ := t_lay1 (T := T) (p5 := p5) (p6 := p6) (p7 := nI P) ea (show L < 40 by omega) h5
    obtain ⟨T', e, hl⟩ := ih (z + 1) fu T1 (L + 1) (by omega) (by omega) (by omega) (by rw [hl1.1 7, if_pos rfl]) (by rw [hl1.1 19, if_neg (by decide), h6])
    refine ⟨T', ?_, layT_join hl1 hl⟩
    unfold f_X4_addPour_126
    rw [oi_n (nI_ge (by omega) (by omega)), h6, e1, ob_s, nI_1]
    exact e
def qv (a b w : Nat) : Nat → Nat := fun f => match f with
  | 20 => a
  | 21 => b
  | _ => w
theorem st_5 (hR : Rel n V T) : lst_5 Rel n V T := by
  obtain ⟨M, hW, hX, hT, hA⟩ := hR
  intro out p1 p2 p3 p4 p5 p6 p7 p8
  have h40 := hW.1.2.1
  have h6 := hW.1.2.2.1
  have bad1 : f_X3_addPour n V p1 p2 p3 p4 p5 p6 p7 p8 = some (1, 0, n, V) → f_X4_addPour T p1 p2 p3 p4 p5 p6 p7 p8 = some (0, rsc T 27 1) → ∃ (res : Int32 × (Nat → Nat) × XV × (Nat → Int64)) (rr : Int32 × RV), f_L_addPour n V out p1 p2 p3 p4 p5 p6 p7 p8 = some res ∧ f_X4_addPour T p1 p2 p3 p4 p5 p6 p7 p8 = some rr ∧ rr.2.1 27 = res.1 ∧ (res.1 = 0 → res.2.2.2 (0 : Int32).toNatClampNeg = Int32.toInt64 rr.1) ∧ Rel res.2.1 res.2.2.1 rr.2 := by
    intro h1 h2
    refine ⟨(1, n, V, out), (0, rsc T 27 1), ?_, h2, rfl, fun h => absurd h e10, Rel.of27 hW hX hT hA⟩
    unfold f_L_addPour
    rw [h1, ob_s, oi_n n10, oi_p rfl]
  have bad2 : f_X3_addPour n V p1 p2 p3 p4 p5 p6 p7 p8 = some (2, 0, n, V) → f_X4_addPour T p1 p2 p3 p4 p5 p6 p7 p8 = some (0, rsc T 27 2) → ∃ (res : Int32 × (Nat → Nat) × XV × (Nat → Int64)) (rr : Int32 × RV), f_L_addPour n V out p1 p2 p3 p4 p5 p6 p7 p8 = some res ∧ f_X4_addPour T p1 p2 p3 p4 p5 p6 p7 p8 = some rr ∧ rr.2.1 27 = res.1 ∧ (res.1 = 0 → res.2.2.2 (0 : Int32).toNatClampNeg = Int32.toInt64 rr.1) ∧ Rel res.2.1 res.2.2.1 rr.2 := by
    intro h1 h2
    refine ⟨(2, n, V, out), (0, rsc T 27 2), ?_, h2, rfl, fun h => absurd h e20, Rel.of27 hW hX hT hA⟩
    unfold f_L_addPour
    rw [h1, ob_s, oi_n n20, oi_n (show ¬ (2 : Nat) = 1 by decide), oi_p rfl]
  rcases lift_or p1 p2 p3 p4 p5 p6 with ⟨x1, y1, x2, y2, w, m, hx1, hy1, hx2, hy2, hw1, hw2, hm1, hm2, rfl, rfl, rfl, rfl, rfl, rfl, ht, hx⟩ | ⟨ht, hx⟩
  · rcases p_rl p7 2 8 (by omega) (by omega) with ⟨c, hc1, hc2, rfl, h7⟩ | h7
    · have h7 : f_X4_in (nI c) 2 8 = some 1 := h7
      rcases p_rl p8 0 60 (by omega) (by omega) with ⟨t, ht1, ht2, rfl, h8⟩ | h8
      · have h8 : f_X4_in (nI t) 0 60 = some 1 := h8
        by_cases q6 : M 0 2 = 6
        · refine bad2 ?_ ?_
          · unfold f_X3_addPour
            rw [hx, show f_X3_isFrom 2 (nI c) 8 = some 1 from h7, ob_s, oi_n e10, show f_X3_isFrom 0 (nI t) 60 = some 1 from h8, ob_s, oi_n e10, hX.1.2.2.2.2.2.1, oi_p (show (6 : Int32) ≤ nI (M 0 2) from nI_le (a := 6) (by omega) (by omega))]
          · unfold f_X4_addPour
            rw [ht, ob_s, oi_n e10, h7, ob_s, oi_n e10, h8, ob_s, oi_n e10, hT.1.2.2.1, oi_p (show nI (M 0 2) = 6 by rw [q6]; rfl), t_fl2, ob_s, oi_n e10]
        · by_cases q40 : M 0 1 + c ≤ 40
          · obtain ⟨air, ea, eb⟩ := air_both hx1 hy1 hx2 hy2
            obtain ⟨V', n', e1, hlx, hn1, hn2⟩ := x_pl (P := M 0 2) (p5 := nI w) (p6 := nI m) (p8 := nI t) ea hc2 c 0 9 (nup n 2) (xnew V 2 (M 0 2) (gP (nI (M 0 1)) (nI c) (nI t))) (M 0 1) (by omega) (by omega) hX.1.2.1 q40 hX.1.2.2.2.2.1 hX.1.2.2.2.2.2.1
            obtain ⟨T', e2, hlt⟩ := t_pl (P := M 0 2) (p5 := nI w) (p6 := nI m) eb hc2 c 0 FU (rar (rar (rar (rsc T 27 0) 20 (M 0 2) (nI (M 0 1))) 21 (M 0 2) (nI c)) 22 (M 0 2) (nI t)) (M 0 1) (by omega) (by unfold FU; omega) q40 hT.1.2.1 hT.1.2.2.1
            obtain ⟨a1, a2, a3, a4, a5⟩ := hlx
            obtain ⟨b1, b2, b3⟩ := hlt
            have w' : WF (mla M c (gv x1 y1 x2 y2 w m (M 0 2 + 1)) 1 (qv (M 0 1) c t)) := la_wf hW q40 (by omega) ⟨hx1, hy1, hx2, hy2, hw1, hw2, hm1, hm2, Nat.le_refl _, rfl⟩ (fun k hk h => by have h : M 0 2 + 1 = k + 1 := h; omega) (Nat.le_refl _) (fun _ => ⟨rfl, rfl, rfl, hc1, hc2, ht2⟩)
            have x' : RX n' (xsc V' 5 (nI (M 0 2 + 1))) (mla M c (gv x1 y1 x2 y2 w m (M 0 2 + 1)) 1 (qv (M 0 1) c t)) := la_rx (gl := gL (nI x1) (nI y1) (nI x2) (nI y2) (nI w) (nI m) (nI (M 0 2))) (qx := gP (nI (M 0 1)) (nI c) (nI t)) hX ⟨(hn2 0 (by decide)).trans rfl, hn1, (hn2 2 (by decide)).trans rfl⟩ ⟨(a5 3).trans rfl, a5 4, rfl, (a5 6).trans rfl, (a5 7).trans rfl⟩ a1 (fun k f => by
              show V'.1 2 k f = _
              rw [a2]
              show va_up (V.1 2) (M 0 2) (gP (nI (M 0 1)) (nI c) (nI t)) k f = _
              by_cases z : k = M 0 2
              · rw [if_pos ⟨rfl, z⟩, z, va_up_self]
              · rw [if_neg (fun h => z h.2), va_up_ne _ _ z]) ⟨rfl, rfl, rfl⟩ (Nat.le_refl _) a3 ⟨rfl, rfl, rfl, rfl, rfl, rfl, (nI_sub1 _).symm, rfl⟩ rfl
            have t' : RT (rsc T' 19 (nI (M 0 2 + 1))) (mla M c (gv x1 y1 x2 y2 w m (M 0 2 + 1)) 1 (qv (M 0 1) c t)) := la_rt (v := vT (nI x1) (nI y1) (nI x2) (nI y2) (nI w) (nI m) (nI (M 0 2))) hT ⟨(b1 0).trans rfl, b1 7, rfl, (b1 26).trans rfl, (b1 25).trans rfl⟩ (fun f hf => by
              funext k
              show T'.2.1 f k = _
              rw [b2, if_neg (by omega), rar_r, rar_r, rar_r, if_neg (by omega), if_neg (by omega), if_neg (by omega)]
              rfl) (Nat.le_refl _) (fun f k hf => by
              show T'.2.1 f k = _
              rw [b2, rar_r, rar_r, rar_r, if_neg (show ¬ (f = 22 ∧ k = M 0 2) by omega), if_neg (show ¬ (f = 21 ∧ k = M 0 2) by omega), if_neg (show ¬ (f = 20 ∧ k = M 0 2) by omega)]
              rfl) (fun f k hf1 hf2 => by
              show T'.2.1 f k = _
              rw [b2, if_neg (by omega), rar_r, rar_r, rar_r]
              by_cases z : k = M 0 2
              · subst z
                rcases (show f = 20 ∨ f = 21 ∨ f = 22 by omega) with rfl | rfl | rfl <;> simp [qv]
              · rw [if_neg (fun h => z h.2), if_neg (fun h => z h.2), if_neg (fun h => z h.2), if_neg (fun h => z h.2)]
                rfl) ⟨rfl, rfl, rfl, rfl, rfl, rfl, (nI_sub1 _).symm, rfl⟩ rfl
            have r' : RA (xsc V' 5 (nI (M 0 2 + 1))) (rsc T' 19 (nI (M 0 2 + 1))) (mla M c (gv x1 y1 x2 y2 w m (M 0 2 + 1)) 1 (qv (M 0 1) c t)) := lay_ra (V := xnew V 2 (M 0 2) (gP (nI (M 0 1)) (nI c) (nI t))) (T := rar (rar (rar (rsc T 27 0) 20 (M 0 2) (nI (M 0 1))) 21 (M 0 2) (nI c)) 22 (M 0 2) (nI t)) hA mla_lay a4 b3
            refine ⟨(0, n', xsc V' 5 (nI (M 0 2 + 1)), vp_updL out (0 : Int32).toNatClampNeg (nI (M 0 2)).toInt64), (nI (M 0 2), rsc T' 19 (nI (M 0 2 + 1))), ?_, ?_, ?_, fun _ => u0 (f := out), ⟨_, w', x', t', r'⟩⟩
            · unfold f_L_addPour f_X3_addPour
              rw [hx, show f_X3_isFrom 2 (nI c) 8 = some 1 from h7, ob_s, oi_n e10, show f_X3_isFrom 0 (nI t) 60 = some 1 from h8, ob_s, oi_n e10, hX.1.2.2.2.2.2.1, oi_n (show ¬ (6 : Int32) ≤ nI (M 0 2) from nI_ge (b := 6) (by omega) (by omega)), hX.1.2.2.2.2.1, nI_add, oi_p (show nI (M 0 1 + c) ≤ 40 from nI_le (b := 40) q40 (by omega)), og_p (nI_in (by omega) (by omega)), og_p (show (nI (M 0 2)).toNatClampNeg = n 2 by rw [nI_clamp (by omega), hX.1.2.2.1]), hX.1.2.2.1, ob_s, show f_X3_addPour_119 (nI x1) (nI y1) (nI x2) (nI y2) (nI w) (nI m) (nI c) (nI t) 9 (nup n 2) (xnew V 2 (M 0 2) (gP (nI (M 0 1)) (nI c) (nI t))) 0 = _ from e1, ob_s, oi_p rfl]
            · unfold f_X4_addPour
              have gq := nI_in (c := M 0 2) (N := 6) (by omega) (by omega)
              rw [ht, ob_s, oi_n e10, h7, ob_s, oi_n e10, h8, ob_s, oi_n e10, hT.1.2.2.1, oi_n (show ¬ nI (M 0 2) = 6 from nI_ne (b := 6) (by omega) (by omega) (by omega)), hT.1.2.1, nI_add, oi_p (show nI (M 0 1 + c) ≤ 40 from nI_le (b := 40) q40 (by omega)), t_fl0, ob_s, oi_p rfl]
              simp only [rar_1, r27_19, r27_7, hT.1.2.1, hT.1.2.2.1, og_p gq, ob_s]
              rw [nI_clamp (by omega)]
              exact e2
            · show T'.1 27 = 0
              rw [b1 27]; rfl
          · refine bad2 ?_ ?_
            · unfold f_X3_addPour
              rw [hx, show f_X3_isFrom 2 (nI c) 8 = some 1 from h7, ob_s, oi_n e10, show f_X3_isFrom 0 (nI t) 60 = some 1 from h8, ob_s, oi_n e10, hX.1.2.2.2.2.2.1, oi_n (show ¬ (6 : Int32) ≤ nI (M 0 2) from nI_ge (b := 6) (by omega) (by omega)), hX.1.2.2.2.2.1, nI_add, oi_n (show ¬ nI (M 0 1 + c) ≤ 40 from nI_ge (a := 40) (by omega) (by omega))]
            · unfold f_X4_addPour
              rw [ht, ob_s, oi_n e10, h7, ob_s, oi_n e10, h8, ob_s, oi_n e10, hT.1.2.2.1, oi_n (show ¬ nI (M 0 2) = 6 from nI_ne (b := 6) (by omega) (by omega) (by omega)), hT.1.2.1, nI_add, oi_n (show ¬ nI (M 0 1 + c) ≤ 40 from nI_ge (a := 40) (by omega) (by omega)), t_fl2, ob_s, oi_n e10]
      · have h8 : f_X4_in p8 0 60 = some 0 := h8
        refine bad1 ?_ ?_
        · unfold f_X3_addPour
          rw [hx, show f_X3_isFrom 2 (nI c) 8 = some 1 from h7, ob_s, oi_n e10, show f_X3_isFrom 0 p8 60 = some 0 from h8, ob_s, oi_p rfl]
        · unfold f_X4_addPour
          rw [ht, ob_s, oi_n e10, h7, ob_s, oi_n e10, h8, ob_s, oi_p rfl, t_fl1, ob_s, oi_n e10]
    · have h7 : f_X4_in p7 2 8 = some 0 := h7
      refine bad1 ?_ ?_
      · unfold f_X3_addPour
        rw [hx, show f_X3_isFrom 2 p7 8 = some 0 from h7, ob_s, oi_p rfl]
      · unfold f_X4_addPour
        rw [ht, ob_s, oi_n e10, h7, ob_s, oi_p rfl, t_fl1, ob_s, oi_n e10]
  · refine bad1 ?_ ?_
    · unfold f_X3_addPour
      rw [hx]
    · unfold f_X4_addPour
      rw [ht, ob_s, oi_p rfl, t_fl1, ob_s, oi_n e10]
end Q33
