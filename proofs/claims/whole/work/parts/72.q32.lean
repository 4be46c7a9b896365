section Q32
variable {n : Nat → Nat} {V : XV} {T : RV} {M : MD}
/-- the table with c lifts more and, if b is 1, a pour more -/
def mla (M : MD) (c : Nat) (g : Nat → Nat) (b : Nat) (q : Nat → Nat) : MD := fun f k => if f = 0 then (if k = 1 then M 0 1 + c else if k = 2 then M 0 2 + b else M 0 k) else if (M 0 1 ≤ k ∧ k < M 0 1 + c) ∧ 10 ≤ f ∧ f ≤ 17 then g f else if (b = 1 ∧ k = M 0 2) ∧ 20 ≤ f ∧ f ≤ 22 then q f else M f k
section MLA
variable {c b : Nat} {g q : Nat → Nat}
theorem mla_lay : layM M (mla M c g b q) c g := by
  refine ⟨rfl, fun f k h1 h2 => ?_⟩
  unfold mla
  rw [if_neg (show ¬ f = 0 by omega)]
  by_cases z : (M 0 1 ≤ k ∧ k < M 0 1 + c) ∧ f ≤ 17
  · rw [if_pos z, if_pos ⟨z.1, h1, z.2⟩]
  · rw [if_neg z, if_neg (fun y => z ⟨y.1, y.2.2⟩), if_neg (by omega)]
theorem mla_c {f : Nat} (h1 : 1 ≤ f) (h2 : f ≤ 9) : mla M c g b q f = M f := by
  funext k
  unfold mla
  rw [if_neg (show ¬ f = 0 by omega), if_neg (by omega), if_neg (by omega)]
theorem mla_p {f k : Nat} (h1 : 20 ≤ f) (h2 : f ≤ 22) : mla M c g b q f k = if b = 1 ∧ k = M 0 2 then q f else M f k := by
  unfold mla
  rw [if_neg (show ¬ f = 0 by omega), if_neg (by omega)]
  by_cases z : b = 1 ∧ k = M 0 2
  · rw [if_pos z, if_pos ⟨z, h1, h2⟩]
  · rw [if_neg z, if_neg (fun y => z y.1)]
theorem mla_00 : mla M c g b q 0 0 = M 0 0 := rfl
theorem mla_01 : mla M c g b q 0 1 = M 0 1 + c := rfl
theorem mla_02 : mla M c g b q 0 2 = M 0 2 + b := rfl
theorem mla_03 : mla M c g b q 0 3 = M 0 3 := rfl
theorem mla_04 : mla M c g b q 0 4 = M 0 4 := rfl
theorem la_wf (hW : WF M) (h40 : M 0 1 + c ≤ 40) (h6 : M 0 2 + b ≤ 6) (hg : gok g (M 0 2 + b)) (hold : ∀ k, k < M 0 2 → g 16 ≠ k + 1) (hb : b ≤ 1) (hnew : b = 1 → g 16 = M 0 2 + 1 ∧ q 20 = M 0 1 ∧ q 21 = c ∧ 2 ≤ c ∧ c ≤ 8 ∧ q 22 ≤ 60) : WF (mla M c g b q) := by
  have hl : layM M (mla M c g b q) c g := mla_lay
  refine ⟨?_, ?_, ?_, ?_, ?_⟩
  · exact ⟨hW.1.1, h40, h6, hW.1.2.2.2.1, hW.1.2.2.2.2⟩
  · unfold wfC
    rw [mla_00, mla_c (f := 1) (by decide) (by decide), mla_c (f := 2) (by decide) (by decide), mla_c (f := 3) (by decide) (by decide), mla_c (f := 4) (by decide) (by decide), mla_c (f := 5) (by decide) (by decide), mla_c (f := 6) (by decide) (by decide)]
    exact hW.2.1
  · exact lay_wfL hW hl mla_00 (by rw [mla_02]; omega) (by rw [mla_02]; exact hg)
  · intro k hk
    rw [mla_02] at hk
    rw [mla_01, mla_p (f := 20) (by decide) (by decide), mla_p (f := 21) (by decide) (by decide), mla_p (f := 22) (by decide) (by decide)]
    by_cases z : b = 1 ∧ k = M 0 2
    · obtain ⟨n1, n2, n3, n4, n5, n6⟩ := hnew z.1
      rw [if_pos z, if_pos z, if_pos z, n2, n3]
      refine ⟨n4, n5, n6, Nat.le_refl _, fun j hj => ⟨?_, fun h f hf1 hf2 => ?_⟩⟩
      · by_cases y : j < M 0 1
        · rw [layM_o hl (f := 16) (by decide) (by decide) y]
          have := (hW.2.2.1 j y).2.2.2.2.2.2.2.2.1
          omega
        · rw [layM_n hl (f := 16) (by decide) (by decide) (by omega) hj, n1]
          omega
      · have y : ¬ j < M 0 1 := by
          intro y
          rw [layM_o hl (f := 16) (by decide) (by decide) y] at h
          have := (hW.2.2.1 j y).2.2.2.2.2.2.2.2.1
          omega
        rw [layM_n hl (f := f) hf1 (by omega) (by omega) hj, layM_n hl (f := f) hf1 (by omega) (Nat.le_refl _) (by omega)]
    · have hk2 : k < M 0 2 := by omega
      obtain ⟨p1, p2, p3, p4, p5⟩ := hW.2.2.2.1 k hk2
      rw [if_neg z, if_neg z, if_neg z]
      refine ⟨p1, p2, p3, by omega, fun j hj => ?_⟩
      by_cases y : j < M 0 1
      · rw [layM_o hl (f := 16) (by decide) (by decide) y]
        refine ⟨(p5 j y).1, fun h f hf1 hf2 => ?_⟩
        rw [layM_o hl (f := f) hf1 (by omega) y, layM_o hl (f := f) hf1 (by omega) (by omega)]
        exact (p5 j y).2 h f hf1 hf2
      · rw [layM_n hl (f := 16) (by decide) (by decide) (by omega) hj]
        exact ⟨⟨fun h => absurd h (hold k hk2), fun h => by omega⟩, fun h => absurd h (hold k hk2)⟩
  · exact lay_wfO hW hl hg.2.2.2.2.2.2.2.2.2
theorem la_rx {n' : Nat → Nat} {V' : XV} {gl qx : Nat → Int32} (hX : RX n V M) (hn : n' 0 = n 0 ∧ n' 1 = M 0 1 + c ∧ n' 2 = n 2 + b) (hs : V'.2.2.1 3 = V.2.2.1 3 ∧ V'.2.2.1 4 = nI (M 0 1 + c) ∧ V'.2.2.1 5 = nI (M 0 2 + b) ∧ V'.2.2.1 6 = V.2.2.1 6 ∧ V'.2.2.1 7 = V.2.2.1 7) (hc : V'.1 0 = V.1 0) (hp : ∀ k f, V'.1 2 k f = if b = 1 ∧ k = M 0 2 then qx f else V.1 2 k f) (hq : qx 0 = nI (q 20) ∧ qx 1 = nI (q 21) ∧ qx 2 = nI (q 22)) (hb : b ≤ 1) (hl : ∀ k f, V'.1 1 k f = if M 0 1 ≤ k ∧ k < M 0 1 + c then gl f else V.1 1 k f) (hg : gl 0 = nI (g 10) ∧ gl 1 = nI (g 11) ∧ gl 2 = nI (g 12) ∧ gl 3 = nI (g 13) ∧ gl 4 = nI (g 14) ∧ gl 5 = nI (g 15) ∧ gl 6 = nI (g 16) - 1 ∧ gl 8 = nI (g 17)) (h17 : g 17 = 119) : RX n' V' (mla M c g b q) := by
  obtain ⟨⟨s1, s2, s3, s4, s5, s6, s7, s8⟩, x2, x3, x4⟩ := hX
  obtain ⟨v3, v4, v5, v6, v7⟩ := hs
  refine ⟨⟨hn.1.trans s1, hn.2.1, by rw [hn.2.2, s3, mla_02], v3.trans s4, v4, v5, v6.trans s7, v7.trans s8⟩, ?_, lay_rxL x3 mla_lay hl hg h17, ?_⟩
  · unfold rxC
    rw [hc, mla_00, mla_c (f := 1) (by decide) (by decide), mla_c (f := 2) (by decide) (by decide), mla_c (f := 3) (by decide) (by decide), mla_c (f := 4) (by decide) (by decide), mla_c (f := 5) (by decide) (by decide), mla_c (f := 6) (by decide) (by decide)]
    exact x2
  · intro k hk
    rw [mla_02] at hk
    rw [mla_p (f := 20) (by decide) (by decide), mla_p (f := 21) (by decide) (by decide), mla_p (f := 22) (by decide) (by decide), hp, hp, hp]
    by_cases z : b = 1 ∧ k = M 0 2
    · rw [if_pos z, if_pos z, if_pos z, if_pos z, if_pos z, if_pos z]
      exact hq
    · rw [if_neg z, if_neg z, if_neg z, if_neg z, if_neg z, if_neg z]
      exact x4 k (by omega)
theorem la_rt {T' : RV} {v : Nat → Int32} (hT : RT T M) (h0 : T'.1 0 = T.1 0 ∧ T'.1 7 = nI (M 0 1 + c) ∧ T'.1 19 = nI (M 0 2 + b) ∧ T'.1 26 = T.1 26 ∧ T'.1 25 = T.1 25) (hc : ∀ f, f ≤ 6 → T'.2.1 f = T.2.1 f) (hb : b ≤ 1) (hl : ∀ f k, f ≤ 17 → T'.2.1 f k = if (8 ≤ f ∧ f ≤ 14 ∨ f = 17) ∧ M 0 1 ≤ k ∧ k < M 0 1 + c then v f else T.2.1 f k) (hp : ∀ f k, 20 ≤ f → f ≤ 22 → T'.2.1 f k = if b = 1 ∧ k = M 0 2 then nI (q f) else T.2.1 f k) (hg : v 8 = nI (g 10) ∧ v 9 = nI (g 11) ∧ v 10 = nI (g 12) ∧ v 11 = nI (g 13) ∧ v 12 = nI (g 14) ∧ v 13 = nI (g 15) ∧ v 17 = nI (g 16) - 1 ∧ v 14 = nI (g 17)) (h17 : g 17 = 119) : RT T' (mla M c g b q) := by
  obtain ⟨⟨s1, s2, s3, s4, s5⟩, t2, t3, t4, t5⟩ := hT
  obtain ⟨v0, v7, v19, v26, v25⟩ := h0
  refine ⟨⟨v0.trans s1, v7, v19, v26.trans s4, v25.trans s5⟩, ?_, ?_, lay_rtL t4 mla_lay hl hg h17, ?_⟩
  · unfold rtC
    rw [hc 1 (by decide), hc 2 (by decide), hc 3 (by decide), hc 4 (by decide), hc 5 (by decide), hc 6 (by decide), mla_00, mla_c (f := 1) (by decide) (by decide), mla_c (f := 2) (by decide) (by decide), mla_c (f := 3) (by decide) (by decide), mla_c (f := 4) (by decide) (by decide), mla_c (f := 5) (by decide) (by decide), mla_c (f := 6) (by decide) (by decide)]
    exact t2
  · unfold rtZ
    rw [hc 6 (by decide), mla_00]
    exact t3
  · intro k hk
    rw [mla_02] at hk
    rw [mla_p (f := 20) (by decide) (by decide), mla_p (f := 21) (by decide) (by decide), mla_p (f := 22) (by decide) (by decide), hp 20 k (by decide) (by decide), hp 21 k (by decide) (by decide), hp 22 k (by decide) (by decide)]
    by_cases z : b = 1 ∧ k = M 0 2
    · rw [if_pos z, if_pos z, if_pos z, if_pos z, if_pos z, if_pos z]
      exact ⟨rfl, rfl, rfl⟩
    · rw [if_neg z, if_neg z, if_neg z, if_neg z, if_neg z, if_neg z]
      exact t5 k (by omega)
end MLA
def gv (x1 y1 x2 y2 w m p : Nat) : Nat → Nat := fun f => match f with
  | 10 => x1
  | 11 => y1
  | 12 => x2
  | 13 => y2
  | 14 => w
  | 15 => m
  | 16 => p
  | _ => 119
theorem st_4 (hR : Rel n V T) : lst_4 Rel n V T := by
  obtain ⟨M, hW, hX, hT, hA⟩ := hR
  intro out p1 p2 p3 p4 p5 p6
  have h40 := hW.1.2.1
  rcases lift_or p1 p2 p3 p4 p5 p6 with ⟨x1, y1, x2, y2, w, m, hx1, hy1, hx2, hy2, hw1, hw2, hm1, hm2, rfl, rfl, rfl, rfl, rfl, rfl, ht, hx⟩ | ⟨ht, hx⟩
  · by_cases q : M 0 1 < 40
    · obtain ⟨air, ea, eb⟩ := air_both hx1 hy1 hx2 hy2
      obtain ⟨T', e1, hl⟩ := t_lay1 (T := rsc T 27 0) (p5 := nI w) (p6 := nI m) (p7 := -1) eb q (hT.1.2.1)
      have hx1' : layX V (xsc (xnai (xnew V 1 (M 0 1) (gL (nI x1) (nI y1) (nI x2) (nI y2) (nI w) (nI m) (-1))) (M 0 1) air) 4 (nI (M 0 1 + 1))) (M 0 1) 1 (gL (nI x1) (nI y1) (nI x2) (nI y2) (nI w) (nI m) (-1)) air := layX_1
      obtain ⟨a1, a2, a3, a4, a5⟩ := hx1'
      obtain ⟨b1, b2, b3⟩ := hl
      have w' : WF (mla M 1 (gv x1 y1 x2 y2 w m 0) 0 (fun _ => 0)) := la_wf hW (by omega) hW.1.2.2.1 ⟨hx1, hy1, hx2, hy2, hw1, hw2, hm1, hm2, Nat.zero_le _, rfl⟩ (fun k _ h => by cases h) (by omega) (fun h => by cases h)
      have x' : RX (nup n 1) (xsc (xnai (xnew V 1 (M 0 1) (gL (nI x1) (nI y1) (nI x2) (nI y2) (nI w) (nI m) (-1))) (M 0 1) air) 4 (nI (M 0 1 + 1))) (mla M 1 (gv x1 y1 x2 y2 w m 0) 0 (fun _ => 0)) := la_rx (gl := gL (nI x1) (nI y1) (nI x2) (nI y2) (nI w) (nI m) (-1)) (qx := fun _ => nI 0) hX ⟨rfl, (show n 1 + 1 = M 0 1 + 1 by rw [hX.1.2.1]), rfl⟩ ⟨rfl, rfl, hX.1.2.2.2.2.2.1, rfl, rfl⟩ a1 (fun k f => by rw [a2, if_neg (fun h => by cases h.1)]) ⟨rfl, rfl, rfl⟩ (by omega) a3 ⟨rfl, rfl, rfl, rfl, rfl, rfl, (by show (-1 : Int32) = nI 0 - 1; decide), rfl⟩ rfl
      have t' : RT T' (mla M 1 (gv x1 y1 x2 y2 w m 0) 0 (fun _ => 0)) := la_rt (v := vT (nI x1) (nI y1) (nI x2) (nI y2) (nI w) (nI m) (-1)) hT ⟨(b1 0).trans rfl, b1 7, ((b1 19).trans (show _ = T.1 19 from rfl)).trans hT.1.2.2.1, (b1 26).trans rfl, (b1 25).trans rfl⟩ (fun f hf => by funext k; rw [b2, if_neg (by omega)]; rfl) (by omega) (fun f k _ => b2 f k) (fun f k h1 h2 => by rw [b2, if_neg (by omega), if_neg (fun h => by cases h.1)]; rfl) ⟨rfl, rfl, rfl, rfl, rfl, rfl, (by show (-1 : Int32) = nI 0 - 1; decide), rfl⟩ rfl
      have r' : RA (xsc (xnai (xnew V 1 (M 0 1) (gL (nI x1) (nI y1) (nI x2) (nI y2) (nI w) (nI m) (-1))) (M 0 1) air) 4 (nI (M 0 1 + 1))) T' (mla M 1 (gv x1 y1 x2 y2 w m 0) 0 (fun _ => 0)) := lay_ra (T := rsc T 27 0) (RA_27 hA) mla_lay a4 b3
      refine ⟨(0, nup n 1, _, vp_updL out (0 : Int32).toNatClampNeg (nI (M 0 1)).toInt64), (nI (M 0 1), T'), ?_, ?_, ?_, fun _ => u0 (f := out), ⟨_, w', x', t', r'⟩⟩
      · unfold f_L_addLift f_X3_addLift
        rw [hx, hX.1.2.2.2.2.1, oi_p (show nI (M 0 1) < 40 from nI_lt (b := 40) q (by omega)), ea, ob_s, og_p (g40 q), og_p (nI_in q (by omega)), og_p (show (nI (M 0 1)).toNatClampNeg = n 1 by rw [nI_clamp (by omega), hX.1.2.1]), hX.1.2.1, nI_1, ob_s, ob_s, oi_p rfl]
        show some (0, nup n 1, _, vp_updL out (0 : Int32).toNatClampNeg (nI (M 0 1 + 1) - 1).toInt64) = _
        rw [nI_sub1]
        rfl
      · unfold f_X4_addLift
        rw [ht, ob_s, oi_n e10, hT.1.2.1, oi_n (show ¬ nI (M 0 1) = 40 from nI_ne (b := 40) (by omega) (by omega) (by omega)), t_fl0, ob_s, oi_p rfl, e1, ob_s, b1 7, if_pos rfl, nI_sub1]
      · show T'.1 27 = 0
        rw [b1 27]; rfl
    · have h40' : M 0 1 = 40 := by omega
      refine ⟨(2, n, V, out), (0, rsc T 27 2), ?_, ?_, rfl, fun h => absurd h e20, Rel.of27 hW hX hT hA⟩
      · unfold f_L_addLift f_X3_addLift
        rw [hx, hX.1.2.2.2.2.1, oi_n (show ¬ nI (M 0 1) < 40 from nI_nlt (a := M 0 1) (b := 40) (by omega) (by omega)), ob_s, oi_n n20, oi_n (show ¬ (2 : Nat) = 1 by decide), oi_p rfl]
      · unfold f_X4_addLift
        rw [ht, ob_s, oi_n e10, hT.1.2.1, oi_p (show nI (M 0 1) = 40 by rw [h40']; rfl), t_fl2, ob_s, oi_n e10]
  · refine ⟨(1, n, V, out), (0, rsc T 27 1), ?_, ?_, rfl, fun h => absurd h e10, Rel.of27 hW hX hT hA⟩
    · unfold f_L_addLift f_X3_addLift
      rw [hx, ob_s, oi_n n10, oi_p rfl]
    · unfold f_X4_addLift
      rw [ht, ob_s, oi_p rfl, t_fl1, ob_s, oi_n e10]
end Q32
