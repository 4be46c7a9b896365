def f_L_addCrane (n : Nat → Nat) (V : XV) (out : (Nat → Int64)) (p1 : Int32) (p2 : Int32) (p3 : Int32) (p4 : Int32) (p5 : Int32) : Option (Int32 × (Nat → Nat) × XV × (Nat → Int64)) := ob (f_X3_addCrane n V p1 p2 p3 p4 p5) (fun u => oi (u.1 = 0) (some (0, u.2.2.1, u.2.2.2, vp_updL out ((0 : Int32)).toNatClampNeg (Int32.toInt64 u.2.1))) (oi (u.1 = 1) (some (1, u.2.2.1, u.2.2.2, out)) (oi (u.1 = 2) (some (2, u.2.2.1, u.2.2.2, out)) (none))))
theorem hd_L_addCrane : yL_addCrane.cls ≠ "java/lang/invoke/MethodHandle" ∧ yL_addCrane.cls ≠ "java/lang/invoke/VarHandle" ∧ (parseMethodDescriptor yL_addCrane.desc).map (fun d => d.parameters.length) = some 7 := by decide +kernel
set_option maxHeartbeats 4000000 in
set_option maxRecDepth 100000 in
theorem c_L_addCrane (l : Launch) (hl0 : l.stackTraces = false) (D : va_G) (cy : Nat → ClassId) (a : XA) (n : Nat → Nat) (V : XV) (o : Nat) (out : (Nat → Int64)) (sz : Nat) (p1 : Int32) (p2 : Int32) (p3 : Int32) (p4 : Int32) (p5 : Int32) {res : Int32 × (Nat → Nat) × XV × (Nat → Int64)} (h : f_L_addCrane n V out p1 p2 p3 p4 p5 = some res) : Met l yL_addCrane wsL_addCrane ({ frames := 8, cells := 1, slots := 6, locals := 145 } : Room) (va_Pc [.ref (a.1 0), .int p1, .int p2, .int p3, .int p4, .int p5, .ref o] (zX sz (va_A ((o, .inl (cy 1, 1, .inr (.inl out))) :: xW cy a n V) sz) (lI D cy a n V ((o, .inl (cy 1, 1, .inr (.inl out))))))) (va_Qi (fun r (_ : XA) => r = res.1) (fun a1 t => a1.1 = a.1 ∧ va_P D xcl ((o, .inl (cy 1, 1, .inr (.inl res.2.2.2))) :: xW cy a1 res.2.1 res.2.2.1) t.heap ∧ va_D (va_A ((o, .inl (cy 1, 1, .inr (.inl out))) :: xW cy a n V) sz) ((o, .inl (cy 1, 1, .inr (.inl res.2.2.2))) :: xW cy a1 res.2.1 res.2.2.1)) (va_A ((o, .inl (cy 1, 1, .inr (.inl out))) :: xW cy a n V) sz)) 1 6 (va_A ((o, .inl (cy 1, 1, .inr (.inl out))) :: xW cy a n V) sz) := by
  refine z_ofWH (cc := cL_addCrane) (maxL := 8) (ret := (some .int)) (hh := [(0, 16, 19, 13), (0, 16, 23, 15)]) (by decide) rfl ?_
  intro p e s m args below meth c s₁ B hml hv
  obtain ⟨rfl, hsz, hZ, hC, hP, hK, hD0⟩ := hv
  have hx := B.exec
  have hb := B.bytes
  have hr := B.returns
  have hts := atoms_spec (ws := wsL_addCrane) B.pre
  have hown : s.vm.findClass RL = some m.cls := findClass_of_methodNamed B.named
  have hlocks := B.notSynchronized
  subst hsz
  have hT : c.exceptionTable.toList = tableOf [(0, 16, 19, 13), (0, 16, 23, 15)] := vx_table (x := objectInit) B (hts _ List.mem_cons_self)
  have hD := hD0.self (sz := s.heap.size)
  generalize hAe : va_A ((o, .inl (cy 1, 1, .inr (.inl out))) :: xW cy a n V) s.heap.size = A at hD hZ ⊢
  have hA : ∀ q : Nat, s.heap.size ≤ q → A q := fun q h => by rw [← hAe]; exact Or.inr h
  have hS : va_S A s.heap s.heap [] := va_S.rf
  have hPx : va_P D xcl (xW cy a n V) s.heap := lP_tail hP
  have hDx : va_D A (xW cy a n V) := lD_tail hD
  have hfree := z_free hDx hS hA
  have hl := lv_entry ([.ref (a.1 0), .int p1, .int p2, .int p3, .int p4, .int p5, .ref o]) (n := 8) (Nat.le_of_ble_eq_true rfl)
  rw [lg_entry_eq]
  generalize (lg_sl ([.ref (a.1 0), .int p1, .int p2, .int p3, .int p4, .int p5, .ref o]) ++ List.replicate (8 - (lg_sl ([.ref (a.1 0), .int p1, .int p2, .int p3, .int p4, .int p5, .ref o])).length) Slot.unset).toArray = ls at hl ⊢
  have hl : lv_has ls 8 [(0, .ref (a.1 0)), (1, .int p1), (2, .int p2), (3, .int p3), (4, .int p4), (5, .int p5), (6, .ref o)] := hl
  refine lv_aload hx hb dL_addCrane_0 (lv_at hl 6 rfl) ?_
  refine lv_iconst (v := 0) hx hb dL_addCrane_2 (by decide) ?_
  refine lv_aload_n hx hb dL_addCrane_3 rfl (lv_at hl 0 rfl) ?_
  refine lv_iload_n hx hb dL_addCrane_4 rfl (lv_at hl 1 rfl) ?_
  refine lv_iload_n hx hb dL_addCrane_5 rfl (lv_at hl 2 rfl) ?_
  refine lv_iload_n hx hb dL_addCrane_6 rfl (lv_at hl 3 rfl) ?_
  refine lv_iload hx hb dL_addCrane_7 (lv_at hl 4 rfl) ?_
  refine lv_iload hx hb dL_addCrane_9 (lv_at hl 5 rfl) ?_
  obtain ⟨u, hg, h⟩ := ob_some h
  refine vx_calli (vx_runV (As := [.int p1, .int p2, .int p3, .int p4, .int p5]) (rest := [.int 0, .ref o]) ⟨hx, hb, hml, hown, hts⟩ (c_X3_addCrane l hl0 D cy a n V s.heap.size p1 p2 p3 p4 p5 hg) (cwV 5 hts gL_addCrane_X3_addCrane rfl rfl rfl hd_X3_addCrane ⟨Nat.le_of_ble_eq_true rfl, Nat.le_of_ble_eq_true rfl⟩) ⟨zX_blind xI_blind, va_recv hK hPx (ci := 3) (q0 := 0) rfl rfl, zX_at (lZ_narrow hZ hfree) (xI_at hPx hK hDx)⟩ rfl rfl hl.1 rfl (lv_room (Nat.le_of_ble_eq_true rfl)) dL_addCrane_11 ⟨Nat.le_of_ble_eq_true rfl, Nat.le_of_ble_eq_true rfl⟩) hS (fun q _ h => hfree q h) hfree (fun q _ h => hfree q h) (fun E ce q9 u9 t H1 locs1 ht hvm hp9 hB hz hk hS hce hcv hcl => ?_) (fun r9 u9 t H1 locs1 ht hvm hw hB hz hk hS => ?_)
  · obtain ⟨hE, hc0, ha1, hP1, hD1⟩ := hB
    rw [ht] at hP1
    obtain ⟨hP2, hD2⟩ := z_join (ws := [(o, .inl (cy 1, 1, .inr (.inl out)))]) (wc := xW cy a n V) (w1 := xW cy u9 u.2.2.1 u.2.2.2) hP hD hk hfree hP1 hD1
    replace h := oi_f hc0 h
    by_cases ck : u.1 = 1
    · replace h := oi_t ck h
      rw [ck] at hE
      subst hE
      refine vx_catch hown [] ⟨0, 16, 19, 13⟩ [⟨0, 16, 23, 15⟩] (hT.trans rfl) (fun z hz => absurd hz List.not_mem_nil) rfl (by decide) (hts _ (List.mem_of_getElem? (i := 1) rfl)) (va_Nw.use rfl hZ.1.1.1) hce hcv hcl ?_
      refine W.eq (g2 := F0 m 19 ls [.ref q9]) rfl ?_
      refine lv_astore (lv' := [(7, .ref q9), (0, .ref (a.1 0)), (1, .int p1), (2, .int p2), (3, .int p3), (4, .int p4), (5, .int p5), (6, .ref o)]) hx hb dL_addCrane_19 hl (by decide) rfl (fun ls hl => ?_)
      refine lv_iconst (v := 1) hx hb dL_addCrane_21 (by decide) ?_
      cases h
      exact W.iret (v := 1) hx hb hr (fun t ht hW => ⟨⟨1, u9, rfl, rfl, ⟨ha1, by rw [ht]; exact hP2, hD2⟩⟩, hS.F ht⟩) hS.2.2 dL_addCrane_22 hlocks
    replace h := oi_f ck h
    by_cases ck : u.1 = 2
    · replace h := oi_t ck h
      rw [ck] at hE
      subst hE
      refine vx_catch hown [⟨0, 16, 19, 13⟩] ⟨0, 16, 23, 15⟩ [] (hT.trans rfl) (by intro z hz; simp only [List.mem_cons, List.not_mem_nil, or_false] at hz; subst hz; exact Or.inr ⟨by decide, _, (hts _ (List.mem_of_getElem? (i := 1) rfl)), hC 2 1 (by decide)⟩) rfl (by decide) (hts _ (List.mem_of_getElem? (i := 2) rfl)) (va_Nw.use rfl hZ.1.1.2.1) hce hcv hcl ?_
      refine W.eq (g2 := F0 m 23 ls [.ref q9]) rfl ?_
      refine lv_astore (lv' := [(7, .ref q9), (0, .ref (a.1 0)), (1, .int p1), (2, .int p2), (3, .int p3), (4, .int p4), (5, .int p5), (6, .ref o)]) hx hb dL_addCrane_23 hl (by decide) rfl (fun ls hl => ?_)
      refine lv_iconst (v := 2) hx hb dL_addCrane_25 (by decide) ?_
      cases h
      exact W.iret (v := 2) hx hb hr (fun t ht hW => ⟨⟨2, u9, rfl, rfl, ⟨ha1, by rw [ht]; exact hP2, hD2⟩⟩, hS.F ht⟩) hS.2.2 dL_addCrane_26 hlocks
    replace h := oi_f ck h
    cases h
  · obtain ⟨ha1, hP1, hD1⟩ := hB
    rw [ht] at hP1
    obtain ⟨hP2, hD2⟩ := z_join (ws := [(o, .inl (cy 1, 1, .inr (.inl out)))]) (wc := xW cy a n V) (w1 := xW cy u9 u.2.2.1 u.2.2.2) hP hD hk hfree hP1 hD1
    replace h := oi_t hw.1 h
    rw [hw.2]
    refine lv_i2l (v := Int32.toInt64 u.2.1) hx hb dL_addCrane_14 rfl ?_
    refine va_last hx hb hK hP2 hD2 hS 0 1 rfl rfl (show vp_in 0 1 from by unfold vp_in; decide) dL_addCrane_15 (fun H2 locs2 hP hD hS => ?_)
    refine lv_goto (tgt := 27) hx hb dL_addCrane_16 (by decide) ?_
    refine lv_iconst (v := 0) hx hb dL_addCrane_27 (by decide) ?_
    cases h
    exact W.iret (v := 0) hx hb hr (fun t ht hW => ⟨⟨0, u9, rfl, rfl, ⟨ha1, by rw [ht]; exact hP, hD⟩⟩, hS.F ht⟩) hS.2.2 dL_addCrane_28 hlocks

def f_L_permit (n : Nat → Nat) (V : XV) (out : (Nat → Int64)) (p1 : Int32) (p2 : Int32) (p3 : Int32) : Option (Int32 × (Nat → Nat) × XV × (Nat → Int64)) := ob (f_X3_permit n V p1 p2 p3) (fun u => oi (u.1 = 0) (some (0, n, u.2.2, vp_updL out ((0 : Int32)).toNatClampNeg (Int32.toInt64 u.2.1))) (oi (u.1 = 3) (some (1, n, u.2.2, out)) (oi (u.1 = 1) (some (2, n, u.2.2, out)) (none))))
theorem hd_L_permit : yL_permit.cls ≠ "java/lang/invoke/MethodHandle" ∧ yL_permit.cls ≠ "java/lang/invoke/VarHandle" ∧ (parseMethodDescriptor yL_permit.desc).map (fun d => d.parameters.length) = some 5 := by decide +kernel
set_option maxHeartbeats 4000000 in
set_option maxRecDepth 100000 in
theorem c_L_permit (l : Launch) (hl0 : l.stackTraces = false) (D : va_G) (cy : Nat → ClassId) (a : XA) (n : Nat → Nat) (V : XV) (o : Nat) (out : (Nat → Int64)) (sz : Nat) (p1 : Int32) (p2 : Int32) (p3 : Int32) {res : Int32 × (Nat → Nat) × XV × (Nat → Int64)} (h : f_L_permit n V out p1 p2 p3 = some res) : Met l yL_permit wsL_permit ({ frames := 8, cells := 1, slots := 6, locals := 144 } : Room) (va_Pc [.ref (a.1 0), .int p1, .int p2, .int p3, .ref o] (zX sz (va_A ((o, .inl (cy 1, 1, .inr (.inl out))) :: xW cy a n V) sz) (lI D cy a n V ((o, .inl (cy 1, 1, .inr (.inl out))))))) (va_Qi (fun r (_ : XA) => r = res.1) (fun a1 t => a1.1 = a.1 ∧ va_P D xcl ((o, .inl (cy 1, 1, .inr (.inl res.2.2.2))) :: xW cy a1 res.2.1 res.2.2.1) t.heap ∧ va_D (va_A ((o, .inl (cy 1, 1, .inr (.inl out))) :: xW cy a n V) sz) ((o, .inl (cy 1, 1, .inr (.inl res.2.2.2))) :: xW cy a1 res.2.1 res.2.2.1)) (va_A ((o, .inl (cy 1, 1, .inr (.inl out))) :: xW cy a n V) sz)) 1 6 (va_A ((o, .inl (cy 1, 1, .inr (.inl out))) :: xW cy a n V) sz) := by
  refine z_ofWH (cc := cL_permit) (maxL := 6) (ret := (some .int)) (hh := [(0, 12, 15, 21), (0, 12, 19, 13)]) (by decide) rfl ?_
  intro p e s m args below meth c s₁ B hml hv
  obtain ⟨rfl, hsz, hZ, hC, hP, hK, hD0⟩ := hv
  have hx := B.exec
  have hb := B.bytes
  have hr := B.returns
  have hts := atoms_spec (ws := wsL_permit) B.pre
  have hown : s.vm.findClass RL = some m.cls := findClass_of_methodNamed B.named
  have hlocks := B.notSynchronized
  subst hsz
  have hT : c.exceptionTable.toList = tableOf [(0, 12, 15, 21), (0, 12, 19, 13)] := vx_table (x := objectInit) B (hts _ List.mem_cons_self)
  have hD := hD0.self (sz := s.heap.size)
  generalize hAe : va_A ((o, .inl (cy 1, 1, .inr (.inl out))) :: xW cy a n V) s.heap.size = A at hD hZ ⊢
  have hA : ∀ q : Nat, s.heap.size ≤ q → A q := fun q h => by rw [← hAe]; exact Or.inr h
  have hS : va_S A s.heap s.heap [] := va_S.rf
  have hPx : va_P D xcl (xW cy a n V) s.heap := lP_tail hP
  have hDx : va_D A (xW cy a n V) := lD_tail hD
  have hfree := z_free hDx hS hA
  have hl := lv_entry ([.ref (a.1 0), .int p1, .int p2, .int p3, .ref o]) (n := 6) (Nat.le_of_ble_eq_true rfl)
  rw [lg_entry_eq]
  generalize (lg_sl ([.ref (a.1 0), .int p1, .int p2, .int p3, .ref o]) ++ List.replicate (6 - (lg_sl ([.ref (a.1 0), .int p1, .int p2, .int p3, .ref o])).length) Slot.unset).toArray = ls at hl ⊢
  have hl : lv_has ls 6 [(0, .ref (a.1 0)), (1, .int p1), (2, .int p2), (3, .int p3), (4, .ref o)] := hl
  refine lv_aload hx hb dL_permit_0 (lv_at hl 4 rfl) ?_
  refine lv_iconst (v := 0) hx hb dL_permit_2 (by decide) ?_
  refine lv_aload_n hx hb dL_permit_3 rfl (lv_at hl 0 rfl) ?_
  refine lv_iload_n hx hb dL_permit_4 rfl (lv_at hl 1 rfl) ?_
  refine lv_iload_n hx hb dL_permit_5 rfl (lv_at hl 2 rfl) ?_
  refine lv_iload_n hx hb dL_permit_6 rfl (lv_at hl 3 rfl) ?_
  obtain ⟨u, hg, h⟩ := ob_some h
  refine vx_calli (vx_runV (As := [.int p1, .int p2, .int p3]) (rest := [.int 0, .ref o]) ⟨hx, hb, hml, hown, hts⟩ (c_X3_permit l hl0 D cy a n V s.heap.size p1 p2 p3 hg) (cwV 3 hts gL_permit_X3_permit rfl rfl rfl hd_X3_permit ⟨Nat.le_of_ble_eq_true rfl, Nat.le_of_ble_eq_true rfl⟩) ⟨zX_blind xI_blind, va_recv hK hPx (ci := 3) (q0 := 0) rfl rfl, zX_at (lZ_narrow hZ hfree) (xI_at hPx hK hDx)⟩ rfl rfl hl.1 rfl (lv_room (Nat.le_of_ble_eq_true rfl)) dL_permit_7 ⟨Nat.le_of_ble_eq_true rfl, Nat.le_of_ble_eq_true rfl⟩) hS (fun q _ h => hfree q h) hfree (fun q _ h => hfree q h) (fun E ce q9 u9 t H1 locs1 ht hvm hp9 hB hz hk hS hce hcv hcl => ?_) (fun r9 u9 t H1 locs1 ht hvm hw hB hz hk hS => ?_)
  · obtain ⟨hE, hc0, hP1, hD1⟩ := hB
    rw [ht] at hP1
    obtain ⟨hP2, hD2⟩ := z_join (ws := [(o, .inl (cy 1, 1, .inr (.inl out)))]) (wc := xW cy a n V) (w1 := xW cy a n u.2.2) hP hD hk hfree hP1 hD1
    replace h := oi_f hc0 h
    by_cases ck : u.1 = 3
    · replace h := oi_t ck h
      rw [ck] at hE
      subst hE
      refine vx_catch hown [] ⟨0, 12, 15, 21⟩ [⟨0, 12, 19, 13⟩] (hT.trans rfl) (fun z hz => absurd hz List.not_mem_nil) rfl (by decide) (hts _ (List.mem_of_getElem? (i := 1) rfl)) (va_Nw.use rfl hZ.1.1.2.2.1) hce hcv hcl ?_
      refine W.eq (g2 := F0 m 15 ls [.ref q9]) rfl ?_
      refine lv_astore (lv' := [(5, .ref q9), (0, .ref (a.1 0)), (1, .int p1), (2, .int p2), (3, .int p3), (4, .ref o)]) hx hb dL_permit_15 hl (by decide) rfl (fun ls hl => ?_)
      refine lv_iconst (v := 1) hx hb dL_permit_17 (by decide) ?_
      cases h
      exact W.iret (v := 1) hx hb hr (fun t ht hW => ⟨⟨1, a, rfl, rfl, ⟨rfl, by rw [ht]; exact hP2, hD2⟩⟩, hS.F ht⟩) hS.2.2 dL_permit_18 hlocks
    replace h := oi_f ck h
    by_cases ck : u.1 = 1
    · replace h := oi_t ck h
      rw [ck] at hE
      subst hE
      refine vx_catch hown [⟨0, 12, 15, 21⟩] ⟨0, 12, 19, 13⟩ [] (hT.trans rfl) (by intro z hz; simp only [List.mem_cons, List.not_mem_nil, or_false] at hz; subst hz; exact Or.inr ⟨by decide, _, (hts _ (List.mem_of_getElem? (i := 1) rfl)), hC 1 3 (by decide)⟩) rfl (by decide) (hts _ (List.mem_of_getElem? (i := 2) rfl)) (va_Nw.use rfl hZ.1.1.1) hce hcv hcl ?_
      refine W.eq (g2 := F0 m 19 ls [.ref q9]) rfl ?_
      refine lv_astore (lv' := [(5, .ref q9), (0, .ref (a.1 0)), (1, .int p1), (2, .int p2), (3, .int p3), (4, .ref o)]) hx hb dL_permit_19 hl (by decide) rfl (fun ls hl => ?_)
      refine lv_iconst (v := 2) hx hb dL_permit_21 (by decide) ?_
      cases h
      exact W.iret (v := 2) hx hb hr (fun t ht hW => ⟨⟨2, a, rfl, rfl, ⟨rfl, by rw [ht]; exact hP2, hD2⟩⟩, hS.F ht⟩) hS.2.2 dL_permit_22 hlocks
    replace h := oi_f ck h
    cases h
  · obtain ⟨hP1, hD1⟩ := hB
    rw [ht] at hP1
    obtain ⟨hP2, hD2⟩ := z_join (ws := [(o, .inl (cy 1, 1, .inr (.inl out)))]) (wc := xW cy a n V) (w1 := xW cy a n u.2.2) hP hD hk hfree hP1 hD1
    replace h := oi_t hw.1 h
    rw [hw.2]
    refine lv_i2l (v := Int32.toInt64 u.2.1) hx hb dL_permit_10 rfl ?_
    refine va_last hx hb hK hP2 hD2 hS 0 1 rfl rfl (show vp_in 0 1 from by unfold vp_in; decide) dL_permit_11 (fun H2 locs2 hP hD hS => ?_)
    refine lv_goto (tgt := 23) hx hb dL_permit_12 (by decide) ?_
    refine lv_iconst (v := 0) hx hb dL_permit_23 (by decide) ?_
    cases h
    exact W.iret (v := 0) hx hb hr (fun t ht hW => ⟨⟨0, a, rfl, rfl, ⟨rfl, by rw [ht]; exact hP, hD⟩⟩, hS.F ht⟩) hS.2.2 dL_permit_24 hlocks

def f_L_endPermit (n : Nat → Nat) (V : XV) (out : (Nat → Int64)) (p1 : Int32) (p2 : Int32) (p3 : Int32) : Option (Int32 × (Nat → Nat) × XV × (Nat → Int64)) := ob (f_X3_endPermit n V p1 p2 p3) (fun u => oi (u.1 = 0) (some (0, n, u.2.2, vp_updL out ((0 : Int32)).toNatClampNeg (Int32.toInt64 u.2.1))) (oi (u.1 = 3) (some (1, n, u.2.2, out)) (oi (u.1 = 1) (some (2, n, u.2.2, out)) (none))))
theorem hd_L_endPermit : yL_endPermit.cls ≠ "java/lang/invoke/MethodHandle" ∧ yL_endPermit.cls ≠ "java/lang/invoke/VarHandle" ∧ (parseMethodDescriptor yL_endPermit.desc).map (fun d => d.parameters.length) = some 5 := by decide +kernel
set_option maxHeartbeats 4000000 in
set_option maxRecDepth 100000 in
theorem c_L_endPermit (l : Launch) (hl0 : l.stackTraces = false) (D : va_G) (cy : Nat → ClassId) (a : XA) (n : Nat → Nat) (V : XV) (o : Nat) (out : (Nat → Int64)) (sz : Nat) (p1 : Int32) (p2 : Int32) (p3 : Int32) {res : Int32 × (Nat → Nat) × XV × (Nat → Int64)} (h : f_L_endPermit n V out p1 p2 p3 = some res) : Met l yL_endPermit wsL_endPermit ({ frames := 8, cells := 1, slots := 6, locals := 158 } : Room) (va_Pc [.ref (a.1 0), .int p1, .int p2, .int p3, .ref o] (zX sz (va_A ((o, .inl (cy 1, 1, .inr (.inl out))) :: xW cy a n V) sz) (lI D cy a n V ((o, .inl (cy 1, 1, .inr (.inl out))))))) (va_Qi (fun r (_ : XA) => r = res.1) (fun a1 t => a1.1 = a.1 ∧ va_P D xcl ((o, .inl (cy 1, 1, .inr (.inl res.2.2.2))) :: xW cy a1 res.2.1 res.2.2.1) t.heap ∧ va_D (va_A ((o, .inl (cy 1, 1, .inr (.inl out))) :: xW cy a n V) sz) ((o, .inl (cy 1, 1, .inr (.inl res.2.2.2))) :: xW cy a1 res.2.1 res.2.2.1)) (va_A ((o, .inl (cy 1, 1, .inr (.inl out))) :: xW cy a n V) sz)) 1 6 (va_A ((o, .inl (cy 1, 1, .inr (.inl out))) :: xW cy a n V) sz) := by
  refine z_ofWH (cc := cL_endPermit) (maxL := 6) (ret := (some .int)) (hh := [(0, 12, 15, 21), (0, 12, 19, 13)]) (by decide) rfl ?_
  intro p e s m args below meth c s₁ B hml hv
  obtain ⟨rfl, hsz, hZ, hC, hP, hK, hD0⟩ := hv
  have hx := B.exec
  have hb := B.bytes
  have hr := B.returns
  have hts := atoms_spec (ws := wsL_endPermit) B.pre
  have hown : s.vm.findClass RL = some m.cls := findClass_of_methodNamed B.named
  have hlocks := B.notSynchronized
  subst hsz
  have hT : c.exceptionTable.toList = tableOf [(0, 12, 15, 21), (0, 12, 19, 13)] := vx_table (x := objectInit) B (hts _ List.mem_cons_self)
  have hD := hD0.self (sz := s.heap.size)
  generalize hAe : va_A ((o, .inl (cy 1, 1, .inr (.inl out))) :: xW cy a n V) s.heap.size = A at hD hZ ⊢
  have hA : ∀ q : Nat, s.heap.size ≤ q → A q := fun q h => by rw [← hAe]; exact Or.inr h
  have hS : va_S A s.heap s.heap [] := va_S.rf
  have hPx : va_P D xcl (xW cy a n V) s.heap := lP_tail hP
  have hDx : va_D A (xW cy a n V) := lD_tail hD
  have hfree := z_free hDx hS hA
  have hl := lv_entry ([.ref (a.1 0), .int p1, .int p2, .int p3, .ref o]) (n := 6) (Nat.le_of_ble_eq_true rfl)
  rw [lg_entry_eq]
  generalize (lg_sl ([.ref (a.1 0), .int p1, .int p2, .int p3, .ref o]) ++ List.replicate (6 - (lg_sl ([.ref (a.1 0), .int p1, .int p2, .int p3, .ref o])).length) Slot.unset).toArray = ls at hl ⊢
  have hl : lv_has ls 6 [(0, .ref (a.1 0)), (1, .int p1), (2, .int p2), (3, .int p3), (4, .ref o)] := hl
  refine lv_aload hx hb dL_endPermit_0 (lv_at hl 4 rfl) ?_
  refine lv_iconst (v := 0) hx hb dL_endPermit_2 (by decide) ?_
  refine lv_aload_n hx hb dL_endPermit_3 rfl (lv_at hl 0 rfl) ?_
  refine lv_iload_n hx hb dL_endPermit_4 rfl (lv_at hl 1 rfl) ?_
  refine lv_iload_n hx hb dL_endPermit_5 rfl (lv_at hl 2 rfl) ?_
  refine lv_iload_n hx hb dL_endPermit_6 rfl (lv_at hl 3 rfl) ?_
  obtain ⟨u, hg, h⟩ := ob_some h
  refine vx_calli (vx_runV (As := [.int p1, .int p2, .int p3]) (rest := [.int 0, .ref o]) ⟨hx, hb, hml, hown, hts⟩ (c_X3_endPermit l hl0 D cy a n V s.heap.size p1 p2 p3 hg) (cwV 3 hts gL_endPermit_X3_endPermit rfl rfl rfl hd_X3_endPermit ⟨Nat.le_of_ble_eq_true rfl, Nat.le_of_ble_eq_true rfl⟩) ⟨zX_blind xI_blind, va_recv hK hPx (ci := 3) (q0 := 0) rfl rfl, zX_at (lZ_narrow hZ hfree) (xI_at hPx hK hDx)⟩ rfl rfl hl.1 rfl (lv_room (Nat.le_of_ble_eq_true rfl)) dL_endPermit_7 ⟨Nat.le_of_ble_eq_true rfl, Nat.le_of_ble_eq_true rfl⟩) hS (fun q _ h => hfree q h) hfree (fun q _ h => hfree q h) (fun E ce q9 u9 t H1 locs1 ht hvm hp9 hB hz hk hS hce hcv hcl => ?_) (fun r9 u9 t H1 locs1 ht hvm hw hB hz hk hS => ?_)
  · obtain ⟨hE, hc0, hP1, hD1⟩ := hB
    rw [ht] at hP1
    obtain ⟨hP2, hD2⟩ := z_join (ws := [(o, .inl (cy 1, 1, .inr (.inl out)))]) (wc := xW cy a n V) (w1 := xW cy a n u.2.2) hP hD hk hfree hP1 hD1
    replace h := oi_f hc0 h
    by_cases ck : u.1 = 3
    · replace h := oi_t ck h
      rw [ck] at hE
      subst hE
      refine vx_catch hown [] ⟨0, 12, 15, 21⟩ [⟨0, 12, 19, 13⟩] (hT.trans rfl) (fun z hz => absurd hz List.not_mem_nil) rfl (by decide) (hts _ (List.mem_of_getElem? (i := 1) rfl)) (va_Nw.use rfl hZ.1.1.2.2.1) hce hcv hcl ?_
      refine W.eq (g2 := F0 m 15 ls [.ref q9]) rfl ?_
      refine lv_astore (lv' := [(5, .ref q9), (0, .ref (a.1 0)), (1, .int p1), (2, .int p2), (3, .int p3), (4, .ref o)]) hx hb dL_endPermit_15 hl (by decide) rfl (fun ls hl => ?_)
      refine lv_iconst (v := 1) hx hb dL_endPermit_17 (by decide) ?_
      cases h
      exact W.iret (v := 1) hx hb hr (fun t ht hW => ⟨⟨1, a, rfl, rfl, ⟨rfl, by rw [ht]; exact hP2, hD2⟩⟩, hS.F ht⟩) hS.2.2 dL_endPermit_18 hlocks
    replace h := oi_f ck h
    by_cases ck : u.1 = 1
    · replace h := oi_t ck h
      rw [ck] at hE
      subst hE
      refine vx_catch hown [⟨0, 12, 15, 21⟩] ⟨0, 12, 19, 13⟩ [] (hT.trans rfl) (by intro z hz; simp only [List.mem_cons, List.not_mem_nil, or_false] at hz; subst hz; exact Or.inr ⟨by decide, _, (hts _ (List.mem_of_getElem? (i := 1) rfl)), hC 1 3 (by decide)⟩) rfl (by decide) (hts _ (List.mem_of_getElem? (i := 2) rfl)) (va_Nw.use rfl hZ.1.1.1) hce hcv hcl ?_
      refine W.eq (g2 := F0 m 19 ls [.ref q9]) rfl ?_
      refine lv_astore (lv' := [(5, .ref q9), (0, .ref (a.1 0)), (1, .int p1), (2, .int p2), (3, .int p3), (4, .ref o)]) hx hb dL_endPermit_19 hl (by decide) rfl (fun ls hl => ?_)
      refine lv_iconst (v := 2) hx hb dL_endPermit_21 (by decide) ?_
      cases h
      exact W.iret (v := 2) hx hb hr (fun t ht hW => ⟨⟨2, a, rfl, rfl, ⟨rfl, by rw [ht]; exact hP2, hD2⟩⟩, hS.F ht⟩) hS.2.2 dL_endPermit_22 hlocks
    replace h := oi_f ck h
    cases h
  · obtain ⟨hP1, hD1⟩ := hB
    rw [ht] at hP1
    obtain ⟨hP2, hD2⟩ := z_join (ws := [(o, .inl (cy 1, 1, .inr (.inl out)))]) (wc := xW cy a n V) (w1 := xW cy a n u.2.2) hP hD hk hfree hP1 hD1
    replace h := oi_t hw.1 h
    rw [hw.2]
    refine lv_i2l (v := Int32.toInt64 u.2.1) hx hb dL_endPermit_10 rfl ?_
    refine va_last hx hb hK hP2 hD2 hS 0 1 rfl rfl (show vp_in 0 1 from by unfold vp_in; decide) dL_endPermit_11 (fun H2 locs2 hP hD hS => ?_)
    refine lv_goto (tgt := 23) hx hb dL_endPermit_12 (by decide) ?_
    refine lv_iconst (v := 0) hx hb dL_endPermit_23 (by decide) ?_
    cases h
    exact W.iret (v := 0) hx hb hr (fun t ht hW => ⟨⟨0, a, rfl, rfl, ⟨rfl, by rw [ht]; exact hP, hD⟩⟩, hS.F ht⟩) hS.2.2 dL_endPermit_24 hlocks

def f_L_setWind (n : Nat → Nat) (V : XV) (out : (Nat → Int64)) (p1 : Int32) : Option (Int32 × (Nat → Nat) × XV × (Nat → Int64)) := ob (f_X3_setWind n V p1) (fun u => oi (u.1 = 0) (some (0, n, u.2.2, vp_updL out ((0 : Int32)).toNatClampNeg (Int32.toInt64 u.2.1))) (oi (u.1 = 1) (some (1, n, u.2.2, out)) (none)))
theorem hd_L_setWind : yL_setWind.cls ≠ "java/lang/invoke/MethodHandle" ∧ yL_setWind.cls ≠ "java/lang/invoke/VarHandle" ∧ (parseMethodDescriptor yL_setWind.desc).map (fun d => d.parameters.length) = some 3 := by decide +kernel
set_option maxHeartbeats 4000000 in
set_option maxRecDepth 100000 in
theorem c_L_setWind (l : Launch) (hl0 : l.stackTraces = false) (D : va_G) (cy : Nat → ClassId) (a : XA) (n : Nat → Nat) (V : XV) (o : Nat) (out : (Nat → Int64)) (sz : Nat) (p1 : Int32) {res : Int32 × (Nat → Nat) × XV × (Nat → Int64)} (h : f_L_setWind n V out p1 = some res) : Met l yL_setWind wsL_setWind ({ frames := 8, cells := 1, slots := 6, locals := 155 } : Room) (va_Pc [.ref (a.1 0), .int p1, .ref o] (zX sz (va_A ((o, .inl (cy 1, 1, .inr (.inl out))) :: xW cy a n V) sz) (lI D cy a n V ((o, .inl (cy 1, 1, .inr (.inl out))))))) (va_Qi (fun r (_ : XA) => r = res.1) (fun a1 t => a1.1 = a.1 ∧ va_P D xcl ((o, .inl (cy 1, 1, .inr (.inl res.2.2.2))) :: xW cy a1 res.2.1 res.2.2.1) t.heap ∧ va_D (va_A ((o, .inl (cy 1, 1, .inr (.inl out))) :: xW cy a n V) sz) ((o, .inl (cy 1, 1, .inr (.inl res.2.2.2))) :: xW cy a1 res.2.1 res.2.2.1)) (va_A ((o, .inl (cy 1, 1, .inr (.inl out))) :: xW cy a n V) sz)) 1 6 (va_A ((o, .inl (cy 1, 1, .inr (.inl out))) :: xW cy a n V) sz) := by
  refine z_ofWH (cc := cL_setWind) (maxL := 4) (ret := (some .int)) (hh := [(0, 9, 12, 13)]) (by decide) rfl ?_
  intro p e s m args below meth c s₁ B hml hv
  obtain ⟨rfl, hsz, hZ, hC, hP, hK, hD0⟩ := hv
  have hx := B.exec
  have hb := B.bytes
  have hr := B.returns
  have hts := atoms_spec (ws := wsL_setWind) B.pre
  have hown : s.vm.findClass RL = some m.cls := findClass_of_methodNamed B.named
  have hlocks := B.notSynchronized
  subst hsz
  have hT : c.exceptionTable.toList = tableOf [(0, 9, 12, 13)] := vx_table (x := objectInit) B (hts _ List.mem_cons_self)
  have hD := hD0.self (sz := s.heap.size)
  generalize hAe : va_A ((o, .inl (cy 1, 1, .inr (.inl out))) :: xW cy a n V) s.heap.size = A at hD hZ ⊢
  have hA : ∀ q : Nat, s.heap.size ≤ q → A q := fun q h => by rw [← hAe]; exact Or.inr h
  have hS : va_S A s.heap s.heap [] := va_S.rf
  have hPx : va_P D xcl (xW cy a n V) s.heap := lP_tail hP
  have hDx : va_D A (xW cy a n V) := lD_tail hD
  have hfree := z_free hDx hS hA
  have hl := lv_entry ([.ref (a.1 0), .int p1, .ref o]) (n := 4) (Nat.le_of_ble_eq_true rfl)
  rw [lg_entry_eq]
  generalize (lg_sl ([.ref (a.1 0), .int p1, .ref o]) ++ List.replicate (4 - (lg_sl ([.ref (a.1 0), .int p1, .ref o])).length) Slot.unset).toArray = ls at hl ⊢
  have hl : lv_has ls 4 [(0, .ref (a.1 0)), (1, .int p1), (2, .ref o)] := hl
  refine lv_aload_n hx hb dL_setWind_0 rfl (lv_at hl 2 rfl) ?_
  refine lv_iconst (v := 0) hx hb dL_setWind_1 (by decide) ?_
  refine lv_aload_n hx hb dL_setWind_2 rfl (lv_at hl 0 rfl) ?_
  refine lv_iload_n hx hb dL_setWind_3 rfl (lv_at hl 1 rfl) ?_
  obtain ⟨u, hg, h⟩ := ob_some h
  refine vx_calli (vx_runV (As := [.int p1]) (rest := [.int 0, .ref o]) ⟨hx, hb, hml, hown, hts⟩ (c_X3_setWind l hl0 D cy a n V s.heap.size p1 hg) (cwV 1 hts gL_setWind_X3_setWind rfl rfl rfl hd_X3_setWind ⟨Nat.le_of_ble_eq_true rfl, Nat.le_of_ble_eq_true rfl⟩) ⟨zX_blind xI_blind, va_recv hK hPx (ci := 3) (q0 := 0) rfl rfl, zX_at (lZ_narrow hZ hfree) (xI_at hPx hK hDx)⟩ rfl rfl hl.1 rfl (lv_room (Nat.le_of_ble_eq_true rfl)) dL_setWind_4 ⟨Nat.le_of_ble_eq_true rfl, Nat.le_of_ble_eq_true rfl⟩) hS (fun q _ h => hfree q h) hfree (fun q _ h => hfree q h) (fun E ce q9 u9 t H1 locs1 ht hvm hp9 hB hz hk hS hce hcv hcl => ?_) (fun r9 u9 t H1 locs1 ht hvm hw hB hz hk hS => ?_)
  · obtain ⟨hE, hc0, hP1, hD1⟩ := hB
    rw [ht] at hP1
    obtain ⟨hP2, hD2⟩ := z_join (ws := [(o, .inl (cy 1, 1, .inr (.inl out)))]) (wc := xW cy a n V) (w1 := xW cy a n u.2.2) hP hD hk hfree hP1 hD1
    replace h := oi_f hc0 h
    by_cases ck : u.1 = 1
    · replace h := oi_t ck h
      rw [ck] at hE
      subst hE
      refine vx_catch hown [] ⟨0, 9, 12, 13⟩ [] (hT.trans rfl) (fun z hz => absurd hz List.not_mem_nil) rfl (by decide) (hts _ (List.mem_of_getElem? (i := 1) rfl)) (va_Nw.use rfl hZ.1.1.1) hce hcv hcl ?_
      refine W.eq (g2 := F0 m 12 ls [.ref q9]) rfl ?_
      refine lv_astore_n (lv' := [(3, .ref q9), (0, .ref (a.1 0)), (1, .int p1), (2, .ref o)]) hx hb dL_setWind_12 rfl hl (by decide) rfl (fun ls hl => ?_)
      refine lv_iconst (v := 1) hx hb dL_setWind_13 (by decide) ?_
      cases h
      exact W.iret (v := 1) hx hb hr (fun t ht hW => ⟨⟨1, a, rfl, rfl, ⟨rfl, by rw [ht]; exact hP2, hD2⟩⟩, hS.F ht⟩) hS.2.2 dL_setWind_14 hlocks
    replace h := oi_f ck h
    cases h
  · obtain ⟨hP1, hD1⟩ := hB
    rw [ht] at hP1
    obtain ⟨hP2, hD2⟩ := z_join (ws := [(o, .inl (cy 1, 1, .inr (.inl out)))]) (wc := xW cy a n V) (w1 := xW cy a n u.2.2) hP hD hk hfree hP1 hD1
    replace h := oi_t hw.1 h
    rw [hw.2]
    refine lv_i2l (v := Int32.toInt64 u.2.1) hx hb dL_setWind_7 rfl ?_
    refine va_last hx hb hK hP2 hD2 hS 0 1 rfl rfl (show vp_in 0 1 from by unfold vp_in; decide) dL_setWind_8 (fun H2 locs2 hP hD hS => ?_)
    refine lv_goto (tgt := 15) hx hb dL_setWind_9 (by decide) ?_
    refine lv_iconst (v := 0) hx hb dL_setWind_15 (by decide) ?_
    cases h
    exact W.iret (v := 0) hx hb hr (fun t ht hW => ⟨⟨0, a, rfl, rfl, ⟨rfl, by rw [ht]; exact hP, hD⟩⟩, hS.F ht⟩) hS.2.2 dL_setWind_16 hlocks

def f_L_addLift (n : Nat → Nat) (V : XV) (out : (Nat → Int64)) (p1 : Int32) (p2 : Int32) (p3 : Int32) (p4 : Int32) (p5 : Int32) (p6 : Int32) : Option (Int32 × (Nat → Nat) × XV × (Nat → Int64)) := ob (f_X3_addLift n V p1 p2 p3 p4 p5 p6) (fun u => oi (u.1 = 0) (some (0, u.2.2.1, u.2.2.2, vp_updL out ((0 : Int32)).toNatClampNeg (Int32.toInt64 u.2.1))) (oi (u.1 = 1) (some (1, u.2.2.1, u.2.2.2, out)) (oi (u.1 = 2) (some (2, u.2.2.1, u.2.2.2, out)) (none))))
theorem hd_L_addLift : yL_addLift.cls ≠ "java/lang/invoke/MethodHandle" ∧ yL_addLift.cls ≠ "java/lang/invoke/VarHandle" ∧ (parseMethodDescriptor yL_addLift.desc).map (fun d => d.parameters.length) = some 8 := by decide +kernel
set_option maxHeartbeats 4000000 in
set_option maxRecDepth 100000 in
theorem c_L_addLift (l : Launch) (hl0 : l.stackTraces = false) (D : va_G) (cy : Nat → ClassId) (a : XA) (n : Nat → Nat) (V : XV) (o : Nat) (out : (Nat → Int64)) (sz : Nat) (p1 : Int32) (p2 : Int32) (p3 : Int32) (p4 : Int32) (p5 : Int32) (p6 : Int32) {res : Int32 × (Nat → Nat) × XV × (Nat → Int64)} (h : f_L_addLift n V out p1 p2 p3 p4 p5 p6 = some res) : Met l yL_addLift wsL_addLift ({ frames := 8, cells := 1, slots := 11, locals := 166 } : Room) (va_Pc [.ref (a.1 0), .int p1, .int p2, .int p3, .int p4, .int p5, .int p6, .ref o] (zX sz (va_A ((o, .inl (cy 1, 1, .inr (.inl out))) :: xW cy a n V) sz) (lI D cy a n V ((o, .inl (cy 1, 1, .inr (.inl out))))))) (va_Qi (fun r (_ : XA) => r = res.1) (fun a1 t => a1.1 = a.1 ∧ va_P D xcl ((o, .inl (cy 1, 1, .inr (.inl res.2.2.2))) :: xW cy a1 res.2.1 res.2.2.1) t.heap ∧ va_D (va_A ((o, .inl (cy 1, 1, .inr (.inl out))) :: xW cy a n V) sz) ((o, .inl (cy 1, 1, .inr (.inl res.2.2.2))) :: xW cy a1 res.2.1 res.2.2.1)) (va_A ((o, .inl (cy 1, 1, .inr (.inl out))) :: xW cy a n V) sz)) 1 11 (va_A ((o, .inl (cy 1, 1, .inr (.inl out))) :: xW cy a n V) sz) := by
  refine z_ofWH (cc := cL_addLift) (maxL := 9) (ret := (some .int)) (hh := [(0, 18, 21, 13), (0, 18, 25, 15)]) (by decide) rfl ?_
  intro p e s m args below meth c s₁ B hml hv
  obtain ⟨rfl, hsz, hZ, hC, hP, hK, hD0⟩ := hv
  have hx := B.exec
  have hb := B.bytes
  have hr := B.returns
  have hts := atoms_spec (ws := wsL_addLift) B.pre
  have hown : s.vm.findClass RL = some m.cls := findClass_of_methodNamed B.named
  have hlocks := B.notSynchronized
  subst hsz
  have hT : c.exceptionTable.toList = tableOf [(0, 18, 21, 13), (0, 18, 25, 15)] := vx_table (x := objectInit) B (hts _ List.mem_cons_self)
  have hD := hD0.self (sz := s.heap.size)
  generalize hAe : va_A ((o, .inl (cy 1, 1, .inr (.inl out))) :: xW cy a n V) s.heap.size = A at hD hZ ⊢
  have hA : ∀ q : Nat, s.heap.size ≤ q → A q := fun q h => by rw [← hAe]; exact Or.inr h
  have hS : va_S A s.heap s.heap [] := va_S.rf
  have hPx : va_P D xcl (xW cy a n V) s.heap := lP_tail hP
  have hDx : va_D A (xW cy a n V) := lD_tail hD
  have hfree := z_free hDx hS hA
  have hl := lv_entry ([.ref (a.1 0), .int p1, .int p2, .int p3, .int p4, .int p5, .int p6, .ref o]) (n := 9) (Nat.le_of_ble_eq_true rfl)
  rw [lg_entry_eq]
  generalize (lg_sl ([.ref (a.1 0), .int p1, .int p2, .int p3, .int p4, .int p5, .int p6, .ref o]) ++ List.replicate (9 - (lg_sl ([.ref (a.1 0), .int p1, .int p2, .int p3, .int p4, .int p5, .int p6, .ref o])).length) Slot.unset).toArray = ls at hl ⊢
  have hl : lv_has ls 9 [(0, .ref (a.1 0)), (1, .int p1), (2, .int p2), (3, .int p3), (4, .int p4), (5, .int p5), (6, .int p6), (7, .ref o)] := hl
  refine lv_aload hx hb dL_addLift_0 (lv_at hl 7 rfl) ?_
  refine lv_iconst (v := 0) hx hb dL_addLift_2 (by decide) ?_
  refine lv_aload_n hx hb dL_addLift_3 rfl (lv_at hl 0 rfl) ?_
  refine lv_iload_n hx hb dL_addLift_4 rfl (lv_at hl 1 rfl) ?_
  refine lv_iload_n hx hb dL_addLift_5 rfl (lv_at hl 2 rfl) ?_
  refine lv_iload_n hx hb dL_addLift_6 rfl (lv_at hl 3 rfl) ?_
  refine lv_iload hx hb dL_addLift_7 (lv_at hl 4 rfl) ?_
  refine lv_iload hx hb dL_addLift_9 (lv_at hl 5 rfl) ?_
  refine lv_iload hx hb dL_addLift_11 (lv_at hl 6 rfl) ?_
  obtain ⟨u, hg, h⟩ := ob_some h
  refine vx_calli (vx_runV (As := [.int p1, .int p2, .int p3, .int p4, .int p5, .int p6]) (rest := [.int 0, .ref o]) ⟨hx, hb, hml, hown, hts⟩ (c_X3_addLift l hl0 D cy a n V s.heap.size p1 p2 p3 p4 p5 p6 hg) (cwV 6 hts gL_addLift_X3_addLift rfl rfl rfl hd_X3_addLift ⟨Nat.le_of_ble_eq_true rfl, Nat.le_of_ble_eq_true rfl⟩) ⟨zX_blind xI_blind, va_recv hK hPx (ci := 3) (q0 := 0) rfl rfl, zX_at (lZ_narrow hZ hfree) (xI_at hPx hK hDx)⟩ rfl rfl hl.1 rfl (lv_room (Nat.le_of_ble_eq_true rfl)) dL_addLift_13 ⟨Nat.le_of_ble_eq_true rfl, Nat.le_of_ble_eq_true rfl⟩) hS (fun q _ h => hfree q h) hfree (fun q _ h => hfree q h) (fun E ce q9 u9 t H1 locs1 ht hvm hp9 hB hz hk hS hce hcv hcl => ?_) (fun r9 u9 t H1 locs1 ht hvm hw hB hz hk hS => ?_)
  · obtain ⟨hE, hc0, ha1, hP1, hD1⟩ := hB
    rw [ht] at hP1
    obtain ⟨hP2, hD2⟩ := z_join (ws := [(o, .inl (cy 1, 1, .inr (.inl out)))]) (wc := xW cy a n V) (w1 := xW cy u9 u.2.2.1 u.2.2.2) hP hD hk hfree hP1 hD1
    replace h := oi_f hc0 h
    by_cases ck : u.1 = 1
    · replace h := oi_t ck h
      rw [ck] at hE
      subst hE
      refine vx_catch hown [] ⟨0, 18, 21, 13⟩ [⟨0, 18, 25, 15⟩] (hT.trans rfl) (fun z hz => absurd hz List.not_mem_nil) rfl (by decide) (hts _ (List.mem_of_getElem? (i := 1) rfl)) (va_Nw.use rfl hZ.1.1.1) hce hcv hcl ?_
      refine W.eq (g2 := F0 m 21 ls [.ref q9]) rfl ?_
      refine lv_astore (lv' := [(8, .ref q9), (0, .ref (a.1 0)), (1, .int p1), (2, .int p2), (3, .int p3), (4, .int p4), (5, .int p5), (6, .int p6), (7, .ref o)]) hx hb dL_addLift_21 hl (by decide) rfl (fun ls hl => ?_)
      refine lv_iconst (v := 1) hx hb dL_addLift_23 (by decide) ?_
      cases h
      exact W.iret (v := 1) hx hb hr (fun t ht hW => ⟨⟨1, u9, rfl, rfl, ⟨ha1, by rw [ht]; exact hP2, hD2⟩⟩, hS.F ht⟩) hS.2.2 dL_addLift_24 hlocks
    replace h := oi_f ck h
    by_cases ck : u.1 = 2
    · replace h := oi_t ck h
      rw [ck] at hE
      subst hE
      refine vx_catch hown [⟨0, 18, 21, 13⟩] ⟨0, 18, 25, 15⟩ [] (hT.trans rfl) (by intro z hz; simp only [List.mem_cons, List.not_mem_nil, or_false] at hz; subst hz; exact Or.inr ⟨by decide, _, (hts _ (List.mem_of_getElem? (i := 1) rfl)), hC 2 1 (by decide)⟩) rfl (by decide) (hts _ (List.mem_of_getElem? (i := 2) rfl)) (va_Nw.use rfl hZ.1.1.2.1) hce hcv hcl ?_
      refine W.eq (g2 := F0 m 25 ls [.ref q9]) rfl ?_
      refine lv_astore (lv' := [(8, .ref q9), (0, .ref (a.1 0)), (1, .int p1), (2, .int p2), (3, .int p3), (4, .int p4), (5, .int p5), (6, .int p6), (7, .ref o)]) hx hb dL_addLift_25 hl (by decide) rfl (fun ls hl => ?_)
      refine lv_iconst (v := 2) hx hb dL_addLift_27 (by decide) ?_
      cases h
      exact W.iret (v := 2) hx hb hr (fun t ht hW => ⟨⟨2, u9, rfl, rfl, ⟨ha1, by rw [ht]; exact hP2, hD2⟩⟩, hS.F ht⟩) hS.2.2 dL_addLift_28 hlocks
    replace h := oi_f ck h
    cases h
  · obtain ⟨ha1, hP1, hD1⟩ := hB
    rw [ht] at hP1
    obtain ⟨hP2, hD2⟩ := z_join (ws := [(o, .inl (cy 1, 1, .inr (.inl out)))]) (wc := xW cy a n V) (w1 := xW cy u9 u.2.2.1 u.2.2.2) hP hD hk hfree hP1 hD1
    replace h := oi_t hw.1 h
    rw [hw.2]
    refine lv_i2l (v := Int32.toInt64 u.2.1) hx hb dL_addLift_16 rfl ?_
    refine va_last hx hb hK hP2 hD2 hS 0 1 rfl rfl (show vp_in 0 1 from by unfold vp_in; decide) dL_addLift_17 (fun H2 locs2 hP hD hS => ?_)
    refine lv_goto (tgt := 29) hx hb dL_addLift_18 (by decide) ?_
    refine lv_iconst (v := 0) hx hb dL_addLift_29 (by decide) ?_
    cases h
    exact W.iret (v := 0) hx hb hr (fun t ht hW => ⟨⟨0, u9, rfl, rfl, ⟨ha1, by rw [ht]; exact hP, hD⟩⟩, hS.F ht⟩) hS.2.2 dL_addLift_30 hlocks

def f_L_addPour (n : Nat → Nat) (V : XV) (out : (Nat → Int64)) (p1 : Int32) (p2 : Int32) (p3 : Int32) (p4 : Int32) (p5 : Int32) (p6 : Int32) (p7 : Int32) (p8 : Int32) : Option (Int32 × (Nat → Nat) × XV × (Nat → Int64)) := ob (f_X3_addPour n V p1 p2 p3 p4 p5 p6 p7 p8) (fun u => oi (u.1 = 0) (some (0, u.2.2.1, u.2.2.2, vp_updL out ((0 : Int32)).toNatClampNeg (Int32.toInt64 u.2.1))) (oi (u.1 = 1) (some (1, u.2.2.1, u.2.2.2, out)) (oi (u.1 = 2) (some (2, u.2.2.1, u.2.2.2, out)) (none))))
theorem hd_L_addPour : yL_addPour.cls ≠ "java/lang/invoke/MethodHandle" ∧ yL_addPour.cls ≠ "java/lang/invoke/VarHandle" ∧ (parseMethodDescriptor yL_addPour.desc).map (fun d => d.parameters.length) = some 10 := by decide +kernel
set_option maxHeartbeats 4000000 in
set_option maxRecDepth 100000 in
theorem c_L_addPour (l : Launch) (hl0 : l.stackTraces = false) (D : va_G) (cy : Nat → ClassId) (a : XA) (n : Nat → Nat) (V : XV) (o : Nat) (out : (Nat → Int64)) (sz : Nat) (p1 : Int32) (p2 : Int32) (p3 : Int32) (p4 : Int32) (p5 : Int32) (p6 : Int32) (p7 : Int32) (p8 : Int32) {res : Int32 × (Nat → Nat) × XV × (Nat → Int64)} (h : f_L_addPour n V out p1 p2 p3 p4 p5 p6 p7 p8 = some res) : Met l yL_addPour wsL_addPour ({ frames := 8, cells := 16, slots := 130, locals := 169 } : Room) (va_Pc [.ref (a.1 0), .int p1, .int p2, .int p3, .int p4, .int p5, .int p6, .int p7, .int p8, .ref o] (zX sz (va_A ((o, .inl (cy 1, 1, .inr (.inl out))) :: xW cy a n V) sz) (lI D cy a n V ((o, .inl (cy 1, 1, .inr (.inl out))))))) (va_Qi (fun r (_ : XA) => r = res.1) (fun a1 t => a1.1 = a.1 ∧ va_P D xcl ((o, .inl (cy 1, 1, .inr (.inl res.2.2.2))) :: xW cy a1 res.2.1 res.2.2.1) t.heap ∧ va_D (va_A ((o, .inl (cy 1, 1, .inr (.inl out))) :: xW cy a n V) sz) ((o, .inl (cy 1, 1, .inr (.inl res.2.2.2))) :: xW cy a1 res.2.1 res.2.2.1)) (va_A ((o, .inl (cy 1, 1, .inr (.inl out))) :: xW cy a n V) sz)) 16 130 (va_A ((o, .inl (cy 1, 1, .inr (.inl out))) :: xW cy a n V) sz) := by
  refine z_ofWH (cc := cL_addPour) (maxL := 11) (ret := (some .int)) (hh := [(0, 22, 25, 13), (0, 22, 29, 15)]) (by decide) rfl ?_
  intro p e s m args below meth c s₁ B hml hv
  obtain ⟨rfl, hsz, hZ, hC, hP, hK, hD0⟩ := hv
  have hx := B.exec
  have hb := B.bytes
  have hr := B.returns
  have hts := atoms_spec (ws := wsL_addPour) B.pre
  have hown : s.vm.findClass RL = some m.cls := findClass_of_methodNamed B.named
  have hlocks := B.notSynchronized
  subst hsz
  have hT : c.exceptionTable.toList = tableOf [(0, 22, 25, 13), (0, 22, 29, 15)] := vx_table (x := objectInit) B (hts _ List.mem_cons_self)
  have hD := hD0.self (sz := s.heap.size)
  generalize hAe : va_A ((o, .inl (cy 1, 1, .inr (.inl out))) :: xW cy a n V) s.heap.size = A at hD hZ ⊢
  have hA : ∀ q : Nat, s.heap.size ≤ q → A q := fun q h => by rw [← hAe]; exact Or.inr h
  have hS : va_S A s.heap s.heap [] := va_S.rf
  have hPx : va_P D xcl (xW cy a n V) s.heap := lP_tail hP
  have hDx : va_D A (xW cy a n V) := lD_tail hD
  have hfree := z_free hDx hS hA
  have hl := lv_entry ([.ref (a.1 0), .int p1, .int p2, .int p3, .int p4, .int p5, .int p6, .int p7, .int p8, .ref o]) (n := 11) (Nat.le_of_ble_eq_true rfl)
  rw [lg_entry_eq]
  generalize (lg_sl ([.ref (a.1 0), .int p1, .int p2, .int p3, .int p4, .int p5, .int p6, .int p7, .int p8, .ref o]) ++ List.replicate (11 - (lg_sl ([.ref (a.1 0), .int p1, .int p2, .int p3, .int p4, .int p5, .int p6, .int p7, .int p8, .ref o])).length) Slot.unset).toArray = ls at hl ⊢
  have hl : lv_has ls 11 [(0, .ref (a.1 0)), (1, .int p1), (2, .int p2), (3, .int p3), (4, .int p4), (5, .int p5), (6, .int p6), (7, .int p7), (8, .int p8), (9, .ref o)] := hl
  refine lv_aload hx hb dL_addPour_0 (lv_at hl 9 rfl) ?_
  refine lv_iconst (v := 0) hx hb dL_addPour_2 (by decide) ?_
  refine lv_aload_n hx hb dL_addPour_3 rfl (lv_at hl 0 rfl) ?_
  refine lv_iload_n hx hb dL_addPour_4 rfl (lv_at hl 1 rfl) ?_
  refine lv_iload_n hx hb dL_addPour_5 rfl (lv_at hl 2 rfl) ?_
  refine lv_iload_n hx hb dL_addPour_6 rfl (lv_at hl 3 rfl) ?_
  refine lv_iload hx hb dL_addPour_7 (lv_at hl 4 rfl) ?_
  refine lv_iload hx hb dL_addPour_9 (lv_at hl 5 rfl) ?_
  refine lv_iload hx hb dL_addPour_11 (lv_at hl 6 rfl) ?_
  refine lv_iload hx hb dL_addPour_13 (lv_at hl 7 rfl) ?_
  refine lv_iload hx hb dL_addPour_15 (lv_at hl 8 rfl) ?_
  obtain ⟨u, hg, h⟩ := ob_some h
  refine vx_calli (vx_runV (As := [.int p1, .int p2, .int p3, .int p4, .int p5, .int p6, .int p7, .int p8]) (rest := [.int 0, .ref o]) ⟨hx, hb, hml, hown, hts⟩ (c_X3_addPour l hl0 D cy a n V s.heap.size p1 p2 p3 p4 p5 p6 p7 p8 hg) (cwV 8 hts gL_addPour_X3_addPour rfl rfl rfl hd_X3_addPour ⟨Nat.le_of_ble_eq_true rfl, Nat.le_of_ble_eq_true rfl⟩) ⟨zX_blind xI_blind, va_recv hK hPx (ci := 3) (q0 := 0) rfl rfl, zX_at (lZ_narrow hZ hfree) (xI_at hPx hK hDx)⟩ rfl rfl hl.1 rfl (lv_room (Nat.le_of_ble_eq_true rfl)) dL_addPour_17 ⟨Nat.le_of_ble_eq_true rfl, Nat.le_of_ble_eq_true rfl⟩) hS (fun q _ h => hfree q h) hfree (fun q _ h => hfree q h) (fun E ce q9 u9 t H1 locs1 ht hvm hp9 hB hz hk hS hce hcv hcl => ?_) (fun r9 u9 t H1 locs1 ht hvm hw hB hz hk hS => ?_)
  · obtain ⟨hE, hc0, ha1, hP1, hD1⟩ := hB
    rw [ht] at hP1
    obtain ⟨hP2, hD2⟩ := z_join (ws := [(o, .inl (cy 1, 1, .inr (.inl out)))]) (wc := xW cy a n V) (w1 := xW cy u9 u.2.2.1 u.2.2.2) hP hD hk hfree hP1 hD1
    replace h := oi_f hc0 h
    by_cases ck : u.1 = 1
    · replace h := oi_t ck h
      rw [ck] at hE
      subst hE
      refine vx_catch hown [] ⟨0, 22, 25, 13⟩ [⟨0, 22, 29, 15⟩] (hT.trans rfl) (fun z hz => absurd hz List.not_mem_nil) rfl (by decide) (hts _ (List.mem_of_getElem? (i := 1) rfl)) (va_Nw.use rfl hZ.1.1.1) hce hcv hcl ?_
      refine W.eq (g2 := F0 m 25 ls [.ref q9]) rfl ?_
      refine lv_astore (lv' := [(10, .ref q9), (0, .ref (a.1 0)), (1, .int p1), (2, .int p2), (3, .int p3), (4, .int p4), (5, .int p5), (6, .int p6), (7, .int p7), (8, .int p8), (9, .ref o)]) hx hb dL_addPour_25 hl (by decide) rfl (fun ls hl => ?_)
      refine lv_iconst (v := 1) hx hb dL_addPour_27 (by decide) ?_
      cases h
      exact W.iret (v := 1) hx hb hr (fun t ht hW => ⟨⟨1, u9, rfl, rfl, ⟨ha1, by rw [ht]; exact hP2, hD2⟩⟩, hS.F ht⟩) hS.2.2 dL_addPour_28 hlocks
    replace h := oi_f ck h
    by_cases ck : u.1 = 2
    · replace h := oi_t ck h
      rw [ck] at hE
      subst hE
      refine vx_catch hown [⟨0, 22, 25, 13⟩] ⟨0, 22, 29, 15⟩ [] (hT.trans rfl) (by intro z hz; simp only [List.mem_cons, List.not_mem_nil, or_false] at hz; subst hz; exact Or.inr ⟨by decide, _, (hts _ (List.mem_of_getElem? (i := 1) rfl)), hC 2 1 (by decide)⟩) rfl (by decide) (hts _ (List.mem_of_getElem? (i := 2) rfl)) (va_Nw.use rfl hZ.1.1.2.1) hce hcv hcl ?_
      refine W.eq (g2 := F0 m 29 ls [.ref q9]) rfl ?_
      refine lv_astore (lv' := [(10, .ref q9), (0, .ref (a.1 0)), (1, .int p1), (2, .int p2), (3, .int p3), (4, .int p4), (5, .int p5), (6, .int p6), (7, .int p7), (8, .int p8), (9, .ref o)]) hx hb dL_addPour_29 hl (by decide) rfl (fun ls hl => ?_)
      refine lv_iconst (v := 2) hx hb dL_addPour_31 (by decide) ?_
      cases h
      exact W.iret (v := 2) hx hb hr (fun t ht hW => ⟨⟨2, u9, rfl, rfl, ⟨ha1, by rw [ht]; exact hP2, hD2⟩⟩, hS.F ht⟩) hS.2.2 dL_addPour_32 hlocks
    replace h := oi_f ck h
    cases h
  · obtain ⟨ha1, hP1, hD1⟩ := hB
    rw [ht] at hP1
    obtain ⟨hP2, hD2⟩ := z_join (ws := [(o, .inl (cy 1, 1, .inr (.inl out)))]) (wc := xW cy a n V) (w1 := xW cy u9 u.2.2.1 u.2.2.2) hP hD hk hfree hP1 hD1
    replace h := oi_t hw.1 h
    rw [hw.2]
    refine lv_i2l (v := Int32.toInt64 u.2.1) hx hb dL_addPour_20 rfl ?_
    refine va_last hx hb hK hP2 hD2 hS 0 1 rfl rfl (show vp_in 0 1 from by unfold vp_in; decide) dL_addPour_21 (fun H2 locs2 hP hD hS => ?_)
    refine lv_goto (tgt := 33) hx hb dL_addPour_22 (by decide) ?_
    refine lv_iconst (v := 0) hx hb dL_addPour_33 (by decide) ?_
    cases h
    exact W.iret (v := 0) hx hb hr (fun t ht hW => ⟨⟨0, u9, rfl, rfl, ⟨ha1, by rw [ht]; exact hP, hD⟩⟩, hS.F ht⟩) hS.2.2 dL_addPour_34 hlocks

def f_L_plan (n : Nat → Nat) (V : XV) (out : (Nat → Int64)) (p1 : Int32) (p2 : Int32) : Option (Int32 × (Nat → Nat) × XV × (Nat → Int64)) := ob (f_X3_plan n V p1 p2) (fun u => oi (u.1 = 0) (some (0, n, u.2.2, vp_updL out ((0 : Int32)).toNatClampNeg (Int32.toInt64 u.2.1))) (oi (u.1 = 3) (some (1, n, u.2.2, out)) (oi (u.1 = 2) (some (2, n, u.2.2, out)) (oi (u.1 = 4) (some (3, n, u.2.2, out)) (none)))))
theorem hd_L_plan : yL_plan.cls ≠ "java/lang/invoke/MethodHandle" ∧ yL_plan.cls ≠ "java/lang/invoke/VarHandle" ∧ (parseMethodDescriptor yL_plan.desc).map (fun d => d.parameters.length) = some 4 := by decide +kernel
set_option maxHeartbeats 4000000 in
set_option maxRecDepth 100000 in
theorem c_L_plan (l : Launch) (hl0 : l.stackTraces = false) (D : va_G) (cy : Nat → ClassId) (a : XA) (n : Nat → Nat) (V : XV) (o : Nat) (out : (Nat → Int64)) (sz : Nat) (p1 : Int32) (p2 : Int32) {res : Int32 × (Nat → Nat) × XV × (Nat → Int64)} (h : f_L_plan n V out p1 p2 = some res) : Met l yL_plan wsL_plan ({ frames := 8, cells := 1, slots := 6, locals := 157 } : Room) (va_Pc [.ref (a.1 0), .int p1, .int p2, .ref o] (zX sz (va_A ((o, .inl (cy 1, 1, .inr (.inl out))) :: xW cy a n V) sz) (lI D cy a n V ((o, .inl (cy 1, 1, .inr (.inl out))))))) (va_Qi (fun r (_ : XA) => r = res.1) (fun a1 t => a1.1 = a.1 ∧ va_P D xcl ((o, .inl (cy 1, 1, .inr (.inl res.2.2.2))) :: xW cy a1 res.2.1 res.2.2.1) t.heap ∧ va_D (va_A ((o, .inl (cy 1, 1, .inr (.inl out))) :: xW cy a n V) sz) ((o, .inl (cy 1, 1, .inr (.inl res.2.2.2))) :: xW cy a1 res.2.1 res.2.2.1)) (va_A ((o, .inl (cy 1, 1, .inr (.inl out))) :: xW cy a n V) sz)) 1 6 (va_A ((o, .inl (cy 1, 1, .inr (.inl out))) :: xW cy a n V) sz) := by
  refine z_ofWH (cc := cL_plan) (maxL := 5) (ret := (some .int)) (hh := [(0, 10, 13, 21), (0, 10, 17, 15), (0, 10, 21, 42)]) (by decide) rfl ?_
  intro p e s m args below meth c s₁ B hml hv
  obtain ⟨rfl, hsz, hZ, hC, hP, hK, hD0⟩ := hv
  have hx := B.exec
  have hb := B.bytes
  have hr := B.returns
  have hts := atoms_spec (ws := wsL_plan) B.pre
  have hown : s.vm.findClass RL = some m.cls := findClass_of_methodNamed B.named
  have hlocks := B.notSynchronized
  subst hsz
  have hT : c.exceptionTable.toList = tableOf [(0, 10, 13, 21), (0, 10, 17, 15), (0, 10, 21, 42)] := vx_table (x := objectInit) B (hts _ List.mem_cons_self)
  have hD := hD0.self (sz := s.heap.size)
  generalize hAe : va_A ((o, .inl (cy 1, 1, .inr (.inl out))) :: xW cy a n V) s.heap.size = A at hD hZ ⊢
  have hA : ∀ q : Nat, s.heap.size ≤ q → A q := fun q h => by rw [← hAe]; exact Or.inr h
  have hS : va_S A s.heap s.heap [] := va_S.rf
  have hPx : va_P D xcl (xW cy a n V) s.heap := lP_tail hP
  have hDx : va_D A (xW cy a n V) := lD_tail hD
  have hfree := z_free hDx hS hA
  have hl := lv_entry ([.ref (a.1 0), .int p1, .int p2, .ref o]) (n := 5) (Nat.le_of_ble_eq_true rfl)
  rw [lg_entry_eq]
  generalize (lg_sl ([.ref (a.1 0), .int p1, .int p2, .ref o]) ++ List.replicate (5 - (lg_sl ([.ref (a.1 0), .int p1, .int p2, .ref o])).length) Slot.unset).toArray = ls at hl ⊢
  have hl : lv_has ls 5 [(0, .ref (a.1 0)), (1, .int p1), (2, .int p2), (3, .ref o)] := hl
  refine lv_aload_n hx hb dL_plan_0 rfl (lv_at hl 3 rfl) ?_
  refine lv_iconst (v := 0) hx hb dL_plan_1 (by decide) ?_
  refine lv_aload_n hx hb dL_plan_2 rfl (lv_at hl 0 rfl) ?_
  refine lv_iload_n hx hb dL_plan_3 rfl (lv_at hl 1 rfl) ?_
  refine lv_iload_n hx hb dL_plan_4 rfl (lv_at hl 2 rfl) ?_
  obtain ⟨u, hg, h⟩ := ob_some h
  refine vx_calli (vx_runV (As := [.int p1, .int p2]) (rest := [.int 0, .ref o]) ⟨hx, hb, hml, hown, hts⟩ (c_X3_plan l hl0 D cy a n V s.heap.size p1 p2 hg) (cwV 2 hts gL_plan_X3_plan rfl rfl rfl hd_X3_plan ⟨Nat.le_of_ble_eq_true rfl, Nat.le_of_ble_eq_true rfl⟩) ⟨zX_blind xI_blind, va_recv hK hPx (ci := 3) (q0 := 0) rfl rfl, zX_at (lZ_narrow hZ hfree) (xI_at hPx hK hDx)⟩ rfl rfl hl.1 rfl (lv_room (Nat.le_of_ble_eq_true rfl)) dL_plan_5 ⟨Nat.le_of_ble_eq_true rfl, Nat.le_of_ble_eq_true rfl⟩) hS (fun q _ h => hfree q h) hfree (fun q _ h => hfree q h) (fun E ce q9 u9 t H1 locs1 ht hvm hp9 hB hz hk hS hce hcv hcl => ?_) (fun r9 u9 t H1 locs1 ht hvm hw hB hz hk hS => ?_)
  · obtain ⟨hE, hc0, hP1, hD1⟩ := hB
    rw [ht] at hP1
    obtain ⟨hP2, hD2⟩ := z_join (ws := [(o, .inl (cy 1, 1, .inr (.inl out)))]) (wc := xW cy a n V) (w1 := xW cy a n u.2.2) hP hD hk hfree hP1 hD1
    replace h := oi_f hc0 h
    by_cases ck : u.1 = 3
    · replace h := oi_t ck h
      rw [ck] at hE
      subst hE
      refine vx_catch hown [] ⟨0, 10, 13, 21⟩ [⟨0, 10, 17, 15⟩, ⟨0, 10, 21, 42⟩] (hT.trans rfl) (fun z hz => absurd hz List.not_mem_nil) rfl (by decide) (hts _ (List.mem_of_getElem? (i := 1) rfl)) (va_Nw.use rfl hZ.1.1.2.2.1) hce hcv hcl ?_
      refine W.eq (g2 := F0 m 13 ls [.ref q9]) rfl ?_
      refine lv_astore (lv' := [(4, .ref q9), (0, .ref (a.1 0)), (1, .int p1), (2, .int p2), (3, .ref o)]) hx hb dL_plan_13 hl (by decide) rfl (fun ls hl => ?_)
      refine lv_iconst (v := 1) hx hb dL_plan_15 (by decide) ?_
      cases h
      exact W.iret (v := 1) hx hb hr (fun t ht hW => ⟨⟨1, a, rfl, rfl, ⟨rfl, by rw [ht]; exact hP2, hD2⟩⟩, hS.F ht⟩) hS.2.2 dL_plan_16 hlocks
    replace h := oi_f ck h
    by_cases ck : u.1 = 2
    · replace h := oi_t ck h
      rw [ck] at hE
      subst hE
      refine vx_catch hown [⟨0, 10, 13, 21⟩] ⟨0, 10, 17, 15⟩ [⟨0, 10, 21, 42⟩] (hT.trans rfl) (by intro z hz; simp only [List.mem_cons, List.not_mem_nil, or_false] at hz; subst hz; exact Or.inr ⟨by decide, _, (hts _ (List.mem_of_getElem? (i := 1) rfl)), hC 2 3 (by decide)⟩) rfl (by decide) (hts _ (List.mem_of_getElem? (i := 2) rfl)) (va_Nw.use rfl hZ.1.1.2.1) hce hcv hcl ?_
      refine W.eq (g2 := F0 m 17 ls [.ref q9]) rfl ?_
      refine lv_astore (lv' := [(4, .ref q9), (0, .ref (a.1 0)), (1, .int p1), (2, .int p2), (3, .ref o)]) hx hb dL_plan_17 hl (by decide) rfl (fun ls hl => ?_)
      refine lv_iconst (v := 2) hx hb dL_plan_19 (by decide) ?_
      cases h
      exact W.iret (v := 2) hx hb hr (fun t ht hW => ⟨⟨2, a, rfl, rfl, ⟨rfl, by rw [ht]; exact hP2, hD2⟩⟩, hS.F ht⟩) hS.2.2 dL_plan_20 hlocks
    replace h := oi_f ck h
    by_cases ck : u.1 = 4
    · replace h := oi_t ck h
      rw [ck] at hE
      subst hE
      refine vx_catch hown [⟨0, 10, 13, 21⟩, ⟨0, 10, 17, 15⟩] ⟨0, 10, 21, 42⟩ [] (hT.trans rfl) (by intro z hz; simp only [List.mem_cons, List.not_mem_nil, or_false] at hz; rcases hz with rfl | rfl <;> first | exact Or.inr ⟨by decide, _, (hts _ (List.mem_of_getElem? (i := 1) rfl)), hC 4 3 (by decide)⟩ | exact Or.inr ⟨by decide, _, (hts _ (List.mem_of_getElem? (i := 2) rfl)), hC 4 2 (by decide)⟩) rfl (by decide) (hts _ (List.mem_of_getElem? (i := 3) rfl)) (va_Nw.use rfl hZ.1.1.2.2.2.1) hce hcv hcl ?_
      refine W.eq (g2 := F0 m 21 ls [.ref q9]) rfl ?_
      refine lv_astore (lv' := [(4, .ref q9), (0, .ref (a.1 0)), (1, .int p1), (2, .int p2), (3, .ref o)]) hx hb dL_plan_21 hl (by decide) rfl (fun ls hl => ?_)
      refine lv_iconst (v := 3) hx hb dL_plan_23 (by decide) ?_
      cases h
      exact W.iret (v := 3) hx hb hr (fun t ht hW => ⟨⟨3, a, rfl, rfl, ⟨rfl, by rw [ht]; exact hP2, hD2⟩⟩, hS.F ht⟩) hS.2.2 dL_plan_24 hlocks
    replace h := oi_f ck h
    cases h
  · obtain ⟨hP1, hD1⟩ := hB
    rw [ht] at hP1
    obtain ⟨hP2, hD2⟩ := z_join (ws := [(o, .inl (cy 1, 1, .inr (.inl out)))]) (wc := xW cy a n V) (w1 := xW cy a n u.2.2) hP hD hk hfree hP1 hD1
    replace h := oi_t hw.1 h
    rw [hw.2]
    refine lv_i2l (v := Int32.toInt64 u.2.1) hx hb dL_plan_8 rfl ?_
    refine va_last hx hb hK hP2 hD2 hS 0 1 rfl rfl (show vp_in 0 1 from by unfold vp_in; decide) dL_plan_9 (fun H2 locs2 hP hD hS => ?_)
    refine lv_goto (tgt := 25) hx hb dL_plan_10 (by decide) ?_
    refine lv_iconst (v := 0) hx hb dL_plan_25 (by decide) ?_
    cases h
    exact W.iret (v := 0) hx hb hr (fun t ht hW => ⟨⟨0, a, rfl, rfl, ⟨rfl, by rw [ht]; exact hP, hD⟩⟩, hS.F ht⟩) hS.2.2 dL_plan_26 hlocks

def f_L_planAt (n : Nat → Nat) (V : XV) (out : (Nat → Int64)) (p1 : Int32) (p2 : Int32) (p3 : Int32) : Option (Int32 × (Nat → Nat) × XV × (Nat → Int64)) := ob (f_X3_planAt n V p1 p2 p3) (fun u => oi (u.1 = 0) (some (0, n, u.2.2, vp_updL out ((0 : Int32)).toNatClampNeg (Int32.toInt64 u.2.1))) (oi (u.1 = 3) (some (1, n, u.2.2, out)) (oi (u.1 = 2) (some (2, n, u.2.2, out)) (oi (u.1 = 4) (some (3, n, u.2.2, out)) (none)))))
theorem hd_L_planAt : yL_planAt.cls ≠ "java/lang/invoke/MethodHandle" ∧ yL_planAt.cls ≠ "java/lang/invoke/VarHandle" ∧ (parseMethodDescriptor yL_planAt.desc).map (fun d => d.parameters.length) = some 5 := by decide +kernel
set_option maxHeartbeats 4000000 in
set_option maxRecDepth 100000 in
theorem c_L_planAt (l : Launch) (hl0 : l.stackTraces = false) (D : va_G) (cy : Nat → ClassId) (a : XA) (n : Nat → Nat) (V : XV) (o : Nat) (out : (Nat → Int64)) (sz : Nat) (p1 : Int32) (p2 : Int32) (p3 : Int32) {res : Int32 × (Nat → Nat) × XV × (Nat → Int64)} (h : f_L_planAt n V out p1 p2 p3 = some res) : Met l yL_planAt wsL_planAt ({ frames := 8, cells := 1, slots := 6, locals := 158 } : Room) (va_Pc [.ref (a.1 0), .int p1, .int p2, .int p3, .ref o] (zX sz (va_A ((o, .inl (cy 1, 1, .inr (.inl out))) :: xW cy a n V) sz) (lI D cy a n V ((o, .inl (cy 1, 1, .inr (.inl out))))))) (va_Qi (fun r (_ : XA) => r = res.1) (fun a1 t => a1.1 = a.1 ∧ va_P D xcl ((o, .inl (cy 1, 1, .inr (.inl res.2.2.2))) :: xW cy a1 res.2.1 res.2.2.1) t.heap ∧ va_D (va_A ((o, .inl (cy 1, 1, .inr (.inl out))) :: xW cy a n V) sz) ((o, .inl (cy 1, 1, .inr (.inl res.2.2.2))) :: xW cy a1 res.2.1 res.2.2.1)) (va_A ((o, .inl (cy 1, 1, .inr (.inl out))) :: xW cy a n V) sz)) 1 6 (va_A ((o, .inl (cy 1, 1, .inr (.inl out))) :: xW cy a n V) sz) := by
  refine z_ofWH (cc := cL_planAt) (maxL := 6) (ret := (some .int)) (hh := [(0, 12, 15, 21), (0, 12, 19, 15), (0, 12, 23, 42)]) (by decide) rfl ?_
  intro p e s m args below meth c s₁ B hml hv
  obtain ⟨rfl, hsz, hZ, hC, hP, hK, hD0⟩ := hv
  have hx := B.exec
  have hb := B.bytes
  have hr := B.returns
  have hts := atoms_spec (ws := wsL_planAt) B.pre
  have hown : s.vm.findClass RL = some m.cls := findClass_of_methodNamed B.named
  have hlocks := B.notSynchronized
  subst hsz
  have hT : c.exceptionTable.toList = tableOf [(0, 12, 15, 21), (0, 12, 19, 15), (0, 12, 23, 42)] := vx_table (x := objectInit) B (hts _ List.mem_cons_self)
  have hD := hD0.self (sz := s.heap.size)
  generalize hAe : va_A ((o, .inl (cy 1, 1, .inr (.inl out))) :: xW cy a n V) s.heap.size = A at hD hZ ⊢
  have hA : ∀ q : Nat, s.heap.size ≤ q → A q := fun q h => by rw [← hAe]; exact Or.inr h
  have hS : va_S A s.heap s.heap [] := va_S.rf
  have hPx : va_P D xcl (xW cy a n V) s.heap := lP_tail hP
  have hDx : va_D A (xW cy a n V) := lD_tail hD
  have hfree := z_free hDx hS hA
  have hl := lv_entry ([.ref (a.1 0), .int p1, .int p2, .int p3, .ref o]) (n := 6) (Nat.le_of_ble_eq_true rfl)
  rw [lg_entry_eq]
  generalize (lg_sl ([.ref (a.1 0), .int p1, .int p2, .int p3, .ref o]) ++ List.replicate (6 - (lg_sl ([.ref (a.1 0), .int p1, .int p2, .int p3, .ref o])).length) Slot.unset).toArray = ls at hl ⊢
  have hl : lv_has ls 6 [(0, .ref (a.1 0)), (1, .int p1), (2, .int p2), (3, .int p3), (4, .ref o)] := hl
  refine lv_aload hx hb dL_planAt_0 (lv_at hl 4 rfl) ?_
  refine lv_iconst (v := 0) hx hb dL_planAt_2 (by decide) ?_
  refine lv_aload_n hx hb dL_planAt_3 rfl (lv_at hl 0 rfl) ?_
  refine lv_iload_n hx hb dL_planAt_4 rfl (lv_at hl 1 rfl) ?_
  refine lv_iload_n hx hb dL_planAt_5 rfl (lv_at hl 2 rfl) ?_
  refine lv_iload_n hx hb dL_planAt_6 rfl (lv_at hl 3 rfl) ?_
  obtain ⟨u, hg, h⟩ := ob_some h
  refine vx_calli (vx_runV (As := [.int p1, .int p2, .int p3]) (rest := [.int 0, .ref o]) ⟨hx, hb, hml, hown, hts⟩ (c_X3_planAt l hl0 D cy a n V s.heap.size p1 p2 p3 hg) (cwV 3 hts gL_planAt_X3_planAt rfl rfl rfl hd_X3_planAt ⟨Nat.le_of_ble_eq_true rfl, Nat.le_of_ble_eq_true rfl⟩) ⟨zX_blind xI_blind, va_recv hK hPx (ci := 3) (q0 := 0) rfl rfl, zX_at (lZ_narrow hZ hfree) (xI_at hPx hK hDx)⟩ rfl rfl hl.1 rfl (lv_room (Nat.le_of_ble_eq_true rfl)) dL_planAt_7 ⟨Nat.le_of_ble_eq_true rfl, Nat.le_of_ble_eq_true rfl⟩) hS (fun q _ h => hfree q h) hfree (fun q _ h => hfree q h) (fun E ce q9 u9 t H1 locs1 ht hvm hp9 hB hz hk hS hce hcv hcl => ?_) (fun r9 u9 t H1 locs1 ht hvm hw hB hz hk hS => ?_)
  · obtain ⟨hE, hc0, hP1, hD1⟩ := hB
    rw [ht] at hP1
    obtain ⟨hP2, hD2⟩ := z_join (ws := [(o, .inl (cy 1, 1, .inr (.inl out)))]) (wc := xW cy a n V) (w1 := xW cy a n u.2.2) hP hD hk hfree hP1 hD1
    replace h := oi_f hc0 h
    by_cases ck : u.1 = 3
    · replace h := oi_t ck h
      rw [ck] at hE
      subst hE
      refine vx_catch hown [] ⟨0, 12, 15, 21⟩ [⟨0, 12, 19, 15⟩, ⟨0, 12, 23, 42⟩] (hT.trans rfl) (fun z hz => absurd hz List.not_mem_nil) rfl (by decide) (hts _ (List.mem_of_getElem? (i := 1) rfl)) (va_Nw.use rfl hZ.1.1.2.2.1) hce hcv hcl ?_
      refine W.eq (g2 := F0 m 15 ls [.ref q9]) rfl ?_
      refine lv_astore (lv' := [(5, .ref q9), (0, .ref (a.1 0)), (1, .int p1), (2, .int p2), (3, .int p3), (4, .ref o)]) hx hb dL_planAt_15 hl (by decide) rfl (fun ls hl => ?_)
      refine lv_iconst (v := 1) hx hb dL_planAt_17 (by decide) ?_
      cases h
      exact W.iret (v := 1) hx hb hr (fun t ht hW => ⟨⟨1, a, rfl, rfl, ⟨rfl, by rw [ht]; exact hP2, hD2⟩⟩, hS.F ht⟩) hS.2.2 dL_planAt_18 hlocks
    replace h := oi_f ck h
    by_cases ck : u.1 = 2
    · replace h := oi_t ck h
      rw [ck] at hE
      subst hE
      refine vx_catch hown [⟨0, 12, 15, 21⟩] ⟨0, 12, 19, 15⟩ [⟨0, 12, 23, 42⟩] (hT.trans rfl) (by intro z hz; simp only [List.mem_cons, List.not_mem_nil, or_false] at hz; subst hz; exact Or.inr ⟨by decide, _, (hts _ (List.mem_of_getElem? (i := 1) rfl)), hC 2 3 (by decide)⟩) rfl (by decide) (hts _ (List.mem_of_getElem? (i := 2) rfl)) (va_Nw.use rfl hZ.1.1.2.1) hce hcv hcl ?_
      refine W.eq (g2 := F0 m 19 ls [.ref q9]) rfl ?_
      refine lv_astore (lv' := [(5, .ref q9), (0, .ref (a.1 0)), (1, .int p1), (2, .int p2), (3, .int p3), (4, .ref o)]) hx hb dL_planAt_19 hl (by decide) rfl (fun ls hl => ?_)
      refine lv_iconst (v := 2) hx hb dL_planAt_21 (by decide) ?_
      cases h
      exact W.iret (v := 2) hx hb hr (fun t ht hW => ⟨⟨2, a, rfl, rfl, ⟨rfl, by rw [ht]; exact hP2, hD2⟩⟩, hS.F ht⟩) hS.2.2 dL_planAt_22 hlocks
    replace h := oi_f ck h
    by_cases ck : u.1 = 4
    · replace h := oi_t ck h
      rw [ck] at hE
      subst hE
      refine vx_catch hown [⟨0, 12, 15, 21⟩, ⟨0, 12, 19, 15⟩] ⟨0, 12, 23, 42⟩ [] (hT.trans rfl) (by intro z hz; simp only [List.mem_cons, List.not_mem_nil, or_false] at hz; rcases hz with rfl | rfl <;> first | exact Or.inr ⟨by decide, _, (hts _ (List.mem_of_getElem? (i := 1) rfl)), hC 4 3 (by decide)⟩ | exact Or.inr ⟨by decide, _, (hts _ (List.mem_of_getElem? (i := 2) rfl)), hC 4 2 (by decide)⟩) rfl (by decide) (hts _ (List.mem_of_getElem? (i := 3) rfl)) (va_Nw.use rfl hZ.1.1.2.2.2.1) hce hcv hcl ?_
      refine W.eq (g2 := F0 m 23 ls [.ref q9]) rfl ?_
      refine lv_astore (lv' := [(5, .ref q9), (0, .ref (a.1 0)), (1, .int p1), (2, .int p2), (3, .int p3), (4, .ref o)]) hx hb dL_planAt_23 hl (by decide) rfl (fun ls hl => ?_)
      refine lv_iconst (v := 3) hx hb dL_planAt_25 (by decide) ?_
      cases h
      exact W.iret (v := 3) hx hb hr (fun t ht hW => ⟨⟨3, a, rfl, rfl, ⟨rfl, by rw [ht]; exact hP2, hD2⟩⟩, hS.F ht⟩) hS.2.2 dL_planAt_26 hlocks
    replace h := oi_f ck h
    cases h
  · obtain ⟨hP1, hD1⟩ := hB
    rw [ht] at hP1
    obtain ⟨hP2, hD2⟩ := z_join (ws := [(o, .inl (cy 1, 1, .inr (.inl out)))]) (wc := xW cy a n V) (w1 := xW cy a n u.2.2) hP hD hk hfree hP1 hD1
    replace h := oi_t hw.1 h
    rw [hw.2]
    refine lv_i2l (v := Int32.toInt64 u.2.1) hx hb dL_planAt_10 rfl ?_
    refine va_last hx hb hK hP2 hD2 hS 0 1 rfl rfl (show vp_in 0 1 from by unfold vp_in; decide) dL_planAt_11 (fun H2 locs2 hP hD hS => ?_)
    refine lv_goto (tgt := 27) hx hb dL_planAt_12 (by decide) ?_
    refine lv_iconst (v := 0) hx hb dL_planAt_27 (by decide) ?_
    cases h
    exact W.iret (v := 0) hx hb hr (fun t ht hW => ⟨⟨0, a, rfl, rfl, ⟨rfl, by rw [ht]; exact hP, hD⟩⟩, hS.F ht⟩) hS.2.2 dL_planAt_28 hlocks

def f_L_planPour (n : Nat → Nat) (V : XV) (out : (Nat → Int64)) (p1 : Int32) (p2 : Int32) : Option (Int32 × (Nat → Nat) × XV × (Nat → Int64)) := ob (f_X3_planPour n V p1 p2) (fun u => oi (u.1 = 0) (some (0, n, u.2.2, vp_updL out ((0 : Int32)).toNatClampNeg (Int32.toInt64 u.2.1))) (oi (u.1 = 3) (some (1, n, u.2.2, out)) (oi (u.1 = 2) (some (2, n, u.2.2, out)) (oi (u.1 = 4) (some (3, n, u.2.2, out)) (none)))))
theorem hd_L_planPour : yL_planPour.cls ≠ "java/lang/invoke/MethodHandle" ∧ yL_planPour.cls ≠ "java/lang/invoke/VarHandle" ∧ (parseMethodDescriptor yL_planPour.desc).map (fun d => d.parameters.length) = some 4 := by decide +kernel
set_option maxHeartbeats 4000000 in
set_option maxRecDepth 100000 in
theorem c_L_planPour (l : Launch) (hl0 : l.stackTraces = false) (D : va_G) (cy : Nat → ClassId) (a : XA) (n : Nat → Nat) (V : XV) (o : Nat) (out : (Nat → Int64)) (sz : Nat) (p1 : Int32) (p2 : Int32) {res : Int32 × (Nat → Nat) × XV × (Nat → Int64)} (h : f_L_planPour n V out p1 p2 = some res) : Met l yL_planPour wsL_planPour ({ frames := 8, cells := 1, slots := 6, locals := 183 } : Room) (va_Pc [.ref (a.1 0), .int p1, .int p2, .ref o] (zX sz (va_A ((o, .inl (cy 1, 1, .inr (.inl out))) :: xW cy a n V) sz) (lI D cy a n V ((o, .inl (cy 1, 1, .inr (.inl out))))))) (va_Qi (fun r (_ : XA) => r = res.1) (fun a1 t => a1.1 = a.1 ∧ va_P D xcl ((o, .inl (cy 1, 1, .inr (.inl res.2.2.2))) :: xW cy a1 res.2.1 res.2.2.1) t.heap ∧ va_D (va_A ((o, .inl (cy 1, 1, .inr (.inl out))) :: xW cy a n V) sz) ((o, .inl (cy 1, 1, .inr (.inl res.2.2.2))) :: xW cy a1 res.2.1 res.2.2.1)) (va_A ((o, .inl (cy 1, 1, .inr (.inl out))) :: xW cy a n V) sz)) 1 6 (va_A ((o, .inl (cy 1, 1, .inr (.inl out))) :: xW cy a n V) sz) := by
  refine z_ofWH (cc := cL_planPour) (maxL := 5) (ret := (some .int)) (hh := [(0, 10, 13, 21), (0, 10, 17, 15), (0, 10, 21, 42)]) (by decide) rfl ?_
  intro p e s m args below meth c s₁ B hml hv
  obtain ⟨rfl, hsz, hZ, hC, hP, hK, hD0⟩ := hv
  have hx := B.exec
  have hb := B.bytes
  have hr := B.returns
  have hts := atoms_spec (ws := wsL_planPour) B.pre
  have hown : s.vm.findClass RL = some m.cls := findClass_of_methodNamed B.named
  have hlocks := B.notSynchronized
  subst hsz
  have hT : c.exceptionTable.toList = tableOf [(0, 10, 13, 21), (0, 10, 17, 15), (0, 10, 21, 42)] := vx_table (x := objectInit) B (hts _ List.mem_cons_self)
  have hD := hD0.self (sz := s.heap.size)
  generalize hAe : va_A ((o, .inl (cy 1, 1, .inr (.inl out))) :: xW cy a n V) s.heap.size = A at hD hZ ⊢
  have hA : ∀ q : Nat, s.heap.size ≤ q → A q := fun q h => by rw [← hAe]; exact Or.inr h
  have hS : va_S A s.heap s.heap [] := va_S.rf
  have hPx : va_P D xcl (xW cy a n V) s.heap := lP_tail hP
  have hDx : va_D A (xW cy a n V) := lD_tail hD
  have hfree := z_free hDx hS hA
  have hl := lv_entry ([.ref (a.1 0), .int p1, .int p2, .ref o]) (n := 5) (Nat.le_of_ble_eq_true rfl)
  rw [lg_entry_eq]
  generalize (lg_sl ([.ref (a.1 0), .int p1, .int p2, .ref o]) ++ List.replicate (5 - (lg_sl ([.ref (a.1 0), .int p1, .int p2, .ref o])).length) Slot.unset).toArray = ls at hl ⊢
  have hl : lv_has ls 5 [(0, .ref (a.1 0)), (1, .int p1), (2, .int p2), (3, .ref o)] := hl
  refine lv_aload_n hx hb dL_planPour_0 rfl (lv_at hl 3 rfl) ?_
  refine lv_iconst (v := 0) hx hb dL_planPour_1 (by decide) ?_
  refine lv_aload_n hx hb dL_planPour_2 rfl (lv_at hl 0 rfl) ?_
  refine lv_iload_n hx hb dL_planPour_3 rfl (lv_at hl 1 rfl) ?_
  refine lv_iload_n hx hb dL_planPour_4 rfl (lv_at hl 2 rfl) ?_
  obtain ⟨u, hg, h⟩ := ob_some h
  refine vx_calli (vx_runV (As := [.int p1, .int p2]) (rest := [.int 0, .ref o]) ⟨hx, hb, hml, hown, hts⟩ (c_X3_planPour l hl0 D cy a n V s.heap.size p1 p2 hg) (cwV 2 hts gL_planPour_X3_planPour rfl rfl rfl hd_X3_planPour ⟨Nat.le_of_ble_eq_true rfl, Nat.le_of_ble_eq_true rfl⟩) ⟨zX_blind xI_blind, va_recv hK hPx (ci := 3) (q0 := 0) rfl rfl, zX_at (lZ_narrow hZ hfree) (xI_at hPx hK hDx)⟩ rfl rfl hl.1 rfl (lv_room (Nat.le_of_ble_eq_true rfl)) dL_planPour_5 ⟨Nat.le_of_ble_eq_true rfl, Nat.le_of_ble_eq_true rfl⟩) hS (fun q _ h => hfree q h) hfree (fun q _ h => hfree q h) (fun E ce q9 u9 t H1 locs1 ht hvm hp9 hB hz hk hS hce hcv hcl => ?_) (fun r9 u9 t H1 locs1 ht hvm hw hB hz hk hS => ?_)
  · obtain ⟨hE, hc0, hP1, hD1⟩ := hB
    rw [ht] at hP1
    obtain ⟨hP2, hD2⟩ := z_join (ws := [(o, .inl (cy 1, 1, .inr (.inl out)))]) (wc := xW cy a n V) (w1 := xW cy a n u.2.2) hP hD hk hfree hP1 hD1
    replace h := oi_f hc0 h
    by_cases ck : u.1 = 3
    · replace h := oi_t ck h
      rw [ck] at hE
      subst hE
      refine vx_catch hown [] ⟨0, 10, 13, 21⟩ [⟨0, 10, 17, 15⟩, ⟨0, 10, 21, 42⟩] (hT.trans rfl) (fun z hz => absurd hz List.not_mem_nil) rfl (by decide) (hts _ (List.mem_of_getElem? (i := 1) rfl)) (va_Nw.use rfl hZ.1.1.2.2.1) hce hcv hcl ?_
      refine W.eq (g2 := F0 m 13 ls [.ref q9]) rfl ?_
      refine lv_astore (lv' := [(4, .ref q9), (0, .ref (a.1 0)), (1, .int p1), (2, .int p2), (3, .ref o)]) hx hb dL_planPour_13 hl (by decide) rfl (fun ls hl => ?_)
      refine lv_iconst (v := 1) hx hb dL_planPour_15 (by decide) ?_
      cases h
      exact W.iret (v := 1) hx hb hr (fun t ht hW => ⟨⟨1, a, rfl, rfl, ⟨rfl, by rw [ht]; exact hP2, hD2⟩⟩, hS.F ht⟩) hS.2.2 dL_planPour_16 hlocks
    replace h := oi_f ck h
    by_cases ck : u.1 = 2
    · replace h := oi_t ck h
      rw [ck] at hE
      subst hE
      refine vx_catch hown [⟨0, 10, 13, 21⟩] ⟨0, 10, 17, 15⟩ [⟨0, 10, 21, 42⟩] (hT.trans rfl) (by intro z hz; simp only [List.mem_cons, List.not_mem_nil, or_false] at hz; subst hz; exact Or.inr ⟨by decide, _, (hts _ (List.mem_of_getElem? (i := 1) rfl)), hC 2 3 (by decide)⟩) rfl (by decide) (hts _ (List.mem_of_getElem? (i := 2) rfl)) (va_Nw.use rfl hZ.1.1.2.1) hce hcv hcl ?_
      refine W.eq (g2 := F0 m 17 ls [.ref q9]) rfl ?_
      refine lv_astore (lv' := [(4, .ref q9), (0, .ref (a.1 0)), (1, .int p1), (2, .int p2), (3, .ref o)]) hx hb dL_planPour_17 hl (by decide) rfl (fun ls hl => ?_)
      refine lv_iconst (v := 2) hx hb dL_planPour_19 (by decide) ?_
      cases h
      exact W.iret (v := 2) hx hb hr (fun t ht hW => ⟨⟨2, a, rfl, rfl, ⟨rfl, by rw [ht]; exact hP2, hD2⟩⟩, hS.F ht⟩) hS.2.2 dL_planPour_20 hlocks
    replace h := oi_f ck h
    by_cases ck : u.1 = 4
    · replace h := oi_t ck h
      rw [ck] at hE
      subst hE
      refine vx_catch hown [⟨0, 10, 13, 21⟩, ⟨0, 10, 17, 15⟩] ⟨0, 10, 21, 42⟩ [] (hT.trans rfl) (by intro z hz; simp only [List.mem_cons, List.not_mem_nil, or_false] at hz; rcases hz with rfl | rfl <;> first | exact Or.inr ⟨by decide, _, (hts _ (List.mem_of_getElem? (i := 1) rfl)), hC 4 3 (by decide)⟩ | exact Or.inr ⟨by decide, _, (hts _ (List.mem_of_getElem? (i := 2) rfl)), hC 4 2 (by decide)⟩) rfl (by decide) (hts _ (List.mem_of_getElem? (i := 3) rfl)) (va_Nw.use rfl hZ.1.1.2.2.2.1) hce hcv hcl ?_
      refine W.eq (g2 := F0 m 21 ls [.ref q9]) rfl ?_
      refine lv_astore (lv' := [(4, .ref q9), (0, .ref (a.1 0)), (1, .int p1), (2, .int p2), (3, .ref o)]) hx hb dL_planPour_21 hl (by decide) rfl (fun ls hl => ?_)
      refine lv_iconst (v := 3) hx hb dL_planPour_23 (by decide) ?_
      cases h
      exact W.iret (v := 3) hx hb hr (fun t ht hW => ⟨⟨3, a, rfl, rfl, ⟨rfl, by rw [ht]; exact hP2, hD2⟩⟩, hS.F ht⟩) hS.2.2 dL_planPour_24 hlocks
    replace h := oi_f ck h
    cases h
  · obtain ⟨hP1, hD1⟩ := hB
    rw [ht] at hP1
    obtain ⟨hP2, hD2⟩ := z_join (ws := [(o, .inl (cy 1, 1, .inr (.inl out)))]) (wc := xW cy a n V) (w1 := xW cy a n u.2.2) hP hD hk hfree hP1 hD1
    replace h := oi_t hw.1 h
    rw [hw.2]
    refine lv_i2l (v := Int32.toInt64 u.2.1) hx hb dL_planPour_8 rfl ?_
    refine va_last hx hb hK hP2 hD2 hS 0 1 rfl rfl (show vp_in 0 1 from by unfold vp_in; decide) dL_planPour_9 (fun H2 locs2 hP hD hS => ?_)
    refine lv_goto (tgt := 25) hx hb dL_planPour_10 (by decide) ?_
    refine lv_iconst (v := 0) hx hb dL_planPour_25 (by decide) ?_
    cases h
    exact W.iret (v := 0) hx hb hr (fun t ht hW => ⟨⟨0, a, rfl, rfl, ⟨rfl, by rw [ht]; exact hP, hD⟩⟩, hS.F ht⟩) hS.2.2 dL_planPour_26 hlocks

def f_L_unplan (n : Nat → Nat) (V : XV) (out : (Nat → Int64)) (p1 : Int32) : Option (Int32 × (Nat → Nat) × XV × (Nat → Int64)) := ob (f_X3_unplan n V p1) (fun u => oi (u.1 = 0) (some (0, n, u.2.2, vp_updL out ((0 : Int32)).toNatClampNeg (Int32.toInt64 u.2.1))) (oi (u.1 = 3) (some (1, n, u.2.2, out)) (oi (u.1 = 2) (some (2, n, u.2.2, out)) (none))))
theorem hd_L_unplan : yL_unplan.cls ≠ "java/lang/invoke/MethodHandle" ∧ yL_unplan.cls ≠ "java/lang/invoke/VarHandle" ∧ (parseMethodDescriptor yL_unplan.desc).map (fun d => d.parameters.length) = some 3 := by decide +kernel
set_option maxHeartbeats 4000000 in
set_option maxRecDepth 100000 in
theorem c_L_unplan (l : Launch) (hl0 : l.stackTraces = false) (D : va_G) (cy : Nat → ClassId) (a : XA) (n : Nat → Nat) (V : XV) (o : Nat) (out : (Nat → Int64)) (sz : Nat) (p1 : Int32) {res : Int32 × (Nat → Nat) × XV × (Nat → Int64)} (h : f_L_unplan n V out p1 = some res) : Met l yL_unplan wsL_unplan ({ frames := 8, cells := 1, slots := 6, locals := 147 } : Room) (va_Pc [.ref (a.1 0), .int p1, .ref o] (zX sz (va_A ((o, .inl (cy 1, 1, .inr (.inl out))) :: xW cy a n V) sz) (lI D cy a n V ((o, .inl (cy 1, 1, .inr (.inl out))))))) (va_Qi (fun r (_ : XA) => r = res.1) (fun a1 t => a1.1 = a.1 ∧ va_P D xcl ((o, .inl (cy 1, 1, .inr (.inl res.2.2.2))) :: xW cy a1 res.2.1 res.2.2.1) t.heap ∧ va_D (va_A ((o, .inl (cy 1, 1, .inr (.inl out))) :: xW cy a n V) sz) ((o, .inl (cy 1, 1, .inr (.inl res.2.2.2))) :: xW cy a1 res.2.1 res.2.2.1)) (va_A ((o, .inl (cy 1, 1, .inr (.inl out))) :: xW cy a n V) sz)) 1 6 (va_A ((o, .inl (cy 1, 1, .inr (.inl out))) :: xW cy a n V) sz) := by
  refine z_ofWH (cc := cL_unplan) (maxL := 4) (ret := (some .int)) (hh := [(0, 9, 12, 21), (0, 9, 15, 15)]) (by decide) rfl ?_
  intro p e s m args below meth c s₁ B hml hv
  obtain ⟨rfl, hsz, hZ, hC, hP, hK, hD0⟩ := hv
  have hx := B.exec
  have hb := B.bytes
  have hr := B.returns
  have hts := atoms_spec (ws := wsL_unplan) B.pre
  have hown : s.vm.findClass RL = some m.cls := findClass_of_methodNamed B.named
  have hlocks := B.notSynchronized
  subst hsz
  have hT : c.exceptionTable.toList = tableOf [(0, 9, 12, 21), (0, 9, 15, 15)] := vx_table (x := objectInit) B (hts _ List.mem_cons_self)
  have hD := hD0.self (sz := s.heap.size)
  generalize hAe : va_A ((o, .inl (cy 1, 1, .inr (.inl out))) :: xW cy a n V) s.heap.size = A at hD hZ ⊢
  have hA : ∀ q : Nat, s.heap.size ≤ q → A q := fun q h => by rw [← hAe]; exact Or.inr h
  have hS : va_S A s.heap s.heap [] := va_S.rf
  have hPx : va_P D xcl (xW cy a n V) s.heap := lP_tail hP
  have hDx : va_D A (xW cy a n V) := lD_tail hD
  have hfree := z_free hDx hS hA
  have hl := lv_entry ([.ref (a.1 0), .int p1, .ref o]) (n := 4) (Nat.le_of_ble_eq_true rfl)
  rw [lg_entry_eq]
  generalize (lg_sl ([.ref (a.1 0), .int p1, .ref o]) ++ List.replicate (4 - (lg_sl ([.ref (a.1 0), .int p1, .ref o])).length) Slot.unset).toArray = ls at hl ⊢
  have hl : lv_has ls 4 [(0, .ref (a.1 0)), (1, .int p1), (2, .ref o)] := hl
  refine lv_aload_n hx hb dL_unplan_0 rfl (lv_at hl 2 rfl) ?_
  refine lv_iconst (v := 0) hx hb dL_unplan_1 (by decide) ?_
  refine lv_aload_n hx hb dL_unplan_2 rfl (lv_at hl 0 rfl) ?_
  refine lv_iload_n hx hb dL_unplan_3 rfl (lv_at hl 1 rfl) ?_
  obtain ⟨u, hg, h⟩ := ob_some h
  refine vx_calli (vx_runV (As := [.int p1]) (rest := [.int 0, .ref o]) ⟨hx, hb, hml, hown, hts⟩ (c_X3_unplan l hl0 D cy a n V s.heap.size p1 hg) (cwV 1 hts gL_unplan_X3_unplan rfl rfl rfl hd_X3_unplan ⟨Nat.le_of_ble_eq_true rfl, Nat.le_of_ble_eq_true rfl⟩) ⟨zX_blind xI_blind, va_recv hK hPx (ci := 3) (q0 := 0) rfl rfl, zX_at (lZ_narrow hZ hfree) (xI_at hPx hK hDx)⟩ rfl rfl hl.1 rfl (lv_room (Nat.le_of_ble_eq_true rfl)) dL_unplan_4 ⟨Nat.le_of_ble_eq_true rfl, Nat.le_of_ble_eq_true rfl⟩) hS (fun q _ h => hfree q h) hfree (fun q _ h => hfree q h) (fun E ce q9 u9 t H1 locs1 ht hvm hp9 hB hz hk hS hce hcv hcl => ?_) (fun r9 u9 t H1 locs1 ht hvm hw hB hz hk hS => ?_)
  · obtain ⟨hE, hc0, hP1, hD1⟩ := hB
    rw [ht] at hP1
    obtain ⟨hP2, hD2⟩ := z_join (ws := [(o, .inl (cy 1, 1, .inr (.inl out)))]) (wc := xW cy a n V) (w1 := xW cy a n u.2.2) hP hD hk hfree hP1 hD1
    replace h := oi_f hc0 h
    by_cases ck : u.1 = 3
    · replace h := oi_t ck h
      rw [ck] at hE
      subst hE
      refine vx_catch hown [] ⟨0, 9, 12, 21⟩ [⟨0, 9, 15, 15⟩] (hT.trans rfl) (fun z hz => absurd hz List.not_mem_nil) rfl (by decide) (hts _ (List.mem_of_getElem? (i := 1) rfl)) (va_Nw.use rfl hZ.1.1.2.2.1) hce hcv hcl ?_
      refine W.eq (g2 := F0 m 12 ls [.ref q9]) rfl ?_
      refine lv_astore_n (lv' := [(3, .ref q9), (0, .ref (a.1 0)), (1, .int p1), (2, .ref o)]) hx hb dL_unplan_12 rfl hl (by decide) rfl (fun ls hl => ?_)
      refine lv_iconst (v := 1) hx hb dL_unplan_13 (by decide) ?_
      cases h
      exact W.iret (v := 1) hx hb hr (fun t ht hW => ⟨⟨1, a, rfl, rfl, ⟨rfl, by rw [ht]; exact hP2, hD2⟩⟩, hS.F ht⟩) hS.2.2 dL_unplan_14 hlocks
    replace h := oi_f ck h
    by_cases ck : u.1 = 2
    · replace h := oi_t ck h
      rw [ck] at hE
      subst hE
      refine vx_catch hown [⟨0, 9, 12, 21⟩] ⟨0, 9, 15, 15⟩ [] (hT.trans rfl) (by intro z hz; simp only [List.mem_cons, List.not_mem_nil, or_false] at hz; subst hz; exact Or.inr ⟨by decide, _, (hts _ (List.mem_of_getElem? (i := 1) rfl)), hC 2 3 (by decide)⟩) rfl (by decide) (hts _ (List.mem_of_getElem? (i := 2) rfl)) (va_Nw.use rfl hZ.1.1.2.1) hce hcv hcl ?_
      refine W.eq (g2 := F0 m 15 ls [.ref q9]) rfl ?_
      refine lv_astore_n (lv' := [(3, .ref q9), (0, .ref (a.1 0)), (1, .int p1), (2, .ref o)]) hx hb dL_unplan_15 rfl hl (by decide) rfl (fun ls hl => ?_)
      refine lv_iconst (v := 2) hx hb dL_unplan_16 (by decide) ?_
      cases h
      exact W.iret (v := 2) hx hb hr (fun t ht hW => ⟨⟨2, a, rfl, rfl, ⟨rfl, by rw [ht]; exact hP2, hD2⟩⟩, hS.F ht⟩) hS.2.2 dL_unplan_17 hlocks
    replace h := oi_f ck h
    cases h
  · obtain ⟨hP1, hD1⟩ := hB
    rw [ht] at hP1
    obtain ⟨hP2, hD2⟩ := z_join (ws := [(o, .inl (cy 1, 1, .inr (.inl out)))]) (wc := xW cy a n V) (w1 := xW cy a n u.2.2) hP hD hk hfree hP1 hD1
    replace h := oi_t hw.1 h
    rw [hw.2]
    refine lv_i2l (v := Int32.toInt64 u.2.1) hx hb dL_unplan_7 rfl ?_
    refine va_last hx hb hK hP2 hD2 hS 0 1 rfl rfl (show vp_in 0 1 from by unfold vp_in; decide) dL_unplan_8 (fun H2 locs2 hP hD hS => ?_)
    refine lv_goto (tgt := 18) hx hb dL_unplan_9 (by decide) ?_
    refine lv_iconst (v := 0) hx hb dL_unplan_18 (by decide) ?_
    cases h
    exact W.iret (v := 0) hx hb hr (fun t ht hW => ⟨⟨0, a, rfl, rfl, ⟨rfl, by rw [ht]; exact hP, hD⟩⟩, hS.F ht⟩) hS.2.2 dL_unplan_19 hlocks

def f_L_pass (n : Nat → Nat) (V : XV) (out : (Nat → Int64)) (p1 : Int32) : Option (Int32 × (Nat → Nat) × XV × (Nat → Int64)) := ob (f_X3_pass n V p1) (fun u => oi (u.1 = 0) (some (0, n, u.2.2, vp_updL out ((0 : Int32)).toNatClampNeg (Int32.toInt64 u.2.1))) (oi (u.1 = 1) (some (1, n, u.2.2, out)) (oi (u.1 = 2) (some (2, n, u.2.2, out)) (none))))
theorem hd_L_pass : yL_pass.cls ≠ "java/lang/invoke/MethodHandle" ∧ yL_pass.cls ≠ "java/lang/invoke/VarHandle" ∧ (parseMethodDescriptor yL_pass.desc).map (fun d => d.parameters.length) = some 3 := by decide +kernel
set_option maxHeartbeats 4000000 in
set_option maxRecDepth 100000 in
theorem c_L_pass (l : Launch) (hl0 : l.stackTraces = false) (D : va_G) (cy : Nat → ClassId) (a : XA) (n : Nat → Nat) (V : XV) (o : Nat) (out : (Nat → Int64)) (sz : Nat) (p1 : Int32) {res : Int32 × (Nat → Nat) × XV × (Nat → Int64)} (h : f_L_pass n V out p1 = some res) : Met l yL_pass wsL_pass ({ frames := 8, cells := 1, slots := 6, locals := 146 } : Room) (va_Pc [.ref (a.1 0), .int p1, .ref o] (zX sz (va_A ((o, .inl (cy 1, 1, .inr (.inl out))) :: xW cy a n V) sz) (lI D cy a n V ((o, .inl (cy 1, 1, .inr (.inl out))))))) (va_Qi (fun r (_ : XA) => r = res.1) (fun a1 t => a1.1 = a.1 ∧ va_P D xcl ((o, .inl (cy 1, 1, .inr (.inl res.2.2.2))) :: xW cy a1 res.2.1 res.2.2.1) t.heap ∧ va_D (va_A ((o, .inl (cy 1, 1, .inr (.inl out))) :: xW cy a n V) sz) ((o, .inl (cy 1, 1, .inr (.inl res.2.2.2))) :: xW cy a1 res.2.1 res.2.2.1)) (va_A ((o, .inl (cy 1, 1, .inr (.inl out))) :: xW cy a n V) sz)) 1 6 (va_A ((o, .inl (cy 1, 1, .inr (.inl out))) :: xW cy a n V) sz) := by
  refine z_ofWH (cc := cL_pass) (maxL := 4) (ret := (some .int)) (hh := [(0, 9, 12, 13), (0, 9, 15, 15)]) (by decide) rfl ?_
  intro p e s m args below meth c s₁ B hml hv
  obtain ⟨rfl, hsz, hZ, hC, hP, hK, hD0⟩ := hv
  have hx := B.exec
  have hb := B.bytes
  have hr := B.returns
  have hts := atoms_spec (ws := wsL_pass) B.pre
  have hown : s.vm.findClass RL = some m.cls := findClass_of_methodNamed B.named
  have hlocks := B.notSynchronized
  subst hsz
  have hT : c.exceptionTable.toList = tableOf [(0, 9, 12, 13), (0, 9, 15, 15)] := vx_table (x := objectInit) B (hts _ List.mem_cons_self)
  have hD := hD0.self (sz := s.heap.size)
  generalize hAe : va_A ((o, .inl (cy 1, 1, .inr (.inl out))) :: xW cy a n V) s.heap.size = A at hD hZ ⊢
  have hA : ∀ q : Nat, s.heap.size ≤ q → A q := fun q h => by rw [← hAe]; exact Or.inr h
  have hS : va_S A s.heap s.heap [] := va_S.rf
  have hPx : va_P D xcl (xW cy a n V) s.heap := lP_tail hP
  have hDx : va_D A (xW cy a n V) := lD_tail hD
  have hfree := z_free hDx hS hA
  have hl := lv_entry ([.ref (a.1 0), .int p1, .ref o]) (n := 4) (Nat.le_of_ble_eq_true rfl)
  rw [lg_entry_eq]
  generalize (lg_sl ([.ref (a.1 0), .int p1, .ref o]) ++ List.replicate (4 - (lg_sl ([.ref (a.1 0), .int p1, .ref o])).length) Slot.unset).toArray = ls at hl ⊢
  have hl : lv_has ls 4 [(0, .ref (a.1 0)), (1, .int p1), (2, .ref o)] := hl
  refine lv_aload_n hx hb dL_pass_0 rfl (lv_at hl 2 rfl) ?_
  refine lv_iconst (v := 0) hx hb dL_pass_1 (by decide) ?_
  refine lv_aload_n hx hb dL_pass_2 rfl (lv_at hl 0 rfl) ?_
  refine lv_iload_n hx hb dL_pass_3 rfl (lv_at hl 1 rfl) ?_
  obtain ⟨u, hg, h⟩ := ob_some h
  refine vx_calli (vx_runV (As := [.int p1]) (rest := [.int 0, .ref o]) ⟨hx, hb, hml, hown, hts⟩ (c_X3_pass l hl0 D cy a n V s.heap.size p1 hg) (cwV 1 hts gL_pass_X3_pass rfl rfl rfl hd_X3_pass ⟨Nat.le_of_ble_eq_true rfl, Nat.le_of_ble_eq_true rfl⟩) ⟨zX_blind xI_blind, va_recv hK hPx (ci := 3) (q0 := 0) rfl rfl, zX_at (lZ_narrow hZ hfree) (xI_at hPx hK hDx)⟩ rfl rfl hl.1 rfl (lv_room (Nat.le_of_ble_eq_true rfl)) dL_pass_4 ⟨Nat.le_of_ble_eq_true rfl, Nat.le_of_ble_eq_true rfl⟩) hS (fun q _ h => hfree q h) hfree (fun q _ h => hfree q h) (fun E ce q9 u9 t H1 locs1 ht hvm hp9 hB hz hk hS hce hcv hcl => ?_) (fun r9 u9 t H1 locs1 ht hvm hw hB hz hk hS => ?_)
  · obtain ⟨hE, hc0, hP1, hD1⟩ := hB
    rw [ht] at hP1
    obtain ⟨hP2, hD2⟩ := z_join (ws := [(o, .inl (cy 1, 1, .inr (.inl out)))]) (wc := xW cy a n V) (w1 := xW cy a n u.2.2) hP hD hk hfree hP1 hD1
    replace h := oi_f hc0 h
    by_cases ck : u.1 = 1
    · replace h := oi_t ck h
      rw [ck] at hE
      subst hE
      refine vx_catch hown [] ⟨0, 9, 12, 13⟩ [⟨0, 9, 15, 15⟩] (hT.trans rfl) (fun z hz => absurd hz List.not_mem_nil) rfl (by decide) (hts _ (List.mem_of_getElem? (i := 1) rfl)) (va_Nw.use rfl hZ.1.1.1) hce hcv hcl ?_
      refine W.eq (g2 := F0 m 12 ls [.ref q9]) rfl ?_
      refine lv_astore_n (lv' := [(3, .ref q9), (0, .ref (a.1 0)), (1, .int p1), (2, .ref o)]) hx hb dL_pass_12 rfl hl (by decide) rfl (fun ls hl => ?_)
      refine lv_iconst (v := 1) hx hb dL_pass_13 (by decide) ?_
      cases h
      exact W.iret (v := 1) hx hb hr (fun t ht hW => ⟨⟨1, a, rfl, rfl, ⟨rfl, by rw [ht]; exact hP2, hD2⟩⟩, hS.F ht⟩) hS.2.2 dL_pass_14 hlocks
    replace h := oi_f ck h
    by_cases ck : u.1 = 2
    · replace h := oi_t ck h
      rw [ck] at hE
      subst hE
      refine vx_catch hown [⟨0, 9, 12, 13⟩] ⟨0, 9, 15, 15⟩ [] (hT.trans rfl) (by intro z hz; simp only [List.mem_cons, List.not_mem_nil, or_false] at hz; subst hz; exact Or.inr ⟨by decide, _, (hts _ (List.mem_of_getElem? (i := 1) rfl)), hC 2 1 (by decide)⟩) rfl (by decide) (hts _ (List.mem_of_getElem? (i := 2) rfl)) (va_Nw.use rfl hZ.1.1.2.1) hce hcv hcl ?_
      refine W.eq (g2 := F0 m 15 ls [.ref q9]) rfl ?_
      refine lv_astore_n (lv' := [(3, .ref q9), (0, .ref (a.1 0)), (1, .int p1), (2, .ref o)]) hx hb dL_pass_15 rfl hl (by decide) rfl (fun ls hl => ?_)
      refine lv_iconst (v := 2) hx hb dL_pass_16 (by decide) ?_
      cases h
      exact W.iret (v := 2) hx hb hr (fun t ht hW => ⟨⟨2, a, rfl, rfl, ⟨rfl, by rw [ht]; exact hP2, hD2⟩⟩, hS.F ht⟩) hS.2.2 dL_pass_17 hlocks
    replace h := oi_f ck h
    cases h
  · obtain ⟨hP1, hD1⟩ := hB
    rw [ht] at hP1
    obtain ⟨hP2, hD2⟩ := z_join (ws := [(o, .inl (cy 1, 1, .inr (.inl out)))]) (wc := xW cy a n V) (w1 := xW cy a n u.2.2) hP hD hk hfree hP1 hD1
    replace h := oi_t hw.1 h
    rw [hw.2]
    refine lv_i2l (v := Int32.toInt64 u.2.1) hx hb dL_pass_7 rfl ?_
    refine va_last hx hb hK hP2 hD2 hS 0 1 rfl rfl (show vp_in 0 1 from by unfold vp_in; decide) dL_pass_8 (fun H2 locs2 hP hD hS => ?_)
    refine lv_goto (tgt := 18) hx hb dL_pass_9 (by decide) ?_
    refine lv_iconst (v := 0) hx hb dL_pass_18 (by decide) ?_
    cases h
    exact W.iret (v := 0) hx hb hr (fun t ht hW => ⟨⟨0, a, rfl, rfl, ⟨rfl, by rw [ht]; exact hP, hD⟩⟩, hS.F ht⟩) hS.2.2 dL_pass_19 hlocks

def f_L_limit (n : Nat → Nat) (V : XV) (out : (Nat → Int64)) (p1 : Int32) (p2 : Int32) (p3 : Int32) : Option (Int32 × (Nat → Nat) × XV × (Nat → Int64)) := ob (f_X3_limit n V p1 p2 p3) (fun u => oi (u.1 = 0) (some (0, n, V, vp_updL out ((0 : Int32)).toNatClampNeg (Int32.toInt64 u.2))) (oi (u.1 = 3) (some (1, n, V, out)) (oi (u.1 = 1) (some (2, n, V, out)) (none))))
theorem hd_L_limit : yL_limit.cls ≠ "java/lang/invoke/MethodHandle" ∧ yL_limit.cls ≠ "java/lang/invoke/VarHandle" ∧ (parseMethodDescriptor yL_limit.desc).map (fun d => d.parameters.length) = some 5 := by decide +kernel
set_option maxHeartbeats 4000000 in
set_option maxRecDepth 100000 in
theorem c_L_limit (l : Launch) (hl0 : l.stackTraces = false) (D : va_G) (cy : Nat → ClassId) (a : XA) (n : Nat → Nat) (V : XV) (o : Nat) (out : (Nat → Int64)) (sz : Nat) (p1 : Int32) (p2 : Int32) (p3 : Int32) {res : Int32 × (Nat → Nat) × XV × (Nat → Int64)} (h : f_L_limit n V out p1 p2 p3 = some res) : Met l yL_limit wsL_limit ({ frames := 8, cells := 1, slots := 6, locals := 144 } : Room) (va_Pc [.ref (a.1 0), .int p1, .int p2, .int p3, .ref o] (zX sz (va_A ((o, .inl (cy 1, 1, .inr (.inl out))) :: xW cy a n V) sz) (lI D cy a n V ((o, .inl (cy 1, 1, .inr (.inl out))))))) (va_Qi (fun r (_ : XA) => r = res.1) (fun a1 t => a1.1 = a.1 ∧ va_P D xcl ((o, .inl (cy 1, 1, .inr (.inl res.2.2.2))) :: xW cy a1 res.2.1 res.2.2.1) t.heap ∧ va_D (va_A ((o, .inl (cy 1, 1, .inr (.inl out))) :: xW cy a n V) sz) ((o, .inl (cy 1, 1, .inr (.inl res.2.2.2))) :: xW cy a1 res.2.1 res.2.2.1)) (va_A ((o, .inl (cy 1, 1, .inr (.inl out))) :: xW cy a n V) sz)) 1 6 (va_A ((o, .inl (cy 1, 1, .inr (.inl out))) :: xW cy a n V) sz) := by
  refine z_ofWH (cc := cL_limit) (maxL := 6) (ret := (some .int)) (hh := [(0, 12, 15, 21), (0, 12, 19, 13)]) (by decide) rfl ?_
  intro p e s m args below meth c s₁ B hml hv
  obtain ⟨rfl, hsz, hZ, hC, hP, hK, hD0⟩ := hv
  have hx := B.exec
  have hb := B.bytes
  have hr := B.returns
  have hts := atoms_spec (ws := wsL_limit) B.pre
  have hown : s.vm.findClass RL = some m.cls := findClass_of_methodNamed B.named
  have hlocks := B.notSynchronized
  subst hsz
  have hT : c.exceptionTable.toList = tableOf [(0, 12, 15, 21), (0, 12, 19, 13)] := vx_table (x := objectInit) B (hts _ List.mem_cons_self)
  have hD := hD0.self (sz := s.heap.size)
  generalize hAe : va_A ((o, .inl (cy 1, 1, .inr (.inl out))) :: xW cy a n V) s.heap.size = A at hD hZ ⊢
  have hA : ∀ q : Nat, s.heap.size ≤ q → A q := fun q h => by rw [← hAe]; exact Or.inr h
  have hS : va_S A s.heap s.heap [] := va_S.rf
  have hPx : va_P D xcl (xW cy a n V) s.heap := lP_tail hP
  have hDx : va_D A (xW cy a n V) := lD_tail hD
  have hfree := z_free hDx hS hA
  have hl := lv_entry ([.ref (a.1 0), .int p1, .int p2, .int p3, .ref o]) (n := 6) (Nat.le_of_ble_eq_true rfl)
  rw [lg_entry_eq]
  generalize (lg_sl ([.ref (a.1 0), .int p1, .int p2, .int p3, .ref o]) ++ List.replicate (6 - (lg_sl ([.ref (a.1 0), .int p1, .int p2, .int p3, .ref o])).length) Slot.unset).toArray = ls at hl ⊢
  have hl : lv_has ls 6 [(0, .ref (a.1 0)), (1, .int p1), (2, .int p2), (3, .int p3), (4, .ref o)] := hl
  refine lv_aload hx hb dL_limit_0 (lv_at hl 4 rfl) ?_
  refine lv_iconst (v := 0) hx hb dL_limit_2 (by decide) ?_
  refine lv_aload_n hx hb dL_limit_3 rfl (lv_at hl 0 rfl) ?_
  refine lv_iload_n hx hb dL_limit_4 rfl (lv_at hl 1 rfl) ?_
  refine lv_iload_n hx hb dL_limit_5 rfl (lv_at hl 2 rfl) ?_
  refine lv_iload_n hx hb dL_limit_6 rfl (lv_at hl 3 rfl) ?_
  obtain ⟨u, hg, h⟩ := ob_some h
  refine vx_calli (vx_runV (As := [.int p1, .int p2, .int p3]) (rest := [.int 0, .ref o]) ⟨hx, hb, hml, hown, hts⟩ (c_X3_limit l hl0 D cy a n V s.heap.size p1 p2 p3 hg) (cwV 3 hts gL_limit_X3_limit rfl rfl rfl hd_X3_limit ⟨Nat.le_of_ble_eq_true rfl, Nat.le_of_ble_eq_true rfl⟩) ⟨zX_blind xI_blind, va_recv hK hPx (ci := 3) (q0 := 0) rfl rfl, zX_at (lZ_narrow hZ hfree) (xI_at hPx hK hDx)⟩ rfl rfl hl.1 rfl (lv_room (Nat.le_of_ble_eq_true rfl)) dL_limit_7 ⟨Nat.le_of_ble_eq_true rfl, Nat.le_of_ble_eq_true rfl⟩) hS (fun q _ h => hfree q h) hfree (fun q _ h => hfree q h) (fun E ce q9 u9 t H1 locs1 ht hvm hp9 hB hz hk hS hce hcv hcl => ?_) (fun r9 u9 t H1 locs1 ht hvm hw hB hz hk hS => ?_)
  · obtain ⟨hE, hc0, hP1, hD1⟩ := hB
    rw [ht] at hP1
    obtain ⟨hP2, hD2⟩ := z_join (ws := [(o, .inl (cy 1, 1, .inr (.inl out)))]) (wc := xW cy a n V) (w1 := xW cy a n V) hP hD hk hfree hP1 hD1
    replace h := oi_f hc0 h
    by_cases ck : u.1 = 3
    · replace h := oi_t ck h
      rw [ck] at hE
      subst hE
      refine vx_catch hown [] ⟨0, 12, 15, 21⟩ [⟨0, 12, 19, 13⟩] (hT.trans rfl) (fun z hz => absurd hz List.not_mem_nil) rfl (by decide) (hts _ (List.mem_of_getElem? (i := 1) rfl)) (va_Nw.use rfl hZ.1.1.2.2.1) hce hcv hcl ?_
      refine W.eq (g2 := F0 m 15 ls [.ref q9]) rfl ?_
      refine lv_astore (lv' := [(5, .ref q9), (0, .ref (a.1 0)), (1, .int p1), (2, .int p2), (3, .int p3), (4, .ref o)]) hx hb dL_limit_15 hl (by decide) rfl (fun ls hl => ?_)
      refine lv_iconst (v := 1) hx hb dL_limit_17 (by decide) ?_
      cases h
      exact W.iret (v := 1) hx hb hr (fun t ht hW => ⟨⟨1, a, rfl, rfl, ⟨rfl, by rw [ht]; exact hP2, hD2⟩⟩, hS.F ht⟩) hS.2.2 dL_limit_18 hlocks
    replace h := oi_f ck h
    by_cases ck : u.1 = 1
    · replace h := oi_t ck h
      rw [ck] at hE
      subst hE
      refine vx_catch hown [⟨0, 12, 15, 21⟩] ⟨0, 12, 19, 13⟩ [] (hT.trans rfl) (by intro z hz; simp only [List.mem_cons, List.not_mem_nil, or_false] at hz; subst hz; exact Or.inr ⟨by decide, _, (hts _ (List.mem_of_getElem? (i := 1) rfl)), hC 1 3 (by decide)⟩) rfl (by decide) (hts _ (List.mem_of_getElem? (i := 2) rfl)) (va_Nw.use rfl hZ.1.1.1) hce hcv hcl ?_
      refine W.eq (g2 := F0 m 19 ls [.ref q9]) rfl ?_
      refine lv_astore (lv' := [(5, .ref q9), (0, .ref (a.1 0)), (1, .int p1), (2, .int p2), (3, .int p3), (4, .ref o)]) hx hb dL_limit_19 hl (by decide) rfl (fun ls hl => ?_)
      refine lv_iconst (v := 2) hx hb dL_limit_21 (by decide) ?_
      cases h
      exact W.iret (v := 2) hx hb hr (fun t ht hW => ⟨⟨2, a, rfl, rfl, ⟨rfl, by rw [ht]; exact hP2, hD2⟩⟩, hS.F ht⟩) hS.2.2 dL_limit_22 hlocks
    replace h := oi_f ck h
    cases h
  · obtain ⟨hP1, hD1⟩ := hB
    rw [ht] at hP1
    obtain ⟨hP2, hD2⟩ := z_join (ws := [(o, .inl (cy 1, 1, .inr (.inl out)))]) (wc := xW cy a n V) (w1 := xW cy a n V) hP hD hk hfree hP1 hD1
    replace h := oi_t hw.1 h
    rw [hw.2]
    refine lv_i2l (v := Int32.toInt64 u.2) hx hb dL_limit_10 rfl ?_
    refine va_last hx hb hK hP2 hD2 hS 0 1 rfl rfl (show vp_in 0 1 from by unfold vp_in; decide) dL_limit_11 (fun H2 locs2 hP hD hS => ?_)
    refine lv_goto (tgt := 23) hx hb dL_limit_12 (by decide) ?_
    refine lv_iconst (v := 0) hx hb dL_limit_23 (by decide) ?_
    cases h
    exact W.iret (v := 0) hx hb hr (fun t ht hW => ⟨⟨0, a, rfl, rfl, ⟨rfl, by rw [ht]; exact hP, hD⟩⟩, hS.F ht⟩) hS.2.2 dL_limit_24 hlocks

def f_L_overlap (n : Nat → Nat) (V : XV) (out : (Nat → Int64)) (p1 : Int32) (p2 : Int32) : Option (Int32 × (Nat → Nat) × XV × (Nat → Int64)) := ob (f_X3_overlap n V p1 p2) (fun u => oi (u.1 = 0) (oi (u.2 = 0) (some (0, n, V, vp_updL out ((0 : Int32)).toNatClampNeg 0)) (some (0, n, V, vp_updL out ((0 : Int32)).toNatClampNeg 1))) (oi (u.1 = 3) (some (1, n, V, out)) (none)))
theorem hd_L_overlap : yL_overlap.cls ≠ "java/lang/invoke/MethodHandle" ∧ yL_overlap.cls ≠ "java/lang/invoke/VarHandle" ∧ (parseMethodDescriptor yL_overlap.desc).map (fun d => d.parameters.length) = some 4 := by decide +kernel
set_option maxHeartbeats 4000000 in
set_option maxRecDepth 100000 in
theorem c_L_overlap (l : Launch) (hl0 : l.stackTraces = false) (D : va_G) (cy : Nat → ClassId) (a : XA) (n : Nat → Nat) (V : XV) (o : Nat) (out : (Nat → Int64)) (sz : Nat) (p1 : Int32) (p2 : Int32) {res : Int32 × (Nat → Nat) × XV × (Nat → Int64)} (h : f_L_overlap n V out p1 p2 = some res) : Met l yL_overlap wsL_overlap ({ frames := 8, cells := 1, slots := 6, locals := 144 } : Room) (va_Pc [.ref (a.1 0), .int p1, .int p2, .ref o] (zX sz (va_A ((o, .inl (cy 1, 1, .inr (.inl out))) :: xW cy a n V) sz) (lI D cy a n V ((o, .inl (cy 1, 1, .inr (.inl out))))))) (va_Qi (fun r (_ : XA) => r = res.1) (fun a1 t => a1.1 = a.1 ∧ va_P D xcl ((o, .inl (cy 1, 1, .inr (.inl res.2.2.2))) :: xW cy a1 res.2.1 res.2.2.1) t.heap ∧ va_D (va_A ((o, .inl (cy 1, 1, .inr (.inl out))) :: xW cy a n V) sz) ((o, .inl (cy 1, 1, .inr (.inl res.2.2.2))) :: xW cy a1 res.2.1 res.2.2.1)) (va_A ((o, .inl (cy 1, 1, .inr (.inl out))) :: xW cy a n V) sz)) 1 6 (va_A ((o, .inl (cy 1, 1, .inr (.inl out))) :: xW cy a n V) sz) := by
  refine z_ofWH (cc := cL_overlap) (maxL := 5) (ret := (some .int)) (hh := [(0, 17, 20, 21)]) (by decide) rfl ?_
  intro p e s m args below meth c s₁ B hml hv
  obtain ⟨rfl, hsz, hZ, hC, hP, hK, hD0⟩ := hv
  have hx := B.exec
  have hb := B.bytes
  have hr := B.returns
  have hts := atoms_spec (ws := wsL_overlap) B.pre
  have hown : s.vm.findClass RL = some m.cls := findClass_of_methodNamed B.named
  have hlocks := B.notSynchronized
  subst hsz
  have hT : c.exceptionTable.toList = tableOf [(0, 17, 20, 21)] := vx_table (x := objectInit) B (hts _ List.mem_cons_self)
  have hD := hD0.self (sz := s.heap.size)
  generalize hAe : va_A ((o, .inl (cy 1, 1, .inr (.inl out))) :: xW cy a n V) s.heap.size = A at hD hZ ⊢
  have hA : ∀ q : Nat, s.heap.size ≤ q → A q := fun q h => by rw [← hAe]; exact Or.inr h
  have hS : va_S A s.heap s.heap [] := va_S.rf
  have hPx : va_P D xcl (xW cy a n V) s.heap := lP_tail hP
  have hDx : va_D A (xW cy a n V) := lD_tail hD
  have hfree := z_free hDx hS hA
  have hl := lv_entry ([.ref (a.1 0), .int p1, .int p2, .ref o]) (n := 5) (Nat.le_of_ble_eq_true rfl)
  rw [lg_entry_eq]
  generalize (lg_sl ([.ref (a.1 0), .int p1, .int p2, .ref o]) ++ List.replicate (5 - (lg_sl ([.ref (a.1 0), .int p1, .int p2, .ref o])).length) Slot.unset).toArray = ls at hl ⊢
  have hl : lv_has ls 5 [(0, .ref (a.1 0)), (1, .int p1), (2, .int p2), (3, .ref o)] := hl
  refine lv_aload_n hx hb dL_overlap_0 rfl (lv_at hl 3 rfl) ?_
  refine lv_iconst (v := 0) hx hb dL_overlap_1 (by decide) ?_
  refine lv_aload_n hx hb dL_overlap_2 rfl (lv_at hl 0 rfl) ?_
  refine lv_iload_n hx hb dL_overlap_3 rfl (lv_at hl 1 rfl) ?_
  refine lv_iload_n hx hb dL_overlap_4 rfl (lv_at hl 2 rfl) ?_
  obtain ⟨u, hg, h⟩ := ob_some h
  refine vx_calli (vx_runV (As := [.int p1, .int p2]) (rest := [.int 0, .ref o]) ⟨hx, hb, hml, hown, hts⟩ (c_X3_overlap l hl0 D cy a n V s.heap.size p1 p2 hg) (cwV 2 hts gL_overlap_X3_overlap rfl rfl rfl hd_X3_overlap ⟨Nat.le_of_ble_eq_true rfl, Nat.le_of_ble_eq_true rfl⟩) ⟨zX_blind xI_blind, va_recv hK hPx (ci := 3) (q0 := 0) rfl rfl, zX_at (lZ_narrow hZ hfree) (xI_at hPx hK hDx)⟩ rfl rfl hl.1 rfl (lv_room (Nat.le_of_ble_eq_true rfl)) dL_overlap_5 ⟨Nat.le_of_ble_eq_true rfl, Nat.le_of_ble_eq_true rfl⟩) hS (fun q _ h => hfree q h) hfree (fun q _ h => hfree q h) (fun E ce q9 u9 t H1 locs1 ht hvm hp9 hB hz hk hS hce hcv hcl => ?_) (fun r9 u9 t H1 locs1 ht hvm hw hB hz hk hS => ?_)
  · obtain ⟨hE, hc0, hP1, hD1⟩ := hB
    rw [ht] at hP1
    obtain ⟨hP2, hD2⟩ := z_join (ws := [(o, .inl (cy 1, 1, .inr (.inl out)))]) (wc := xW cy a n V) (w1 := xW cy a n V) hP hD hk hfree hP1 hD1
    replace h := oi_f hc0 h
    by_cases ck : u.1 = 3
    · replace h := oi_t ck h
      rw [ck] at hE
      subst hE
      refine vx_catch hown [] ⟨0, 17, 20, 21⟩ [] (hT.trans rfl) (fun z hz => absurd hz List.not_mem_nil) rfl (by decide) (hts _ (List.mem_of_getElem? (i := 1) rfl)) (va_Nw.use rfl hZ.1.1.2.2.1) hce hcv hcl ?_
      refine W.eq (g2 := F0 m 20 ls [.ref q9]) rfl ?_
      refine lv_astore (lv' := [(4, .ref q9), (0, .ref (a.1 0)), (1, .int p1), (2, .int p2), (3, .ref o)]) hx hb dL_overlap_20 hl (by decide) rfl (fun ls hl => ?_)
      refine lv_iconst (v := 1) hx hb dL_overlap_22 (by decide) ?_
      cases h
      exact W.iret (v := 1) hx hb hr (fun t ht hW => ⟨⟨1, a, rfl, rfl, ⟨rfl, by rw [ht]; exact hP2, hD2⟩⟩, hS.F ht⟩) hS.2.2 dL_overlap_23 hlocks
    replace h := oi_f ck h
    cases h
  · obtain ⟨hP1, hD1⟩ := hB
    rw [ht] at hP1
    obtain ⟨hP2, hD2⟩ := z_join (ws := [(o, .inl (cy 1, 1, .inr (.inl out)))]) (wc := xW cy a n V) (w1 := xW cy a n V) hP hD hk hfree hP1 hD1
    replace h := oi_t hw.1 h
    rw [hw.2]
    refine lv_if_eq (tgt := 15) hx hb dL_overlap_8 (by decide) (fun c0 => ?_) (fun c0 => ?_)
    · replace h := oi_t c0 h
      refine lv_lconst (v := 0) hx hb dL_overlap_15 (by decide) ?_
      refine va_last hx hb hK hP2 hD2 hS 0 1 rfl rfl (show vp_in 0 1 from by unfold vp_in; decide) dL_overlap_16 (fun H2 locs2 hP hD hS => ?_)
      refine lv_goto (tgt := 24) hx hb dL_overlap_17 (by decide) ?_
      refine lv_iconst (v := 0) hx hb dL_overlap_24 (by decide) ?_
      cases h
      exact W.iret (v := 0) hx hb hr (fun t ht hW => ⟨⟨0, a, rfl, rfl, ⟨rfl, by rw [ht]; exact hP, hD⟩⟩, hS.F ht⟩) hS.2.2 dL_overlap_25 hlocks
    · replace h := oi_f c0 h
      refine lv_lconst (v := 1) hx hb dL_overlap_11 (by decide) ?_
      refine lv_goto (tgt := 16) hx hb dL_overlap_12 (by decide) ?_
      refine va_last hx hb hK hP2 hD2 hS 0 1 rfl rfl (show vp_in 0 1 from by unfold vp_in; decide) dL_overlap_16 (fun H2 locs2 hP hD hS => ?_)
      refine lv_goto (tgt := 24) hx hb dL_overlap_17 (by decide) ?_
      refine lv_iconst (v := 0) hx hb dL_overlap_24 (by decide) ?_
      cases h
      exact W.iret (v := 0) hx hb hr (fun t ht hW => ⟨⟨0, a, rfl, rfl, ⟨rfl, by rw [ht]; exact hP, hD⟩⟩, hS.F ht⟩) hS.2.2 dL_overlap_25 hlocks

def f_L_bothReach (n : Nat → Nat) (V : XV) (out : (Nat → Int64)) (p1 : Int32) (p2 : Int32) : Option (Int32 × (Nat → Nat) × XV × (Nat → Int64)) := ob (f_X3_bothReach n V p1 p2) (fun u => oi (u.1 = 0) (some (0, n, V, vp_updL out ((0 : Int32)).toNatClampNeg (Int32.toInt64 u.2))) (oi (u.1 = 3) (some (1, n, V, out)) (none)))
theorem hd_L_bothReach : yL_bothReach.cls ≠ "java/lang/invoke/MethodHandle" ∧ yL_bothReach.cls ≠ "java/lang/invoke/VarHandle" ∧ (parseMethodDescriptor yL_bothReach.desc).map (fun d => d.parameters.length) = some 4 := by decide +kernel
set_option maxHeartbeats 4000000 in
set_option maxRecDepth 100000 in
theorem c_L_bothReach (l : Launch) (hl0 : l.stackTraces = false) (D : va_G) (cy : Nat → ClassId) (a : XA) (n : Nat → Nat) (V : XV) (o : Nat) (out : (Nat → Int64)) (sz : Nat) (p1 : Int32) (p2 : Int32) {res : Int32 × (Nat → Nat) × XV × (Nat → Int64)} (h : f_L_bothReach n V out p1 p2 = some res) : Met l yL_bothReach wsL_bothReach ({ frames := 8, cells := 1, slots := 6, locals := 144 } : Room) (va_Pc [.ref (a.1 0), .int p1, .int p2, .ref o] (zX sz (va_A ((o, .inl (cy 1, 1, .inr (.inl out))) :: xW cy a n V) sz) (lI D cy a n V ((o, .inl (cy 1, 1, .inr (.inl out))))))) (va_Qi (fun r (_ : XA) => r = res.1) (fun a1 t => a1.1 = a.1 ∧ va_P D xcl ((o, .inl (cy 1, 1, .inr (.inl res.2.2.2))) :: xW cy a1 res.2.1 res.2.2.1) t.heap ∧ va_D (va_A ((o, .inl (cy 1, 1, .inr (.inl out))) :: xW cy a n V) sz) ((o, .inl (cy 1, 1, .inr (.inl res.2.2.2))) :: xW cy a1 res.2.1 res.2.2.1)) (va_A ((o, .inl (cy 1, 1, .inr (.inl out))) :: xW cy a n V) sz)) 1 6 (va_A ((o, .inl (cy 1, 1, .inr (.inl out))) :: xW cy a n V) sz) := by
  refine z_ofWH (cc := cL_bothReach) (maxL := 5) (ret := (some .int)) (hh := [(0, 10, 13, 21)]) (by decide) rfl ?_
  intro p e s m args below meth c s₁ B hml hv
  obtain ⟨rfl, hsz, hZ, hC, hP, hK, hD0⟩ := hv
  have hx := B.exec
  have hb := B.bytes
  have hr := B.returns
  have hts := atoms_spec (ws := wsL_bothReach) B.pre
  have hown : s.vm.findClass RL = some m.cls := findClass_of_methodNamed B.named
  have hlocks := B.notSynchronized
  subst hsz
  have hT : c.exceptionTable.toList = tableOf [(0, 10, 13, 21)] := vx_table (x := objectInit) B (hts _ List.mem_cons_self)
  have hD := hD0.self (sz := s.heap.size)
  generalize hAe : va_A ((o, .inl (cy 1, 1, .inr (.inl out))) :: xW cy a n V) s.heap.size = A at hD hZ ⊢
  have hA : ∀ q : Nat, s.heap.size ≤ q → A q := fun q h => by rw [← hAe]; exact Or.inr h
  have hS : va_S A s.heap s.heap [] := va_S.rf
  have hPx : va_P D xcl (xW cy a n V) s.heap := lP_tail hP
  have hDx : va_D A (xW cy a n V) := lD_tail hD
  have hfree := z_free hDx hS hA
  have hl := lv_entry ([.ref (a.1 0), .int p1, .int p2, .ref o]) (n := 5) (Nat.le_of_ble_eq_true rfl)
  rw [lg_entry_eq]
  generalize (lg_sl ([.ref (a.1 0), .int p1, .int p2, .ref o]) ++ List.replicate (5 - (lg_sl ([.ref (a.1 0), .int p1, .int p2, .ref o])).length) Slot.unset).toArray = ls at hl ⊢
  have hl : lv_has ls 5 [(0, .ref (a.1 0)), (1, .int p1), (2, .int p2), (3, .ref o)] := hl
  refine lv_aload_n hx hb dL_bothReach_0 rfl (lv_at hl 3 rfl) ?_
  refine lv_iconst (v := 0) hx hb dL_bothReach_1 (by decide) ?_
  refine lv_aload_n hx hb dL_bothReach_2 rfl (lv_at hl 0 rfl) ?_
  refine lv_iload_n hx hb dL_bothReach_3 rfl (lv_at hl 1 rfl) ?_
  refine lv_iload_n hx hb dL_bothReach_4 rfl (lv_at hl 2 rfl) ?_
  obtain ⟨u, hg, h⟩ := ob_some h
  refine vx_calli (vx_runV (As := [.int p1, .int p2]) (rest := [.int 0, .ref o]) ⟨hx, hb, hml, hown, hts⟩ (c_X3_bothReach l hl0 D cy a n V s.heap.size p1 p2 hg) (cwV 2 hts gL_bothReach_X3_bothReach rfl rfl rfl hd_X3_bothReach ⟨Nat.le_of_ble_eq_true rfl, Nat.le_of_ble_eq_true rfl⟩) ⟨zX_blind xI_blind, va_recv hK hPx (ci := 3) (q0 := 0) rfl rfl, zX_at (lZ_narrow hZ hfree) (xI_at hPx hK hDx)⟩ rfl rfl hl.1 rfl (lv_room (Nat.le_of_ble_eq_true rfl)) dL_bothReach_5 ⟨Nat.le_of_ble_eq_true rfl, Nat.le_of_ble_eq_true rfl⟩) hS (fun q _ h => hfree q h) hfree (fun q _ h => hfree q h) (fun E ce q9 u9 t H1 locs1 ht hvm hp9 hB hz hk hS hce hcv hcl => ?_) (fun r9 u9 t H1 locs1 ht hvm hw hB hz hk hS => ?_)
  · obtain ⟨hE, hc0, hP1, hD1⟩ := hB
    rw [ht] at hP1
    obtain ⟨hP2, hD2⟩ := z_join (ws := [(o, .inl (cy 1, 1, .inr (.inl out)))]) (wc := xW cy a n V) (w1 := xW cy a n V) hP hD hk hfree hP1 hD1
    replace h := oi_f hc0 h
    by_cases ck : u.1 = 3
    · replace h := oi_t ck h
      rw [ck] at hE
      subst hE
      refine vx_catch hown [] ⟨0, 10, 13, 21⟩ [] (hT.trans rfl) (fun z hz => absurd hz List.not_mem_nil) rfl (by decide) (hts _ (List.mem_of_getElem? (i := 1) rfl)) (va_Nw.use rfl hZ.1.1.2.2.1) hce hcv hcl ?_
      refine W.eq (g2 := F0 m 13 ls [.ref q9]) rfl ?_
      refine lv_astore (lv' := [(4, .ref q9), (0, .ref (a.1 0)), (1, .int p1), (2, .int p2), (3, .ref o)]) hx hb dL_bothReach_13 hl (by decide) rfl (fun ls hl => ?_)
      refine lv_iconst (v := 1) hx hb dL_bothReach_15 (by decide) ?_
      cases h
      exact W.iret (v := 1) hx hb hr (fun t ht hW => ⟨⟨1, a, rfl, rfl, ⟨rfl, by rw [ht]; exact hP2, hD2⟩⟩, hS.F ht⟩) hS.2.2 dL_bothReach_16 hlocks
    replace h := oi_f ck h
    cases h
  · obtain ⟨hP1, hD1⟩ := hB
    rw [ht] at hP1
    obtain ⟨hP2, hD2⟩ := z_join (ws := [(o, .inl (cy 1, 1, .inr (.inl out)))]) (wc := xW cy a n V) (w1 := xW cy a n V) hP hD hk hfree hP1 hD1
    replace h := oi_t hw.1 h
    rw [hw.2]
    refine lv_i2l (v := Int32.toInt64 u.2) hx hb dL_bothReach_8 rfl ?_
    refine va_last hx hb hK hP2 hD2 hS 0 1 rfl rfl (show vp_in 0 1 from by unfold vp_in; decide) dL_bothReach_9 (fun H2 locs2 hP hD hS => ?_)
    refine lv_goto (tgt := 17) hx hb dL_bothReach_10 (by decide) ?_
    refine lv_iconst (v := 0) hx hb dL_bothReach_17 (by decide) ?_
    cases h
    exact W.iret (v := 0) hx hb hr (fun t ht hW => ⟨⟨0, a, rfl, rfl, ⟨rfl, by rw [ht]; exact hP, hD⟩⟩, hS.F ht⟩) hS.2.2 dL_bothReach_18 hlocks

def f_L_reason (n : Nat → Nat) (V : XV) (out : (Nat → Int64)) (p1 : Int32) (p2 : Int32) (p3 : Int32) : Option (Int32 × (Nat → Nat) × XV × (Nat → Int64)) := ob (f_X3_reason n V p1 p2 p3) (fun u => oi (u.1 = 0) (some (0, n, V, vp_updL out ((0 : Int32)).toNatClampNeg (Int32.toInt64 u.2))) (oi (u.1 = 3) (some (1, n, V, out)) (none)))
theorem hd_L_reason : yL_reason.cls ≠ "java/lang/invoke/MethodHandle" ∧ yL_reason.cls ≠ "java/lang/invoke/VarHandle" ∧ (parseMethodDescriptor yL_reason.desc).map (fun d => d.parameters.length) = some 5 := by decide +kernel
set_option maxHeartbeats 4000000 in
set_option maxRecDepth 100000 in
theorem c_L_reason (l : Launch) (hl0 : l.stackTraces = false) (D : va_G) (cy : Nat → ClassId) (a : XA) (n : Nat → Nat) (V : XV) (o : Nat) (out : (Nat → Int64)) (sz : Nat) (p1 : Int32) (p2 : Int32) (p3 : Int32) {res : Int32 × (Nat → Nat) × XV × (Nat → Int64)} (h : f_L_reason n V out p1 p2 p3 = some res) : Met l yL_reason wsL_reason ({ frames := 8, cells := 1, slots := 6, locals := 158 } : Room) (va_Pc [.ref (a.1 0), .int p1, .int p2, .int p3, .ref o] (zX sz (va_A ((o, .inl (cy 1, 1, .inr (.inl out))) :: xW cy a n V) sz) (lI D cy a n V ((o, .inl (cy 1, 1, .inr (.inl out))))))) (va_Qi (fun r (_ : XA) => r = res.1) (fun a1 t => a1.1 = a.1 ∧ va_P D xcl ((o, .inl (cy 1, 1, .inr (.inl res.2.2.2))) :: xW cy a1 res.2.1 res.2.2.1) t.heap ∧ va_D (va_A ((o, .inl (cy 1, 1, .inr (.inl out))) :: xW cy a n V) sz) ((o, .inl (cy 1, 1, .inr (.inl res.2.2.2))) :: xW cy a1 res.2.1 res.2.2.1)) (va_A ((o, .inl (cy 1, 1, .inr (.inl out))) :: xW cy a n V) sz)) 1 6 (va_A ((o, .inl (cy 1, 1, .inr (.inl out))) :: xW cy a n V) sz) := by
  refine z_ofWH (cc := cL_reason) (maxL := 6) (ret := (some .int)) (hh := [(0, 12, 15, 21)]) (by decide) rfl ?_
  intro p e s m args below meth c s₁ B hml hv
  obtain ⟨rfl, hsz, hZ, hC, hP, hK, hD0⟩ := hv
  have hx := B.exec
  have hb := B.bytes
  have hr := B.returns
  have hts := atoms_spec (ws := wsL_reason) B.pre
  have hown : s.vm.findClass RL = some m.cls := findClass_of_methodNamed B.named
  have hlocks := B.notSynchronized
  subst hsz
  have hT : c.exceptionTable.toList = tableOf [(0, 12, 15, 21)] := vx_table (x := objectInit) B (hts _ List.mem_cons_self)
  have hD := hD0.self (sz := s.heap.size)
  generalize hAe : va_A ((o, .inl (cy 1, 1, .inr (.inl out))) :: xW cy a n V) s.heap.size = A at hD hZ ⊢
  have hA : ∀ q : Nat, s.heap.size ≤ q → A q := fun q h => by rw [← hAe]; exact Or.inr h
  have hS : va_S A s.heap s.heap [] := va_S.rf
  have hPx : va_P D xcl (xW cy a n V) s.heap := lP_tail hP
  have hDx : va_D A (xW cy a n V) := lD_tail hD
  have hfree := z_free hDx hS hA
  have hl := lv_entry ([.ref (a.1 0), .int p1, .int p2, .int p3, .ref o]) (n := 6) (Nat.le_of_ble_eq_true rfl)
  rw [lg_entry_eq]
  generalize (lg_sl ([.ref (a.1 0), .int p1, .int p2, .int p3, .ref o]) ++ List.replicate (6 - (lg_sl ([.ref (a.1 0), .int p1, .int p2, .int p3, .ref o])).length) Slot.unset).toArray = ls at hl ⊢
  have hl : lv_has ls 6 [(0, .ref (a.1 0)), (1, .int p1), (2, .int p2), (3, .int p3), (4, .ref o)] := hl
  refine lv_aload hx hb dL_reason_0 (lv_at hl 4 rfl) ?_
  refine lv_iconst (v := 0) hx hb dL_reason_2 (by decide) ?_
  refine lv_aload_n hx hb dL_reason_3 rfl (lv_at hl 0 rfl) ?_
  refine lv_iload_n hx hb dL_reason_4 rfl (lv_at hl 1 rfl) ?_
  refine lv_iload_n hx hb dL_reason_5 rfl (lv_at hl 2 rfl) ?_
  refine lv_iload_n hx hb dL_reason_6 rfl (lv_at hl 3 rfl) ?_
  obtain ⟨u, hg, h⟩ := ob_some h
  refine vx_calli (vx_runV (As := [.int p1, .int p2, .int p3]) (rest := [.int 0, .ref o]) ⟨hx, hb, hml, hown, hts⟩ (c_X3_reason l hl0 D cy a n V s.heap.size p1 p2 p3 hg) (cwV 3 hts gL_reason_X3_reason rfl rfl rfl hd_X3_reason ⟨Nat.le_of_ble_eq_true rfl, Nat.le_of_ble_eq_true rfl⟩) ⟨zX_blind xI_blind, va_recv hK hPx (ci := 3) (q0 := 0) rfl rfl, zX_at (lZ_narrow hZ hfree) (xI_at hPx hK hDx)⟩ rfl rfl hl.1 rfl (lv_room (Nat.le_of_ble_eq_true rfl)) dL_reason_7 ⟨Nat.le_of_ble_eq_true rfl, Nat.le_of_ble_eq_true rfl⟩) hS (fun q _ h => hfree q h) hfree (fun q _ h => hfree q h) (fun E ce q9 u9 t H1 locs1 ht hvm hp9 hB hz hk hS hce hcv hcl => ?_) (fun r9 u9 t H1 locs1 ht hvm hw hB hz hk hS => ?_)
  · obtain ⟨hE, hc0, hP1, hD1⟩ := hB
    rw [ht] at hP1
    obtain ⟨hP2, hD2⟩ := z_join (ws := [(o, .inl (cy 1, 1, .inr (.inl out)))]) (wc := xW cy a n V) (w1 := xW cy a n V) hP hD hk hfree hP1 hD1
    replace h := oi_f hc0 h
    by_cases ck : u.1 = 3
    · replace h := oi_t ck h
      rw [ck] at hE
      subst hE
      refine vx_catch hown [] ⟨0, 12, 15, 21⟩ [] (hT.trans rfl) (fun z hz => absurd hz List.not_mem_nil) rfl (by decide) (hts _ (List.mem_of_getElem? (i := 1) rfl)) (va_Nw.use rfl hZ.1.1.2.2.1) hce hcv hcl ?_
      refine W.eq (g2 := F0 m 15 ls [.ref q9]) rfl ?_
      refine lv_astore (lv' := [(5, .ref q9), (0, .ref (a.1 0)), (1, .int p1), (2, .int p2), (3, .int p3), (4, .ref o)]) hx hb dL_reason_15 hl (by decide) rfl (fun ls hl => ?_)
      refine lv_iconst (v := 1) hx hb dL_reason_17 (by decide) ?_
      cases h
      exact W.iret (v := 1) hx hb hr (fun t ht hW => ⟨⟨1, a, rfl, rfl, ⟨rfl, by rw [ht]; exact hP2, hD2⟩⟩, hS.F ht⟩) hS.2.2 dL_reason_18 hlocks
    replace h := oi_f ck h
    cases h
  · obtain ⟨hP1, hD1⟩ := hB
    rw [ht] at hP1
    obtain ⟨hP2, hD2⟩ := z_join (ws := [(o, .inl (cy 1, 1, .inr (.inl out)))]) (wc := xW cy a n V) (w1 := xW cy a n V) hP hD hk hfree hP1 hD1
    replace h := oi_t hw.1 h
    rw [hw.2]
    refine lv_i2l (v := Int32.toInt64 u.2) hx hb dL_reason_10 rfl ?_
    refine va_last hx hb hK hP2 hD2 hS 0 1 rfl rfl (show vp_in 0 1 from by unfold vp_in; decide) dL_reason_11 (fun H2 locs2 hP hD hS => ?_)
    refine lv_goto (tgt := 19) hx hb dL_reason_12 (by decide) ?_
    refine lv_iconst (v := 0) hx hb dL_reason_19 (by decide) ?_
    cases h
    exact W.iret (v := 0) hx hb hr (fun t ht hW => ⟨⟨0, a, rfl, rfl, ⟨rfl, by rw [ht]; exact hP, hD⟩⟩, hS.F ht⟩) hS.2.2 dL_reason_20 hlocks

def f_L_earliest (n : Nat → Nat) (V : XV) (out : (Nat → Int64)) (p1 : Int32) (p2 : Int32) : Option (Int32 × (Nat → Nat) × XV × (Nat → Int64)) := ob (f_X3_earliest n V p1 p2) (fun u => oi (u.1 = 0) (some (0, n, V, vp_updL out ((0 : Int32)).toNatClampNeg (Int32.toInt64 u.2))) (oi (u.1 = 3) (some (1, n, V, out)) (oi (u.1 = 4) (some (2, n, V, out)) (none))))
theorem hd_L_earliest : yL_earliest.cls ≠ "java/lang/invoke/MethodHandle" ∧ yL_earliest.cls ≠ "java/lang/invoke/VarHandle" ∧ (parseMethodDescriptor yL_earliest.desc).map (fun d => d.parameters.length) = some 4 := by decide +kernel
set_option maxHeartbeats 4000000 in
set_option maxRecDepth 100000 in
theorem c_L_earliest (l : Launch) (hl0 : l.stackTraces = false) (D : va_G) (cy : Nat → ClassId) (a : XA) (n : Nat → Nat) (V : XV) (o : Nat) (out : (Nat → Int64)) (sz : Nat) (p1 : Int32) (p2 : Int32) {res : Int32 × (Nat → Nat) × XV × (Nat → Int64)} (h : f_L_earliest n V out p1 p2 = some res) : Met l yL_earliest wsL_earliest ({ frames := 8, cells := 1, slots := 6, locals := 157 } : Room) (va_Pc [.ref (a.1 0), .int p1, .int p2, .ref o] (zX sz (va_A ((o, .inl (cy 1, 1, .inr (.inl out))) :: xW cy a n V) sz) (lI D cy a n V ((o, .inl (cy 1, 1, .inr (.inl out))))))) (va_Qi (fun r (_ : XA) => r = res.1) (fun a1 t => a1.1 = a.1 ∧ va_P D xcl ((o, .inl (cy 1, 1, .inr (.inl res.2.2.2))) :: xW cy a1 res.2.1 res.2.2.1) t.heap ∧ va_D (va_A ((o, .inl (cy 1, 1, .inr (.inl out))) :: xW cy a n V) sz) ((o, .inl (cy 1, 1, .inr (.inl res.2.2.2))) :: xW cy a1 res.2.1 res.2.2.1)) (va_A ((o, .inl (cy 1, 1, .inr (.inl out))) :: xW cy a n V) sz)) 1 6 (va_A ((o, .inl (cy 1, 1, .inr (.inl out))) :: xW cy a n V) sz) := by
  refine z_ofWH (cc := cL_earliest) (maxL := 5) (ret := (some .int)) (hh := [(0, 10, 13, 21), (0, 10, 17, 42)]) (by decide) rfl ?_
  intro p e s m args below meth c s₁ B hml hv
  obtain ⟨rfl, hsz, hZ, hC, hP, hK, hD0⟩ := hv
  have hx := B.exec
  have hb := B.bytes
  have hr := B.returns
  have hts := atoms_spec (ws := wsL_earliest) B.pre
  have hown : s.vm.findClass RL = some m.cls := findClass_of_methodNamed B.named
  have hlocks := B.notSynchronized
  subst hsz
  have hT : c.exceptionTable.toList = tableOf [(0, 10, 13, 21), (0, 10, 17, 42)] := vx_table (x := objectInit) B (hts _ List.mem_cons_self)
  have hD := hD0.self (sz := s.heap.size)
  generalize hAe : va_A ((o, .inl (cy 1, 1, .inr (.inl out))) :: xW cy a n V) s.heap.size = A at hD hZ ⊢
  have hA : ∀ q : Nat, s.heap.size ≤ q → A q := fun q h => by rw [← hAe]; exact Or.inr h
  have hS : va_S A s.heap s.heap [] := va_S.rf
  have hPx : va_P D xcl (xW cy a n V) s.heap := lP_tail hP
  have hDx : va_D A (xW cy a n V) := lD_tail hD
  have hfree := z_free hDx hS hA
  have hl := lv_entry ([.ref (a.1 0), .int p1, .int p2, .ref o]) (n := 5) (Nat.le_of_ble_eq_true rfl)
  rw [lg_entry_eq]
  generalize (lg_sl ([.ref (a.1 0), .int p1, .int p2, .ref o]) ++ List.replicate (5 - (lg_sl ([.ref (a.1 0), .int p1, .int p2, .ref o])).length) Slot.unset).toArray = ls at hl ⊢
  have hl : lv_has ls 5 [(0, .ref (a.1 0)), (1, .int p1), (2, .int p2), (3, .ref o)] := hl
  refine lv_aload_n hx hb dL_earliest_0 rfl (lv_at hl 3 rfl) ?_
  refine lv_iconst (v := 0) hx hb dL_earliest_1 (by decide) ?_
  refine lv_aload_n hx hb dL_earliest_2 rfl (lv_at hl 0 rfl) ?_
  refine lv_iload_n hx hb dL_earliest_3 rfl (lv_at hl 1 rfl) ?_
  refine lv_iload_n hx hb dL_earliest_4 rfl (lv_at hl 2 rfl) ?_
  obtain ⟨u, hg, h⟩ := ob_some h
  refine vx_calli (vx_runV (As := [.int p1, .int p2]) (rest := [.int 0, .ref o]) ⟨hx, hb, hml, hown, hts⟩ (c_X3_earliest l hl0 D cy a n V s.heap.size p1 p2 hg) (cwV 2 hts gL_earliest_X3_earliest rfl rfl rfl hd_X3_earliest ⟨Nat.le_of_ble_eq_true rfl, Nat.le_of_ble_eq_true rfl⟩) ⟨zX_blind xI_blind, va_recv hK hPx (ci := 3) (q0 := 0) rfl rfl, zX_at (lZ_narrow hZ hfree) (xI_at hPx hK hDx)⟩ rfl rfl hl.1 rfl (lv_room (Nat.le_of_ble_eq_true rfl)) dL_earliest_5 ⟨Nat.le_of_ble_eq_true rfl, Nat.le_of_ble_eq_true rfl⟩) hS (fun q _ h => hfree q h) hfree (fun q _ h => hfree q h) (fun E ce q9 u9 t H1 locs1 ht hvm hp9 hB hz hk hS hce hcv hcl => ?_) (fun r9 u9 t H1 locs1 ht hvm hw hB hz hk hS => ?_)
  · obtain ⟨hE, hc0, hP1, hD1⟩ := hB
    rw [ht] at hP1
    obtain ⟨hP2, hD2⟩ := z_join (ws := [(o, .inl (cy 1, 1, .inr (.inl out)))]) (wc := xW cy a n V) (w1 := xW cy a n V) hP hD hk hfree hP1 hD1
    replace h := oi_f hc0 h
    by_cases ck : u.1 = 3
    · replace h := oi_t ck h
      rw [ck] at hE
      subst hE
      refine vx_catch hown [] ⟨0, 10, 13, 21⟩ [⟨0, 10, 17, 42⟩] (hT.trans rfl) (fun z hz => absurd hz List.not_mem_nil) rfl (by decide) (hts _ (List.mem_of_getElem? (i := 1) rfl)) (va_Nw.use rfl hZ.1.1.2.2.1) hce hcv hcl ?_
      refine W.eq (g2 := F0 m 13 ls [.ref q9]) rfl ?_
      refine lv_astore (lv' := [(4, .ref q9), (0, .ref (a.1 0)), (1, .int p1), (2, .int p2), (3, .ref o)]) hx hb dL_earliest_13 hl (by decide) rfl (fun ls hl => ?_)
      refine lv_iconst (v := 1) hx hb dL_earliest_15 (by decide) ?_
      cases h
      exact W.iret (v := 1) hx hb hr (fun t ht hW => ⟨⟨1, a, rfl, rfl, ⟨rfl, by rw [ht]; exact hP2, hD2⟩⟩, hS.F ht⟩) hS.2.2 dL_earliest_16 hlocks
    replace h := oi_f ck h
    by_cases ck : u.1 = 4
    · replace h := oi_t ck h
      rw [ck] at hE
      subst hE
      refine vx_catch hown [⟨0, 10, 13, 21⟩] ⟨0, 10, 17, 42⟩ [] (hT.trans rfl) (by intro z hz; simp only [List.mem_cons, List.not_mem_nil, or_false] at hz; subst hz; exact Or.inr ⟨by decide, _, (hts _ (List.mem_of_getElem? (i := 1) rfl)), hC 4 3 (by decide)⟩) rfl (by decide) (hts _ (List.mem_of_getElem? (i := 2) rfl)) (va_Nw.use rfl hZ.1.1.2.2.2.1) hce hcv hcl ?_
      refine W.eq (g2 := F0 m 17 ls [.ref q9]) rfl ?_
      refine lv_astore (lv' := [(4, .ref q9), (0, .ref (a.1 0)), (1, .int p1), (2, .int p2), (3, .ref o)]) hx hb dL_earliest_17 hl (by decide) rfl (fun ls hl => ?_)
      refine lv_iconst (v := 2) hx hb dL_earliest_19 (by decide) ?_
      cases h
      exact W.iret (v := 2) hx hb hr (fun t ht hW => ⟨⟨2, a, rfl, rfl, ⟨rfl, by rw [ht]; exact hP2, hD2⟩⟩, hS.F ht⟩) hS.2.2 dL_earliest_20 hlocks
    replace h := oi_f ck h
    cases h
  · obtain ⟨hP1, hD1⟩ := hB
    rw [ht] at hP1
    obtain ⟨hP2, hD2⟩ := z_join (ws := [(o, .inl (cy 1, 1, .inr (.inl out)))]) (wc := xW cy a n V) (w1 := xW cy a n V) hP hD hk hfree hP1 hD1
    replace h := oi_t hw.1 h
    rw [hw.2]
    refine lv_i2l (v := Int32.toInt64 u.2) hx hb dL_earliest_8 rfl ?_
    refine va_last hx hb hK hP2 hD2 hS 0 1 rfl rfl (show vp_in 0 1 from by unfold vp_in; decide) dL_earliest_9 (fun H2 locs2 hP hD hS => ?_)
    refine lv_goto (tgt := 21) hx hb dL_earliest_10 (by decide) ?_
    refine lv_iconst (v := 0) hx hb dL_earliest_21 (by decide) ?_
    cases h
    exact W.iret (v := 0) hx hb hr (fun t ht hW => ⟨⟨0, a, rfl, rfl, ⟨rfl, by rw [ht]; exact hP, hD⟩⟩, hS.F ht⟩) hS.2.2 dL_earliest_22 hlocks

def f_L_earliestByMinutes (n : Nat → Nat) (V : XV) (out : (Nat → Int64)) (p1 : Int32) (p2 : Int32) : Option (Int32 × (Nat → Nat) × XV × (Nat → Int64)) := ob (f_X3_earliestByMinutes n V p1 p2) (fun u => oi (u.1 = 0) (some (0, n, V, vp_updL out ((0 : Int32)).toNatClampNeg (Int32.toInt64 u.2))) (oi (u.1 = 3) (some (1, n, V, out)) (oi (u.1 = 4) (some (2, n, V, out)) (none))))
theorem hd_L_earliestByMinutes : yL_earliestByMinutes.cls ≠ "java/lang/invoke/MethodHandle" ∧ yL_earliestByMinutes.cls ≠ "java/lang/invoke/VarHandle" ∧ (parseMethodDescriptor yL_earliestByMinutes.desc).map (fun d => d.parameters.length) = some 4 := by decide +kernel
set_option maxHeartbeats 4000000 in
set_option maxRecDepth 100000 in
theorem c_L_earliestByMinutes (l : Launch) (hl0 : l.stackTraces = false) (D : va_G) (cy : Nat → ClassId) (a : XA) (n : Nat → Nat) (V : XV) (o : Nat) (out : (Nat → Int64)) (sz : Nat) (p1 : Int32) (p2 : Int32) {res : Int32 × (Nat → Nat) × XV × (Nat → Int64)} (h : f_L_earliestByMinutes n V out p1 p2 = some res) : Met l yL_earliestByMinutes wsL_earliestByMinutes ({ frames := 8, cells := 1, slots := 6, locals := 145 } : Room) (va_Pc [.ref (a.1 0), .int p1, .int p2, .ref o] (zX sz (va_A ((o, .inl (cy 1, 1, .inr (.inl out))) :: xW cy a n V) sz) (lI D cy a n V ((o, .inl (cy 1, 1, .inr (.inl out))))))) (va_Qi (fun r (_ : XA) => r = res.1) (fun a1 t => a1.1 = a.1 ∧ va_P D xcl ((o, .inl (cy 1, 1, .inr (.inl res.2.2.2))) :: xW cy a1 res.2.1 res.2.2.1) t.heap ∧ va_D (va_A ((o, .inl (cy 1, 1, .inr (.inl out))) :: xW cy a n V) sz) ((o, .inl (cy 1, 1, .inr (.inl res.2.2.2))) :: xW cy a1 res.2.1 res.2.2.1)) (va_A ((o, .inl (cy 1, 1, .inr (.inl out))) :: xW cy a n V) sz)) 1 6 (va_A ((o, .inl (cy 1, 1, .inr (.inl out))) :: xW cy a n V) sz) := by
  refine z_ofWH (cc := cL_earliestByMinutes) (maxL := 5) (ret := (some .int)) (hh := [(0, 10, 13, 21), (0, 10, 17, 42)]) (by decide) rfl ?_
  intro p e s m args below meth c s₁ B hml hv
  obtain ⟨rfl, hsz, hZ, hC, hP, hK, hD0⟩ := hv
  have hx := B.exec
  have hb := B.bytes
  have hr := B.returns
  have hts := atoms_spec (ws := wsL_earliestByMinutes) B.pre
  have hown : s.vm.findClass RL = some m.cls := findClass_of_methodNamed B.named
  have hlocks := B.notSynchronized
  subst hsz
  have hT : c.exceptionTable.toList = tableOf [(0, 10, 13, 21), (0, 10, 17, 42)] := vx_table (x := objectInit) B (hts _ List.mem_cons_self)
  have hD := hD0.self (sz := s.heap.size)
  generalize hAe : va_A ((o, .inl (cy 1, 1, .inr (.inl out))) :: xW cy a n V) s.heap.size = A at hD hZ ⊢
  have hA : ∀ q : Nat, s.heap.size ≤ q → A q := fun q h => by rw [← hAe]; exact Or.inr h
  have hS : va_S A s.heap s.heap [] := va_S.rf
  have hPx : va_P D xcl (xW cy a n V) s.heap := lP_tail hP
  have hDx : va_D A (xW cy a n V) := lD_tail hD
  have hfree := z_free hDx hS hA
  have hl := lv_entry ([.ref (a.1 0), .int p1, .int p2, .ref o]) (n := 5) (Nat.le_of_ble_eq_true rfl)
  rw [lg_entry_eq]
  generalize (lg_sl ([.ref (a.1 0), .int p1, .int p2, .ref o]) ++ List.replicate (5 - (lg_sl ([.ref (a.1 0), .int p1, .int p2, .ref o])).length) Slot.unset).toArray = ls at hl ⊢
  have hl : lv_has ls 5 [(0, .ref (a.1 0)), (1, .int p1), (2, .int p2), (3, .ref o)] := hl
  refine lv_aload_n hx hb dL_earliestByMinutes_0 rfl (lv_at hl 3 rfl) ?_
  refine lv_iconst (v := 0) hx hb dL_earliestByMinutes_1 (by decide) ?_
  refine lv_aload_n hx hb dL_earliestByMinutes_2 rfl (lv_at hl 0 rfl) ?_
  refine lv_iload_n hx hb dL_earliestByMinutes_3 rfl (lv_at hl 1 rfl) ?_
  refine lv_iload_n hx hb dL_earliestByMinutes_4 rfl (lv_at hl 2 rfl) ?_
  obtain ⟨u, hg, h⟩ := ob_some h
  refine vx_calli (vx_runV (As := [.int p1, .int p2]) (rest := [.int 0, .ref o]) ⟨hx, hb, hml, hown, hts⟩ (c_X3_earliestByMinutes l hl0 D cy a n V s.heap.size p1 p2 hg) (cwV 2 hts gL_earliestByMinutes_X3_earliestByMinutes rfl rfl rfl hd_X3_earliestByMinutes ⟨Nat.le_of_ble_eq_true rfl, Nat.le_of_ble_eq_true rfl⟩) ⟨zX_blind xI_blind, va_recv hK hPx (ci := 3) (q0 := 0) rfl rfl, zX_at (lZ_narrow hZ hfree) (xI_at hPx hK hDx)⟩ rfl rfl hl.1 rfl (lv_room (Nat.le_of_ble_eq_true rfl)) dL_earliestByMinutes_5 ⟨Nat.le_of_ble_eq_true rfl, Nat.le_of_ble_eq_true rfl⟩) hS (fun q _ h => hfree q h) hfree (fun q _ h => hfree q h) (fun E ce q9 u9 t H1 locs1 ht hvm hp9 hB hz hk hS hce hcv hcl => ?_) (fun r9 u9 t H1 locs1 ht hvm hw hB hz hk hS => ?_)
  · obtain ⟨hE, hc0, hP1, hD1⟩ := hB
    rw [ht] at hP1
    obtain ⟨hP2, hD2⟩ := z_join (ws := [(o, .inl (cy 1, 1, .inr (.inl out)))]) (wc := xW cy a n V) (w1 := xW cy a n V) hP hD hk hfree hP1 hD1
    replace h := oi_f hc0 h
    by_cases ck : u.1 = 3
    · replace h := oi_t ck h
      rw [ck] at hE
      subst hE
      refine vx_catch hown [] ⟨0, 10, 13, 21⟩ [⟨0, 10, 17, 42⟩] (hT.trans rfl) (fun z hz => absurd hz List.not_mem_nil) rfl (by decide) (hts _ (List.mem_of_getElem? (i := 1) rfl)) (va_Nw.use rfl hZ.1.1.2.2.1) hce hcv hcl ?_
      refine W.eq (g2 := F0 m 13 ls [.ref q9]) rfl ?_
      refine lv_astore (lv' := [(4, .ref q9), (0, .ref (a.1 0)), (1, .int p1), (2, .int p2), (3, .ref o)]) hx hb dL_earliestByMinutes_13 hl (by decide) rfl (fun ls hl => ?_)
      refine lv_iconst (v := 1) hx hb dL_earliestByMinutes_15 (by decide) ?_
      cases h
      exact W.iret (v := 1) hx hb hr (fun t ht hW => ⟨⟨1, a, rfl, rfl, ⟨rfl, by rw [ht]; exact hP2, hD2⟩⟩, hS.F ht⟩) hS.2.2 dL_earliestByMinutes_16 hlocks
    replace h := oi_f ck h
    by_cases ck : u.1 = 4
    · replace h := oi_t ck h
      rw [ck] at hE
      subst hE
      refine vx_catch hown [⟨0, 10, 13, 21⟩] ⟨0, 10, 17, 42⟩ [] (hT.trans rfl) (by intro z hz; simp only [List.mem_cons, List.not_mem_nil, or_false] at hz; subst hz; exact Or.inr ⟨by decide, _, (hts _ (List.mem_of_getElem? (i := 1) rfl)), hC 4 3 (by decide)⟩) rfl (by decide) (hts _ (List.mem_of_getElem? (i := 2) rfl)) (va_Nw.use rfl hZ.1.1.2.2.2.1) hce hcv hcl ?_
      refine W.eq (g2 := F0 m 17 ls [.ref q9]) rfl ?_
      refine lv_astore (lv' := [(4, .ref q9), (0, .ref (a.1 0)), (1, .int p1), (2, .int p2), (3, .ref o)]) hx hb dL_earliestByMinutes_17 hl (by decide) rfl (fun ls hl => ?_)
      refine lv_iconst (v := 2) hx hb dL_earliestByMinutes_19 (by decide) ?_
      cases h
      exact W.iret (v := 2) hx hb hr (fun t ht hW => ⟨⟨2, a, rfl, rfl, ⟨rfl, by rw [ht]; exact hP2, hD2⟩⟩, hS.F ht⟩) hS.2.2 dL_earliestByMinutes_20 hlocks
    replace h := oi_f ck h
    cases h
  · obtain ⟨hP1, hD1⟩ := hB
    rw [ht] at hP1
    obtain ⟨hP2, hD2⟩ := z_join (ws := [(o, .inl (cy 1, 1, .inr (.inl out)))]) (wc := xW cy a n V) (w1 := xW cy a n V) hP hD hk hfree hP1 hD1
    replace h := oi_t hw.1 h
    rw [hw.2]
    refine lv_i2l (v := Int32.toInt64 u.2) hx hb dL_earliestByMinutes_8 rfl ?_
    refine va_last hx hb hK hP2 hD2 hS 0 1 rfl rfl (show vp_in 0 1 from by unfold vp_in; decide) dL_earliestByMinutes_9 (fun H2 locs2 hP hD hS => ?_)
    refine lv_goto (tgt := 21) hx hb dL_earliestByMinutes_10 (by decide) ?_
    refine lv_iconst (v := 0) hx hb dL_earliestByMinutes_21 (by decide) ?_
    cases h
    exact W.iret (v := 0) hx hb hr (fun t ht hW => ⟨⟨0, a, rfl, rfl, ⟨rfl, by rw [ht]; exact hP, hD⟩⟩, hS.F ht⟩) hS.2.2 dL_earliestByMinutes_22 hlocks

def f_L_stateOf (n : Nat → Nat) (V : XV) (out : (Nat → Int64)) (p1 : Int32) : Option (Int32 × (Nat → Nat) × XV × (Nat → Int64)) := ob (f_X3_stateOf n V p1) (fun u => oi (u.1 = 0) (some (0, n, V, vp_updL out ((0 : Int32)).toNatClampNeg (Int32.toInt64 u.2))) (oi (u.1 = 3) (some (1, n, V, out)) (none)))
theorem hd_L_stateOf : yL_stateOf.cls ≠ "java/lang/invoke/MethodHandle" ∧ yL_stateOf.cls ≠ "java/lang/invoke/VarHandle" ∧ (parseMethodDescriptor yL_stateOf.desc).map (fun d => d.parameters.length) = some 3 := by decide +kernel
set_option maxHeartbeats 4000000 in
set_option maxRecDepth 100000 in
theorem c_L_stateOf (l : Launch) (hl0 : l.stackTraces = false) (D : va_G) (cy : Nat → ClassId) (a : XA) (n : Nat → Nat) (V : XV) (o : Nat) (out : (Nat → Int64)) (sz : Nat) (p1 : Int32) {res : Int32 × (Nat → Nat) × XV × (Nat → Int64)} (h : f_L_stateOf n V out p1 = some res) : Met l yL_stateOf wsL_stateOf ({ frames := 8, cells := 1, slots := 6, locals := 142 } : Room) (va_Pc [.ref (a.1 0), .int p1, .ref o] (zX sz (va_A ((o, .inl (cy 1, 1, .inr (.inl out))) :: xW cy a n V) sz) (lI D cy a n V ((o, .inl (cy 1, 1, .inr (.inl out))))))) (va_Qi (fun r (_ : XA) => r = res.1) (fun a1 t => a1.1 = a.1 ∧ va_P D xcl ((o, .inl (cy 1, 1, .inr (.inl res.2.2.2))) :: xW cy a1 res.2.1 res.2.2.1) t.heap ∧ va_D (va_A ((o, .inl (cy 1, 1, .inr (.inl out))) :: xW cy a n V) sz) ((o, .inl (cy 1, 1, .inr (.inl res.2.2.2))) :: xW cy a1 res.2.1 res.2.2.1)) (va_A ((o, .inl (cy 1, 1, .inr (.inl out))) :: xW cy a n V) sz)) 1 6 (va_A ((o, .inl (cy 1, 1, .inr (.inl out))) :: xW cy a n V) sz) := by
  refine z_ofWH (cc := cL_stateOf) (maxL := 4) (ret := (some .int)) (hh := [(0, 9, 12, 21)]) (by decide) rfl ?_
  intro p e s m args below meth c s₁ B hml hv
  obtain ⟨rfl, hsz, hZ, hC, hP, hK, hD0⟩ := hv
  have hx := B.exec
  have hb := B.bytes
  have hr := B.returns
  have hts := atoms_spec (ws := wsL_stateOf) B.pre
  have hown : s.vm.findClass RL = some m.cls := findClass_of_methodNamed B.named
  have hlocks := B.notSynchronized
  subst hsz
  have hT : c.exceptionTable.toList = tableOf [(0, 9, 12, 21)] := vx_table (x := objectInit) B (hts _ List.mem_cons_self)
  have hD := hD0.self (sz := s.heap.size)
  generalize hAe : va_A ((o, .inl (cy 1, 1, .inr (.inl out))) :: xW cy a n V) s.heap.size = A at hD hZ ⊢
  have hA : ∀ q : Nat, s.heap.size ≤ q → A q := fun q h => by rw [← hAe]; exact Or.inr h
  have hS : va_S A s.heap s.heap [] := va_S.rf
  have hPx : va_P D xcl (xW cy a n V) s.heap := lP_tail hP
  have hDx : va_D A (xW cy a n V) := lD_tail hD
  have hfree := z_free hDx hS hA
  have hl := lv_entry ([.ref (a.1 0), .int p1, .ref o]) (n := 4) (Nat.le_of_ble_eq_true rfl)
  rw [lg_entry_eq]
  generalize (lg_sl ([.ref (a.1 0), .int p1, .ref o]) ++ List.replicate (4 - (lg_sl ([.ref (a.1 0), .int p1, .ref o])).length) Slot.unset).toArray = ls at hl ⊢
  have hl : lv_has ls 4 [(0, .ref (a.1 0)), (1, .int p1), (2, .ref o)] := hl
  refine lv_aload_n hx hb dL_stateOf_0 rfl (lv_at hl 2 rfl) ?_
  refine lv_iconst (v := 0) hx hb dL_stateOf_1 (by decide) ?_
  refine lv_aload_n hx hb dL_stateOf_2 rfl (lv_at hl 0 rfl) ?_
  refine lv_iload_n hx hb dL_stateOf_3 rfl (lv_at hl 1 rfl) ?_
  obtain ⟨u, hg, h⟩ := ob_some h
  refine vx_calli (vx_runV (As := [.int p1]) (rest := [.int 0, .ref o]) ⟨hx, hb, hml, hown, hts⟩ (c_X3_stateOf l hl0 D cy a n V s.heap.size p1 hg) (cwV 1 hts gL_stateOf_X3_stateOf rfl rfl rfl hd_X3_stateOf ⟨Nat.le_of_ble_eq_true rfl, Nat.le_of_ble_eq_true rfl⟩) ⟨zX_blind xI_blind, va_recv hK hPx (ci := 3) (q0 := 0) rfl rfl, zX_at (lZ_narrow hZ hfree) (xI_at hPx hK hDx)⟩ rfl rfl hl.1 rfl (lv_room (Nat.le_of_ble_eq_true rfl)) dL_stateOf_4 ⟨Nat.le_of_ble_eq_true rfl, Nat.le_of_ble_eq_true rfl⟩) hS (fun q _ h => hfree q h) hfree (fun q _ h => hfree q h) (fun E ce q9 u9 t H1 locs1 ht hvm hp9 hB hz hk hS hce hcv hcl => ?_) (fun r9 u9 t H1 locs1 ht hvm hw hB hz hk hS => ?_)
  · obtain ⟨hE, hc0, hP1, hD1⟩ := hB
    rw [ht] at hP1
    obtain ⟨hP2, hD2⟩ := z_join (ws := [(o, .inl (cy 1, 1, .inr (.inl out)))]) (wc := xW cy a n V) (w1 := xW cy a n V) hP hD hk hfree hP1 hD1
    replace h := oi_f hc0 h
    by_cases ck : u.1 = 3
    · replace h := oi_t ck h
      rw [ck] at hE
      subst hE
      refine vx_catch hown [] ⟨0, 9, 12, 21⟩ [] (hT.trans rfl) (fun z hz => absurd hz List.not_mem_nil) rfl (by decide) (hts _ (List.mem_of_getElem? (i := 1) rfl)) (va_Nw.use rfl hZ.1.1.2.2.1) hce hcv hcl ?_
      refine W.eq (g2 := F0 m 12 ls [.ref q9]) rfl ?_
      refine lv_astore_n (lv' := [(3, .ref q9), (0, .ref (a.1 0)), (1, .int p1), (2, .ref o)]) hx hb dL_stateOf_12 rfl hl (by decide) rfl (fun ls hl => ?_)
      refine lv_iconst (v := 1) hx hb dL_stateOf_13 (by decide) ?_
      cases h
      exact W.iret (v := 1) hx hb hr (fun t ht hW => ⟨⟨1, a, rfl, rfl, ⟨rfl, by rw [ht]; exact hP2, hD2⟩⟩, hS.F ht⟩) hS.2.2 dL_stateOf_14 hlocks
    replace h := oi_f ck h
    cases h
  · obtain ⟨hP1, hD1⟩ := hB
    rw [ht] at hP1
    obtain ⟨hP2, hD2⟩ := z_join (ws := [(o, .inl (cy 1, 1, .inr (.inl out)))]) (wc := xW cy a n V) (w1 := xW cy a n V) hP hD hk hfree hP1 hD1
    replace h := oi_t hw.1 h
    rw [hw.2]
    refine lv_i2l (v := Int32.toInt64 u.2) hx hb dL_stateOf_7 rfl ?_
    refine va_last hx hb hK hP2 hD2 hS 0 1 rfl rfl (show vp_in 0 1 from by unfold vp_in; decide) dL_stateOf_8 (fun H2 locs2 hP hD hS => ?_)
    refine lv_goto (tgt := 15) hx hb dL_stateOf_9 (by decide) ?_
    refine lv_iconst (v := 0) hx hb dL_stateOf_15 (by decide) ?_
    cases h
    exact W.iret (v := 0) hx hb hr (fun t ht hW => ⟨⟨0, a, rfl, rfl, ⟨rfl, by rw [ht]; exact hP, hD⟩⟩, hS.F ht⟩) hS.2.2 dL_stateOf_16 hlocks

def f_L_startOf (n : Nat → Nat) (V : XV) (out : (Nat → Int64)) (p1 : Int32) : Option (Int32 × (Nat → Nat) × XV × (Nat → Int64)) := ob (f_X3_startOf n V p1) (fun u => oi (u.1 = 0) (some (0, n, V, vp_updL out ((0 : Int32)).toNatClampNeg (Int32.toInt64 u.2))) (oi (u.1 = 3) (some (1, n, V, out)) (oi (u.1 = 2) (some (2, n, V, out)) (none))))
theorem hd_L_startOf : yL_startOf.cls ≠ "java/lang/invoke/MethodHandle" ∧ yL_startOf.cls ≠ "java/lang/invoke/VarHandle" ∧ (parseMethodDescriptor yL_startOf.desc).map (fun d => d.parameters.length) = some 3 := by decide +kernel
set_option maxHeartbeats 4000000 in
set_option maxRecDepth 100000 in
theorem c_L_startOf (l : Launch) (hl0 : l.stackTraces = false) (D : va_G) (cy : Nat → ClassId) (a : XA) (n : Nat → Nat) (V : XV) (o : Nat) (out : (Nat → Int64)) (sz : Nat) (p1 : Int32) {res : Int32 × (Nat → Nat) × XV × (Nat → Int64)} (h : f_L_startOf n V out p1 = some res) : Met l yL_startOf wsL_startOf ({ frames := 8, cells := 1, slots := 6, locals := 142 } : Room) (va_Pc [.ref (a.1 0), .int p1, .ref o] (zX sz (va_A ((o, .inl (cy 1, 1, .inr (.inl out))) :: xW cy a n V) sz) (lI D cy a n V ((o, .inl (cy 1, 1, .inr (.inl out))))))) (va_Qi (fun r (_ : XA) => r = res.1) (fun a1 t => a1.1 = a.1 ∧ va_P D xcl ((o, .inl (cy 1, 1, .inr (.inl res.2.2.2))) :: xW cy a1 res.2.1 res.2.2.1) t.heap ∧ va_D (va_A ((o, .inl (cy 1, 1, .inr (.inl out))) :: xW cy a n V) sz) ((o, .inl (cy 1, 1, .inr (.inl res.2.2.2))) :: xW cy a1 res.2.1 res.2.2.1)) (va_A ((o, .inl (cy 1, 1, .inr (.inl out))) :: xW cy a n V) sz)) 1 6 (va_A ((o, .inl (cy 1, 1, .inr (.inl out))) :: xW cy a n V) sz) := by
  refine z_ofWH (cc := cL_startOf) (maxL := 4) (ret := (some .int)) (hh := [(0, 9, 12, 21), (0, 9, 15, 15)]) (by decide) rfl ?_
  intro p e s m args below meth c s₁ B hml hv
  obtain ⟨rfl, hsz, hZ, hC, hP, hK, hD0⟩ := hv
  have hx := B.exec
  have hb := B.bytes
  have hr := B.returns
  have hts := atoms_spec (ws := wsL_startOf) B.pre
  have hown : s.vm.findClass RL = some m.cls := findClass_of_methodNamed B.named
  have hlocks := B.notSynchronized
  subst hsz
  have hT : c.exceptionTable.toList = tableOf [(0, 9, 12, 21), (0, 9, 15, 15)] := vx_table (x := objectInit) B (hts _ List.mem_cons_self)
  have hD := hD0.self (sz := s.heap.size)
  generalize hAe : va_A ((o, .inl (cy 1, 1, .inr (.inl out))) :: xW cy a n V) s.heap.size = A at hD hZ ⊢
  have hA : ∀ q : Nat, s.heap.size ≤ q → A q := fun q h => by rw [← hAe]; exact Or.inr h
  have hS : va_S A s.heap s.heap [] := va_S.rf
  have hPx : va_P D xcl (xW cy a n V) s.heap := lP_tail hP
  have hDx : va_D A (xW cy a n V) := lD_tail hD
  have hfree := z_free hDx hS hA
  have hl := lv_entry ([.ref (a.1 0), .int p1, .ref o]) (n := 4) (Nat.le_of_ble_eq_true rfl)
  rw [lg_entry_eq]
  generalize (lg_sl ([.ref (a.1 0), .int p1, .ref o]) ++ List.replicate (4 - (lg_sl ([.ref (a.1 0), .int p1, .ref o])).length) Slot.unset).toArray = ls at hl ⊢
  have hl : lv_has ls 4 [(0, .ref (a.1 0)), (1, .int p1), (2, .ref o)] := hl
  refine lv_aload_n hx hb dL_startOf_0 rfl (lv_at hl 2 rfl) ?_
  refine lv_iconst (v := 0) hx hb dL_startOf_1 (by decide) ?_
  refine lv_aload_n hx hb dL_startOf_2 rfl (lv_at hl 0 rfl) ?_
  refine lv_iload_n hx hb dL_startOf_3 rfl (lv_at hl 1 rfl) ?_
  obtain ⟨u, hg, h⟩ := ob_some h
  refine vx_calli (vx_runV (As := [.int p1]) (rest := [.int 0, .ref o]) ⟨hx, hb, hml, hown, hts⟩ (c_X3_startOf l hl0 D cy a n V s.heap.size p1 hg) (cwV 1 hts gL_startOf_X3_startOf rfl rfl rfl hd_X3_startOf ⟨Nat.le_of_ble_eq_true rfl, Nat.le_of_ble_eq_true rfl⟩) ⟨zX_blind xI_blind, va_recv hK hPx (ci := 3) (q0 := 0) rfl rfl, zX_at (lZ_narrow hZ hfree) (xI_at hPx hK hDx)⟩ rfl rfl hl.1 rfl (lv_room (Nat.le_of_ble_eq_true rfl)) dL_startOf_4 ⟨Nat.le_of_ble_eq_true rfl, Nat.le_of_ble_eq_true rfl⟩) hS (fun q _ h => hfree q h) hfree (fun q _ h => hfree q h) (fun E ce q9 u9 t H1 locs1 ht hvm hp9 hB hz hk hS hce hcv hcl => ?_) (fun r9 u9 t H1 locs1 ht hvm hw hB hz hk hS => ?_)
  · obtain ⟨hE, hc0, hP1, hD1⟩ := hB
    rw [ht] at hP1
    obtain ⟨hP2, hD2⟩ := z_join (ws := [(o, .inl (cy 1, 1, .inr (.inl out)))]) (wc := xW cy a n V) (w1 := xW cy a n V) hP hD hk hfree hP1 hD1
    replace h := oi_f hc0 h
    by_cases ck : u.1 = 3
    · replace h := oi_t ck h
      rw [ck] at hE
      subst hE
      refine vx_catch hown [] ⟨0, 9, 12, 21⟩ [⟨0, 9, 15, 15⟩] (hT.trans rfl) (fun z hz => absurd hz List.not_mem_nil) rfl (by decide) (hts _ (List.mem_of_getElem? (i := 1) rfl)) (va_Nw.use rfl hZ.1.1.2.2.1) hce hcv hcl ?_
      refine W.eq (g2 := F0 m 12 ls [.ref q9]) rfl ?_
      refine lv_astore_n (lv' := [(3, .ref q9), (0, .ref (a.1 0)), (1, .int p1), (2, .ref o)]) hx hb dL_startOf_12 rfl hl (by decide) rfl (fun ls hl => ?_)
      refine lv_iconst (v := 1) hx hb dL_startOf_13 (by decide) ?_
      cases h
      exact W.iret (v := 1) hx hb hr (fun t ht hW => ⟨⟨1, a, rfl, rfl, ⟨rfl, by rw [ht]; exact hP2, hD2⟩⟩, hS.F ht⟩) hS.2.2 dL_startOf_14 hlocks
    replace h := oi_f ck h
    by_cases ck : u.1 = 2
    · replace h := oi_t ck h
      rw [ck] at hE
      subst hE
      refine vx_catch hown [⟨0, 9, 12, 21⟩] ⟨0, 9, 15, 15⟩ [] (hT.trans rfl) (by intro z hz; simp only [List.mem_cons, List.not_mem_nil, or_false] at hz; subst hz; exact Or.inr ⟨by decide, _, (hts _ (List.mem_of_getElem? (i := 1) rfl)), hC 2 3 (by decide)⟩) rfl (by decide) (hts _ (List.mem_of_getElem? (i := 2) rfl)) (va_Nw.use rfl hZ.1.1.2.1) hce hcv hcl ?_
      refine W.eq (g2 := F0 m 15 ls [.ref q9]) rfl ?_
      refine lv_astore_n (lv' := [(3, .ref q9), (0, .ref (a.1 0)), (1, .int p1), (2, .ref o)]) hx hb dL_startOf_15 rfl hl (by decide) rfl (fun ls hl => ?_)
      refine lv_iconst (v := 2) hx hb dL_startOf_16 (by decide) ?_
      cases h
      exact W.iret (v := 2) hx hb hr (fun t ht hW => ⟨⟨2, a, rfl, rfl, ⟨rfl, by rw [ht]; exact hP2, hD2⟩⟩, hS.F ht⟩) hS.2.2 dL_startOf_17 hlocks
    replace h := oi_f ck h
    cases h
  · obtain ⟨hP1, hD1⟩ := hB
    rw [ht] at hP1
    obtain ⟨hP2, hD2⟩ := z_join (ws := [(o, .inl (cy 1, 1, .inr (.inl out)))]) (wc := xW cy a n V) (w1 := xW cy a n V) hP hD hk hfree hP1 hD1
    replace h := oi_t hw.1 h
    rw [hw.2]
    refine lv_i2l (v := Int32.toInt64 u.2) hx hb dL_startOf_7 rfl ?_
    refine va_last hx hb hK hP2 hD2 hS 0 1 rfl rfl (show vp_in 0 1 from by unfold vp_in; decide) dL_startOf_8 (fun H2 locs2 hP hD hS => ?_)
    refine lv_goto (tgt := 18) hx hb dL_startOf_9 (by decide) ?_
    refine lv_iconst (v := 0) hx hb dL_startOf_18 (by decide) ?_
    cases h
    exact W.iret (v := 0) hx hb hr (fun t ht hW => ⟨⟨0, a, rfl, rfl, ⟨rfl, by rw [ht]; exact hP, hD⟩⟩, hS.F ht⟩) hS.2.2 dL_startOf_19 hlocks

def f_L_craneOf (n : Nat → Nat) (V : XV) (out : (Nat → Int64)) (p1 : Int32) : Option (Int32 × (Nat → Nat) × XV × (Nat → Int64)) := ob (f_X3_craneOf n V p1) (fun u => oi (u.1 = 0) (some (0, n, V, vp_updL out ((0 : Int32)).toNatClampNeg (Int32.toInt64 u.2))) (oi (u.1 = 3) (some (1, n, V, out)) (oi (u.1 = 2) (some (2, n, V, out)) (none))))
theorem hd_L_craneOf : yL_craneOf.cls ≠ "java/lang/invoke/MethodHandle" ∧ yL_craneOf.cls ≠ "java/lang/invoke/VarHandle" ∧ (parseMethodDescriptor yL_craneOf.desc).map (fun d => d.parameters.length) = some 3 := by decide +kernel
set_option maxHeartbeats 4000000 in
set_option maxRecDepth 100000 in
theorem c_L_craneOf (l : Launch) (hl0 : l.stackTraces = false) (D : va_G) (cy : Nat → ClassId) (a : XA) (n : Nat → Nat) (V : XV) (o : Nat) (out : (Nat → Int64)) (sz : Nat) (p1 : Int32) {res : Int32 × (Nat → Nat) × XV × (Nat → Int64)} (h : f_L_craneOf n V out p1 = some res) : Met l yL_craneOf wsL_craneOf ({ frames := 8, cells := 1, slots := 6, locals := 142 } : Room) (va_Pc [.ref (a.1 0), .int p1, .ref o] (zX sz (va_A ((o, .inl (cy 1, 1, .inr (.inl out))) :: xW cy a n V) sz) (lI D cy a n V ((o, .inl (cy 1, 1, .inr (.inl out))))))) (va_Qi (fun r (_ : XA) => r = res.1) (fun a1 t => a1.1 = a.1 ∧ va_P D xcl ((o, .inl (cy 1, 1, .inr (.inl res.2.2.2))) :: xW cy a1 res.2.1 res.2.2.1) t.heap ∧ va_D (va_A ((o, .inl (cy 1, 1, .inr (.inl out))) :: xW cy a n V) sz) ((o, .inl (cy 1, 1, .inr (.inl res.2.2.2))) :: xW cy a1 res.2.1 res.2.2.1)) (va_A ((o, .inl (cy 1, 1, .inr (.inl out))) :: xW cy a n V) sz)) 1 6 (va_A ((o, .inl (cy 1, 1, .inr (.inl out))) :: xW cy a n V) sz) := by
  refine z_ofWH (cc := cL_craneOf) (maxL := 4) (ret := (some .int)) (hh := [(0, 9, 12, 21), (0, 9, 15, 15)]) (by decide) rfl ?_
  intro p e s m args below meth c s₁ B hml hv
  obtain ⟨rfl, hsz, hZ, hC, hP, hK, hD0⟩ := hv
  have hx := B.exec
  have hb := B.bytes
  have hr := B.returns
  have hts := atoms_spec (ws := wsL_craneOf) B.pre
  have hown : s.vm.findClass RL = some m.cls := findClass_of_methodNamed B.named
  have hlocks := B.notSynchronized
  subst hsz
  have hT : c.exceptionTable.toList = tableOf [(0, 9, 12, 21), (0, 9, 15, 15)] := vx_table (x := objectInit) B (hts _ List.mem_cons_self)
  have hD := hD0.self (sz := s.heap.size)
  generalize hAe : va_A ((o, .inl (cy 1, 1, .inr (.inl out))) :: xW cy a n V) s.heap.size = A at hD hZ ⊢
  have hA : ∀ q : Nat, s.heap.size ≤ q → A q := fun q h => by rw [← hAe]; exact Or.inr h
  have hS : va_S A s.heap s.heap [] := va_S.rf
  have hPx : va_P D xcl (xW cy a n V) s.heap := lP_tail hP
  have hDx : va_D A (xW cy a n V) := lD_tail hD
  have hfree := z_free hDx hS hA
  have hl := lv_entry ([.ref (a.1 0), .int p1, .ref o]) (n := 4) (Nat.le_of_ble_eq_true rfl)
  rw [lg_entry_eq]
  generalize (lg_sl ([.ref (a.1 0), .int p1, .ref o]) ++ List.replicate (4 - (lg_sl ([.ref (a.1 0), .int p1, .ref o])).length) Slot.unset).toArray = ls at hl ⊢
  have hl : lv_has ls 4 [(0, .ref (a.1 0)), (1, .int p1), (2, .ref o)] := hl
  refine lv_aload_n hx hb dL_craneOf_0 rfl (lv_at hl 2 rfl) ?_
  refine lv_iconst (v := 0) hx hb dL_craneOf_1 (by decide) ?_
  refine lv_aload_n hx hb dL_craneOf_2 rfl (lv_at hl 0 rfl) ?_
  refine lv_iload_n hx hb dL_craneOf_3 rfl (lv_at hl 1 rfl) ?_
  obtain ⟨u, hg, h⟩ := ob_some h
  refine vx_calli (vx_runV (As := [.int p1]) (rest := [.int 0, .ref o]) ⟨hx, hb, hml, hown, hts⟩ (c_X3_craneOf l hl0 D cy a n V s.heap.size p1 hg) (cwV 1 hts gL_craneOf_X3_craneOf rfl rfl rfl hd_X3_craneOf ⟨Nat.le_of_ble_eq_true rfl, Nat.le_of_ble_eq_true rfl⟩) ⟨zX_blind xI_blind, va_recv hK hPx (ci := 3) (q0 := 0) rfl rfl, zX_at (lZ_narrow hZ hfree) (xI_at hPx hK hDx)⟩ rfl rfl hl.1 rfl (lv_room (Nat.le_of_ble_eq_true rfl)) dL_craneOf_4 ⟨Nat.le_of_ble_eq_true rfl, Nat.le_of_ble_eq_true rfl⟩) hS (fun q _ h => hfree q h) hfree (fun q _ h => hfree q h) (fun E ce q9 u9 t H1 locs1 ht hvm hp9 hB hz hk hS hce hcv hcl => ?_) (fun r9 u9 t H1 locs1 ht hvm hw hB hz hk hS => ?_)
  · obtain ⟨hE, hc0, hP1, hD1⟩ := hB
    rw [ht] at hP1
    obtain ⟨hP2, hD2⟩ := z_join (ws := [(o, .inl (cy 1, 1, .inr (.inl out)))]) (wc := xW cy a n V) (w1 := xW cy a n V) hP hD hk hfree hP1 hD1
    replace h := oi_f hc0 h
    by_cases ck : u.1 = 3
    · replace h := oi_t ck h
      rw [ck] at hE
      subst hE
      refine vx_catch hown [] ⟨0, 9, 12, 21⟩ [⟨0, 9, 15, 15⟩] (hT.trans rfl) (fun z hz => absurd hz List.not_mem_nil) rfl (by decide) (hts _ (List.mem_of_getElem? (i := 1) rfl)) (va_Nw.use rfl hZ.1.1.2.2.1) hce hcv hcl ?_
      refine W.eq (g2 := F0 m 12 ls [.ref q9]) rfl ?_
      refine lv_astore_n (lv' := [(3, .ref q9), (0, .ref (a.1 0)), (1, .int p1), (2, .ref o)]) hx hb dL_craneOf_12 rfl hl (by decide) rfl (fun ls hl => ?_)
      refine lv_iconst (v := 1) hx hb dL_craneOf_13 (by decide) ?_
      cases h
      exact W.iret (v := 1) hx hb hr (fun t ht hW => ⟨⟨1, a, rfl, rfl, ⟨rfl, by rw [ht]; exact hP2, hD2⟩⟩, hS.F ht⟩) hS.2.2 dL_craneOf_14 hlocks
    replace h := oi_f ck h
    by_cases ck : u.1 = 2
    · replace h := oi_t ck h
      rw [ck] at hE
      subst hE
      refine vx_catch hown [⟨0, 9, 12, 21⟩] ⟨0, 9, 15, 15⟩ [] (hT.trans rfl) (by intro z hz; simp only [List.mem_cons, List.not_mem_nil, or_false] at hz; subst hz; exact Or.inr ⟨by decide, _, (hts _ (List.mem_of_getElem? (i := 1) rfl)), hC 2 3 (by decide)⟩) rfl (by decide) (hts _ (List.mem_of_getElem? (i := 2) rfl)) (va_Nw.use rfl hZ.1.1.2.1) hce hcv hcl ?_
      refine W.eq (g2 := F0 m 15 ls [.ref q9]) rfl ?_
      refine lv_astore_n (lv' := [(3, .ref q9), (0, .ref (a.1 0)), (1, .int p1), (2, .ref o)]) hx hb dL_craneOf_15 rfl hl (by decide) rfl (fun ls hl => ?_)
      refine lv_iconst (v := 2) hx hb dL_craneOf_16 (by decide) ?_
      cases h
      exact W.iret (v := 2) hx hb hr (fun t ht hW => ⟨⟨2, a, rfl, rfl, ⟨rfl, by rw [ht]; exact hP2, hD2⟩⟩, hS.F ht⟩) hS.2.2 dL_craneOf_17 hlocks
    replace h := oi_f ck h
    cases h
  · obtain ⟨hP1, hD1⟩ := hB
    rw [ht] at hP1
    obtain ⟨hP2, hD2⟩ := z_join (ws := [(o, .inl (cy 1, 1, .inr (.inl out)))]) (wc := xW cy a n V) (w1 := xW cy a n V) hP hD hk hfree hP1 hD1
    replace h := oi_t hw.1 h
    rw [hw.2]
    refine lv_i2l (v := Int32.toInt64 u.2) hx hb dL_craneOf_7 rfl ?_
    refine va_last hx hb hK hP2 hD2 hS 0 1 rfl rfl (show vp_in 0 1 from by unfold vp_in; decide) dL_craneOf_8 (fun H2 locs2 hP hD hS => ?_)
    refine lv_goto (tgt := 18) hx hb dL_craneOf_9 (by decide) ?_
    refine lv_iconst (v := 0) hx hb dL_craneOf_18 (by decide) ?_
    cases h
    exact W.iret (v := 0) hx hb hr (fun t ht hW => ⟨⟨0, a, rfl, rfl, ⟨rfl, by rw [ht]; exact hP, hD⟩⟩, hS.F ht⟩) hS.2.2 dL_craneOf_19 hlocks

def f_L_pourOf (n : Nat → Nat) (V : XV) (out : (Nat → Int64)) (p1 : Int32) : Option (Int32 × (Nat → Nat) × XV × (Nat → Int64)) := ob (f_X3_pourOf n V p1) (fun u => oi (u.1 = 0) (some (0, n, V, vp_updL out ((0 : Int32)).toNatClampNeg (Int32.toInt64 u.2))) (oi (u.1 = 3) (some (1, n, V, out)) (none)))
theorem hd_L_pourOf : yL_pourOf.cls ≠ "java/lang/invoke/MethodHandle" ∧ yL_pourOf.cls ≠ "java/lang/invoke/VarHandle" ∧ (parseMethodDescriptor yL_pourOf.desc).map (fun d => d.parameters.length) = some 3 := by decide +kernel
set_option maxHeartbeats 4000000 in
set_option maxRecDepth 100000 in
theorem c_L_pourOf (l : Launch) (hl0 : l.stackTraces = false) (D : va_G) (cy : Nat → ClassId) (a : XA) (n : Nat → Nat) (V : XV) (o : Nat) (out : (Nat → Int64)) (sz : Nat) (p1 : Int32) {res : Int32 × (Nat → Nat) × XV × (Nat → Int64)} (h : f_L_pourOf n V out p1 = some res) : Met l yL_pourOf wsL_pourOf ({ frames := 8, cells := 1, slots := 6, locals := 142 } : Room) (va_Pc [.ref (a.1 0), .int p1, .ref o] (zX sz (va_A ((o, .inl (cy 1, 1, .inr (.inl out))) :: xW cy a n V) sz) (lI D cy a n V ((o, .inl (cy 1, 1, .inr (.inl out))))))) (va_Qi (fun r (_ : XA) => r = res.1) (fun a1 t => a1.1 = a.1 ∧ va_P D xcl ((o, .inl (cy 1, 1, .inr (.inl res.2.2.2))) :: xW cy a1 res.2.1 res.2.2.1) t.heap ∧ va_D (va_A ((o, .inl (cy 1, 1, .inr (.inl out))) :: xW cy a n V) sz) ((o, .inl (cy 1, 1, .inr (.inl res.2.2.2))) :: xW cy a1 res.2.1 res.2.2.1)) (va_A ((o, .inl (cy 1, 1, .inr (.inl out))) :: xW cy a n V) sz)) 1 6 (va_A ((o, .inl (cy 1, 1, .inr (.inl out))) :: xW cy a n V) sz) := by
  refine z_ofWH (cc := cL_pourOf) (maxL := 4) (ret := (some .int)) (hh := [(0, 9, 12, 21)]) (by decide) rfl ?_
  intro p e s m args below meth c s₁ B hml hv
  obtain ⟨rfl, hsz, hZ, hC, hP, hK, hD0⟩ := hv
  have hx := B.exec
  have hb := B.bytes
  have hr := B.returns
  have hts := atoms_spec (ws := wsL_pourOf) B.pre
  have hown : s.vm.findClass RL = some m.cls := findClass_of_methodNamed B.named
  have hlocks := B.notSynchronized
  subst hsz
  have hT : c.exceptionTable.toList = tableOf [(0, 9, 12, 21)] := vx_table (x := objectInit) B (hts _ List.mem_cons_self)
  have hD := hD0.self (sz := s.heap.size)
  generalize hAe : va_A ((o, .inl (cy 1, 1, .inr (.inl out))) :: xW cy a n V) s.heap.size = A at hD hZ ⊢
  have hA : ∀ q : Nat, s.heap.size ≤ q → A q := fun q h => by rw [← hAe]; exact Or.inr h
  have hS : va_S A s.heap s.heap [] := va_S.rf
  have hPx : va_P D xcl (xW cy a n V) s.heap := lP_tail hP
  have hDx : va_D A (xW cy a n V) := lD_tail hD
  have hfree := z_free hDx hS hA
  have hl := lv_entry ([.ref (a.1 0), .int p1, .ref o]) (n := 4) (Nat.le_of_ble_eq_true rfl)
  rw [lg_entry_eq]
  generalize (lg_sl ([.ref (a.1 0), .int p1, .ref o]) ++ List.replicate (4 - (lg_sl ([.ref (a.1 0), .int p1, .ref o])).length) Slot.unset).toArray = ls at hl ⊢
  have hl : lv_has ls 4 [(0, .ref (a.1 0)), (1, .int p1), (2, .ref o)] := hl
  refine lv_aload_n hx hb dL_pourOf_0 rfl (lv_at hl 2 rfl) ?_
  refine lv_iconst (v := 0) hx hb dL_pourOf_1 (by decide) ?_
  refine lv_aload_n hx hb dL_pourOf_2 rfl (lv_at hl 0 rfl) ?_
  refine lv_iload_n hx hb dL_pourOf_3 rfl (lv_at hl 1 rfl) ?_
  obtain ⟨u, hg, h⟩ := ob_some h
  refine vx_calli (vx_runV (As := [.int p1]) (rest := [.int 0, .ref o]) ⟨hx, hb, hml, hown, hts⟩ (c_X3_pourOf l hl0 D cy a n V s.heap.size p1 hg) (cwV 1 hts gL_pourOf_X3_pourOf rfl rfl rfl hd_X3_pourOf ⟨Nat.le_of_ble_eq_true rfl, Nat.le_of_ble_eq_true rfl⟩) ⟨zX_blind xI_blind, va_recv hK hPx (ci := 3) (q0 := 0) rfl rfl, zX_at (lZ_narrow hZ hfree) (xI_at hPx hK hDx)⟩ rfl rfl hl.1 rfl (lv_room (Nat.le_of_ble_eq_true rfl)) dL_pourOf_4 ⟨Nat.le_of_ble_eq_true rfl, Nat.le_of_ble_eq_true rfl⟩) hS (fun q _ h => hfree q h) hfree (fun q _ h => hfree q h) (fun E ce q9 u9 t H1 locs1 ht hvm hp9 hB hz hk hS hce hcv hcl => ?_) (fun r9 u9 t H1 locs1 ht hvm hw hB hz hk hS => ?_)
  · obtain ⟨hE, hc0, hP1, hD1⟩ := hB
    rw [ht] at hP1
    obtain ⟨hP2, hD2⟩ := z_join (ws := [(o, .inl (cy 1, 1, .inr (.inl out)))]) (wc := xW cy a n V) (w1 := xW cy a n V) hP hD hk hfree hP1 hD1
    replace h := oi_f hc0 h
    by_cases ck : u.1 = 3
    · replace h := oi_t ck h
      rw [ck] at hE
      subst hE
      refine vx_catch hown [] ⟨0, 9, 12, 21⟩ [] (hT.trans rfl) (fun z hz => absurd hz List.not_mem_nil) rfl (by decide) (hts _ (List.mem_of_getElem? (i := 1) rfl)) (va_Nw.use rfl hZ.1.1.2.2.1) hce hcv hcl ?_
      refine W.eq (g2 := F0 m 12 ls [.ref q9]) rfl ?_
      refine lv_astore_n (lv' := [(3, .ref q9), (0, .ref (a.1 0)), (1, .int p1), (2, .ref o)]) hx hb dL_pourOf_12 rfl hl (by decide) rfl (fun ls hl => ?_)
      refine lv_iconst (v := 1) hx hb dL_pourOf_13 (by decide) ?_
      cases h
      exact W.iret (v := 1) hx hb hr (fun t ht hW => ⟨⟨1, a, rfl, rfl, ⟨rfl, by rw [ht]; exact hP2, hD2⟩⟩, hS.F ht⟩) hS.2.2 dL_pourOf_14 hlocks
    replace h := oi_f ck h
    cases h
  · obtain ⟨hP1, hD1⟩ := hB
    rw [ht] at hP1
    obtain ⟨hP2, hD2⟩ := z_join (ws := [(o, .inl (cy 1, 1, .inr (.inl out)))]) (wc := xW cy a n V) (w1 := xW cy a n V) hP hD hk hfree hP1 hD1
    replace h := oi_t hw.1 h
    rw [hw.2]
    refine lv_i2l (v := Int32.toInt64 u.2) hx hb dL_pourOf_7 rfl ?_
    refine va_last hx hb hK hP2 hD2 hS 0 1 rfl rfl (show vp_in 0 1 from by unfold vp_in; decide) dL_pourOf_8 (fun H2 locs2 hP hD hS => ?_)
    refine lv_goto (tgt := 15) hx hb dL_pourOf_9 (by decide) ?_
    refine lv_iconst (v := 0) hx hb dL_pourOf_15 (by decide) ?_
    cases h
    exact W.iret (v := 0) hx hb hr (fun t ht hW => ⟨⟨0, a, rfl, rfl, ⟨rfl, by rw [ht]; exact hP, hD⟩⟩, hS.F ht⟩) hS.2.2 dL_pourOf_16 hlocks

def f_L_airOf (n : Nat → Nat) (V : XV) (out : (Nat → Int64)) (p1 : Int32) : Option (Int32 × (Nat → Nat) × XV × (Nat → Int64)) := ob (f_X3_airOf n V p1) (fun u => oi (u.1 = 0) (some (0, n, V, vp_updL out ((0 : Int32)).toNatClampNeg u.2)) (oi (u.1 = 3) (some (1, n, V, out)) (none)))
theorem hd_L_airOf : yL_airOf.cls ≠ "java/lang/invoke/MethodHandle" ∧ yL_airOf.cls ≠ "java/lang/invoke/VarHandle" ∧ (parseMethodDescriptor yL_airOf.desc).map (fun d => d.parameters.length) = some 3 := by decide +kernel
set_option maxHeartbeats 4000000 in
set_option maxRecDepth 100000 in
theorem c_L_airOf (l : Launch) (hl0 : l.stackTraces = false) (D : va_G) (cy : Nat → ClassId) (a : XA) (n : Nat → Nat) (V : XV) (o : Nat) (out : (Nat → Int64)) (sz : Nat) (p1 : Int32) {res : Int32 × (Nat → Nat) × XV × (Nat → Int64)} (h : f_L_airOf n V out p1 = some res) : Met l yL_airOf wsL_airOf ({ frames := 8, cells := 1, slots := 6, locals := 142 } : Room) (va_Pc [.ref (a.1 0), .int p1, .ref o] (zX sz (va_A ((o, .inl (cy 1, 1, .inr (.inl out))) :: xW cy a n V) sz) (lI D cy a n V ((o, .inl (cy 1, 1, .inr (.inl out))))))) (va_Qi (fun r (_ : XA) => r = res.1) (fun a1 t => a1.1 = a.1 ∧ va_P D xcl ((o, .inl (cy 1, 1, .inr (.inl res.2.2.2))) :: xW cy a1 res.2.1 res.2.2.1) t.heap ∧ va_D (va_A ((o, .inl (cy 1, 1, .inr (.inl out))) :: xW cy a n V) sz) ((o, .inl (cy 1, 1, .inr (.inl res.2.2.2))) :: xW cy a1 res.2.1 res.2.2.1)) (va_A ((o, .inl (cy 1, 1, .inr (.inl out))) :: xW cy a n V) sz)) 1 6 (va_A ((o, .inl (cy 1, 1, .inr (.inl out))) :: xW cy a n V) sz) := by
  refine z_ofWH (cc := cL_airOf) (maxL := 4) (ret := (some .int)) (hh := [(0, 8, 11, 21)]) (by decide) rfl ?_
  intro p e s m args below meth c s₁ B hml hv
  obtain ⟨rfl, hsz, hZ, hC, hP, hK, hD0⟩ := hv
  have hx := B.exec
  have hb := B.bytes
  have hr := B.returns
  have hts := atoms_spec (ws := wsL_airOf) B.pre
  have hown : s.vm.findClass RL = some m.cls := findClass_of_methodNamed B.named
  have hlocks := B.notSynchronized
  subst hsz
  have hT : c.exceptionTable.toList = tableOf [(0, 8, 11, 21)] := vx_table (x := objectInit) B (hts _ List.mem_cons_self)
  have hD := hD0.self (sz := s.heap.size)
  generalize hAe : va_A ((o, .inl (cy 1, 1, .inr (.inl out))) :: xW cy a n V) s.heap.size = A at hD hZ ⊢
  have hA : ∀ q : Nat, s.heap.size ≤ q → A q := fun q h => by rw [← hAe]; exact Or.inr h
  have hS : va_S A s.heap s.heap [] := va_S.rf
  have hPx : va_P D xcl (xW cy a n V) s.heap := lP_tail hP
  have hDx : va_D A (xW cy a n V) := lD_tail hD
  have hfree := z_free hDx hS hA
  have hl := lv_entry ([.ref (a.1 0), .int p1, .ref o]) (n := 4) (Nat.le_of_ble_eq_true rfl)
  rw [lg_entry_eq]
  generalize (lg_sl ([.ref (a.1 0), .int p1, .ref o]) ++ List.replicate (4 - (lg_sl ([.ref (a.1 0), .int p1, .ref o])).length) Slot.unset).toArray = ls at hl ⊢
  have hl : lv_has ls 4 [(0, .ref (a.1 0)), (1, .int p1), (2, .ref o)] := hl
  refine lv_aload_n hx hb dL_airOf_0 rfl (lv_at hl 2 rfl) ?_
  refine lv_iconst (v := 0) hx hb dL_airOf_1 (by decide) ?_
  refine lv_aload_n hx hb dL_airOf_2 rfl (lv_at hl 0 rfl) ?_
  refine lv_iload_n hx hb dL_airOf_3 rfl (lv_at hl 1 rfl) ?_
  obtain ⟨u, hg, h⟩ := ob_some h
  refine vx_calll (vx_runV (As := [.int p1]) (rest := [.int 0, .ref o]) ⟨hx, hb, hml, hown, hts⟩ (c_X3_airOf l hl0 D cy a n V s.heap.size p1 hg) (cwV 1 hts gL_airOf_X3_airOf rfl rfl rfl hd_X3_airOf ⟨Nat.le_of_ble_eq_true rfl, Nat.le_of_ble_eq_true rfl⟩) ⟨zX_blind xI_blind, va_recv hK hPx (ci := 3) (q0 := 0) rfl rfl, zX_at (lZ_narrow hZ hfree) (xI_at hPx hK hDx)⟩ rfl rfl hl.1 rfl (lv_room (Nat.le_of_ble_eq_true rfl)) dL_airOf_4 ⟨Nat.le_of_ble_eq_true rfl, Nat.le_of_ble_eq_true rfl⟩) hS (fun q _ h => hfree q h) hfree (fun q _ h => hfree q h) (fun E ce q9 u9 t H1 locs1 ht hvm hp9 hB hz hk hS hce hcv hcl => ?_) (fun r9 u9 t H1 locs1 ht hvm hw hB hz hk hS => ?_)
  · obtain ⟨hE, hc0, hP1, hD1⟩ := hB
    rw [ht] at hP1
    obtain ⟨hP2, hD2⟩ := z_join (ws := [(o, .inl (cy 1, 1, .inr (.inl out)))]) (wc := xW cy a n V) (w1 := xW cy a n V) hP hD hk hfree hP1 hD1
    replace h := oi_f hc0 h
    by_cases ck : u.1 = 3
    · replace h := oi_t ck h
      rw [ck] at hE
      subst hE
      refine vx_catch hown [] ⟨0, 8, 11, 21⟩ [] (hT.trans rfl) (fun z hz => absurd hz List.not_mem_nil) rfl (by decide) (hts _ (List.mem_of_getElem? (i := 1) rfl)) (va_Nw.use rfl hZ.1.1.2.2.1) hce hcv hcl ?_
      refine W.eq (g2 := F0 m 11 ls [.ref q9]) rfl ?_
      refine lv_astore_n (lv' := [(3, .ref q9), (0, .ref (a.1 0)), (1, .int p1), (2, .ref o)]) hx hb dL_airOf_11 rfl hl (by decide) rfl (fun ls hl => ?_)
      refine lv_iconst (v := 1) hx hb dL_airOf_12 (by decide) ?_
      cases h
      exact W.iret (v := 1) hx hb hr (fun t ht hW => ⟨⟨1, a, rfl, rfl, ⟨rfl, by rw [ht]; exact hP2, hD2⟩⟩, hS.F ht⟩) hS.2.2 dL_airOf_13 hlocks
    replace h := oi_f ck h
    cases h
  · obtain ⟨hP1, hD1⟩ := hB
    rw [ht] at hP1
    obtain ⟨hP2, hD2⟩ := z_join (ws := [(o, .inl (cy 1, 1, .inr (.inl out)))]) (wc := xW cy a n V) (w1 := xW cy a n V) hP hD hk hfree hP1 hD1
    replace h := oi_t hw.1 h
    rw [hw.2]
    refine va_last hx hb hK hP2 hD2 hS 0 1 rfl rfl (show vp_in 0 1 from by unfold vp_in; decide) dL_airOf_7 (fun H2 locs2 hP hD hS => ?_)
    refine lv_goto (tgt := 14) hx hb dL_airOf_8 (by decide) ?_
    refine lv_iconst (v := 0) hx hb dL_airOf_14 (by decide) ?_
    cases h
    exact W.iret (v := 0) hx hb hr (fun t ht hW => ⟨⟨0, a, rfl, rfl, ⟨rfl, by rw [ht]; exact hP, hD⟩⟩, hS.F ht⟩) hS.2.2 dL_airOf_15 hlocks

def f_L_shareAir (n : Nat → Nat) (V : XV) (out : (Nat → Int64)) (p1 : Int32) (p2 : Int32) : Option (Int32 × (Nat → Nat) × XV × (Nat → Int64)) := ob (f_X3_shareAir n V p1 p2) (fun u => oi (u.1 = 0) (oi (u.2 = 0) (some (0, n, V, vp_updL out ((0 : Int32)).toNatClampNeg 0)) (some (0, n, V, vp_updL out ((0 : Int32)).toNatClampNeg 1))) (oi (u.1 = 3) (some (1, n, V, out)) (none)))
theorem hd_L_shareAir : yL_shareAir.cls ≠ "java/lang/invoke/MethodHandle" ∧ yL_shareAir.cls ≠ "java/lang/invoke/VarHandle" ∧ (parseMethodDescriptor yL_shareAir.desc).map (fun d => d.parameters.length) = some 4 := by decide +kernel
set_option maxHeartbeats 4000000 in
set_option maxRecDepth 100000 in
theorem c_L_shareAir (l : Launch) (hl0 : l.stackTraces = false) (D : va_G) (cy : Nat → ClassId) (a : XA) (n : Nat → Nat) (V : XV) (o : Nat) (out : (Nat → Int64)) (sz : Nat) (p1 : Int32) (p2 : Int32) {res : Int32 × (Nat → Nat) × XV × (Nat → Int64)} (h : f_L_shareAir n V out p1 p2 = some res) : Met l yL_shareAir wsL_shareAir ({ frames := 8, cells := 1, slots := 6, locals := 144 } : Room) (va_Pc [.ref (a.1 0), .int p1, .int p2, .ref o] (zX sz (va_A ((o, .inl (cy 1, 1, .inr (.inl out))) :: xW cy a n V) sz) (lI D cy a n V ((o, .inl (cy 1, 1, .inr (.inl out))))))) (va_Qi (fun r (_ : XA) => r = res.1) (fun a1 t => a1.1 = a.1 ∧ va_P D xcl ((o, .inl (cy 1, 1, .inr (.inl res.2.2.2))) :: xW cy a1 res.2.1 res.2.2.1) t.heap ∧ va_D (va_A ((o, .inl (cy 1, 1, .inr (.inl out))) :: xW cy a n V) sz) ((o, .inl (cy 1, 1, .inr (.inl res.2.2.2))) :: xW cy a1 res.2.1 res.2.2.1)) (va_A ((o, .inl (cy 1, 1, .inr (.inl out))) :: xW cy a n V) sz)) 1 6 (va_A ((o, .inl (cy 1, 1, .inr (.inl out))) :: xW cy a n V) sz) := by
  refine z_ofWH (cc := cL_shareAir) (maxL := 5) (ret := (some .int)) (hh := [(0, 17, 20, 21)]) (by decide) rfl ?_
  intro p e s m args below meth c s₁ B hml hv
  obtain ⟨rfl, hsz, hZ, hC, hP, hK, hD0⟩ := hv
  have hx := B.exec
  have hb := B.bytes
  have hr := B.returns
  have hts := atoms_spec (ws := wsL_shareAir) B.pre
  have hown : s.vm.findClass RL = some m.cls := findClass_of_methodNamed B.named
  have hlocks := B.notSynchronized
  subst hsz
  have hT : c.exceptionTable.toList = tableOf [(0, 17, 20, 21)] := vx_table (x := objectInit) B (hts _ List.mem_cons_self)
  have hD := hD0.self (sz := s.heap.size)
  generalize hAe : va_A ((o, .inl (cy 1, 1, .inr (.inl out))) :: xW cy a n V) s.heap.size = A at hD hZ ⊢
  have hA : ∀ q : Nat, s.heap.size ≤ q → A q := fun q h => by rw [← hAe]; exact Or.inr h
  have hS : va_S A s.heap s.heap [] := va_S.rf
  have hPx : va_P D xcl (xW cy a n V) s.heap := lP_tail hP
  have hDx : va_D A (xW cy a n V) := lD_tail hD
  have hfree := z_free hDx hS hA
  have hl := lv_entry ([.ref (a.1 0), .int p1, .int p2, .ref o]) (n := 5) (Nat.le_of_ble_eq_true rfl)
  rw [lg_entry_eq]
  generalize (lg_sl ([.ref (a.1 0), .int p1, .int p2, .ref o]) ++ List.replicate (5 - (lg_sl ([.ref (a.1 0), .int p1, .int p2, .ref o])).length) Slot.unset).toArray = ls at hl ⊢
  have hl : lv_has ls 5 [(0, .ref (a.1 0)), (1, .int p1), (2, .int p2), (3, .ref o)] := hl
  refine lv_aload_n hx hb dL_shareAir_0 rfl (lv_at hl 3 rfl) ?_
  refine lv_iconst (v := 0) hx hb dL_shareAir_1 (by decide) ?_
  refine lv_aload_n hx hb dL_shareAir_2 rfl (lv_at hl 0 rfl) ?_
  refine lv_iload_n hx hb dL_shareAir_3 rfl (lv_at hl 1 rfl) ?_
  refine lv_iload_n hx hb dL_shareAir_4 rfl (lv_at hl 2 rfl) ?_
  obtain ⟨u, hg, h⟩ := ob_some h
  refine vx_calli (vx_runV (As := [.int p1, .int p2]) (rest := [.int 0, .ref o]) ⟨hx, hb, hml, hown, hts⟩ (c_X3_shareAir l hl0 D cy a n V s.heap.size p1 p2 hg) (cwV 2 hts gL_shareAir_X3_shareAir rfl rfl rfl hd_X3_shareAir ⟨Nat.le_of_ble_eq_true rfl, Nat.le_of_ble_eq_true rfl⟩) ⟨zX_blind xI_blind, va_recv hK hPx (ci := 3) (q0 := 0) rfl rfl, zX_at (lZ_narrow hZ hfree) (xI_at hPx hK hDx)⟩ rfl rfl hl.1 rfl (lv_room (Nat.le_of_ble_eq_true rfl)) dL_shareAir_5 ⟨Nat.le_of_ble_eq_true rfl, Nat.le_of_ble_eq_true rfl⟩) hS (fun q _ h => hfree q h) hfree (fun q _ h => hfree q h) (fun E ce q9 u9 t H1 locs1 ht hvm hp9 hB hz hk hS hce hcv hcl => ?_) (fun r9 u9 t H1 locs1 ht hvm hw hB hz hk hS => ?_)
  · obtain ⟨hE, hc0, hP1, hD1⟩ := hB
    rw [ht] at hP1
    obtain ⟨hP2, hD2⟩ := z_join (ws := [(o, .inl (cy 1, 1, .inr (.inl out)))]) (wc := xW cy a n V) (w1 := xW cy a n V) hP hD hk hfree hP1 hD1
    replace h := oi_f hc0 h
    by_cases ck : u.1 = 3
    · replace h := oi_t ck h
      rw [ck] at hE
      subst hE
      refine vx_catch hown [] ⟨0, 17, 20, 21⟩ [] (hT.trans rfl) (fun z hz => absurd hz List.not_mem_nil) rfl (by decide) (hts _ (List.mem_of_getElem? (i := 1) rfl)) (va_Nw.use rfl hZ.1.1.2.2.1) hce hcv hcl ?_
      refine W.eq (g2 := F0 m 20 ls [.ref q9]) rfl ?_
      refine lv_astore (lv' := [(4, .ref q9), (0, .ref (a.1 0)), (1, .int p1), (2, .int p2), (3, .ref o)]) hx hb dL_shareAir_20 hl (by decide) rfl (fun ls hl => ?_)
      refine lv_iconst (v := 1) hx hb dL_shareAir_22 (by decide) ?_
      cases h
      exact W.iret (v := 1) hx hb hr (fun t ht hW => ⟨⟨1, a, rfl, rfl, ⟨rfl, by rw [ht]; exact hP2, hD2⟩⟩, hS.F ht⟩) hS.2.2 dL_shareAir_23 hlocks
    replace h := oi_f ck h
    cases h
  · obtain ⟨hP1, hD1⟩ := hB
    rw [ht] at hP1
    obtain ⟨hP2, hD2⟩ := z_join (ws := [(o, .inl (cy 1, 1, .inr (.inl out)))]) (wc := xW cy a n V) (w1 := xW cy a n V) hP hD hk hfree hP1 hD1
    replace h := oi_t hw.1 h
    rw [hw.2]
    refine lv_if_eq (tgt := 15) hx hb dL_shareAir_8 (by decide) (fun c0 => ?_) (fun c0 => ?_)
    · replace h := oi_t c0 h
      refine lv_lconst (v := 0) hx hb dL_shareAir_15 (by decide) ?_
      refine va_last hx hb hK hP2 hD2 hS 0 1 rfl rfl (show vp_in 0 1 from by unfold vp_in; decide) dL_shareAir_16 (fun H2 locs2 hP hD hS => ?_)
      refine lv_goto (tgt := 24) hx hb dL_shareAir_17 (by decide) ?_
      refine lv_iconst (v := 0) hx hb dL_shareAir_24 (by decide) ?_
      cases h
      exact W.iret (v := 0) hx hb hr (fun t ht hW => ⟨⟨0, a, rfl, rfl, ⟨rfl, by rw [ht]; exact hP, hD⟩⟩, hS.F ht⟩) hS.2.2 dL_shareAir_25 hlocks
    · replace h := oi_f c0 h
      refine lv_lconst (v := 1) hx hb dL_shareAir_11 (by decide) ?_
      refine lv_goto (tgt := 16) hx hb dL_shareAir_12 (by decide) ?_
      refine va_last hx hb hK hP2 hD2 hS 0 1 rfl rfl (show vp_in 0 1 from by unfold vp_in; decide) dL_shareAir_16 (fun H2 locs2 hP hD hS => ?_)
      refine lv_goto (tgt := 24) hx hb dL_shareAir_17 (by decide) ?_
      refine lv_iconst (v := 0) hx hb dL_shareAir_24 (by decide) ?_
      cases h
      exact W.iret (v := 0) hx hb hr (fun t ht hW => ⟨⟨0, a, rfl, rfl, ⟨rfl, by rw [ht]; exact hP, hD⟩⟩, hS.F ht⟩) hS.2.2 dL_shareAir_25 hlocks

def f_L_liftAt (n : Nat → Nat) (V : XV) (out : (Nat → Int64)) (p1 : Int32) (p2 : Int32) : Option (Int32 × (Nat → Nat) × XV × (Nat → Int64)) := ob (f_X3_liftAt n V p1 p2) (fun u => oi (u.1 = 0) (some (0, n, V, vp_updL out ((0 : Int32)).toNatClampNeg (Int32.toInt64 u.2))) (oi (u.1 = 3) (some (1, n, V, out)) (oi (u.1 = 1) (some (2, n, V, out)) (none))))
theorem hd_L_liftAt : yL_liftAt.cls ≠ "java/lang/invoke/MethodHandle" ∧ yL_liftAt.cls ≠ "java/lang/invoke/VarHandle" ∧ (parseMethodDescriptor yL_liftAt.desc).map (fun d => d.parameters.length) = some 4 := by decide +kernel
set_option maxHeartbeats 4000000 in
set_option maxRecDepth 100000 in
theorem c_L_liftAt (l : Launch) (hl0 : l.stackTraces = false) (D : va_G) (cy : Nat → ClassId) (a : XA) (n : Nat → Nat) (V : XV) (o : Nat) (out : (Nat → Int64)) (sz : Nat) (p1 : Int32) (p2 : Int32) {res : Int32 × (Nat → Nat) × XV × (Nat → Int64)} (h : f_L_liftAt n V out p1 p2 = some res) : Met l yL_liftAt wsL_liftAt ({ frames := 8, cells := 1, slots := 6, locals := 144 } : Room) (va_Pc [.ref (a.1 0), .int p1, .int p2, .ref o] (zX sz (va_A ((o, .inl (cy 1, 1, .inr (.inl out))) :: xW cy a n V) sz) (lI D cy a n V ((o, .inl (cy 1, 1, .inr (.inl out))))))) (va_Qi (fun r (_ : XA) => r = res.1) (fun a1 t => a1.1 = a.1 ∧ va_P D xcl ((o, .inl (cy 1, 1, .inr (.inl res.2.2.2))) :: xW cy a1 res.2.1 res.2.2.1) t.heap ∧ va_D (va_A ((o, .inl (cy 1, 1, .inr (.inl out))) :: xW cy a n V) sz) ((o, .inl (cy 1, 1, .inr (.inl res.2.2.2))) :: xW cy a1 res.2.1 res.2.2.1)) (va_A ((o, .inl (cy 1, 1, .inr (.inl out))) :: xW cy a n V) sz)) 1 6 (va_A ((o, .inl (cy 1, 1, .inr (.inl out))) :: xW cy a n V) sz) := by
  refine z_ofWH (cc := cL_liftAt) (maxL := 5) (ret := (some .int)) (hh := [(0, 10, 13, 21), (0, 10, 17, 13)]) (by decide) rfl ?_
  intro p e s m args below meth c s₁ B hml hv
  obtain ⟨rfl, hsz, hZ, hC, hP, hK, hD0⟩ := hv
  have hx := B.exec
  have hb := B.bytes
  have hr := B.returns
  have hts := atoms_spec (ws := wsL_liftAt) B.pre
  have hown : s.vm.findClass RL = some m.cls := findClass_of_methodNamed B.named
  have hlocks := B.notSynchronized
  subst hsz
  have hT : c.exceptionTable.toList = tableOf [(0, 10, 13, 21), (0, 10, 17, 13)] := vx_table (x := objectInit) B (hts _ List.mem_cons_self)
  have hD := hD0.self (sz := s.heap.size)
  generalize hAe : va_A ((o, .inl (cy 1, 1, .inr (.inl out))) :: xW cy a n V) s.heap.size = A at hD hZ ⊢
  have hA : ∀ q : Nat, s.heap.size ≤ q → A q := fun q h => by rw [← hAe]; exact Or.inr h
  have hS : va_S A s.heap s.heap [] := va_S.rf
  have hPx : va_P D xcl (xW cy a n V) s.heap := lP_tail hP
  have hDx : va_D A (xW cy a n V) := lD_tail hD
  have hfree := z_free hDx hS hA
  have hl := lv_entry ([.ref (a.1 0), .int p1, .int p2, .ref o]) (n := 5) (Nat.le_of_ble_eq_true rfl)
  rw [lg_entry_eq]
  generalize (lg_sl ([.ref (a.1 0), .int p1, .int p2, .ref o]) ++ List.replicate (5 - (lg_sl ([.ref (a.1 0), .int p1, .int p2, .ref o])).length) Slot.unset).toArray = ls at hl ⊢
  have hl : lv_has ls 5 [(0, .ref (a.1 0)), (1, .int p1), (2, .int p2), (3, .ref o)] := hl
  refine lv_aload_n hx hb dL_liftAt_0 rfl (lv_at hl 3 rfl) ?_
  refine lv_iconst (v := 0) hx hb dL_liftAt_1 (by decide) ?_
  refine lv_aload_n hx hb dL_liftAt_2 rfl (lv_at hl 0 rfl) ?_
  refine lv_iload_n hx hb dL_liftAt_3 rfl (lv_at hl 1 rfl) ?_
  refine lv_iload_n hx hb dL_liftAt_4 rfl (lv_at hl 2 rfl) ?_
  obtain ⟨u, hg, h⟩ := ob_some h
  refine vx_calli (vx_runV (As := [.int p1, .int p2]) (rest := [.int 0, .ref o]) ⟨hx, hb, hml, hown, hts⟩ (c_X3_liftAt l hl0 D cy a n V s.heap.size p1 p2 hg) (cwV 2 hts gL_liftAt_X3_liftAt rfl rfl rfl hd_X3_liftAt ⟨Nat.le_of_ble_eq_true rfl, Nat.le_of_ble_eq_true rfl⟩) ⟨zX_blind xI_blind, va_recv hK hPx (ci := 3) (q0 := 0) rfl rfl, zX_at (lZ_narrow hZ hfree) (xI_at hPx hK hDx)⟩ rfl rfl hl.1 rfl (lv_room (Nat.le_of_ble_eq_true rfl)) dL_liftAt_5 ⟨Nat.le_of_ble_eq_true rfl, Nat.le_of_ble_eq_true rfl⟩) hS (fun q _ h => hfree q h) hfree (fun q _ h => hfree q h) (fun E ce q9 u9 t H1 locs1 ht hvm hp9 hB hz hk hS hce hcv hcl => ?_) (fun r9 u9 t H1 locs1 ht hvm hw hB hz hk hS => ?_)
  · obtain ⟨hE, hc0, hP1, hD1⟩ := hB
    rw [ht] at hP1
    obtain ⟨hP2, hD2⟩ := z_join (ws := [(o, .inl (cy 1, 1, .inr (.inl out)))]) (wc := xW cy a n V) (w1 := xW cy a n V) hP hD hk hfree hP1 hD1
    replace h := oi_f hc0 h
    by_cases ck : u.1 = 3
    · replace h := oi_t ck h
      rw [ck] at hE
      subst hE
      refine vx_catch hown [] ⟨0, 10, 13, 21⟩ [⟨0, 10, 17, 13⟩] (hT.trans rfl) (fun z hz => absurd hz List.not_mem_nil) rfl (by decide) (hts _ (List.mem_of_getElem? (i := 1) rfl)) (va_Nw.use rfl hZ.1.1.2.2.1) hce hcv hcl ?_
      refine W.eq (g2 := F0 m 13 ls [.ref q9]) rfl ?_
      refine lv_astore (lv' := [(4, .ref q9), (0, .ref (a.1 0)), (1, .int p1), (2, .int p2), (3, .ref o)]) hx hb dL_liftAt_13 hl (by decide) rfl (fun ls hl => ?_)
      refine lv_iconst (v := 1) hx hb dL_liftAt_15 (by decide) ?_
      cases h
      exact W.iret (v := 1) hx hb hr (fun t ht hW => ⟨⟨1, a, rfl, rfl, ⟨rfl, by rw [ht]; exact hP2, hD2⟩⟩, hS.F ht⟩) hS.2.2 dL_liftAt_16 hlocks
    replace h := oi_f ck h
    by_cases ck : u.1 = 1
    · replace h := oi_t ck h
      rw [ck] at hE
      subst hE
      refine vx_catch hown [⟨0, 10, 13, 21⟩] ⟨0, 10, 17, 13⟩ [] (hT.trans rfl) (by intro z hz; simp only [List.mem_cons, List.not_mem_nil, or_false] at hz; subst hz; exact Or.inr ⟨by decide, _, (hts _ (List.mem_of_getElem? (i := 1) rfl)), hC 1 3 (by decide)⟩) rfl (by decide) (hts _ (List.mem_of_getElem? (i := 2) rfl)) (va_Nw.use rfl hZ.1.1.1) hce hcv hcl ?_
      refine W.eq (g2 := F0 m 17 ls [.ref q9]) rfl ?_
      refine lv_astore (lv' := [(4, .ref q9), (0, .ref (a.1 0)), (1, .int p1), (2, .int p2), (3, .ref o)]) hx hb dL_liftAt_17 hl (by decide) rfl (fun ls hl => ?_)
      refine lv_iconst (v := 2) hx hb dL_liftAt_19 (by decide) ?_
      cases h
      exact W.iret (v := 2) hx hb hr (fun t ht hW => ⟨⟨2, a, rfl, rfl, ⟨rfl, by rw [ht]; exact hP2, hD2⟩⟩, hS.F ht⟩) hS.2.2 dL_liftAt_20 hlocks
    replace h := oi_f ck h
    cases h
  · obtain ⟨hP1, hD1⟩ := hB
    rw [ht] at hP1
    obtain ⟨hP2, hD2⟩ := z_join (ws := [(o, .inl (cy 1, 1, .inr (.inl out)))]) (wc := xW cy a n V) (w1 := xW cy a n V) hP hD hk hfree hP1 hD1
    replace h := oi_t hw.1 h
    rw [hw.2]
    refine lv_i2l (v := Int32.toInt64 u.2) hx hb dL_liftAt_8 rfl ?_
    refine va_last hx hb hK hP2 hD2 hS 0 1 rfl rfl (show vp_in 0 1 from by unfold vp_in; decide) dL_liftAt_9 (fun H2 locs2 hP hD hS => ?_)
    refine lv_goto (tgt := 21) hx hb dL_liftAt_10 (by decide) ?_
    refine lv_iconst (v := 0) hx hb dL_liftAt_21 (by decide) ?_
    cases h
    exact W.iret (v := 0) hx hb hr (fun t ht hW => ⟨⟨0, a, rfl, rfl, ⟨rfl, by rw [ht]; exact hP, hD⟩⟩, hS.F ht⟩) hS.2.2 dL_liftAt_22 hlocks

def f_L_liftByMinutes (n : Nat → Nat) (V : XV) (out : (Nat → Int64)) (p1 : Int32) (p2 : Int32) : Option (Int32 × (Nat → Nat) × XV × (Nat → Int64)) := ob (f_X3_liftByMinutes n V p1 p2) (fun u => oi (u.1 = 0) (some (0, n, u.2.2, vp_updL out ((0 : Int32)).toNatClampNeg (Int32.toInt64 u.2.1))) (oi (u.1 = 3) (some (1, n, u.2.2, out)) (oi (u.1 = 1) (some (2, n, u.2.2, out)) (none))))
theorem hd_L_liftByMinutes : yL_liftByMinutes.cls ≠ "java/lang/invoke/MethodHandle" ∧ yL_liftByMinutes.cls ≠ "java/lang/invoke/VarHandle" ∧ (parseMethodDescriptor yL_liftByMinutes.desc).map (fun d => d.parameters.length) = some 4 := by decide +kernel
set_option maxHeartbeats 4000000 in
set_option maxRecDepth 100000 in
theorem c_L_liftByMinutes (l : Launch) (hl0 : l.stackTraces = false) (D : va_G) (cy : Nat → ClassId) (a : XA) (n : Nat → Nat) (V : XV) (o : Nat) (out : (Nat → Int64)) (sz : Nat) (p1 : Int32) (p2 : Int32) {res : Int32 × (Nat → Nat) × XV × (Nat → Int64)} (h : f_L_liftByMinutes n V out p1 p2 = some res) : Met l yL_liftByMinutes wsL_liftByMinutes ({ frames := 8, cells := 1, slots := 6, locals := 142 } : Room) (va_Pc [.ref (a.1 0), .int p1, .int p2, .ref o] (zX sz (va_A ((o, .inl (cy 1, 1, .inr (.inl out))) :: xW cy a n V) sz) (lI D cy a n V ((o, .inl (cy 1, 1, .inr (.inl out))))))) (va_Qi (fun r (_ : XA) => r = res.1) (fun a1 t => a1.1 = a.1 ∧ va_P D xcl ((o, .inl (cy 1, 1, .inr (.inl res.2.2.2))) :: xW cy a1 res.2.1 res.2.2.1) t.heap ∧ va_D (va_A ((o, .inl (cy 1, 1, .inr (.inl out))) :: xW cy a n V) sz) ((o, .inl (cy 1, 1, .inr (.inl res.2.2.2))) :: xW cy a1 res.2.1 res.2.2.1)) (va_A ((o, .inl (cy 1, 1, .inr (.inl out))) :: xW cy a n V) sz)) 1 6 (va_A ((o, .inl (cy 1, 1, .inr (.inl out))) :: xW cy a n V) sz) := by
  refine z_ofWH (cc := cL_liftByMinutes) (maxL := 5) (ret := (some .int)) (hh := [(0, 10, 13, 21), (0, 10, 17, 13)]) (by decide) rfl ?_
  intro p e s m args below meth c s₁ B hml hv
  obtain ⟨rfl, hsz, hZ, hC, hP, hK, hD0⟩ := hv
  have hx := B.exec
  have hb := B.bytes
  have hr := B.returns
  have hts := atoms_spec (ws := wsL_liftByMinutes) B.pre
  have hown : s.vm.findClass RL = some m.cls := findClass_of_methodNamed B.named
  have hlocks := B.notSynchronized
  subst hsz
  have hT : c.exceptionTable.toList = tableOf [(0, 10, 13, 21), (0, 10, 17, 13)] := vx_table (x := objectInit) B (hts _ List.mem_cons_self)
  have hD := hD0.self (sz := s.heap.size)
  generalize hAe : va_A ((o, .inl (cy 1, 1, .inr (.inl out))) :: xW cy a n V) s.heap.size = A at hD hZ ⊢
  have hA : ∀ q : Nat, s.heap.size ≤ q → A q := fun q h => by rw [← hAe]; exact Or.inr h
  have hS : va_S A s.heap s.heap [] := va_S.rf
  have hPx : va_P D xcl (xW cy a n V) s.heap := lP_tail hP
  have hDx : va_D A (xW cy a n V) := lD_tail hD
  have hfree := z_free hDx hS hA
  have hl := lv_entry ([.ref (a.1 0), .int p1, .int p2, .ref o]) (n := 5) (Nat.le_of_ble_eq_true rfl)
  rw [lg_entry_eq]
  generalize (lg_sl ([.ref (a.1 0), .int p1, .int p2, .ref o]) ++ List.replicate (5 - (lg_sl ([.ref (a.1 0), .int p1, .int p2, .ref o])).length) Slot.unset).toArray = ls at hl ⊢
  have hl : lv_has ls 5 [(0, .ref (a.1 0)), (1, .int p1), (2, .int p2), (3, .ref o)] := hl
  refine lv_aload_n hx hb dL_liftByMinutes_0 rfl (lv_at hl 3 rfl) ?_
  refine lv_iconst (v := 0) hx hb dL_liftByMinutes_1 (by decide) ?_
  refine lv_aload_n hx hb dL_liftByMinutes_2 rfl (lv_at hl 0 rfl) ?_
  refine lv_iload_n hx hb dL_liftByMinutes_3 rfl (lv_at hl 1 rfl) ?_
  refine lv_iload_n hx hb dL_liftByMinutes_4 rfl (lv_at hl 2 rfl) ?_
  obtain ⟨u, hg, h⟩ := ob_some h
  refine vx_calli (vx_runV (As := [.int p1, .int p2]) (rest := [.int 0, .ref o]) ⟨hx, hb, hml, hown, hts⟩ (c_X3_liftByMinutes l hl0 D cy a n V s.heap.size p1 p2 hg) (cwV 2 hts gL_liftByMinutes_X3_liftByMinutes rfl rfl rfl hd_X3_liftByMinutes ⟨Nat.le_of_ble_eq_true rfl, Nat.le_of_ble_eq_true rfl⟩) ⟨zX_blind xI_blind, va_recv hK hPx (ci := 3) (q0 := 0) rfl rfl, zX_at (lZ_narrow hZ hfree) (xI_at hPx hK hDx)⟩ rfl rfl hl.1 rfl (lv_room (Nat.le_of_ble_eq_true rfl)) dL_liftByMinutes_5 ⟨Nat.le_of_ble_eq_true rfl, Nat.le_of_ble_eq_true rfl⟩) hS (fun q _ h => hfree q h) hfree (fun q _ h => hfree q h) (fun E ce q9 u9 t H1 locs1 ht hvm hp9 hB hz hk hS hce hcv hcl => ?_) (fun r9 u9 t H1 locs1 ht hvm hw hB hz hk hS => ?_)
  · obtain ⟨hE, hc0, hP1, hD1⟩ := hB
    rw [ht] at hP1
    obtain ⟨hP2, hD2⟩ := z_join (ws := [(o, .inl (cy 1, 1, .inr (.inl out)))]) (wc := xW cy a n V) (w1 := xW cy a n u.2.2) hP hD hk hfree hP1 hD1
    replace h := oi_f hc0 h
    by_cases ck : u.1 = 3
    · replace h := oi_t ck h
      rw [ck] at hE
      subst hE
      refine vx_catch hown [] ⟨0, 10, 13, 21⟩ [⟨0, 10, 17, 13⟩] (hT.trans rfl) (fun z hz => absurd hz List.not_mem_nil) rfl (by decide) (hts _ (List.mem_of_getElem? (i := 1) rfl)) (va_Nw.use rfl hZ.1.1.2.2.1) hce hcv hcl ?_
      refine W.eq (g2 := F0 m 13 ls [.ref q9]) rfl ?_
      refine lv_astore (lv' := [(4, .ref q9), (0, .ref (a.1 0)), (1, .int p1), (2, .int p2), (3, .ref o)]) hx hb dL_liftByMinutes_13 hl (by decide) rfl (fun ls hl => ?_)
      refine lv_iconst (v := 1) hx hb dL_liftByMinutes_15 (by decide) ?_
      cases h
      exact W.iret (v := 1) hx hb hr (fun t ht hW => ⟨⟨1, a, rfl, rfl, ⟨rfl, by rw [ht]; exact hP2, hD2⟩⟩, hS.F ht⟩) hS.2.2 dL_liftByMinutes_16 hlocks
    replace h := oi_f ck h
    by_cases ck : u.1 = 1
    · replace h := oi_t ck h
      rw [ck] at hE
      subst hE
      refine vx_catch hown [⟨0, 10, 13, 21⟩] ⟨0, 10, 17, 13⟩ [] (hT.trans rfl) (by intro z hz; simp only [List.mem_cons, List.not_mem_nil, or_false] at hz; subst hz; exact Or.inr ⟨by decide, _, (hts _ (List.mem_of_getElem? (i := 1) rfl)), hC 1 3 (by decide)⟩) rfl (by decide) (hts _ (List.mem_of_getElem? (i := 2) rfl)) (va_Nw.use rfl hZ.1.1.1) hce hcv hcl ?_
      refine W.eq (g2 := F0 m 17 ls [.ref q9]) rfl ?_
      refine lv_astore (lv' := [(4, .ref q9), (0, .ref (a.1 0)), (1, .int p1), (2, .int p2), (3, .ref o)]) hx hb dL_liftByMinutes_17 hl (by decide) rfl (fun ls hl => ?_)
      refine lv_iconst (v := 2) hx hb dL_liftByMinutes_19 (by decide) ?_
      cases h
      exact W.iret (v := 2) hx hb hr (fun t ht hW => ⟨⟨2, a, rfl, rfl, ⟨rfl, by rw [ht]; exact hP2, hD2⟩⟩, hS.F ht⟩) hS.2.2 dL_liftByMinutes_20 hlocks
    replace h := oi_f ck h
    cases h
  · obtain ⟨hP1, hD1⟩ := hB
    rw [ht] at hP1
    obtain ⟨hP2, hD2⟩ := z_join (ws := [(o, .inl (cy 1, 1, .inr (.inl out)))]) (wc := xW cy a n V) (w1 := xW cy a n u.2.2) hP hD hk hfree hP1 hD1
    replace h := oi_t hw.1 h
    rw [hw.2]
    refine lv_i2l (v := Int32.toInt64 u.2.1) hx hb dL_liftByMinutes_8 rfl ?_
    refine va_last hx hb hK hP2 hD2 hS 0 1 rfl rfl (show vp_in 0 1 from by unfold vp_in; decide) dL_liftByMinutes_9 (fun H2 locs2 hP hD hS => ?_)
    refine lv_goto (tgt := 21) hx hb dL_liftByMinutes_10 (by decide) ?_
    refine lv_iconst (v := 0) hx hb dL_liftByMinutes_21 (by decide) ?_
    cases h
    exact W.iret (v := 0) hx hb hr (fun t ht hW => ⟨⟨0, a, rfl, rfl, ⟨rfl, by rw [ht]; exact hP, hD⟩⟩, hS.F ht⟩) hS.2.2 dL_liftByMinutes_22 hlocks

def f_L_freeMinutes (n : Nat → Nat) (V : XV) (out : (Nat → Int64)) (p1 : Int32) : Option (Int32 × (Nat → Nat) × XV × (Nat → Int64)) := ob (f_X3_freeMinutes n V p1) (fun u => oi (u.1 = 0) (some (0, n, V, vp_updL out ((0 : Int32)).toNatClampNeg (Int32.toInt64 u.2))) (oi (u.1 = 3) (some (1, n, V, out)) (none)))
theorem hd_L_freeMinutes : yL_freeMinutes.cls ≠ "java/lang/invoke/MethodHandle" ∧ yL_freeMinutes.cls ≠ "java/lang/invoke/VarHandle" ∧ (parseMethodDescriptor yL_freeMinutes.desc).map (fun d => d.parameters.length) = some 3 := by decide +kernel
set_option maxHeartbeats 4000000 in
set_option maxRecDepth 100000 in
theorem c_L_freeMinutes (l : Launch) (hl0 : l.stackTraces = false) (D : va_G) (cy : Nat → ClassId) (a : XA) (n : Nat → Nat) (V : XV) (o : Nat) (out : (Nat → Int64)) (sz : Nat) (p1 : Int32) {res : Int32 × (Nat → Nat) × XV × (Nat → Int64)} (h : f_L_freeMinutes n V out p1 = some res) : Met l yL_freeMinutes wsL_freeMinutes ({ frames := 8, cells := 1, slots := 6, locals := 142 } : Room) (va_Pc [.ref (a.1 0), .int p1, .ref o] (zX sz (va_A ((o, .inl (cy 1, 1, .inr (.inl out))) :: xW cy a n V) sz) (lI D cy a n V ((o, .inl (cy 1, 1, .inr (.inl out))))))) (va_Qi (fun r (_ : XA) => r = res.1) (fun a1 t => a1.1 = a.1 ∧ va_P D xcl ((o, .inl (cy 1, 1, .inr (.inl res.2.2.2))) :: xW cy a1 res.2.1 res.2.2.1) t.heap ∧ va_D (va_A ((o, .inl (cy 1, 1, .inr (.inl out))) :: xW cy a n V) sz) ((o, .inl (cy 1, 1, .inr (.inl res.2.2.2))) :: xW cy a1 res.2.1 res.2.2.1)) (va_A ((o, .inl (cy 1, 1, .inr (.inl out))) :: xW cy a n V) sz)) 1 6 (va_A ((o, .inl (cy 1, 1, .inr (.inl out))) :: xW cy a n V) sz) := by
  refine z_ofWH (cc := cL_freeMinutes) (maxL := 4) (ret := (some .int)) (hh := [(0, 9, 12, 21)]) (by decide) rfl ?_
  intro p e s m args below meth c s₁ B hml hv
  obtain ⟨rfl, hsz, hZ, hC, hP, hK, hD0⟩ := hv
  have hx := B.exec
  have hb := B.bytes
  have hr := B.returns
  have hts := atoms_spec (ws := wsL_freeMinutes) B.pre
  have hown : s.vm.findClass RL = some m.cls := findClass_of_methodNamed B.named
  have hlocks := B.notSynchronized
  subst hsz
  have hT : c.exceptionTable.toList = tableOf [(0, 9, 12, 21)] := vx_table (x := objectInit) B (hts _ List.mem_cons_self)
  have hD := hD0.self (sz := s.heap.size)
  generalize hAe : va_A ((o, .inl (cy 1, 1, .inr (.inl out))) :: xW cy a n V) s.heap.size = A at hD hZ ⊢
  have hA : ∀ q : Nat, s.heap.size ≤ q → A q := fun q h => by rw [← hAe]; exact Or.inr h
  have hS : va_S A s.heap s.heap [] := va_S.rf
  have hPx : va_P D xcl (xW cy a n V) s.heap := lP_tail hP
  have hDx : va_D A (xW cy a n V) := lD_tail hD
  have hfree := z_free hDx hS hA
  have hl := lv_entry ([.ref (a.1 0), .int p1, .ref o]) (n := 4) (Nat.le_of_ble_eq_true rfl)
  rw [lg_entry_eq]
  generalize (lg_sl ([.ref (a.1 0), .int p1, .ref o]) ++ List.replicate (4 - (lg_sl ([.ref (a.1 0), .int p1, .ref o])).length) Slot.unset).toArray = ls at hl ⊢
  have hl : lv_has ls 4 [(0, .ref (a.1 0)), (1, .int p1), (2, .ref o)] := hl
  refine lv_aload_n hx hb dL_freeMinutes_0 rfl (lv_at hl 2 rfl) ?_
  refine lv_iconst (v := 0) hx hb dL_freeMinutes_1 (by decide) ?_
  refine lv_aload_n hx hb dL_freeMinutes_2 rfl (lv_at hl 0 rfl) ?_
  refine lv_iload_n hx hb dL_freeMinutes_3 rfl (lv_at hl 1 rfl) ?_
  obtain ⟨u, hg, h⟩ := ob_some h
  refine vx_calli (vx_runV (As := [.int p1]) (rest := [.int 0, .ref o]) ⟨hx, hb, hml, hown, hts⟩ (c_X3_freeMinutes l hl0 D cy a n V s.heap.size p1 hg) (cwV 1 hts gL_freeMinutes_X3_freeMinutes rfl rfl rfl hd_X3_freeMinutes ⟨Nat.le_of_ble_eq_true rfl, Nat.le_of_ble_eq_true rfl⟩) ⟨zX_blind xI_blind, va_recv hK hPx (ci := 3) (q0 := 0) rfl rfl, zX_at (lZ_narrow hZ hfree) (xI_at hPx hK hDx)⟩ rfl rfl hl.1 rfl (lv_room (Nat.le_of_ble_eq_true rfl)) dL_freeMinutes_4 ⟨Nat.le_of_ble_eq_true rfl, Nat.le_of_ble_eq_true rfl⟩) hS (fun q _ h => hfree q h) hfree (fun q _ h => hfree q h) (fun E ce q9 u9 t H1 locs1 ht hvm hp9 hB hz hk hS hce hcv hcl => ?_) (fun r9 u9 t H1 locs1 ht hvm hw hB hz hk hS => ?_)
  · obtain ⟨hE, hc0, hP1, hD1⟩ := hB
    rw [ht] at hP1
    obtain ⟨hP2, hD2⟩ := z_join (ws := [(o, .inl (cy 1, 1, .inr (.inl out)))]) (wc := xW cy a n V) (w1 := xW cy a n V) hP hD hk hfree hP1 hD1
    replace h := oi_f hc0 h
    by_cases ck : u.1 = 3
    · replace h := oi_t ck h
      rw [ck] at hE
      subst hE
      refine vx_catch hown [] ⟨0, 9, 12, 21⟩ [] (hT.trans rfl) (fun z hz => absurd hz List.not_mem_nil) rfl (by decide) (hts _ (List.mem_of_getElem? (i := 1) rfl)) (va_Nw.use rfl hZ.1.1.2.2.1) hce hcv hcl ?_
      refine W.eq (g2 := F0 m 12 ls [.ref q9]) rfl ?_
      refine lv_astore_n (lv' := [(3, .ref q9), (0, .ref (a.1 0)), (1, .int p1), (2, .ref o)]) hx hb dL_freeMinutes_12 rfl hl (by decide) rfl (fun ls hl => ?_)
      refine lv_iconst (v := 1) hx hb dL_freeMinutes_13 (by decide) ?_
      cases h
      exact W.iret (v := 1) hx hb hr (fun t ht hW => ⟨⟨1, a, rfl, rfl, ⟨rfl, by rw [ht]; exact hP2, hD2⟩⟩, hS.F ht⟩) hS.2.2 dL_freeMinutes_14 hlocks
    replace h := oi_f ck h
    cases h
  · obtain ⟨hP1, hD1⟩ := hB
    rw [ht] at hP1
    obtain ⟨hP2, hD2⟩ := z_join (ws := [(o, .inl (cy 1, 1, .inr (.inl out)))]) (wc := xW cy a n V) (w1 := xW cy a n V) hP hD hk hfree hP1 hD1
    replace h := oi_t hw.1 h
    rw [hw.2]
    refine lv_i2l (v := Int32.toInt64 u.2) hx hb dL_freeMinutes_7 rfl ?_
    refine va_last hx hb hK hP2 hD2 hS 0 1 rfl rfl (show vp_in 0 1 from by unfold vp_in; decide) dL_freeMinutes_8 (fun H2 locs2 hP hD hS => ?_)
    refine lv_goto (tgt := 15) hx hb dL_freeMinutes_9 (by decide) ?_
    refine lv_iconst (v := 0) hx hb dL_freeMinutes_15 (by decide) ?_
    cases h
    exact W.iret (v := 0) hx hb hr (fun t ht hW => ⟨⟨0, a, rfl, rfl, ⟨rfl, by rw [ht]; exact hP, hD⟩⟩, hS.F ht⟩) hS.2.2 dL_freeMinutes_16 hlocks

def f_L_atWork (n : Nat → Nat) (V : XV) (out : (Nat → Int64)) (p1 : Int32) : Option (Int32 × (Nat → Nat) × XV × (Nat → Int64)) := ob (f_X3_atWork n V p1) (fun u => oi (u.1 = 0) (some (0, n, V, vp_updL out ((0 : Int32)).toNatClampNeg (Int32.toInt64 u.2))) (oi (u.1 = 1) (some (1, n, V, out)) (none)))
theorem hd_L_atWork : yL_atWork.cls ≠ "java/lang/invoke/MethodHandle" ∧ yL_atWork.cls ≠ "java/lang/invoke/VarHandle" ∧ (parseMethodDescriptor yL_atWork.desc).map (fun d => d.parameters.length) = some 3 := by decide +kernel
set_option maxHeartbeats 4000000 in
set_option maxRecDepth 100000 in
theorem c_L_atWork (l : Launch) (hl0 : l.stackTraces = false) (D : va_G) (cy : Nat → ClassId) (a : XA) (n : Nat → Nat) (V : XV) (o : Nat) (out : (Nat → Int64)) (sz : Nat) (p1 : Int32) {res : Int32 × (Nat → Nat) × XV × (Nat → Int64)} (h : f_L_atWork n V out p1 = some res) : Met l yL_atWork wsL_atWork ({ frames := 8, cells := 1, slots := 6, locals := 146 } : Room) (va_Pc [.ref (a.1 0), .int p1, .ref o] (zX sz (va_A ((o, .inl (cy 1, 1, .inr (.inl out))) :: xW cy a n V) sz) (lI D cy a n V ((o, .inl (cy 1, 1, .inr (.inl out))))))) (va_Qi (fun r (_ : XA) => r = res.1) (fun a1 t => a1.1 = a.1 ∧ va_P D xcl ((o, .inl (cy 1, 1, .inr (.inl res.2.2.2))) :: xW cy a1 res.2.1 res.2.2.1) t.heap ∧ va_D (va_A ((o, .inl (cy 1, 1, .inr (.inl out))) :: xW cy a n V) sz) ((o, .inl (cy 1, 1, .inr (.inl res.2.2.2))) :: xW cy a1 res.2.1 res.2.2.1)) (va_A ((o, .inl (cy 1, 1, .inr (.inl out))) :: xW cy a n V) sz)) 1 6 (va_A ((o, .inl (cy 1, 1, .inr (.inl out))) :: xW cy a n V) sz) := by
  refine z_ofWH (cc := cL_atWork) (maxL := 4) (ret := (some .int)) (hh := [(0, 9, 12, 13)]) (by decide) rfl ?_
  intro p e s m args below meth c s₁ B hml hv
  obtain ⟨rfl, hsz, hZ, hC, hP, hK, hD0⟩ := hv
  have hx := B.exec
  have hb := B.bytes
  have hr := B.returns
  have hts := atoms_spec (ws := wsL_atWork) B.pre
  have hown : s.vm.findClass RL = some m.cls := findClass_of_methodNamed B.named
  have hlocks := B.notSynchronized
  subst hsz
  have hT : c.exceptionTable.toList = tableOf [(0, 9, 12, 13)] := vx_table (x := objectInit) B (hts _ List.mem_cons_self)
  have hD := hD0.self (sz := s.heap.size)
  generalize hAe : va_A ((o, .inl (cy 1, 1, .inr (.inl out))) :: xW cy a n V) s.heap.size = A at hD hZ ⊢
  have hA : ∀ q : Nat, s.heap.size ≤ q → A q := fun q h => by rw [← hAe]; exact Or.inr h
  have hS : va_S A s.heap s.heap [] := va_S.rf
  have hPx : va_P D xcl (xW cy a n V) s.heap := lP_tail hP
  have hDx : va_D A (xW cy a n V) := lD_tail hD
  have hfree := z_free hDx hS hA
  have hl := lv_entry ([.ref (a.1 0), .int p1, .ref o]) (n := 4) (Nat.le_of_ble_eq_true rfl)
  rw [lg_entry_eq]
  generalize (lg_sl ([.ref (a.1 0), .int p1, .ref o]) ++ List.replicate (4 - (lg_sl ([.ref (a.1 0), .int p1, .ref o])).length) Slot.unset).toArray = ls at hl ⊢
  have hl : lv_has ls 4 [(0, .ref (a.1 0)), (1, .int p1), (2, .ref o)] := hl
  refine lv_aload_n hx hb dL_atWork_0 rfl (lv_at hl 2 rfl) ?_
  refine lv_iconst (v := 0) hx hb dL_atWork_1 (by decide) ?_
  refine lv_aload_n hx hb dL_atWork_2 rfl (lv_at hl 0 rfl) ?_
  refine lv_iload_n hx hb dL_atWork_3 rfl (lv_at hl 1 rfl) ?_
  obtain ⟨u, hg, h⟩ := ob_some h
  refine vx_calli (vx_runV (As := [.int p1]) (rest := [.int 0, .ref o]) ⟨hx, hb, hml, hown, hts⟩ (c_X3_atWork l hl0 D cy a n V s.heap.size p1 hg) (cwV 1 hts gL_atWork_X3_atWork rfl rfl rfl hd_X3_atWork ⟨Nat.le_of_ble_eq_true rfl, Nat.le_of_ble_eq_true rfl⟩) ⟨zX_blind xI_blind, va_recv hK hPx (ci := 3) (q0 := 0) rfl rfl, zX_at (lZ_narrow hZ hfree) (xI_at hPx hK hDx)⟩ rfl rfl hl.1 rfl (lv_room (Nat.le_of_ble_eq_true rfl)) dL_atWork_4 ⟨Nat.le_of_ble_eq_true rfl, Nat.le_of_ble_eq_true rfl⟩) hS (fun q _ h => hfree q h) hfree (fun q _ h => hfree q h) (fun E ce q9 u9 t H1 locs1 ht hvm hp9 hB hz hk hS hce hcv hcl => ?_) (fun r9 u9 t H1 locs1 ht hvm hw hB hz hk hS => ?_)
  · obtain ⟨hE, hc0, hP1, hD1⟩ := hB
    rw [ht] at hP1
    obtain ⟨hP2, hD2⟩ := z_join (ws := [(o, .inl (cy 1, 1, .inr (.inl out)))]) (wc := xW cy a n V) (w1 := xW cy a n V) hP hD hk hfree hP1 hD1
    replace h := oi_f hc0 h
    by_cases ck : u.1 = 1
    · replace h := oi_t ck h
      rw [ck] at hE
      subst hE
      refine vx_catch hown [] ⟨0, 9, 12, 13⟩ [] (hT.trans rfl) (fun z hz => absurd hz List.not_mem_nil) rfl (by decide) (hts _ (List.mem_of_getElem? (i := 1) rfl)) (va_Nw.use rfl hZ.1.1.1) hce hcv hcl ?_
      refine W.eq (g2 := F0 m 12 ls [.ref q9]) rfl ?_
      refine lv_astore_n (lv' := [(3, .ref q9), (0, .ref (a.1 0)), (1, .int p1), (2, .ref o)]) hx hb dL_atWork_12 rfl hl (by decide) rfl (fun ls hl => ?_)
      refine lv_iconst (v := 1) hx hb dL_atWork_13 (by decide) ?_
      cases h
      exact W.iret (v := 1) hx hb hr (fun t ht hW => ⟨⟨1, a, rfl, rfl, ⟨rfl, by rw [ht]; exact hP2, hD2⟩⟩, hS.F ht⟩) hS.2.2 dL_atWork_14 hlocks
    replace h := oi_f ck h
    cases h
  · obtain ⟨hP1, hD1⟩ := hB
    rw [ht] at hP1
    obtain ⟨hP2, hD2⟩ := z_join (ws := [(o, .inl (cy 1, 1, .inr (.inl out)))]) (wc := xW cy a n V) (w1 := xW cy a n V) hP hD hk hfree hP1 hD1
    replace h := oi_t hw.1 h
    rw [hw.2]
    refine lv_i2l (v := Int32.toInt64 u.2) hx hb dL_atWork_7 rfl ?_
    refine va_last hx hb hK hP2 hD2 hS 0 1 rfl rfl (show vp_in 0 1 from by unfold vp_in; decide) dL_atWork_8 (fun H2 locs2 hP hD hS => ?_)
    refine lv_goto (tgt := 15) hx hb dL_atWork_9 (by decide) ?_
    refine lv_iconst (v := 0) hx hb dL_atWork_15 (by decide) ?_
    cases h
    exact W.iret (v := 0) hx hb hr (fun t ht hW => ⟨⟨0, a, rfl, rfl, ⟨rfl, by rw [ht]; exact hP, hD⟩⟩, hS.F ht⟩) hS.2.2 dL_atWork_16 hlocks

def f_L_airAt (n : Nat → Nat) (V : XV) (out : (Nat → Int64)) (p1 : Int32) : Option (Int32 × (Nat → Nat) × XV × (Nat → Int64)) := ob (f_X3_airAt n V p1) (fun u => oi (u.1 = 0) (some (0, n, V, vp_updL out ((0 : Int32)).toNatClampNeg u.2)) (oi (u.1 = 1) (some (1, n, V, out)) (none)))
theorem hd_L_airAt : yL_airAt.cls ≠ "java/lang/invoke/MethodHandle" ∧ yL_airAt.cls ≠ "java/lang/invoke/VarHandle" ∧ (parseMethodDescriptor yL_airAt.desc).map (fun d => d.parameters.length) = some 3 := by decide +kernel
set_option maxHeartbeats 4000000 in
set_option maxRecDepth 100000 in
theorem c_L_airAt (l : Launch) (hl0 : l.stackTraces = false) (D : va_G) (cy : Nat → ClassId) (a : XA) (n : Nat → Nat) (V : XV) (o : Nat) (out : (Nat → Int64)) (sz : Nat) (p1 : Int32) {res : Int32 × (Nat → Nat) × XV × (Nat → Int64)} (h : f_L_airAt n V out p1 = some res) : Met l yL_airAt wsL_airAt ({ frames := 8, cells := 1, slots := 6, locals := 141 } : Room) (va_Pc [.ref (a.1 0), .int p1, .ref o] (zX sz (va_A ((o, .inl (cy 1, 1, .inr (.inl out))) :: xW cy a n V) sz) (lI D cy a n V ((o, .inl (cy 1, 1, .inr (.inl out))))))) (va_Qi (fun r (_ : XA) => r = res.1) (fun a1 t => a1.1 = a.1 ∧ va_P D xcl ((o, .inl (cy 1, 1, .inr (.inl res.2.2.2))) :: xW cy a1 res.2.1 res.2.2.1) t.heap ∧ va_D (va_A ((o, .inl (cy 1, 1, .inr (.inl out))) :: xW cy a n V) sz) ((o, .inl (cy 1, 1, .inr (.inl res.2.2.2))) :: xW cy a1 res.2.1 res.2.2.1)) (va_A ((o, .inl (cy 1, 1, .inr (.inl out))) :: xW cy a n V) sz)) 1 6 (va_A ((o, .inl (cy 1, 1, .inr (.inl out))) :: xW cy a n V) sz) := by
  refine z_ofWH (cc := cL_airAt) (maxL := 4) (ret := (some .int)) (hh := [(0, 8, 11, 13)]) (by decide) rfl ?_
  intro p e s m args below meth c s₁ B hml hv
  obtain ⟨rfl, hsz, hZ, hC, hP, hK, hD0⟩ := hv
  have hx := B.exec
  have hb := B.bytes
  have hr := B.returns
  have hts := atoms_spec (ws := wsL_airAt) B.pre
  have hown : s.vm.findClass RL = some m.cls := findClass_of_methodNamed B.named
  have hlocks := B.notSynchronized
  subst hsz
  have hT : c.exceptionTable.toList = tableOf [(0, 8, 11, 13)] := vx_table (x := objectInit) B (hts _ List.mem_cons_self)
  have hD := hD0.self (sz := s.heap.size)
  generalize hAe : va_A ((o, .inl (cy 1, 1, .inr (.inl out))) :: xW cy a n V) s.heap.size = A at hD hZ ⊢
  have hA : ∀ q : Nat, s.heap.size ≤ q → A q := fun q h => by rw [← hAe]; exact Or.inr h
  have hS : va_S A s.heap s.heap [] := va_S.rf
  have hPx : va_P D xcl (xW cy a n V) s.heap := lP_tail hP
  have hDx : va_D A (xW cy a n V) := lD_tail hD
  have hfree := z_free hDx hS hA
  have hl := lv_entry ([.ref (a.1 0), .int p1, .ref o]) (n := 4) (Nat.le_of_ble_eq_true rfl)
  rw [lg_entry_eq]
  generalize (lg_sl ([.ref (a.1 0), .int p1, .ref o]) ++ List.replicate (4 - (lg_sl ([.ref (a.1 0), .int p1, .ref o])).length) Slot.unset).toArray = ls at hl ⊢
  have hl : lv_has ls 4 [(0, .ref (a.1 0)), (1, .int p1), (2, .ref o)] := hl
  refine lv_aload_n hx hb dL_airAt_0 rfl (lv_at hl 2 rfl) ?_
  refine lv_iconst (v := 0) hx hb dL_airAt_1 (by decide) ?_
  refine lv_aload_n hx hb dL_airAt_2 rfl (lv_at hl 0 rfl) ?_
  refine lv_iload_n hx hb dL_airAt_3 rfl (lv_at hl 1 rfl) ?_
  obtain ⟨u, hg, h⟩ := ob_some h
  refine vx_calll (vx_runV (As := [.int p1]) (rest := [.int 0, .ref o]) ⟨hx, hb, hml, hown, hts⟩ (c_X3_airAt l hl0 D cy a n V s.heap.size p1 hg) (cwV 1 hts gL_airAt_X3_airAt rfl rfl rfl hd_X3_airAt ⟨Nat.le_of_ble_eq_true rfl, Nat.le_of_ble_eq_true rfl⟩) ⟨zX_blind xI_blind, va_recv hK hPx (ci := 3) (q0 := 0) rfl rfl, zX_at (lZ_narrow hZ hfree) (xI_at hPx hK hDx)⟩ rfl rfl hl.1 rfl (lv_room (Nat.le_of_ble_eq_true rfl)) dL_airAt_4 ⟨Nat.le_of_ble_eq_true rfl, Nat.le_of_ble_eq_true rfl⟩) hS (fun q _ h => hfree q h) hfree (fun q _ h => hfree q h) (fun E ce q9 u9 t H1 locs1 ht hvm hp9 hB hz hk hS hce hcv hcl => ?_) (fun r9 u9 t H1 locs1 ht hvm hw hB hz hk hS => ?_)
  · obtain ⟨hE, hc0, hP1, hD1⟩ := hB
    rw [ht] at hP1
    obtain ⟨hP2, hD2⟩ := z_join (ws := [(o, .inl (cy 1, 1, .inr (.inl out)))]) (wc := xW cy a n V) (w1 := xW cy a n V) hP hD hk hfree hP1 hD1
    replace h := oi_f hc0 h
    by_cases ck : u.1 = 1
    · replace h := oi_t ck h
      rw [ck] at hE
      subst hE
      refine vx_catch hown [] ⟨0, 8, 11, 13⟩ [] (hT.trans rfl) (fun z hz => absurd hz List.not_mem_nil) rfl (by decide) (hts _ (List.mem_of_getElem? (i := 1) rfl)) (va_Nw.use rfl hZ.1.1.1) hce hcv hcl ?_
      refine W.eq (g2 := F0 m 11 ls [.ref q9]) rfl ?_
      refine lv_astore_n (lv' := [(3, .ref q9), (0, .ref (a.1 0)), (1, .int p1), (2, .ref o)]) hx hb dL_airAt_11 rfl hl (by decide) rfl (fun ls hl => ?_)
      refine lv_iconst (v := 1) hx hb dL_airAt_12 (by decide) ?_
      cases h
      exact W.iret (v := 1) hx hb hr (fun t ht hW => ⟨⟨1, a, rfl, rfl, ⟨rfl, by rw [ht]; exact hP2, hD2⟩⟩, hS.F ht⟩) hS.2.2 dL_airAt_13 hlocks
    replace h := oi_f ck h
    cases h
  · obtain ⟨hP1, hD1⟩ := hB
    rw [ht] at hP1
    obtain ⟨hP2, hD2⟩ := z_join (ws := [(o, .inl (cy 1, 1, .inr (.inl out)))]) (wc := xW cy a n V) (w1 := xW cy a n V) hP hD hk hfree hP1 hD1
    replace h := oi_t hw.1 h
    rw [hw.2]
    refine va_last hx hb hK hP2 hD2 hS 0 1 rfl rfl (show vp_in 0 1 from by unfold vp_in; decide) dL_airAt_7 (fun H2 locs2 hP hD hS => ?_)
    refine lv_goto (tgt := 14) hx hb dL_airAt_8 (by decide) ?_
    refine lv_iconst (v := 0) hx hb dL_airAt_14 (by decide) ?_
    cases h
    exact W.iret (v := 0) hx hb hr (fun t ht hW => ⟨⟨0, a, rfl, rfl, ⟨rfl, by rw [ht]; exact hP, hD⟩⟩, hS.F ht⟩) hS.2.2 dL_airAt_15 hlocks

def f_L_squaresAt (n : Nat → Nat) (V : XV) (out : (Nat → Int64)) (p1 : Int32) : Option (Int32 × (Nat → Nat) × XV × (Nat → Int64)) := ob (f_X3_squaresAt n V p1) (fun u => oi (u.1 = 0) (some (0, n, V, vp_updL out ((0 : Int32)).toNatClampNeg (Int32.toInt64 u.2))) (oi (u.1 = 1) (some (1, n, V, out)) (none)))
theorem hd_L_squaresAt : yL_squaresAt.cls ≠ "java/lang/invoke/MethodHandle" ∧ yL_squaresAt.cls ≠ "java/lang/invoke/VarHandle" ∧ (parseMethodDescriptor yL_squaresAt.desc).map (fun d => d.parameters.length) = some 3 := by decide +kernel
set_option maxHeartbeats 4000000 in
set_option maxRecDepth 100000 in
theorem c_L_squaresAt (l : Launch) (hl0 : l.stackTraces = false) (D : va_G) (cy : Nat → ClassId) (a : XA) (n : Nat → Nat) (V : XV) (o : Nat) (out : (Nat → Int64)) (sz : Nat) (p1 : Int32) {res : Int32 × (Nat → Nat) × XV × (Nat → Int64)} (h : f_L_squaresAt n V out p1 = some res) : Met l yL_squaresAt wsL_squaresAt ({ frames := 8, cells := 1, slots := 6, locals := 141 } : Room) (va_Pc [.ref (a.1 0), .int p1, .ref o] (zX sz (va_A ((o, .inl (cy 1, 1, .inr (.inl out))) :: xW cy a n V) sz) (lI D cy a n V ((o, .inl (cy 1, 1, .inr (.inl out))))))) (va_Qi (fun r (_ : XA) => r = res.1) (fun a1 t => a1.1 = a.1 ∧ va_P D xcl ((o, .inl (cy 1, 1, .inr (.inl res.2.2.2))) :: xW cy a1 res.2.1 res.2.2.1) t.heap ∧ va_D (va_A ((o, .inl (cy 1, 1, .inr (.inl out))) :: xW cy a n V) sz) ((o, .inl (cy 1, 1, .inr (.inl res.2.2.2))) :: xW cy a1 res.2.1 res.2.2.1)) (va_A ((o, .inl (cy 1, 1, .inr (.inl out))) :: xW cy a n V) sz)) 1 6 (va_A ((o, .inl (cy 1, 1, .inr (.inl out))) :: xW cy a n V) sz) := by
  refine z_ofWH (cc := cL_squaresAt) (maxL := 4) (ret := (some .int)) (hh := [(0, 9, 12, 13)]) (by decide) rfl ?_
  intro p e s m args below meth c s₁ B hml hv
  obtain ⟨rfl, hsz, hZ, hC, hP, hK, hD0⟩ := hv
  have hx := B.exec
  have hb := B.bytes
  have hr := B.returns
  have hts := atoms_spec (ws := wsL_squaresAt) B.pre
  have hown : s.vm.findClass RL = some m.cls := findClass_of_methodNamed B.named
  have hlocks := B.notSynchronized
  subst hsz
  have hT : c.exceptionTable.toList = tableOf [(0, 9, 12, 13)] := vx_table (x := objectInit) B (hts _ List.mem_cons_self)
  have hD := hD0.self (sz := s.heap.size)
  generalize hAe : va_A ((o, .inl (cy 1, 1, .inr (.inl out))) :: xW cy a n V) s.heap.size = A at hD hZ ⊢
  have hA : ∀ q : Nat, s.heap.size ≤ q → A q := fun q h => by rw [← hAe]; exact Or.inr h
  have hS : va_S A s.heap s.heap [] := va_S.rf
  have hPx : va_P D xcl (xW cy a n V) s.heap := lP_tail hP
  have hDx : va_D A (xW cy a n V) := lD_tail hD
  have hfree := z_free hDx hS hA
  have hl := lv_entry ([.ref (a.1 0), .int p1, .ref o]) (n := 4) (Nat.le_of_ble_eq_true rfl)
  rw [lg_entry_eq]
  generalize (lg_sl ([.ref (a.1 0), .int p1, .ref o]) ++ List.replicate (4 - (lg_sl ([.ref (a.1 0), .int p1, .ref o])).length) Slot.unset).toArray = ls at hl ⊢
  have hl : lv_has ls 4 [(0, .ref (a.1 0)), (1, .int p1), (2, .ref o)] := hl
  refine lv_aload_n hx hb dL_squaresAt_0 rfl (lv_at hl 2 rfl) ?_
  refine lv_iconst (v := 0) hx hb dL_squaresAt_1 (by decide) ?_
  refine lv_aload_n hx hb dL_squaresAt_2 rfl (lv_at hl 0 rfl) ?_
  refine lv_iload_n hx hb dL_squaresAt_3 rfl (lv_at hl 1 rfl) ?_
  obtain ⟨u, hg, h⟩ := ob_some h
  refine vx_calli (vx_runV (As := [.int p1]) (rest := [.int 0, .ref o]) ⟨hx, hb, hml, hown, hts⟩ (c_X3_squaresAt l hl0 D cy a n V s.heap.size p1 hg) (cwV 1 hts gL_squaresAt_X3_squaresAt rfl rfl rfl hd_X3_squaresAt ⟨Nat.le_of_ble_eq_true rfl, Nat.le_of_ble_eq_true rfl⟩) ⟨zX_blind xI_blind, va_recv hK hPx (ci := 3) (q0 := 0) rfl rfl, zX_at (lZ_narrow hZ hfree) (xI_at hPx hK hDx)⟩ rfl rfl hl.1 rfl (lv_room (Nat.le_of_ble_eq_true rfl)) dL_squaresAt_4 ⟨Nat.le_of_ble_eq_true rfl, Nat.le_of_ble_eq_true rfl⟩) hS (fun q _ h => hfree q h) hfree (fun q _ h => hfree q h) (fun E ce q9 u9 t H1 locs1 ht hvm hp9 hB hz hk hS hce hcv hcl => ?_) (fun r9 u9 t H1 locs1 ht hvm hw hB hz hk hS => ?_)
  · obtain ⟨hE, hc0, hP1, hD1⟩ := hB
    rw [ht] at hP1
    obtain ⟨hP2, hD2⟩ := z_join (ws := [(o, .inl (cy 1, 1, .inr (.inl out)))]) (wc := xW cy a n V) (w1 := xW cy a n V) hP hD hk hfree hP1 hD1
    replace h := oi_f hc0 h
    by_cases ck : u.1 = 1
    · replace h := oi_t ck h
      rw [ck] at hE
      subst hE
      refine vx_catch hown [] ⟨0, 9, 12, 13⟩ [] (hT.trans rfl) (fun z hz => absurd hz List.not_mem_nil) rfl (by decide) (hts _ (List.mem_of_getElem? (i := 1) rfl)) (va_Nw.use rfl hZ.1.1.1) hce hcv hcl ?_
      refine W.eq (g2 := F0 m 12 ls [.ref q9]) rfl ?_
      refine lv_astore_n (lv' := [(3, .ref q9), (0, .ref (a.1 0)), (1, .int p1), (2, .ref o)]) hx hb dL_squaresAt_12 rfl hl (by decide) rfl (fun ls hl => ?_)
      refine lv_iconst (v := 1) hx hb dL_squaresAt_13 (by decide) ?_
      cases h
      exact W.iret (v := 1) hx hb hr (fun t ht hW => ⟨⟨1, a, rfl, rfl, ⟨rfl, by rw [ht]; exact hP2, hD2⟩⟩, hS.F ht⟩) hS.2.2 dL_squaresAt_14 hlocks
    replace h := oi_f ck h
    cases h
  · obtain ⟨hP1, hD1⟩ := hB
    rw [ht] at hP1
    obtain ⟨hP2, hD2⟩ := z_join (ws := [(o, .inl (cy 1, 1, .inr (.inl out)))]) (wc := xW cy a n V) (w1 := xW cy a n V) hP hD hk hfree hP1 hD1
    replace h := oi_t hw.1 h
    rw [hw.2]
    refine lv_i2l (v := Int32.toInt64 u.2) hx hb dL_squaresAt_7 rfl ?_
    refine va_last hx hb hK hP2 hD2 hS 0 1 rfl rfl (show vp_in 0 1 from by unfold vp_in; decide) dL_squaresAt_8 (fun H2 locs2 hP hD hS => ?_)
    refine lv_goto (tgt := 15) hx hb dL_squaresAt_9 (by decide) ?_
    refine lv_iconst (v := 0) hx hb dL_squaresAt_15 (by decide) ?_
    cases h
    exact W.iret (v := 0) hx hb hr (fun t ht hW => ⟨⟨0, a, rfl, rfl, ⟨rfl, by rw [ht]; exact hP, hD⟩⟩, hS.F ht⟩) hS.2.2 dL_squaresAt_16 hlocks

def f_L_firstOf (n : Nat → Nat) (V : XV) (out : (Nat → Int64)) (p1 : Int32) : Option (Int32 × (Nat → Nat) × XV × (Nat → Int64)) := ob (f_X3_firstOf n V p1) (fun u => oi (u.1 = 0) (some (0, n, V, vp_updL out ((0 : Int32)).toNatClampNeg (Int32.toInt64 u.2))) (oi (u.1 = 3) (some (1, n, V, out)) (none)))
theorem hd_L_firstOf : yL_firstOf.cls ≠ "java/lang/invoke/MethodHandle" ∧ yL_firstOf.cls ≠ "java/lang/invoke/VarHandle" ∧ (parseMethodDescriptor yL_firstOf.desc).map (fun d => d.parameters.length) = some 3 := by decide +kernel
set_option maxHeartbeats 4000000 in
set_option maxRecDepth 100000 in
theorem c_L_firstOf (l : Launch) (hl0 : l.stackTraces = false) (D : va_G) (cy : Nat → ClassId) (a : XA) (n : Nat → Nat) (V : XV) (o : Nat) (out : (Nat → Int64)) (sz : Nat) (p1 : Int32) {res : Int32 × (Nat → Nat) × XV × (Nat → Int64)} (h : f_L_firstOf n V out p1 = some res) : Met l yL_firstOf wsL_firstOf ({ frames := 8, cells := 1, slots := 6, locals := 142 } : Room) (va_Pc [.ref (a.1 0), .int p1, .ref o] (zX sz (va_A ((o, .inl (cy 1, 1, .inr (.inl out))) :: xW cy a n V) sz) (lI D cy a n V ((o, .inl (cy 1, 1, .inr (.inl out))))))) (va_Qi (fun r (_ : XA) => r = res.1) (fun a1 t => a1.1 = a.1 ∧ va_P D xcl ((o, .inl (cy 1, 1, .inr (.inl res.2.2.2))) :: xW cy a1 res.2.1 res.2.2.1) t.heap ∧ va_D (va_A ((o, .inl (cy 1, 1, .inr (.inl out))) :: xW cy a n V) sz) ((o, .inl (cy 1, 1, .inr (.inl res.2.2.2))) :: xW cy a1 res.2.1 res.2.2.1)) (va_A ((o, .inl (cy 1, 1, .inr (.inl out))) :: xW cy a n V) sz)) 1 6 (va_A ((o, .inl (cy 1, 1, .inr (.inl out))) :: xW cy a n V) sz) := by
  refine z_ofWH (cc := cL_firstOf) (maxL := 4) (ret := (some .int)) (hh := [(0, 9, 12, 21)]) (by decide) rfl ?_
  intro p e s m args below meth c s₁ B hml hv
  obtain ⟨rfl, hsz, hZ, hC, hP, hK, hD0⟩ := hv
  have hx := B.exec
  have hb := B.bytes
  have hr := B.returns
  have hts := atoms_spec (ws := wsL_firstOf) B.pre
  have hown : s.vm.findClass RL = some m.cls := findClass_of_methodNamed B.named
  have hlocks := B.notSynchronized
  subst hsz
  have hT : c.exceptionTable.toList = tableOf [(0, 9, 12, 21)] := vx_table (x := objectInit) B (hts _ List.mem_cons_self)
  have hD := hD0.self (sz := s.heap.size)
  generalize hAe : va_A ((o, .inl (cy 1, 1, .inr (.inl out))) :: xW cy a n V) s.heap.size = A at hD hZ ⊢
  have hA : ∀ q : Nat, s.heap.size ≤ q → A q := fun q h => by rw [← hAe]; exact Or.inr h
  have hS : va_S A s.heap s.heap [] := va_S.rf
  have hPx : va_P D xcl (xW cy a n V) s.heap := lP_tail hP
  have hDx : va_D A (xW cy a n V) := lD_tail hD
  have hfree := z_free hDx hS hA
  have hl := lv_entry ([.ref (a.1 0), .int p1, .ref o]) (n := 4) (Nat.le_of_ble_eq_true rfl)
  rw [lg_entry_eq]
  generalize (lg_sl ([.ref (a.1 0), .int p1, .ref o]) ++ List.replicate (4 - (lg_sl ([.ref (a.1 0), .int p1, .ref o])).length) Slot.unset).toArray = ls at hl ⊢
  have hl : lv_has ls 4 [(0, .ref (a.1 0)), (1, .int p1), (2, .ref o)] := hl
  refine lv_aload_n hx hb dL_firstOf_0 rfl (lv_at hl 2 rfl) ?_
  refine lv_iconst (v := 0) hx hb dL_firstOf_1 (by decide) ?_
  refine lv_aload_n hx hb dL_firstOf_2 rfl (lv_at hl 0 rfl) ?_
  refine lv_iload_n hx hb dL_firstOf_3 rfl (lv_at hl 1 rfl) ?_
  obtain ⟨u, hg, h⟩ := ob_some h
  refine vx_calli (vx_runV (As := [.int p1]) (rest := [.int 0, .ref o]) ⟨hx, hb, hml, hown, hts⟩ (c_X3_firstOf l hl0 D cy a n V s.heap.size p1 hg) (cwV 1 hts gL_firstOf_X3_firstOf rfl rfl rfl hd_X3_firstOf ⟨Nat.le_of_ble_eq_true rfl, Nat.le_of_ble_eq_true rfl⟩) ⟨zX_blind xI_blind, va_recv hK hPx (ci := 3) (q0 := 0) rfl rfl, zX_at (lZ_narrow hZ hfree) (xI_at hPx hK hDx)⟩ rfl rfl hl.1 rfl (lv_room (Nat.le_of_ble_eq_true rfl)) dL_firstOf_4 ⟨Nat.le_of_ble_eq_true rfl, Nat.le_of_ble_eq_true rfl⟩) hS (fun q _ h => hfree q h) hfree (fun q _ h => hfree q h) (fun E ce q9 u9 t H1 locs1 ht hvm hp9 hB hz hk hS hce hcv hcl => ?_) (fun r9 u9 t H1 locs1 ht hvm hw hB hz hk hS => ?_)
  · obtain ⟨hE, hc0, hP1, hD1⟩ := hB
    rw [ht] at hP1
    obtain ⟨hP2, hD2⟩ := z_join (ws := [(o, .inl (cy 1, 1, .inr (.inl out)))]) (wc := xW cy a n V) (w1 := xW cy a n V) hP hD hk hfree hP1 hD1
    replace h := oi_f hc0 h
    by_cases ck : u.1 = 3
    · replace h := oi_t ck h
      rw [ck] at hE
      subst hE
      refine vx_catch hown [] ⟨0, 9, 12, 21⟩ [] (hT.trans rfl) (fun z hz => absurd hz List.not_mem_nil) rfl (by decide) (hts _ (List.mem_of_getElem? (i := 1) rfl)) (va_Nw.use rfl hZ.1.1.2.2.1) hce hcv hcl ?_
      refine W.eq (g2 := F0 m 12 ls [.ref q9]) rfl ?_
      refine lv_astore_n (lv' := [(3, .ref q9), (0, .ref (a.1 0)), (1, .int p1), (2, .ref o)]) hx hb dL_firstOf_12 rfl hl (by decide) rfl (fun ls hl => ?_)
      refine lv_iconst (v := 1) hx hb dL_firstOf_13 (by decide) ?_
      cases h
      exact W.iret (v := 1) hx hb hr (fun t ht hW => ⟨⟨1, a, rfl, rfl, ⟨rfl, by rw [ht]; exact hP2, hD2⟩⟩, hS.F ht⟩) hS.2.2 dL_firstOf_14 hlocks
    replace h := oi_f ck h
    cases h
  · obtain ⟨hP1, hD1⟩ := hB
    rw [ht] at hP1
    obtain ⟨hP2, hD2⟩ := z_join (ws := [(o, .inl (cy 1, 1, .inr (.inl out)))]) (wc := xW cy a n V) (w1 := xW cy a n V) hP hD hk hfree hP1 hD1
    replace h := oi_t hw.1 h
    rw [hw.2]
    refine lv_i2l (v := Int32.toInt64 u.2) hx hb dL_firstOf_7 rfl ?_
    refine va_last hx hb hK hP2 hD2 hS 0 1 rfl rfl (show vp_in 0 1 from by unfold vp_in; decide) dL_firstOf_8 (fun H2 locs2 hP hD hS => ?_)
    refine lv_goto (tgt := 15) hx hb dL_firstOf_9 (by decide) ?_
    refine lv_iconst (v := 0) hx hb dL_firstOf_15 (by decide) ?_
    cases h
    exact W.iret (v := 0) hx hb hr (fun t ht hW => ⟨⟨0, a, rfl, rfl, ⟨rfl, by rw [ht]; exact hP, hD⟩⟩, hS.F ht⟩) hS.2.2 dL_firstOf_16 hlocks

def f_L_loadsOf (n : Nat → Nat) (V : XV) (out : (Nat → Int64)) (p1 : Int32) : Option (Int32 × (Nat → Nat) × XV × (Nat → Int64)) := ob (f_X3_loadsOf n V p1) (fun u => oi (u.1 = 0) (some (0, n, V, vp_updL out ((0 : Int32)).toNatClampNeg (Int32.toInt64 u.2))) (oi (u.1 = 3) (some (1, n, V, out)) (none)))
theorem hd_L_loadsOf : yL_loadsOf.cls ≠ "java/lang/invoke/MethodHandle" ∧ yL_loadsOf.cls ≠ "java/lang/invoke/VarHandle" ∧ (parseMethodDescriptor yL_loadsOf.desc).map (fun d => d.parameters.length) = some 3 := by decide +kernel
set_option maxHeartbeats 4000000 in
set_option maxRecDepth 100000 in
theorem c_L_loadsOf (l : Launch) (hl0 : l.stackTraces = false) (D : va_G) (cy : Nat → ClassId) (a : XA) (n : Nat → Nat) (V : XV) (o : Nat) (out : (Nat → Int64)) (sz : Nat) (p1 : Int32) {res : Int32 × (Nat → Nat) × XV × (Nat → Int64)} (h : f_L_loadsOf n V out p1 = some res) : Met l yL_loadsOf wsL_loadsOf ({ frames := 8, cells := 1, slots := 6, locals := 142 } : Room) (va_Pc [.ref (a.1 0), .int p1, .ref o] (zX sz (va_A ((o, .inl (cy 1, 1, .inr (.inl out))) :: xW cy a n V) sz) (lI D cy a n V ((o, .inl (cy 1, 1, .inr (.inl out))))))) (va_Qi (fun r (_ : XA) => r = res.1) (fun a1 t => a1.1 = a.1 ∧ va_P D xcl ((o, .inl (cy 1, 1, .inr (.inl res.2.2.2))) :: xW cy a1 res.2.1 res.2.2.1) t.heap ∧ va_D (va_A ((o, .inl (cy 1, 1, .inr (.inl out))) :: xW cy a n V) sz) ((o, .inl (cy 1, 1, .inr (.inl res.2.2.2))) :: xW cy a1 res.2.1 res.2.2.1)) (va_A ((o, .inl (cy 1, 1, .inr (.inl out))) :: xW cy a n V) sz)) 1 6 (va_A ((o, .inl (cy 1, 1, .inr (.inl out))) :: xW cy a n V) sz) := by
  refine z_ofWH (cc := cL_loadsOf) (maxL := 4) (ret := (some .int)) (hh := [(0, 9, 12, 21)]) (by decide) rfl ?_
  intro p e s m args below meth c s₁ B hml hv
  obtain ⟨rfl, hsz, hZ, hC, hP, hK, hD0⟩ := hv
  have hx := B.exec
  have hb := B.bytes
  have hr := B.returns
  have hts := atoms_spec (ws := wsL_loadsOf) B.pre
  have hown : s.vm.findClass RL = some m.cls := findClass_of_methodNamed B.named
  have hlocks := B.notSynchronized
  subst hsz
  have hT : c.exceptionTable.toList = tableOf [(0, 9, 12, 21)] := vx_table (x := objectInit) B (hts _ List.mem_cons_self)
  have hD := hD0.self (sz := s.heap.size)
  generalize hAe : va_A ((o, .inl (cy 1, 1, .inr (.inl out))) :: xW cy a n V) s.heap.size = A at hD hZ ⊢
  have hA : ∀ q : Nat, s.heap.size ≤ q → A q := fun q h => by rw [← hAe]; exact Or.inr h
  have hS : va_S A s.heap s.heap [] := va_S.rf
  have hPx : va_P D xcl (xW cy a n V) s.heap := lP_tail hP
  have hDx : va_D A (xW cy a n V) := lD_tail hD
  have hfree := z_free hDx hS hA
  have hl := lv_entry ([.ref (a.1 0), .int p1, .ref o]) (n := 4) (Nat.le_of_ble_eq_true rfl)
  rw [lg_entry_eq]
  generalize (lg_sl ([.ref (a.1 0), .int p1, .ref o]) ++ List.replicate (4 - (lg_sl ([.ref (a.1 0), .int p1, .ref o])).length) Slot.unset).toArray = ls at hl ⊢
  have hl : lv_has ls 4 [(0, .ref (a.1 0)), (1, .int p1), (2, .ref o)] := hl
  refine lv_aload_n hx hb dL_loadsOf_0 rfl (lv_at hl 2 rfl) ?_
  refine lv_iconst (v := 0) hx hb dL_loadsOf_1 (by decide) ?_
  refine lv_aload_n hx hb dL_loadsOf_2 rfl (lv_at hl 0 rfl) ?_
  refine lv_iload_n hx hb dL_loadsOf_3 rfl (lv_at hl 1 rfl) ?_
  obtain ⟨u, hg, h⟩ := ob_some h
  refine vx_calli (vx_runV (As := [.int p1]) (rest := [.int 0, .ref o]) ⟨hx, hb, hml, hown, hts⟩ (c_X3_loadsOf l hl0 D cy a n V s.heap.size p1 hg) (cwV 1 hts gL_loadsOf_X3_loadsOf rfl rfl rfl hd_X3_loadsOf ⟨Nat.le_of_ble_eq_true rfl, Nat.le_of_ble_eq_true rfl⟩) ⟨zX_blind xI_blind, va_recv hK hPx (ci := 3) (q0 := 0) rfl rfl, zX_at (lZ_narrow hZ hfree) (xI_at hPx hK hDx)⟩ rfl rfl hl.1 rfl (lv_room (Nat.le_of_ble_eq_true rfl)) dL_loadsOf_4 ⟨Nat.le_of_ble_eq_true rfl, Nat.le_of_ble_eq_true rfl⟩) hS (fun q _ h => hfree q h) hfree (fun q _ h => hfree q h) (fun E ce q9 u9 t H1 locs1 ht hvm hp9 hB hz hk hS hce hcv hcl => ?_) (fun r9 u9 t H1 locs1 ht hvm hw hB hz hk hS => ?_)
  · obtain ⟨hE, hc0, hP1, hD1⟩ := hB
    rw [ht] at hP1
    obtain ⟨hP2, hD2⟩ := z_join (ws := [(o, .inl (cy 1, 1, .inr (.inl out)))]) (wc := xW cy a n V) (w1 := xW cy a n V) hP hD hk hfree hP1 hD1
    replace h := oi_f hc0 h
    by_cases ck : u.1 = 3
    · replace h := oi_t ck h
      rw [ck] at hE
      subst hE
      refine vx_catch hown [] ⟨0, 9, 12, 21⟩ [] (hT.trans rfl) (fun z hz => absurd hz List.not_mem_nil) rfl (by decide) (hts _ (List.mem_of_getElem? (i := 1) rfl)) (va_Nw.use rfl hZ.1.1.2.2.1) hce hcv hcl ?_
      refine W.eq (g2 := F0 m 12 ls [.ref q9]) rfl ?_
      refine lv_astore_n (lv' := [(3, .ref q9), (0, .ref (a.1 0)), (1, .int p1), (2, .ref o)]) hx hb dL_loadsOf_12 rfl hl (by decide) rfl (fun ls hl => ?_)
      refine lv_iconst (v := 1) hx hb dL_loadsOf_13 (by decide) ?_
      cases h
      exact W.iret (v := 1) hx hb hr (fun t ht hW => ⟨⟨1, a, rfl, rfl, ⟨rfl, by rw [ht]; exact hP2, hD2⟩⟩, hS.F ht⟩) hS.2.2 dL_loadsOf_14 hlocks
    replace h := oi_f ck h
    cases h
  · obtain ⟨hP1, hD1⟩ := hB
    rw [ht] at hP1
    obtain ⟨hP2, hD2⟩ := z_join (ws := [(o, .inl (cy 1, 1, .inr (.inl out)))]) (wc := xW cy a n V) (w1 := xW cy a n V) hP hD hk hfree hP1 hD1
    replace h := oi_t hw.1 h
    rw [hw.2]
    refine lv_i2l (v := Int32.toInt64 u.2) hx hb dL_loadsOf_7 rfl ?_
    refine va_last hx hb hK hP2 hD2 hS 0 1 rfl rfl (show vp_in 0 1 from by unfold vp_in; decide) dL_loadsOf_8 (fun H2 locs2 hP hD hS => ?_)
    refine lv_goto (tgt := 15) hx hb dL_loadsOf_9 (by decide) ?_
    refine lv_iconst (v := 0) hx hb dL_loadsOf_15 (by decide) ?_
    cases h
    exact W.iret (v := 0) hx hb hr (fun t ht hW => ⟨⟨0, a, rfl, rfl, ⟨rfl, by rw [ht]; exact hP, hD⟩⟩, hS.F ht⟩) hS.2.2 dL_loadsOf_16 hlocks

def f_L_longestWait (n : Nat → Nat) (V : XV) (out : (Nat → Int64)) (p1 : Int32) : Option (Int32 × (Nat → Nat) × XV × (Nat → Int64)) := ob (f_X3_longestWait n V p1) (fun u => oi (u.1 = 0) (some (0, n, V, vp_updL out ((0 : Int32)).toNatClampNeg (Int32.toInt64 u.2))) (oi (u.1 = 3) (some (1, n, V, out)) (oi (u.1 = 2) (some (2, n, V, out)) (none))))
theorem hd_L_longestWait : yL_longestWait.cls ≠ "java/lang/invoke/MethodHandle" ∧ yL_longestWait.cls ≠ "java/lang/invoke/VarHandle" ∧ (parseMethodDescriptor yL_longestWait.desc).map (fun d => d.parameters.length) = some 3 := by decide +kernel
set_option maxHeartbeats 4000000 in
set_option maxRecDepth 100000 in
theorem c_L_longestWait (l : Launch) (hl0 : l.stackTraces = false) (D : va_G) (cy : Nat → ClassId) (a : XA) (n : Nat → Nat) (V : XV) (o : Nat) (out : (Nat → Int64)) (sz : Nat) (p1 : Int32) {res : Int32 × (Nat → Nat) × XV × (Nat → Int64)} (h : f_L_longestWait n V out p1 = some res) : Met l yL_longestWait wsL_longestWait ({ frames := 8, cells := 1, slots := 6, locals := 146 } : Room) (va_Pc [.ref (a.1 0), .int p1, .ref o] (zX sz (va_A ((o, .inl (cy 1, 1, .inr (.inl out))) :: xW cy a n V) sz) (lI D cy a n V ((o, .inl (cy 1, 1, .inr (.inl out))))))) (va_Qi (fun r (_ : XA) => r = res.1) (fun a1 t => a1.1 = a.1 ∧ va_P D xcl ((o, .inl (cy 1, 1, .inr (.inl res.2.2.2))) :: xW cy a1 res.2.1 res.2.2.1) t.heap ∧ va_D (va_A ((o, .inl (cy 1, 1, .inr (.inl out))) :: xW cy a n V) sz) ((o, .inl (cy 1, 1, .inr (.inl res.2.2.2))) :: xW cy a1 res.2.1 res.2.2.1)) (va_A ((o, .inl (cy 1, 1, .inr (.inl out))) :: xW cy a n V) sz)) 1 6 (va_A ((o, .inl (cy 1, 1, .inr (.inl out))) :: xW cy a n V) sz) := by
  refine z_ofWH (cc := cL_longestWait) (maxL := 4) (ret := (some .int)) (hh := [(0, 9, 12, 21), (0, 9, 15, 15)]) (by decide) rfl ?_
  intro p e s m args below meth c s₁ B hml hv
  obtain ⟨rfl, hsz, hZ, hC, hP, hK, hD0⟩ := hv
  have hx := B.exec
  have hb := B.bytes
  have hr := B.returns
  have hts := atoms_spec (ws := wsL_longestWait) B.pre
  have hown : s.vm.findClass RL = some m.cls := findClass_of_methodNamed B.named
  have hlocks := B.notSynchronized
  subst hsz
  have hT : c.exceptionTable.toList = tableOf [(0, 9, 12, 21), (0, 9, 15, 15)] := vx_table (x := objectInit) B (hts _ List.mem_cons_self)
  have hD := hD0.self (sz := s.heap.size)
  generalize hAe : va_A ((o, .inl (cy 1, 1, .inr (.inl out))) :: xW cy a n V) s.heap.size = A at hD hZ ⊢
  have hA : ∀ q : Nat, s.heap.size ≤ q → A q := fun q h => by rw [← hAe]; exact Or.inr h
  have hS : va_S A s.heap s.heap [] := va_S.rf
  have hPx : va_P D xcl (xW cy a n V) s.heap := lP_tail hP
  have hDx : va_D A (xW cy a n V) := lD_tail hD
  have hfree := z_free hDx hS hA
  have hl := lv_entry ([.ref (a.1 0), .int p1, .ref o]) (n := 4) (Nat.le_of_ble_eq_true rfl)
  rw [lg_entry_eq]
  generalize (lg_sl ([.ref (a.1 0), .int p1, .ref o]) ++ List.replicate (4 - (lg_sl ([.ref (a.1 0), .int p1, .ref o])).length) Slot.unset).toArray = ls at hl ⊢
  have hl : lv_has ls 4 [(0, .ref (a.1 0)), (1, .int p1), (2, .ref o)] := hl
  refine lv_aload_n hx hb dL_longestWait_0 rfl (lv_at hl 2 rfl) ?_
  refine lv_iconst (v := 0) hx hb dL_longestWait_1 (by decide) ?_
  refine lv_aload_n hx hb dL_longestWait_2 rfl (lv_at hl 0 rfl) ?_
  refine lv_iload_n hx hb dL_longestWait_3 rfl (lv_at hl 1 rfl) ?_
  obtain ⟨u, hg, h⟩ := ob_some h
  refine vx_calli (vx_runV (As := [.int p1]) (rest := [.int 0, .ref o]) ⟨hx, hb, hml, hown, hts⟩ (c_X3_longestWait l hl0 D cy a n V s.heap.size p1 hg) (cwV 1 hts gL_longestWait_X3_longestWait rfl rfl rfl hd_X3_longestWait ⟨Nat.le_of_ble_eq_true rfl, Nat.le_of_ble_eq_true rfl⟩) ⟨zX_blind xI_blind, va_recv hK hPx (ci := 3) (q0 := 0) rfl rfl, zX_at (lZ_narrow hZ hfree) (xI_at hPx hK hDx)⟩ rfl rfl hl.1 rfl (lv_room (Nat.le_of_ble_eq_true rfl)) dL_longestWait_4 ⟨Nat.le_of_ble_eq_true rfl, Nat.le_of_ble_eq_true rfl⟩) hS (fun q _ h => hfree q h) hfree (fun q _ h => hfree q h) (fun E ce q9 u9 t H1 locs1 ht hvm hp9 hB hz hk hS hce hcv hcl => ?_) (fun r9 u9 t H1 locs1 ht hvm hw hB hz hk hS => ?_)
  · obtain ⟨hE, hc0, hP1, hD1⟩ := hB
    rw [ht] at hP1
    obtain ⟨hP2, hD2⟩ := z_join (ws := [(o, .inl (cy 1, 1, .inr (.inl out)))]) (wc := xW cy a n V) (w1 := xW cy a n V) hP hD hk hfree hP1 hD1
    replace h := oi_f hc0 h
    by_cases ck : u.1 = 3
    · replace h := oi_t ck h
      rw [ck] at hE
      subst hE
      refine vx_catch hown [] ⟨0, 9, 12, 21⟩ [⟨0, 9, 15, 15⟩] (hT.trans rfl) (fun z hz => absurd hz List.not_mem_nil) rfl (by decide) (hts _ (List.mem_of_getElem? (i := 1) rfl)) (va_Nw.use rfl hZ.1.1.2.2.1) hce hcv hcl ?_
      refine W.eq (g2 := F0 m 12 ls [.ref q9]) rfl ?_
      refine lv_astore_n (lv' := [(3, .ref q9), (0, .ref (a.1 0)), (1, .int p1), (2, .ref o)]) hx hb dL_longestWait_12 rfl hl (by decide) rfl (fun ls hl => ?_)
      refine lv_iconst (v := 1) hx hb dL_longestWait_13 (by decide) ?_
      cases h
      exact W.iret (v := 1) hx hb hr (fun t ht hW => ⟨⟨1, a, rfl, rfl, ⟨rfl, by rw [ht]; exact hP2, hD2⟩⟩, hS.F ht⟩) hS.2.2 dL_longestWait_14 hlocks
    replace h := oi_f ck h
    by_cases ck : u.1 = 2
    · replace h := oi_t ck h
      rw [ck] at hE
      subst hE
      refine vx_catch hown [⟨0, 9, 12, 21⟩] ⟨0, 9, 15, 15⟩ [] (hT.trans rfl) (by intro z hz; simp only [List.mem_cons, List.not_mem_nil, or_false] at hz; subst hz; exact Or.inr ⟨by decide, _, (hts _ (List.mem_of_getElem? (i := 1) rfl)), hC 2 3 (by decide)⟩) rfl (by decide) (hts _ (List.mem_of_getElem? (i := 2) rfl)) (va_Nw.use rfl hZ.1.1.2.1) hce hcv hcl ?_
      refine W.eq (g2 := F0 m 15 ls [.ref q9]) rfl ?_
      refine lv_astore_n (lv' := [(3, .ref q9), (0, .ref (a.1 0)), (1, .int p1), (2, .ref o)]) hx hb dL_longestWait_15 rfl hl (by decide) rfl (fun ls hl => ?_)
      refine lv_iconst (v := 2) hx hb dL_longestWait_16 (by decide) ?_
      cases h
      exact W.iret (v := 2) hx hb hr (fun t ht hW => ⟨⟨2, a, rfl, rfl, ⟨rfl, by rw [ht]; exact hP2, hD2⟩⟩, hS.F ht⟩) hS.2.2 dL_longestWait_17 hlocks
    replace h := oi_f ck h
    cases h
  · obtain ⟨hP1, hD1⟩ := hB
    rw [ht] at hP1
    obtain ⟨hP2, hD2⟩ := z_join (ws := [(o, .inl (cy 1, 1, .inr (.inl out)))]) (wc := xW cy a n V) (w1 := xW cy a n V) hP hD hk hfree hP1 hD1
    replace h := oi_t hw.1 h
    rw [hw.2]
    refine lv_i2l (v := Int32.toInt64 u.2) hx hb dL_longestWait_7 rfl ?_
    refine va_last hx hb hK hP2 hD2 hS 0 1 rfl rfl (show vp_in 0 1 from by unfold vp_in; decide) dL_longestWait_8 (fun H2 locs2 hP hD hS => ?_)
    refine lv_goto (tgt := 18) hx hb dL_longestWait_9 (by decide) ?_
    refine lv_iconst (v := 0) hx hb dL_longestWait_18 (by decide) ?_
    cases h
    exact W.iret (v := 0) hx hb hr (fun t ht hW => ⟨⟨0, a, rfl, rfl, ⟨rfl, by rw [ht]; exact hP, hD⟩⟩, hS.F ht⟩) hS.2.2 dL_longestWait_19 hlocks

def f_L_isBroken (n : Nat → Nat) (V : XV) (out : (Nat → Int64)) (p1 : Int32) : Option (Int32 × (Nat → Nat) × XV × (Nat → Int64)) := ob (f_X3_isBroken n V p1) (fun u => oi (u.1 = 0) (oi (u.2 = 0) (some (0, n, V, vp_updL out ((0 : Int32)).toNatClampNeg 0)) (some (0, n, V, vp_updL out ((0 : Int32)).toNatClampNeg 1))) (oi (u.1 = 3) (some (1, n, V, out)) (none)))
theorem hd_L_isBroken : yL_isBroken.cls ≠ "java/lang/invoke/MethodHandle" ∧ yL_isBroken.cls ≠ "java/lang/invoke/VarHandle" ∧ (parseMethodDescriptor yL_isBroken.desc).map (fun d => d.parameters.length) = some 3 := by decide +kernel
set_option maxHeartbeats 4000000 in
set_option maxRecDepth 100000 in
theorem c_L_isBroken (l : Launch) (hl0 : l.stackTraces = false) (D : va_G) (cy : Nat → ClassId) (a : XA) (n : Nat → Nat) (V : XV) (o : Nat) (out : (Nat → Int64)) (sz : Nat) (p1 : Int32) {res : Int32 × (Nat → Nat) × XV × (Nat → Int64)} (h : f_L_isBroken n V out p1 = some res) : Met l yL_isBroken wsL_isBroken ({ frames := 8, cells := 1, slots := 6, locals := 141 } : Room) (va_Pc [.ref (a.1 0), .int p1, .ref o] (zX sz (va_A ((o, .inl (cy 1, 1, .inr (.inl out))) :: xW cy a n V) sz) (lI D cy a n V ((o, .inl (cy 1, 1, .inr (.inl out))))))) (va_Qi (fun r (_ : XA) => r = res.1) (fun a1 t => a1.1 = a.1 ∧ va_P D xcl ((o, .inl (cy 1, 1, .inr (.inl res.2.2.2))) :: xW cy a1 res.2.1 res.2.2.1) t.heap ∧ va_D (va_A ((o, .inl (cy 1, 1, .inr (.inl out))) :: xW cy a n V) sz) ((o, .inl (cy 1, 1, .inr (.inl res.2.2.2))) :: xW cy a1 res.2.1 res.2.2.1)) (va_A ((o, .inl (cy 1, 1, .inr (.inl out))) :: xW cy a n V) sz)) 1 6 (va_A ((o, .inl (cy 1, 1, .inr (.inl out))) :: xW cy a n V) sz) := by
  refine z_ofWH (cc := cL_isBroken) (maxL := 4) (ret := (some .int)) (hh := [(0, 16, 19, 21)]) (by decide) rfl ?_
  intro p e s m args below meth c s₁ B hml hv
  obtain ⟨rfl, hsz, hZ, hC, hP, hK, hD0⟩ := hv
  have hx := B.exec
  have hb := B.bytes
  have hr := B.returns
  have hts := atoms_spec (ws := wsL_isBroken) B.pre
  have hown : s.vm.findClass RL = some m.cls := findClass_of_methodNamed B.named
  have hlocks := B.notSynchronized
  subst hsz
  have hT : c.exceptionTable.toList = tableOf [(0, 16, 19, 21)] := vx_table (x := objectInit) B (hts _ List.mem_cons_self)
  have hD := hD0.self (sz := s.heap.size)
  generalize hAe : va_A ((o, .inl (cy 1, 1, .inr (.inl out))) :: xW cy a n V) s.heap.size = A at hD hZ ⊢
  have hA : ∀ q : Nat, s.heap.size ≤ q → A q := fun q h => by rw [← hAe]; exact Or.inr h
  have hS : va_S A s.heap s.heap [] := va_S.rf
  have hPx : va_P D xcl (xW cy a n V) s.heap := lP_tail hP
  have hDx : va_D A (xW cy a n V) := lD_tail hD
  have hfree := z_free hDx hS hA
  have hl := lv_entry ([.ref (a.1 0), .int p1, .ref o]) (n := 4) (Nat.le_of_ble_eq_true rfl)
  rw [lg_entry_eq]
  generalize (lg_sl ([.ref (a.1 0), .int p1, .ref o]) ++ List.replicate (4 - (lg_sl ([.ref (a.1 0), .int p1, .ref o])).length) Slot.unset).toArray = ls at hl ⊢
  have hl : lv_has ls 4 [(0, .ref (a.1 0)), (1, .int p1), (2, .ref o)] := hl
  refine lv_aload_n hx hb dL_isBroken_0 rfl (lv_at hl 2 rfl) ?_
  refine lv_iconst (v := 0) hx hb dL_isBroken_1 (by decide) ?_
  refine lv_aload_n hx hb dL_isBroken_2 rfl (lv_at hl 0 rfl) ?_
  refine lv_iload_n hx hb dL_isBroken_3 rfl (lv_at hl 1 rfl) ?_
  obtain ⟨u, hg, h⟩ := ob_some h
  refine vx_calli (vx_runV (As := [.int p1]) (rest := [.int 0, .ref o]) ⟨hx, hb, hml, hown, hts⟩ (c_X3_isBroken l hl0 D cy a n V s.heap.size p1 hg) (cwV 1 hts gL_isBroken_X3_isBroken rfl rfl rfl hd_X3_isBroken ⟨Nat.le_of_ble_eq_true rfl, Nat.le_of_ble_eq_true rfl⟩) ⟨zX_blind xI_blind, va_recv hK hPx (ci := 3) (q0 := 0) rfl rfl, zX_at (lZ_narrow hZ hfree) (xI_at hPx hK hDx)⟩ rfl rfl hl.1 rfl (lv_room (Nat.le_of_ble_eq_true rfl)) dL_isBroken_4 ⟨Nat.le_of_ble_eq_true rfl, Nat.le_of_ble_eq_true rfl⟩) hS (fun q _ h => hfree q h) hfree (fun q _ h => hfree q h) (fun E ce q9 u9 t H1 locs1 ht hvm hp9 hB hz hk hS hce hcv hcl => ?_) (fun r9 u9 t H1 locs1 ht hvm hw hB hz hk hS => ?_)
  · obtain ⟨hE, hc0, hP1, hD1⟩ := hB
    rw [ht] at hP1
    obtain ⟨hP2, hD2⟩ := z_join (ws := [(o, .inl (cy 1, 1, .inr (.inl out)))]) (wc := xW cy a n V) (w1 := xW cy a n V) hP hD hk hfree hP1 hD1
    replace h := oi_f hc0 h
    by_cases ck : u.1 = 3
    · replace h := oi_t ck h
      rw [ck] at hE
      subst hE
      refine vx_catch hown [] ⟨0, 16, 19, 21⟩ [] (hT.trans rfl) (fun z hz => absurd hz List.not_mem_nil) rfl (by decide) (hts _ (List.mem_of_getElem? (i := 1) rfl)) (va_Nw.use rfl hZ.1.1.2.2.1) hce hcv hcl ?_
      refine W.eq (g2 := F0 m 19 ls [.ref q9]) rfl ?_
      refine lv_astore_n (lv' := [(3, .ref q9), (0, .ref (a.1 0)), (1, .int p1), (2, .ref o)]) hx hb dL_isBroken_19 rfl hl (by decide) rfl (fun ls hl => ?_)
      refine lv_iconst (v := 1) hx hb dL_isBroken_20 (by decide) ?_
      cases h
      exact W.iret (v := 1) hx hb hr (fun t ht hW => ⟨⟨1, a, rfl, rfl, ⟨rfl, by rw [ht]; exact hP2, hD2⟩⟩, hS.F ht⟩) hS.2.2 dL_isBroken_21 hlocks
    replace h := oi_f ck h
    cases h
  · obtain ⟨hP1, hD1⟩ := hB
    rw [ht] at hP1
    obtain ⟨hP2, hD2⟩ := z_join (ws := [(o, .inl (cy 1, 1, .inr (.inl out)))]) (wc := xW cy a n V) (w1 := xW cy a n V) hP hD hk hfree hP1 hD1
    replace h := oi_t hw.1 h
    rw [hw.2]
    refine lv_if_eq (tgt := 14) hx hb dL_isBroken_7 (by decide) (fun c0 => ?_) (fun c0 => ?_)
    · replace h := oi_t c0 h
      refine lv_lconst (v := 0) hx hb dL_isBroken_14 (by decide) ?_
      refine va_last hx hb hK hP2 hD2 hS 0 1 rfl rfl (show vp_in 0 1 from by unfold vp_in; decide) dL_isBroken_15 (fun H2 locs2 hP hD hS => ?_)
      refine lv_goto (tgt := 22) hx hb dL_isBroken_16 (by decide) ?_
      refine lv_iconst (v := 0) hx hb dL_isBroken_22 (by decide) ?_
      cases h
      exact W.iret (v := 0) hx hb hr (fun t ht hW => ⟨⟨0, a, rfl, rfl, ⟨rfl, by rw [ht]; exact hP, hD⟩⟩, hS.F ht⟩) hS.2.2 dL_isBroken_23 hlocks
    · replace h := oi_f c0 h
      refine lv_lconst (v := 1) hx hb dL_isBroken_10 (by decide) ?_
      refine lv_goto (tgt := 15) hx hb dL_isBroken_11 (by decide) ?_
      refine va_last hx hb hK hP2 hD2 hS 0 1 rfl rfl (show vp_in 0 1 from by unfold vp_in; decide) dL_isBroken_15 (fun H2 locs2 hP hD hS => ?_)
      refine lv_goto (tgt := 22) hx hb dL_isBroken_16 (by decide) ?_
      refine lv_iconst (v := 0) hx hb dL_isBroken_22 (by decide) ?_
      cases h
      exact W.iret (v := 0) hx hb hr (fun t ht hW => ⟨⟨0, a, rfl, rfl, ⟨rfl, by rw [ht]; exact hP, hD⟩⟩, hS.F ht⟩) hS.2.2 dL_isBroken_23 hlocks

def f_L_minutesOf (n : Nat → Nat) (V : XV) (out : (Nat → Int64)) (p1 : Int32) : Option (Int32 × (Nat → Nat) × XV × (Nat → Int64)) := ob (f_X3_minutesOf n V p1) (fun u => oi (u.1 = 0) (some (0, n, V, vp_updL out ((0 : Int32)).toNatClampNeg (Int32.toInt64 u.2))) (oi (u.1 = 3) (some (1, n, V, out)) (none)))
theorem hd_L_minutesOf : yL_minutesOf.cls ≠ "java/lang/invoke/MethodHandle" ∧ yL_minutesOf.cls ≠ "java/lang/invoke/VarHandle" ∧ (parseMethodDescriptor yL_minutesOf.desc).map (fun d => d.parameters.length) = some 3 := by decide +kernel
set_option maxHeartbeats 4000000 in
set_option maxRecDepth 100000 in
theorem c_L_minutesOf (l : Launch) (hl0 : l.stackTraces = false) (D : va_G) (cy : Nat → ClassId) (a : XA) (n : Nat → Nat) (V : XV) (o : Nat) (out : (Nat → Int64)) (sz : Nat) (p1 : Int32) {res : Int32 × (Nat → Nat) × XV × (Nat → Int64)} (h : f_L_minutesOf n V out p1 = some res) : Met l yL_minutesOf wsL_minutesOf ({ frames := 8, cells := 1, slots := 6, locals := 146 } : Room) (va_Pc [.ref (a.1 0), .int p1, .ref o] (zX sz (va_A ((o, .inl (cy 1, 1, .inr (.inl out))) :: xW cy a n V) sz) (lI D cy a n V ((o, .inl (cy 1, 1, .inr (.inl out))))))) (va_Qi (fun r (_ : XA) => r = res.1) (fun a1 t => a1.1 = a.1 ∧ va_P D xcl ((o, .inl (cy 1, 1, .inr (.inl res.2.2.2))) :: xW cy a1 res.2.1 res.2.2.1) t.heap ∧ va_D (va_A ((o, .inl (cy 1, 1, .inr (.inl out))) :: xW cy a n V) sz) ((o, .inl (cy 1, 1, .inr (.inl res.2.2.2))) :: xW cy a1 res.2.1 res.2.2.1)) (va_A ((o, .inl (cy 1, 1, .inr (.inl out))) :: xW cy a n V) sz)) 1 6 (va_A ((o, .inl (cy 1, 1, .inr (.inl out))) :: xW cy a n V) sz) := by
  refine z_ofWH (cc := cL_minutesOf) (maxL := 4) (ret := (some .int)) (hh := [(0, 9, 12, 21)]) (by decide) rfl ?_
  intro p e s m args below meth c s₁ B hml hv
  obtain ⟨rfl, hsz, hZ, hC, hP, hK, hD0⟩ := hv
  have hx := B.exec
  have hb := B.bytes
  have hr := B.returns
  have hts := atoms_spec (ws := wsL_minutesOf) B.pre
  have hown : s.vm.findClass RL = some m.cls := findClass_of_methodNamed B.named
  have hlocks := B.notSynchronized
  subst hsz
  have hT : c.exceptionTable.toList = tableOf [(0, 9, 12, 21)] := vx_table (x := objectInit) B (hts _ List.mem_cons_self)
  have hD := hD0.self (sz := s.heap.size)
  generalize hAe : va_A ((o, .inl (cy 1, 1, .inr (.inl out))) :: xW cy a n V) s.heap.size = A at hD hZ ⊢
  have hA : ∀ q : Nat, s.heap.size ≤ q → A q := fun q h => by rw [← hAe]; exact Or.inr h
  have hS : va_S A s.heap s.heap [] := va_S.rf
  have hPx : va_P D xcl (xW cy a n V) s.heap := lP_tail hP
  have hDx : va_D A (xW cy a n V) := lD_tail hD
  have hfree := z_free hDx hS hA
  have hl := lv_entry ([.ref (a.1 0), .int p1, .ref o]) (n := 4) (Nat.le_of_ble_eq_true rfl)
  rw [lg_entry_eq]
  generalize (lg_sl ([.ref (a.1 0), .int p1, .ref o]) ++ List.replicate (4 - (lg_sl ([.ref (a.1 0), .int p1, .ref o])).length) Slot.unset).toArray = ls at hl ⊢
  have hl : lv_has ls 4 [(0, .ref (a.1 0)), (1, .int p1), (2, .ref o)] := hl
  refine lv_aload_n hx hb dL_minutesOf_0 rfl (lv_at hl 2 rfl) ?_
  refine lv_iconst (v := 0) hx hb dL_minutesOf_1 (by decide) ?_
  refine lv_aload_n hx hb dL_minutesOf_2 rfl (lv_at hl 0 rfl) ?_
  refine lv_iload_n hx hb dL_minutesOf_3 rfl (lv_at hl 1 rfl) ?_
  obtain ⟨u, hg, h⟩ := ob_some h
  refine vx_calli (vx_runV (As := [.int p1]) (rest := [.int 0, .ref o]) ⟨hx, hb, hml, hown, hts⟩ (c_X3_minutesOf l hl0 D cy a n V s.heap.size p1 hg) (cwV 1 hts gL_minutesOf_X3_minutesOf rfl rfl rfl hd_X3_minutesOf ⟨Nat.le_of_ble_eq_true rfl, Nat.le_of_ble_eq_true rfl⟩) ⟨zX_blind xI_blind, va_recv hK hPx (ci := 3) (q0 := 0) rfl rfl, zX_at (lZ_narrow hZ hfree) (xI_at hPx hK hDx)⟩ rfl rfl hl.1 rfl (lv_room (Nat.le_of_ble_eq_true rfl)) dL_minutesOf_4 ⟨Nat.le_of_ble_eq_true rfl, Nat.le_of_ble_eq_true rfl⟩) hS (fun q _ h => hfree q h) hfree (fun q _ h => hfree q h) (fun E ce q9 u9 t H1 locs1 ht hvm hp9 hB hz hk hS hce hcv hcl => ?_) (fun r9 u9 t H1 locs1 ht hvm hw hB hz hk hS => ?_)
  · obtain ⟨hE, hc0, hP1, hD1⟩ := hB
    rw [ht] at hP1
    obtain ⟨hP2, hD2⟩ := z_join (ws := [(o, .inl (cy 1, 1, .inr (.inl out)))]) (wc := xW cy a n V) (w1 := xW cy a n V) hP hD hk hfree hP1 hD1
    replace h := oi_f hc0 h
    by_cases ck : u.1 = 3
    · replace h := oi_t ck h
      rw [ck] at hE
      subst hE
      refine vx_catch hown [] ⟨0, 9, 12, 21⟩ [] (hT.trans rfl) (fun z hz => absurd hz List.not_mem_nil) rfl (by decide) (hts _ (List.mem_of_getElem? (i := 1) rfl)) (va_Nw.use rfl hZ.1.1.2.2.1) hce hcv hcl ?_
      refine W.eq (g2 := F0 m 12 ls [.ref q9]) rfl ?_
      refine lv_astore_n (lv' := [(3, .ref q9), (0, .ref (a.1 0)), (1, .int p1), (2, .ref o)]) hx hb dL_minutesOf_12 rfl hl (by decide) rfl (fun ls hl => ?_)
      refine lv_iconst (v := 1) hx hb dL_minutesOf_13 (by decide) ?_
      cases h
      exact W.iret (v := 1) hx hb hr (fun t ht hW => ⟨⟨1, a, rfl, rfl, ⟨rfl, by rw [ht]; exact hP2, hD2⟩⟩, hS.F ht⟩) hS.2.2 dL_minutesOf_14 hlocks
    replace h := oi_f ck h
    cases h
  · obtain ⟨hP1, hD1⟩ := hB
    rw [ht] at hP1
    obtain ⟨hP2, hD2⟩ := z_join (ws := [(o, .inl (cy 1, 1, .inr (.inl out)))]) (wc := xW cy a n V) (w1 := xW cy a n V) hP hD hk hfree hP1 hD1
    replace h := oi_t hw.1 h
    rw [hw.2]
    refine lv_i2l (v := Int32.toInt64 u.2) hx hb dL_minutesOf_7 rfl ?_
    refine va_last hx hb hK hP2 hD2 hS 0 1 rfl rfl (show vp_in 0 1 from by unfold vp_in; decide) dL_minutesOf_8 (fun H2 locs2 hP hD hS => ?_)
    refine lv_goto (tgt := 15) hx hb dL_minutesOf_9 (by decide) ?_
    refine lv_iconst (v := 0) hx hb dL_minutesOf_15 (by decide) ?_
    cases h
    exact W.iret (v := 0) hx hb hr (fun t ht hW => ⟨⟨0, a, rfl, rfl, ⟨rfl, by rw [ht]; exact hP, hD⟩⟩, hS.F ht⟩) hS.2.2 dL_minutesOf_16 hlocks

def f_L_code (n : Nat → Nat) (V : XV) (out : (Nat → Int64)) (p1 : Int32) : Option (Int32 × (Nat → Nat) × XV × (Nat → Int64)) := ob (f_X3_code n V p1) (fun u => oi (u.1 = 0) (some (0, n, V, vp_updL out ((0 : Int32)).toNatClampNeg (Int32.toInt64 u.2))) (oi (u.1 = 3) (some (1, n, V, out)) (none)))
theorem hd_L_code : yL_code.cls ≠ "java/lang/invoke/MethodHandle" ∧ yL_code.cls ≠ "java/lang/invoke/VarHandle" ∧ (parseMethodDescriptor yL_code.desc).map (fun d => d.parameters.length) = some 3 := by decide +kernel
set_option maxHeartbeats 4000000 in
set_option maxRecDepth 100000 in
theorem c_L_code (l : Launch) (hl0 : l.stackTraces = false) (D : va_G) (cy : Nat → ClassId) (a : XA) (n : Nat → Nat) (V : XV) (o : Nat) (out : (Nat → Int64)) (sz : Nat) (p1 : Int32) {res : Int32 × (Nat → Nat) × XV × (Nat → Int64)} (h : f_L_code n V out p1 = some res) : Met l yL_code wsL_code ({ frames := 8, cells := 1, slots := 6, locals := 142 } : Room) (va_Pc [.ref (a.1 0), .int p1, .ref o] (zX sz (va_A ((o, .inl (cy 1, 1, .inr (.inl out))) :: xW cy a n V) sz) (lI D cy a n V ((o, .inl (cy 1, 1, .inr (.inl out))))))) (va_Qi (fun r (_ : XA) => r = res.1) (fun a1 t => a1.1 = a.1 ∧ va_P D xcl ((o, .inl (cy 1, 1, .inr (.inl res.2.2.2))) :: xW cy a1 res.2.1 res.2.2.1) t.heap ∧ va_D (va_A ((o, .inl (cy 1, 1, .inr (.inl out))) :: xW cy a n V) sz) ((o, .inl (cy 1, 1, .inr (.inl res.2.2.2))) :: xW cy a1 res.2.1 res.2.2.1)) (va_A ((o, .inl (cy 1, 1, .inr (.inl out))) :: xW cy a n V) sz)) 1 6 (va_A ((o, .inl (cy 1, 1, .inr (.inl out))) :: xW cy a n V) sz) := by
  refine z_ofWH (cc := cL_code) (maxL := 4) (ret := (some .int)) (hh := [(0, 9, 12, 21)]) (by decide) rfl ?_
  intro p e s m args below meth c s₁ B hml hv
  obtain ⟨rfl, hsz, hZ, hC, hP, hK, hD0⟩ := hv
  have hx := B.exec
  have hb := B.bytes
  have hr := B.returns
  have hts := atoms_spec (ws := wsL_code) B.pre
  have hown : s.vm.findClass RL = some m.cls := findClass_of_methodNamed B.named
  have hlocks := B.notSynchronized
  subst hsz
  have hT : c.exceptionTable.toList = tableOf [(0, 9, 12, 21)] := vx_table (x := objectInit) B (hts _ List.mem_cons_self)
  have hD := hD0.self (sz := s.heap.size)
  generalize hAe : va_A ((o, .inl (cy 1, 1, .inr (.inl out))) :: xW cy a n V) s.heap.size = A at hD hZ ⊢
  have hA : ∀ q : Nat, s.heap.size ≤ q → A q := fun q h => by rw [← hAe]; exact Or.inr h
  have hS : va_S A s.heap s.heap [] := va_S.rf
  have hPx : va_P D xcl (xW cy a n V) s.heap := lP_tail hP
  have hDx : va_D A (xW cy a n V) := lD_tail hD
  have hfree := z_free hDx hS hA
  have hl := lv_entry ([.ref (a.1 0), .int p1, .ref o]) (n := 4) (Nat.le_of_ble_eq_true rfl)
  rw [lg_entry_eq]
  generalize (lg_sl ([.ref (a.1 0), .int p1, .ref o]) ++ List.replicate (4 - (lg_sl ([.ref (a.1 0), .int p1, .ref o])).length) Slot.unset).toArray = ls at hl ⊢
  have hl : lv_has ls 4 [(0, .ref (a.1 0)), (1, .int p1), (2, .ref o)] := hl
  refine lv_aload_n hx hb dL_code_0 rfl (lv_at hl 2 rfl) ?_
  refine lv_iconst (v := 0) hx hb dL_code_1 (by decide) ?_
  refine lv_aload_n hx hb dL_code_2 rfl (lv_at hl 0 rfl) ?_
  refine lv_iload_n hx hb dL_code_3 rfl (lv_at hl 1 rfl) ?_
  obtain ⟨u, hg, h⟩ := ob_some h
  refine vx_calli (vx_runV (As := [.int p1]) (rest := [.int 0, .ref o]) ⟨hx, hb, hml, hown, hts⟩ (c_X3_code l hl0 D cy a n V s.heap.size p1 hg) (cwV 1 hts gL_code_X3_code rfl rfl rfl hd_X3_code ⟨Nat.le_of_ble_eq_true rfl, Nat.le_of_ble_eq_true rfl⟩) ⟨zX_blind xI_blind, va_recv hK hPx (ci := 3) (q0 := 0) rfl rfl, zX_at (lZ_narrow hZ hfree) (xI_at hPx hK hDx)⟩ rfl rfl hl.1 rfl (lv_room (Nat.le_of_ble_eq_true rfl)) dL_code_4 ⟨Nat.le_of_ble_eq_true rfl, Nat.le_of_ble_eq_true rfl⟩) hS (fun q _ h => hfree q h) hfree (fun q _ h => hfree q h) (fun E ce q9 u9 t H1 locs1 ht hvm hp9 hB hz hk hS hce hcv hcl => ?_) (fun r9 u9 t H1 locs1 ht hvm hw hB hz hk hS => ?_)
  · obtain ⟨hE, hc0, hP1, hD1⟩ := hB
    rw [ht] at hP1
    obtain ⟨hP2, hD2⟩ := z_join (ws := [(o, .inl (cy 1, 1, .inr (.inl out)))]) (wc := xW cy a n V) (w1 := xW cy a n V) hP hD hk hfree hP1 hD1
    replace h := oi_f hc0 h
    by_cases ck : u.1 = 3
    · replace h := oi_t ck h
      rw [ck] at hE
      subst hE
      refine vx_catch hown [] ⟨0, 9, 12, 21⟩ [] (hT.trans rfl) (fun z hz => absurd hz List.not_mem_nil) rfl (by decide) (hts _ (List.mem_of_getElem? (i := 1) rfl)) (va_Nw.use rfl hZ.1.1.2.2.1) hce hcv hcl ?_
      refine W.eq (g2 := F0 m 12 ls [.ref q9]) rfl ?_
      refine lv_astore_n (lv' := [(3, .ref q9), (0, .ref (a.1 0)), (1, .int p1), (2, .ref o)]) hx hb dL_code_12 rfl hl (by decide) rfl (fun ls hl => ?_)
      refine lv_iconst (v := 1) hx hb dL_code_13 (by decide) ?_
      cases h
      exact W.iret (v := 1) hx hb hr (fun t ht hW => ⟨⟨1, a, rfl, rfl, ⟨rfl, by rw [ht]; exact hP2, hD2⟩⟩, hS.F ht⟩) hS.2.2 dL_code_14 hlocks
    replace h := oi_f ck h
    cases h
  · obtain ⟨hP1, hD1⟩ := hB
    rw [ht] at hP1
    obtain ⟨hP2, hD2⟩ := z_join (ws := [(o, .inl (cy 1, 1, .inr (.inl out)))]) (wc := xW cy a n V) (w1 := xW cy a n V) hP hD hk hfree hP1 hD1
    replace h := oi_t hw.1 h
    rw [hw.2]
    refine lv_i2l (v := Int32.toInt64 u.2) hx hb dL_code_7 rfl ?_
    refine va_last hx hb hK hP2 hD2 hS 0 1 rfl rfl (show vp_in 0 1 from by unfold vp_in; decide) dL_code_8 (fun H2 locs2 hP hD hS => ?_)
    refine lv_goto (tgt := 15) hx hb dL_code_9 (by decide) ?_
    refine lv_iconst (v := 0) hx hb dL_code_15 (by decide) ?_
    cases h
    exact W.iret (v := 0) hx hb hr (fun t ht hW => ⟨⟨0, a, rfl, rfl, ⟨rfl, by rw [ht]; exact hP, hD⟩⟩, hS.F ht⟩) hS.2.2 dL_code_16 hlocks

def f_L_workShare (n : Nat → Nat) (V : XV) (out : (Nat → UInt64)) (p1 : Int32) : Option (Int32 × (Nat → Nat) × XV × (Nat → UInt64)) := ob (f_X3_workShare n V p1) (fun u => oi (u.1 = 0) (og ((FP.f2d u.2) &&& 0x7fffffffffffffff ≤ 0x7ff0000000000000) (some (0, n, V, vf_upd out ((0 : Int32)).toNatClampNeg (FP.f2d u.2)))) (oi (u.1 = 3) (some (1, n, V, out)) (oi (u.1 = 5) (some (2, n, V, out)) (none))))
theorem hd_L_workShare : yL_workShare.cls ≠ "java/lang/invoke/MethodHandle" ∧ yL_workShare.cls ≠ "java/lang/invoke/VarHandle" ∧ (parseMethodDescriptor yL_workShare.desc).map (fun d => d.parameters.length) = some 3 := by decide +kernel
set_option maxHeartbeats 4000000 in
set_option maxRecDepth 100000 in
theorem c_L_workShare (l : Launch) (hl0 : l.stackTraces = false) (D : va_G) (cy : Nat → ClassId) (a : XA) (n : Nat → Nat) (V : XV) (o : Nat) (out : (Nat → UInt64)) (sz : Nat) (p1 : Int32) {res : Int32 × (Nat → Nat) × XV × (Nat → UInt64)} (h : f_L_workShare n V out p1 = some res) : Met l yL_workShare wsL_workShare ({ frames := 8, cells := 1, slots := 6, locals := 143 } : Room) (va_Pc [.ref (a.1 0), .int p1, .ref o] (zX sz (va_A ((o, .inl (cy 7, 1, .inr (.inr (.inr (.inl out))))) :: xW cy a n V) sz) (lI D cy a n V ((o, .inl (cy 7, 1, .inr (.inr (.inr (.inl out))))))))) (va_Qi (fun r (_ : XA) => r = res.1) (fun a1 t => a1.1 = a.1 ∧ va_P D xcl ((o, .inl (cy 7, 1, .inr (.inr (.inr (.inl res.2.2.2))))) :: xW cy a1 res.2.1 res.2.2.1) t.heap ∧ va_D (va_A ((o, .inl (cy 7, 1, .inr (.inr (.inr (.inl out))))) :: xW cy a n V) sz) ((o, .inl (cy 7, 1, .inr (.inr (.inr (.inl res.2.2.2))))) :: xW cy a1 res.2.1 res.2.2.1)) (va_A ((o, .inl (cy 7, 1, .inr (.inr (.inr (.inl out))))) :: xW cy a n V) sz)) 1 6 (va_A ((o, .inl (cy 7, 1, .inr (.inr (.inr (.inl out))))) :: xW cy a n V) sz) := by
  refine z_ofWH (cc := cL_workShare) (maxL := 4) (ret := (some .int)) (hh := [(0, 9, 12, 21), (0, 9, 15, 137)]) (by decide) rfl ?_
  intro p e s m args below meth c s₁ B hml hv
  obtain ⟨rfl, hsz, hZ, hC, hP, hK, hD0⟩ := hv
  have hx := B.exec
  have hb := B.bytes
  have hr := B.returns
  have hts := atoms_spec (ws := wsL_workShare) B.pre
  have hown : s.vm.findClass RL = some m.cls := findClass_of_methodNamed B.named
  have hlocks := B.notSynchronized
  subst hsz
  have hT : c.exceptionTable.toList = tableOf [(0, 9, 12, 21), (0, 9, 15, 137)] := vx_table (x := objectInit) B (hts _ List.mem_cons_self)
  have hD := hD0.self (sz := s.heap.size)
  generalize hAe : va_A ((o, .inl (cy 7, 1, .inr (.inr (.inr (.inl out))))) :: xW cy a n V) s.heap.size = A at hD hZ ⊢
  have hA : ∀ q : Nat, s.heap.size ≤ q → A q := fun q h => by rw [← hAe]; exact Or.inr h
  have hS : va_S A s.heap s.heap [] := va_S.rf
  have hPx : va_P D xcl (xW cy a n V) s.heap := lP_tail hP
  have hDx : va_D A (xW cy a n V) := lD_tail hD
  have hfree := z_free hDx hS hA
  have hl := lv_entry ([.ref (a.1 0), .int p1, .ref o]) (n := 4) (Nat.le_of_ble_eq_true rfl)
  rw [lg_entry_eq]
  generalize (lg_sl ([.ref (a.1 0), .int p1, .ref o]) ++ List.replicate (4 - (lg_sl ([.ref (a.1 0), .int p1, .ref o])).length) Slot.unset).toArray = ls at hl ⊢
  have hl : lv_has ls 4 [(0, .ref (a.1 0)), (1, .int p1), (2, .ref o)] := hl
  refine lv_aload_n hx hb dL_workShare_0 rfl (lv_at hl 2 rfl) ?_
  refine lv_iconst (v := 0) hx hb dL_workShare_1 (by decide) ?_
  refine lv_aload_n hx hb dL_workShare_2 rfl (lv_at hl 0 rfl) ?_
  refine lv_iload_n hx hb dL_workShare_3 rfl (lv_at hl 1 rfl) ?_
  obtain ⟨u, hg, h⟩ := ob_some h
  refine vx_callf (vx_runV (As := [.int p1]) (rest := [.int 0, .ref o]) ⟨hx, hb, hml, hown, hts⟩ (c_X3_workShare l hl0 D cy a n V s.heap.size p1 hg) (cwV 1 hts gL_workShare_X3_workShare rfl rfl rfl hd_X3_workShare ⟨Nat.le_of_ble_eq_true rfl, Nat.le_of_ble_eq_true rfl⟩) ⟨zX_blind xI_blind, va_recv hK hPx (ci := 3) (q0 := 0) rfl rfl, zX_at (lZ_narrow hZ hfree) (xI_at hPx hK hDx)⟩ rfl rfl hl.1 rfl (lv_room (Nat.le_of_ble_eq_true rfl)) dL_workShare_4 ⟨Nat.le_of_ble_eq_true rfl, Nat.le_of_ble_eq_true rfl⟩) hS (fun q _ h => hfree q h) hfree (fun q _ h => hfree q h) (fun E ce q9 u9 t H1 locs1 ht hvm hp9 hB hz hk hS hce hcv hcl => ?_) (fun r9 u9 t H1 locs1 ht hvm hw hB hz hk hS => ?_)
  · obtain ⟨hE, hc0, hP1, hD1⟩ := hB
    rw [ht] at hP1
    obtain ⟨hP2, hD2⟩ := z_join (ws := [(o, .inl (cy 7, 1, .inr (.inr (.inr (.inl out)))))]) (wc := xW cy a n V) (w1 := xW cy a n V) hP hD hk hfree hP1 hD1
    replace h := oi_f hc0 h
    by_cases ck : u.1 = 3
    · replace h := oi_t ck h
      rw [ck] at hE
      subst hE
      refine vx_catch hown [] ⟨0, 9, 12, 21⟩ [⟨0, 9, 15, 137⟩] (hT.trans rfl) (fun z hz => absurd hz List.not_mem_nil) rfl (by decide) (hts _ (List.mem_of_getElem? (i := 1) rfl)) (va_Nw.use rfl hZ.1.1.2.2.1) hce hcv hcl ?_
      refine W.eq (g2 := F0 m 12 ls [.ref q9]) rfl ?_
      refine lv_astore_n (lv' := [(3, .ref q9), (0, .ref (a.1 0)), (1, .int p1), (2, .ref o)]) hx hb dL_workShare_12 rfl hl (by decide) rfl (fun ls hl => ?_)
      refine lv_iconst (v := 1) hx hb dL_workShare_13 (by decide) ?_
      cases h
      exact W.iret (v := 1) hx hb hr (fun t ht hW => ⟨⟨1, a, rfl, rfl, ⟨rfl, by rw [ht]; exact hP2, hD2⟩⟩, hS.F ht⟩) hS.2.2 dL_workShare_14 hlocks
    replace h := oi_f ck h
    by_cases ck : u.1 = 5
    · replace h := oi_t ck h
      rw [ck] at hE
      subst hE
      refine vx_catch hown [⟨0, 9, 12, 21⟩] ⟨0, 9, 15, 137⟩ [] (hT.trans rfl) (by intro z hz; simp only [List.mem_cons, List.not_mem_nil, or_false] at hz; subst hz; exact Or.inr ⟨by decide, _, (hts _ (List.mem_of_getElem? (i := 1) rfl)), hC 5 3 (by decide)⟩) rfl (by decide) (hts _ (List.mem_of_getElem? (i := 2) rfl)) (va_Nw.use rfl hZ.1.1.2.2.2.2) hce hcv hcl ?_
      refine W.eq (g2 := F0 m 15 ls [.ref q9]) rfl ?_
      refine lv_astore_n (lv' := [(3, .ref q9), (0, .ref (a.1 0)), (1, .int p1), (2, .ref o)]) hx hb dL_workShare_15 rfl hl (by decide) rfl (fun ls hl => ?_)
      refine lv_iconst (v := 2) hx hb dL_workShare_16 (by decide) ?_
      cases h
      exact W.iret (v := 2) hx hb hr (fun t ht hW => ⟨⟨2, a, rfl, rfl, ⟨rfl, by rw [ht]; exact hP2, hD2⟩⟩, hS.F ht⟩) hS.2.2 dL_workShare_17 hlocks
    replace h := oi_f ck h
    cases h
  · obtain ⟨hP1, hD1⟩ := hB
    rw [ht] at hP1
    obtain ⟨hP2, hD2⟩ := z_join (ws := [(o, .inl (cy 7, 1, .inr (.inr (.inr (.inl out)))))]) (wc := xW cy a n V) (w1 := xW cy a n V) hP hD hk hfree hP1 hD1
    replace h := oi_t hw.1 h
    rw [hw.2]
    obtain ⟨hn, h⟩ := og_some h
    refine lv_f2d hx hb dL_workShare_7 hn ?_
    refine va_dast hx hb hK hP2 hD2 hS 0 7 rfl rfl (show vp_in 0 1 from by unfold vp_in; decide) dL_workShare_8 (fun H2 locs2 hP hD hS => ?_)
    refine lv_goto (tgt := 18) hx hb dL_workShare_9 (by decide) ?_
    refine lv_iconst (v := 0) hx hb dL_workShare_18 (by decide) ?_
    cases h
    exact W.iret (v := 0) hx hb hr (fun t ht hW => ⟨⟨0, a, rfl, rfl, ⟨rfl, by rw [ht]; exact hP, hD⟩⟩, hS.F ht⟩) hS.2.2 dL_workShare_19 hlocks

def f_L_meanStart (n : Nat → Nat) (V : XV) (out : (Nat → UInt64))  : Option (Int32 × (Nat → Nat) × XV × (Nat → UInt64)) := ob (f_X3_meanStart n V ) (fun u => oi (u.1 = 0) (some (0, n, V, vf_upd out ((0 : Int32)).toNatClampNeg u.2)) (oi (u.1 = 5) (some (1, n, V, out)) (none)))
theorem hd_L_meanStart : yL_meanStart.cls ≠ "java/lang/invoke/MethodHandle" ∧ yL_meanStart.cls ≠ "java/lang/invoke/VarHandle" ∧ (parseMethodDescriptor yL_meanStart.desc).map (fun d => d.parameters.length) = some 2 := by decide +kernel
set_option maxHeartbeats 4000000 in
set_option maxRecDepth 100000 in
theorem c_L_meanStart (l : Launch) (hl0 : l.stackTraces = false) (D : va_G) (cy : Nat → ClassId) (a : XA) (n : Nat → Nat) (V : XV) (o : Nat) (out : (Nat → UInt64)) (sz : Nat)  {res : Int32 × (Nat → Nat) × XV × (Nat → UInt64)} (h : f_L_meanStart n V out  = some res) : Met l yL_meanStart wsL_meanStart ({ frames := 8, cells := 1, slots := 6, locals := 146 } : Room) (va_Pc [.ref (a.1 0), .ref o] (zX sz (va_A ((o, .inl (cy 7, 1, .inr (.inr (.inr (.inl out))))) :: xW cy a n V) sz) (lI D cy a n V ((o, .inl (cy 7, 1, .inr (.inr (.inr (.inl out))))))))) (va_Qi (fun r (_ : XA) => r = res.1) (fun a1 t => a1.1 = a.1 ∧ va_P D xcl ((o, .inl (cy 7, 1, .inr (.inr (.inr (.inl res.2.2.2))))) :: xW cy a1 res.2.1 res.2.2.1) t.heap ∧ va_D (va_A ((o, .inl (cy 7, 1, .inr (.inr (.inr (.inl out))))) :: xW cy a n V) sz) ((o, .inl (cy 7, 1, .inr (.inr (.inr (.inl res.2.2.2))))) :: xW cy a1 res.2.1 res.2.2.1)) (va_A ((o, .inl (cy 7, 1, .inr (.inr (.inr (.inl out))))) :: xW cy a n V) sz)) 1 6 (va_A ((o, .inl (cy 7, 1, .inr (.inr (.inr (.inl out))))) :: xW cy a n V) sz) := by
  refine z_ofWH (cc := cL_meanStart) (maxL := 3) (ret := (some .int)) (hh := [(0, 7, 10, 137)]) (by decide) rfl ?_
  intro p e s m args below meth c s₁ B hml hv
  obtain ⟨rfl, hsz, hZ, hC, hP, hK, hD0⟩ := hv
  have hx := B.exec
  have hb := B.bytes
  have hr := B.returns
  have hts := atoms_spec (ws := wsL_meanStart) B.pre
  have hown : s.vm.findClass RL = some m.cls := findClass_of_methodNamed B.named
  have hlocks := B.notSynchronized
  subst hsz
  have hT : c.exceptionTable.toList = tableOf [(0, 7, 10, 137)] := vx_table (x := objectInit) B (hts _ List.mem_cons_self)
  have hD := hD0.self (sz := s.heap.size)
  generalize hAe : va_A ((o, .inl (cy 7, 1, .inr (.inr (.inr (.inl out))))) :: xW cy a n V) s.heap.size = A at hD hZ ⊢
  have hA : ∀ q : Nat, s.heap.size ≤ q → A q := fun q h => by rw [← hAe]; exact Or.inr h
  have hS : va_S A s.heap s.heap [] := va_S.rf
  have hPx : va_P D xcl (xW cy a n V) s.heap := lP_tail hP
  have hDx : va_D A (xW cy a n V) := lD_tail hD
  have hfree := z_free hDx hS hA
  have hl := lv_entry ([.ref (a.1 0), .ref o]) (n := 3) (Nat.le_of_ble_eq_true rfl)
  rw [lg_entry_eq]
  generalize (lg_sl ([.ref (a.1 0), .ref o]) ++ List.replicate (3 - (lg_sl ([.ref (a.1 0), .ref o])).length) Slot.unset).toArray = ls at hl ⊢
  have hl : lv_has ls 3 [(0, .ref (a.1 0)), (1, .ref o)] := hl
  refine lv_aload_n hx hb dL_meanStart_0 rfl (lv_at hl 1 rfl) ?_
  refine lv_iconst (v := 0) hx hb dL_meanStart_1 (by decide) ?_
  refine lv_aload_n hx hb dL_meanStart_2 rfl (lv_at hl 0 rfl) ?_
  obtain ⟨u, hg, h⟩ := ob_some h
  refine vx_calld (vx_runV (As := []) (rest := [.int 0, .ref o]) ⟨hx, hb, hml, hown, hts⟩ (c_X3_meanStart l hl0 D cy a n V s.heap.size  hg) (cwV 0 hts gL_meanStart_X3_meanStart rfl rfl rfl hd_X3_meanStart ⟨Nat.le_of_ble_eq_true rfl, Nat.le_of_ble_eq_true rfl⟩) ⟨zX_blind xI_blind, va_recv hK hPx (ci := 3) (q0 := 0) rfl rfl, zX_at (lZ_narrow hZ hfree) (xI_at hPx hK hDx)⟩ rfl rfl hl.1 rfl (lv_room (Nat.le_of_ble_eq_true rfl)) dL_meanStart_3 ⟨Nat.le_of_ble_eq_true rfl, Nat.le_of_ble_eq_true rfl⟩) hS (fun q _ h => hfree q h) hfree (fun q _ h => hfree q h) (fun E ce q9 u9 t H1 locs1 ht hvm hp9 hB hz hk hS hce hcv hcl => ?_) (fun r9 u9 t H1 locs1 ht hvm hw hB hz hk hS => ?_)
  · obtain ⟨hE, hc0, hP1, hD1⟩ := hB
    rw [ht] at hP1
    obtain ⟨hP2, hD2⟩ := z_join (ws := [(o, .inl (cy 7, 1, .inr (.inr (.inr (.inl out)))))]) (wc := xW cy a n V) (w1 := xW cy a n V) hP hD hk hfree hP1 hD1
    replace h := oi_f hc0 h
    by_cases ck : u.1 = 5
    · replace h := oi_t ck h
      rw [ck] at hE
      subst hE
      refine vx_catch hown [] ⟨0, 7, 10, 137⟩ [] (hT.trans rfl) (fun z hz => absurd hz List.not_mem_nil) rfl (by decide) (hts _ (List.mem_of_getElem? (i := 1) rfl)) (va_Nw.use rfl hZ.1.1.2.2.2.2) hce hcv hcl ?_
      refine W.eq (g2 := F0 m 10 ls [.ref q9]) rfl ?_
      refine lv_astore_n (lv' := [(2, .ref q9), (0, .ref (a.1 0)), (1, .ref o)]) hx hb dL_meanStart_10 rfl hl (by decide) rfl (fun ls hl => ?_)
      refine lv_iconst (v := 1) hx hb dL_meanStart_11 (by decide) ?_
      cases h
      exact W.iret (v := 1) hx hb hr (fun t ht hW => ⟨⟨1, a, rfl, rfl, ⟨rfl, by rw [ht]; exact hP2, hD2⟩⟩, hS.F ht⟩) hS.2.2 dL_meanStart_12 hlocks
    replace h := oi_f ck h
    cases h
  · obtain ⟨hP1, hD1⟩ := hB
    rw [ht] at hP1
    obtain ⟨hP2, hD2⟩ := z_join (ws := [(o, .inl (cy 7, 1, .inr (.inr (.inr (.inl out)))))]) (wc := xW cy a n V) (w1 := xW cy a n V) hP hD hk hfree hP1 hD1
    replace h := oi_t hw.1 h
    rw [hw.2]
    refine va_dast hx hb hK hP2 hD2 hS 0 7 rfl rfl (show vp_in 0 1 from by unfold vp_in; decide) dL_meanStart_6 (fun H2 locs2 hP hD hS => ?_)
    refine lv_goto (tgt := 13) hx hb dL_meanStart_7 (by decide) ?_
    refine lv_iconst (v := 0) hx hb dL_meanStart_13 (by decide) ?_
    cases h
    exact W.iret (v := 0) hx hb hr (fun t ht hW => ⟨⟨0, a, rfl, rfl, ⟨rfl, by rw [ht]; exact hP, hD⟩⟩, hS.F ht⟩) hS.2.2 dL_meanStart_14 hlocks
