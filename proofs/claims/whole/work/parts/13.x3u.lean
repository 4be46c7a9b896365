def f_X3_pourOf (n : Nat → Nat) (V : XV) (p1 : Int32) : Option (Nat × Int32) := ob (f_X3_liftNumbered n V p1) (fun u_1 => oc (n 1) u_1 (some (3, 0)) (fun k_3 => some (0, V.1 1 k_3 6)))
theorem hd_X3_pourOf : yX3_pourOf.cls = RX3 ∧ yX3_pourOf.cls ≠ "java/lang/invoke/MethodHandle" ∧ yX3_pourOf.cls ≠ "java/lang/invoke/VarHandle" ∧ (parseMethodDescriptor yX3_pourOf.desc).map (fun d => d.parameters.length) = some 1 := by decide +kernel
set_option maxHeartbeats 4000000 in
set_option maxRecDepth 100000 in
theorem c_X3_pourOf (l : Launch) (hl0 : l.stackTraces = false) (D : va_G) (cy : Nat → ClassId) (a : XA) (n : Nat → Nat) (V : XV) (sz : Nat) (p1 : Int32) {res : Nat × Int32} (h : f_X3_pourOf n V p1 = some res) : vx_Met l yX3_pourOf wsX3_pourOf ({ frames := 7, cells := 1, slots := 6, locals := 120 } : Room) (va_Pc [.ref (a.1 0), .int p1] (zX sz (va_A (xW cy a n V) sz) (xI D cy a n V))) (va_Qi (fun r (_ : Unit) => res.1 = 0 ∧ r = res.2) (fun _ t => va_P D xcl (xW cy a n V) t.heap ∧ va_D (va_A (xW cy a n V) sz) (xW cy a n V)) (va_A (xW cy a n V) sz)) (vx_X (fun (_ : Unit) => True) (fun E _ t => E = xnm res.1 ∧ res.1 ≠ 0 ∧ va_P D xcl (xW cy a n V) t.heap ∧ va_D (va_A (xW cy a n V) sz) (xW cy a n V)) (va_A (xW cy a n V) sz)) 1 6 (va_A (xW cy a n V) sz) := by
  refine vx_ofW (cc := cX3_pourOf) (maxL := 3) (ret := (some .int)) (by decide) rfl ?_
  intro p e s m args below meth c s₁ B hml hex hv
  obtain ⟨rfl, hsz, hZ, hP, hK, hD0⟩ := hv
  have hx := B.exec
  have hb := B.bytes
  have hr := B.returns
  have hts := atoms_spec (ws := wsX3_pourOf) B.pre
  have hown : s.vm.findClass RX3 = some m.cls := findClass_of_methodNamed B.named
  have hlocks := B.notSynchronized
  subst hsz
  have hD := hD0.self (sz := s.heap.size)
  have hN : zN (va_A (xW cy a n V) s.heap.size) c s := ⟨hZ.1, hZ.2.1, hZ.2.2, hex⟩
  generalize hAe : va_A (xW cy a n V) s.heap.size = A at hD hN ⊢
  have hA : ∀ q : Nat, s.heap.size ≤ q → A q := fun q h => by rw [← hAe]; exact Or.inr h
  have hl := lv_entry ([.ref (a.1 0), .int p1]) (n := 3) (Nat.le_of_ble_eq_true rfl)
  rw [lg_entry_eq]
  generalize (lg_sl ([.ref (a.1 0), .int p1]) ++ List.replicate (3 - (lg_sl ([.ref (a.1 0), .int p1])).length) Slot.unset).toArray = ls at hl ⊢
  have hl : lv_has ls 3 [(0, .ref (a.1 0)), (1, .int p1)] := hl
  have hinX1 : ∀ w ∈ wsX10, w ∈ wsX3_pourOf := (fun _ h => (List.mem_cons_of_mem _ (List.mem_append_left _ (List.mem_append_left _ (List.mem_append_right _ h)))))
  refine lv_aload_n hx hb dX3_pourOf_0 rfl (lv_at hl 0 rfl) ?_
  refine lv_iload_n hx hb dX3_pourOf_1 rfl (lv_at hl 1 rfl) ?_
  obtain ⟨u_1, hg_2, h⟩ := ob_some h
  rcases oc_some h with ⟨o_4, h⟩ | ⟨k_3, hk_3, o_4, h⟩
  · refine zcSqn (W.runV (As := [.int p1]) (rest := []) ⟨hx, hb, hml, hown, hts⟩ (c_X3_liftNumbered l D cy a n V p1 hg_2) (cwV 1 hts gX3_pourOf_X3_liftNumbered rfl rfl rfl hd_X3_liftNumbered ⟨Nat.le_of_ble_eq_true rfl, Nat.le_of_ble_eq_true rfl⟩) ⟨xI_blind, va_recv hK hP (ci := 3) (q0 := 0) rfl rfl, (xI_at hP hK hD)⟩ rfl rfl hl.1 rfl (lv_room (Nat.le_of_ble_eq_true rfl)) dX3_pourOf_2 ⟨Nat.le_of_ble_eq_true rfl, Nat.le_of_ble_eq_true rfl⟩) o_4 ?_
    refine lv_astore_nN (lv' := [(2, .null), (0, .ref (a.1 0)), (1, .int p1)]) hx hb dX3_pourOf_5 rfl hl (by decide) rfl (fun ls hl => ?_)
    refine lv_aload_nN hx hb dX3_pourOf_6 rfl (lv_at hl 0 rfl) ?_
    refine lv_ifnonnullN hx hb dX3_pourOf_7 ?_
    have h9 := Option.some.inj h
    subst h9
    exact vx_throw0 hx hb hl0 hown (by decide) (by decide) (hts _ (List.mem_of_getElem? (i := 1) rfl)) (hts _ (List.mem_of_getElem? (i := 2) rfl)) (vx_hat (fun w h9 => hts w (List.mem_cons_of_mem _ (List.mem_append_right _ h9))) (by decide +kernel) (xNB_3 hN.1 _)) (by decide +kernel) hN.2.1 hN.2.2.1 va_S.rf (hl.1.trans hml.symm) dX3_pourOf_10 dX3_pourOf_13 dX3_pourOf_14 dX3_pourOf_17 (fun z hz => (hN.2.2.2 z hz).elim) (Nat.le_of_ble_eq_true rfl) (Nat.le_of_ble_eq_true rfl) (Nat.le_of_ble_eq_true rfl) (Nat.le_of_ble_eq_true rfl) hlocks (fun t hvm hz hk => ⟨(), trivial, ⟨rfl, (show (3 : Nat) ≠ 0 by decide), zP_kept hP hk, hD⟩, zF_kept va_S.rf hz hk⟩) (fun _ hq => absurd hq List.not_mem_nil) (Nat.le_of_ble_eq_true rfl) (Nat.le_of_ble_eq_true rfl)
  · refine zcSqs (W.runV (As := [.int p1]) (rest := []) ⟨hx, hb, hml, hown, hts⟩ (c_X3_liftNumbered l D cy a n V p1 hg_2) (cwV 1 hts gX3_pourOf_X3_liftNumbered rfl rfl rfl hd_X3_liftNumbered ⟨Nat.le_of_ble_eq_true rfl, Nat.le_of_ble_eq_true rfl⟩) ⟨xI_blind, va_recv hK hP (ci := 3) (q0 := 0) rfl rfl, (xI_at hP hK hD)⟩ rfl rfl hl.1 rfl (lv_room (Nat.le_of_ble_eq_true rfl)) dX3_pourOf_2 ⟨Nat.le_of_ble_eq_true rfl, Nat.le_of_ble_eq_true rfl⟩) o_4 ?_
    refine lv_astore_n (lv' := [(2, .ref (a.2 1 k_3)), (0, .ref (a.1 0)), (1, .int p1)]) hx hb dX3_pourOf_5 rfl hl (by decide) rfl (fun ls hl => ?_)
    refine lv_aload_n hx hb dX3_pourOf_6 rfl (lv_at hl 0 rfl) ?_
    refine lv_ifnonnull (tgt := 18) hx hb dX3_pourOf_7 (by decide) ?_
    refine lv_aload_n hx hb dX3_pourOf_18 rfl (lv_at hl 0 rfl) ?_
    refine va_get (D := D) (ci := 1) (v := .int (V.1 1 k_3 6)) (C := RX1) (T := TX1) (N := 11) hx hb hts hinX1 hown hK hP _ (xpos_li hk_3) rfl 6 (by decide) (hts _ (List.mem_of_getElem? (i := 3) rfl)) (fun _ h9 => h9) rfl dX3_pourOf_19 ?_
    have h9 := Option.some.inj h
    subst h9
    refine vx_ret ?_
    refine W.widen (k := 1) (n := 6) (Nat.le_of_ble_eq_true rfl) (Nat.le_of_ble_eq_true rfl) ?_
    exact W.iret (v := V.1 1 k_3 6) hx hb hr (fun t ht hW => ⟨⟨V.1 1 k_3 6, (), rfl, ⟨rfl, rfl⟩, ⟨by rw [ht]; exact hP, hD⟩⟩, va_S.rf.F ht⟩) (fun _ hq => absurd hq List.not_mem_nil) dX3_pourOf_22 hlocks
def f_X3_airOf (n : Nat → Nat) (V : XV) (p1 : Int32) : Option (Nat × Int64) := ob (f_X3_liftNumbered n V p1) (fun u_1 => oc (n 1) u_1 (some (3, 0)) (fun k_3 => some (0, V.2.1 k_3)))
theorem hd_X3_airOf : yX3_airOf.cls = RX3 ∧ yX3_airOf.cls ≠ "java/lang/invoke/MethodHandle" ∧ yX3_airOf.cls ≠ "java/lang/invoke/VarHandle" ∧ (parseMethodDescriptor yX3_airOf.desc).map (fun d => d.parameters.length) = some 1 := by decide +kernel
set_option maxHeartbeats 4000000 in
set_option maxRecDepth 100000 in
theorem c_X3_airOf (l : Launch) (hl0 : l.stackTraces = false) (D : va_G) (cy : Nat → ClassId) (a : XA) (n : Nat → Nat) (V : XV) (sz : Nat) (p1 : Int32) {res : Nat × Int64} (h : f_X3_airOf n V p1 = some res) : vx_Met l yX3_airOf wsX3_airOf ({ frames := 7, cells := 1, slots := 6, locals := 120 } : Room) (va_Pc [.ref (a.1 0), .int p1] (zX sz (va_A (xW cy a n V) sz) (xI D cy a n V))) (va_Ql (fun r (_ : Unit) => res.1 = 0 ∧ r = res.2) (fun _ t => va_P D xcl (xW cy a n V) t.heap ∧ va_D (va_A (xW cy a n V) sz) (xW cy a n V)) (va_A (xW cy a n V) sz)) (vx_X (fun (_ : Unit) => True) (fun E _ t => E = xnm res.1 ∧ res.1 ≠ 0 ∧ va_P D xcl (xW cy a n V) t.heap ∧ va_D (va_A (xW cy a n V) sz) (xW cy a n V)) (va_A (xW cy a n V) sz)) 1 6 (va_A (xW cy a n V) sz) := by
  refine vx_ofW (cc := cX3_airOf) (maxL := 3) (ret := (some .long)) (by decide) rfl ?_
  intro p e s m args below meth c s₁ B hml hex hv
  obtain ⟨rfl, hsz, hZ, hP, hK, hD0⟩ := hv
  have hx := B.exec
  have hb := B.bytes
  have hr := B.returns
  have hts := atoms_spec (ws := wsX3_airOf) B.pre
  have hown : s.vm.findClass RX3 = some m.cls := findClass_of_methodNamed B.named
  have hlocks := B.notSynchronized
  subst hsz
  have hD := hD0.self (sz := s.heap.size)
  have hN : zN (va_A (xW cy a n V) s.heap.size) c s := ⟨hZ.1, hZ.2.1, hZ.2.2, hex⟩
  generalize hAe : va_A (xW cy a n V) s.heap.size = A at hD hN ⊢
  have hA : ∀ q : Nat, s.heap.size ≤ q → A q := fun q h => by rw [← hAe]; exact Or.inr h
  have hl := lv_entry ([.ref (a.1 0), .int p1]) (n := 3) (Nat.le_of_ble_eq_true rfl)
  rw [lg_entry_eq]
  generalize (lg_sl ([.ref (a.1 0), .int p1]) ++ List.replicate (3 - (lg_sl ([.ref (a.1 0), .int p1])).length) Slot.unset).toArray = ls at hl ⊢
  have hl : lv_has ls 3 [(0, .ref (a.1 0)), (1, .int p1)] := hl
  have hinX1 : ∀ w ∈ wsX10, w ∈ wsX3_airOf := (fun _ h => (List.mem_cons_of_mem _ (List.mem_append_left _ (List.mem_append_left _ (List.mem_append_right _ h)))))
  refine lv_aload_n hx hb dX3_airOf_0 rfl (lv_at hl 0 rfl) ?_
  refine lv_iload_n hx hb dX3_airOf_1 rfl (lv_at hl 1 rfl) ?_
  obtain ⟨u_1, hg_2, h⟩ := ob_some h
  rcases oc_some h with ⟨o_4, h⟩ | ⟨k_3, hk_3, o_4, h⟩
  · refine zcSqn (W.runV (As := [.int p1]) (rest := []) ⟨hx, hb, hml, hown, hts⟩ (c_X3_liftNumbered l D cy a n V p1 hg_2) (cwV 1 hts gX3_airOf_X3_liftNumbered rfl rfl rfl hd_X3_liftNumbered ⟨Nat.le_of_ble_eq_true rfl, Nat.le_of_ble_eq_true rfl⟩) ⟨xI_blind, va_recv hK hP (ci := 3) (q0 := 0) rfl rfl, (xI_at hP hK hD)⟩ rfl rfl hl.1 rfl (lv_room (Nat.le_of_ble_eq_true rfl)) dX3_airOf_2 ⟨Nat.le_of_ble_eq_true rfl, Nat.le_of_ble_eq_true rfl⟩) o_4 ?_
    refine lv_astore_nN (lv' := [(2, .null), (0, .ref (a.1 0)), (1, .int p1)]) hx hb dX3_airOf_5 rfl hl (by decide) rfl (fun ls hl => ?_)
    refine lv_aload_nN hx hb dX3_airOf_6 rfl (lv_at hl 0 rfl) ?_
    refine lv_ifnonnullN hx hb dX3_airOf_7 ?_
    have h9 := Option.some.inj h
    subst h9
    exact vx_throw0 hx hb hl0 hown (by decide) (by decide) (hts _ (List.mem_of_getElem? (i := 1) rfl)) (hts _ (List.mem_of_getElem? (i := 2) rfl)) (vx_hat (fun w h9 => hts w (List.mem_cons_of_mem _ (List.mem_append_right _ h9))) (by decide +kernel) (xNB_3 hN.1 _)) (by decide +kernel) hN.2.1 hN.2.2.1 va_S.rf (hl.1.trans hml.symm) dX3_airOf_10 dX3_airOf_13 dX3_airOf_14 dX3_airOf_17 (fun z hz => (hN.2.2.2 z hz).elim) (Nat.le_of_ble_eq_true rfl) (Nat.le_of_ble_eq_true rfl) (Nat.le_of_ble_eq_true rfl) (Nat.le_of_ble_eq_true rfl) hlocks (fun t hvm hz hk => ⟨(), trivial, ⟨rfl, (show (3 : Nat) ≠ 0 by decide), zP_kept hP hk, hD⟩, zF_kept va_S.rf hz hk⟩) (fun _ hq => absurd hq List.not_mem_nil) (Nat.le_of_ble_eq_true rfl) (Nat.le_of_ble_eq_true rfl)
  · refine zcSqs (W.runV (As := [.int p1]) (rest := []) ⟨hx, hb, hml, hown, hts⟩ (c_X3_liftNumbered l D cy a n V p1 hg_2) (cwV 1 hts gX3_airOf_X3_liftNumbered rfl rfl rfl hd_X3_liftNumbered ⟨Nat.le_of_ble_eq_true rfl, Nat.le_of_ble_eq_true rfl⟩) ⟨xI_blind, va_recv hK hP (ci := 3) (q0 := 0) rfl rfl, (xI_at hP hK hD)⟩ rfl rfl hl.1 rfl (lv_room (Nat.le_of_ble_eq_true rfl)) dX3_airOf_2 ⟨Nat.le_of_ble_eq_true rfl, Nat.le_of_ble_eq_true rfl⟩) o_4 ?_
    refine lv_astore_n (lv' := [(2, .ref (a.2 1 k_3)), (0, .ref (a.1 0)), (1, .int p1)]) hx hb dX3_airOf_5 rfl hl (by decide) rfl (fun ls hl => ?_)
    refine lv_aload_n hx hb dX3_airOf_6 rfl (lv_at hl 0 rfl) ?_
    refine lv_ifnonnull (tgt := 18) hx hb dX3_airOf_7 (by decide) ?_
    refine lv_aload_n hx hb dX3_airOf_18 rfl (lv_at hl 0 rfl) ?_
    refine va_get (D := D) (ci := 1) (v := .long (V.2.1 k_3)) (C := RX1) (T := TX1) (N := 11) hx hb hts hinX1 hown hK hP _ (xpos_li hk_3) rfl 7 (by decide) (hts _ (List.mem_of_getElem? (i := 3) rfl)) (fun _ h9 => h9) rfl dX3_airOf_19 ?_
    have h9 := Option.some.inj h
    subst h9
    refine vx_ret ?_
    refine W.widen (k := 1) (n := 6) (Nat.le_of_ble_eq_true rfl) (Nat.le_of_ble_eq_true rfl) ?_
    exact W.lret (v := V.2.1 k_3) hx hb hr (fun t ht hW => ⟨⟨V.2.1 k_3, (), rfl, ⟨rfl, rfl⟩, ⟨by rw [ht]; exact hP, hD⟩⟩, va_S.rf.F ht⟩) (fun _ hq => absurd hq List.not_mem_nil) dX3_airOf_22 hlocks
def f_X3_shareAir (n : Nat → Nat) (V : XV) (p1 : Int32) (p2 : Int32) : Option (Nat × Int32) := ob (f_X3_liftNumbered n V p1) (fun u_1 => oc (n 1) u_1 (ob (f_X3_liftNumbered n V p2) (fun u_5 => oc (n 1) u_5 (some (3, 0)) (fun k_7 => some (3, 0)))) (fun k_3 => ob (f_X3_liftNumbered n V p2) (fun u_9 => oc (n 1) u_9 (some (3, 0)) (fun k_11 => ob (f_X1_sharesAir n V k_3 k_11) (fun u_13 => og (u_13 &&& 1 = u_13) (some (0, u_13)))))))
theorem hd_X3_shareAir : yX3_shareAir.cls = RX3 ∧ yX3_shareAir.cls ≠ "java/lang/invoke/MethodHandle" ∧ yX3_shareAir.cls ≠ "java/lang/invoke/VarHandle" ∧ (parseMethodDescriptor yX3_shareAir.desc).map (fun d => d.parameters.length) = some 2 := by decide +kernel
set_option maxHeartbeats 4000000 in
set_option maxRecDepth 100000 in
theorem c_X3_shareAir (l : Launch) (hl0 : l.stackTraces = false) (D : va_G) (cy : Nat → ClassId) (a : XA) (n : Nat → Nat) (V : XV) (sz : Nat) (p1 : Int32) (p2 : Int32) {res : Nat × Int32} (h : f_X3_shareAir n V p1 p2 = some res) : vx_Met l yX3_shareAir wsX3_shareAir ({ frames := 7, cells := 1, slots := 6, locals := 120 } : Room) (va_Pc [.ref (a.1 0), .int p1, .int p2] (zX sz (va_A (xW cy a n V) sz) (xI D cy a n V))) (va_Qi (fun r (_ : Unit) => res.1 = 0 ∧ r = res.2) (fun _ t => va_P D xcl (xW cy a n V) t.heap ∧ va_D (va_A (xW cy a n V) sz) (xW cy a n V)) (va_A (xW cy a n V) sz)) (vx_X (fun (_ : Unit) => True) (fun E _ t => E = xnm res.1 ∧ res.1 ≠ 0 ∧ va_P D xcl (xW cy a n V) t.heap ∧ va_D (va_A (xW cy a n V) sz) (xW cy a n V)) (va_A (xW cy a n V) sz)) 1 6 (va_A (xW cy a n V) sz) := by
  refine vx_ofW (cc := cX3_shareAir) (maxL := 5) (ret := (some .boolean)) (by decide) rfl ?_
  intro p e s m args below meth c s₁ B hml hex hv
  obtain ⟨rfl, hsz, hZ, hP, hK, hD0⟩ := hv
  have hx := B.exec
  have hb := B.bytes
  have hr := B.returns
  have hts := atoms_spec (ws := wsX3_shareAir) B.pre
  have hown : s.vm.findClass RX3 = some m.cls := findClass_of_methodNamed B.named
  have hlocks := B.notSynchronized
  subst hsz
  have hD := hD0.self (sz := s.heap.size)
  have hN : zN (va_A (xW cy a n V) s.heap.size) c s := ⟨hZ.1, hZ.2.1, hZ.2.2, hex⟩
  generalize hAe : va_A (xW cy a n V) s.heap.size = A at hD hN ⊢
  have hA : ∀ q : Nat, s.heap.size ≤ q → A q := fun q h => by rw [← hAe]; exact Or.inr h
  have hl := lv_entry ([.ref (a.1 0), .int p1, .int p2]) (n := 5) (Nat.le_of_ble_eq_true rfl)
  rw [lg_entry_eq]
  generalize (lg_sl ([.ref (a.1 0), .int p1, .int p2]) ++ List.replicate (5 - (lg_sl ([.ref (a.1 0), .int p1, .int p2])).length) Slot.unset).toArray = ls at hl ⊢
  have hl : lv_has ls 5 [(0, .ref (a.1 0)), (1, .int p1), (2, .int p2)] := hl
  refine lv_aload_n hx hb dX3_shareAir_0 rfl (lv_at hl 0 rfl) ?_
  refine lv_iload_n hx hb dX3_shareAir_1 rfl (lv_at hl 1 rfl) ?_
  obtain ⟨u_1, hg_2, h⟩ := ob_some h
  rcases oc_some h with ⟨o_4, h⟩ | ⟨k_3, hk_3, o_4, h⟩
  · refine zcSqn (W.runV (As := [.int p1]) (rest := []) ⟨hx, hb, hml, hown, hts⟩ (c_X3_liftNumbered l D cy a n V p1 hg_2) (cwV 1 hts gX3_shareAir_X3_liftNumbered rfl rfl rfl hd_X3_liftNumbered ⟨Nat.le_of_ble_eq_true rfl, Nat.le_of_ble_eq_true rfl⟩) ⟨xI_blind, va_recv hK hP (ci := 3) (q0 := 0) rfl rfl, (xI_at hP hK hD)⟩ rfl rfl hl.1 rfl (lv_room (Nat.le_of_ble_eq_true rfl)) dX3_shareAir_2 ⟨Nat.le_of_ble_eq_true rfl, Nat.le_of_ble_eq_true rfl⟩) o_4 ?_
    refine lv_astore_nN (lv' := [(3, .null), (0, .ref (a.1 0)), (1, .int p1), (2, .int p2)]) hx hb dX3_shareAir_5 rfl hl (by decide) rfl (fun ls hl => ?_)
    refine lv_aload_n hx hb dX3_shareAir_6 rfl (lv_at hl 1 rfl) ?_
    refine lv_iload_n hx hb dX3_shareAir_7 rfl (lv_at hl 3 rfl) ?_
    obtain ⟨u_5, hg_6, h⟩ := ob_some h
    rcases oc_some h with ⟨o_8, h⟩ | ⟨k_7, hk_7, o_8, h⟩
    · refine zcSqn (W.runV (As := [.int p2]) (rest := []) ⟨hx, hb, hml, hown, hts⟩ (c_X3_liftNumbered l D cy a n V p2 hg_6) (cwV 1 hts gX3_shareAir_X3_liftNumbered rfl rfl rfl hd_X3_liftNumbered ⟨Nat.le_of_ble_eq_true rfl, Nat.le_of_ble_eq_true rfl⟩) ⟨xI_blind, va_recv hK hP (ci := 3) (q0 := 0) rfl rfl, (xI_at hP hK hD)⟩ rfl rfl hl.1 rfl (lv_room (Nat.le_of_ble_eq_true rfl)) dX3_shareAir_8 ⟨Nat.le_of_ble_eq_true rfl, Nat.le_of_ble_eq_true rfl⟩) o_8 ?_
      refine lv_astoreN (lv' := [(4, .null), (3, .null), (0, .ref (a.1 0)), (1, .int p1), (2, .int p2)]) hx hb dX3_shareAir_11 hl (by decide) rfl (fun ls hl => ?_)
      refine lv_aload_nN hx hb dX3_shareAir_13 rfl (lv_at hl 1 rfl) ?_
      refine lv_ifnullN (tgt := 22) hx hb dX3_shareAir_14 (by decide) ?_
      have h9 := Option.some.inj h
      subst h9
      exact vx_throw0 hx hb hl0 hown (by decide) (by decide) (hts _ (List.mem_of_getElem? (i := 1) rfl)) (hts _ (List.mem_of_getElem? (i := 2) rfl)) (vx_hat (fun w h9 => hts w (List.mem_cons_of_mem _ (List.mem_append_right _ h9))) (by decide +kernel) (xNB_3 hN.1 _)) (by decide +kernel) hN.2.1 hN.2.2.1 va_S.rf (hl.1.trans hml.symm) dX3_shareAir_22 dX3_shareAir_25 dX3_shareAir_26 dX3_shareAir_29 (fun z hz => (hN.2.2.2 z hz).elim) (Nat.le_of_ble_eq_true rfl) (Nat.le_of_ble_eq_true rfl) (Nat.le_of_ble_eq_true rfl) (Nat.le_of_ble_eq_true rfl) hlocks (fun t hvm hz hk => ⟨(), trivial, ⟨rfl, (show (3 : Nat) ≠ 0 by decide), zP_kept hP hk, hD⟩, zF_kept va_S.rf hz hk⟩) (fun _ hq => absurd hq List.not_mem_nil) (Nat.le_of_ble_eq_true rfl) (Nat.le_of_ble_eq_true rfl)
    · refine zcSqs (W.runV (As := [.int p2]) (rest := []) ⟨hx, hb, hml, hown, hts⟩ (c_X3_liftNumbered l D cy a n V p2 hg_6) (cwV 1 hts gX3_shareAir_X3_liftNumbered rfl rfl rfl hd_X3_liftNumbered ⟨Nat.le_of_ble_eq_true rfl, Nat.le_of_ble_eq_true rfl⟩) ⟨xI_blind, va_recv hK hP (ci := 3) (q0 := 0) rfl rfl, (xI_at hP hK hD)⟩ rfl rfl hl.1 rfl (lv_room (Nat.le_of_ble_eq_true rfl)) dX3_shareAir_8 ⟨Nat.le_of_ble_eq_true rfl, Nat.le_of_ble_eq_true rfl⟩) o_8 ?_
      refine lv_astore (lv' := [(4, .ref (a.2 1 k_7)), (3, .null), (0, .ref (a.1 0)), (1, .int p1), (2, .int p2)]) hx hb dX3_shareAir_11 hl (by decide) rfl (fun ls hl => ?_)
      refine lv_aload_nN hx hb dX3_shareAir_13 rfl (lv_at hl 1 rfl) ?_
      refine lv_ifnullN (tgt := 22) hx hb dX3_shareAir_14 (by decide) ?_
      have h9 := Option.some.inj h
      subst h9
      exact vx_throw0 hx hb hl0 hown (by decide) (by decide) (hts _ (List.mem_of_getElem? (i := 1) rfl)) (hts _ (List.mem_of_getElem? (i := 2) rfl)) (vx_hat (fun w h9 => hts w (List.mem_cons_of_mem _ (List.mem_append_right _ h9))) (by decide +kernel) (xNB_3 hN.1 _)) (by decide +kernel) hN.2.1 hN.2.2.1 va_S.rf (hl.1.trans hml.symm) dX3_shareAir_22 dX3_shareAir_25 dX3_shareAir_26 dX3_shareAir_29 (fun z hz => (hN.2.2.2 z hz).elim) (Nat.le_of_ble_eq_true rfl) (Nat.le_of_ble_eq_true rfl) (Nat.le_of_ble_eq_true rfl) (Nat.le_of_ble_eq_true rfl) hlocks (fun t hvm hz hk => ⟨(), trivial, ⟨rfl, (show (3 : Nat) ≠ 0 by decide), zP_kept hP hk, hD⟩, zF_kept va_S.rf hz hk⟩) (fun _ hq => absurd hq List.not_mem_nil) (Nat.le_of_ble_eq_true rfl) (Nat.le_of_ble_eq_true rfl)
  · refine zcSqs (W.runV (As := [.int p1]) (rest := []) ⟨hx, hb, hml, hown, hts⟩ (c_X3_liftNumbered l D cy a n V p1 hg_2) (cwV 1 hts gX3_shareAir_X3_liftNumbered rfl rfl rfl hd_X3_liftNumbered ⟨Nat.le_of_ble_eq_true rfl, Nat.le_of_ble_eq_true rfl⟩) ⟨xI_blind, va_recv hK hP (ci := 3) (q0 := 0) rfl rfl, (xI_at hP hK hD)⟩ rfl rfl hl.1 rfl (lv_room (Nat.le_of_ble_eq_true rfl)) dX3_shareAir_2 ⟨Nat.le_of_ble_eq_true rfl, Nat.le_of_ble_eq_true rfl⟩) o_4 ?_
    refine lv_astore_n (lv' := [(3, .ref (a.2 1 k_3)), (0, .ref (a.1 0)), (1, .int p1), (2, .int p2)]) hx hb dX3_shareAir_5 rfl hl (by decide) rfl (fun ls hl => ?_)
    refine lv_aload_n hx hb dX3_shareAir_6 rfl (lv_at hl 1 rfl) ?_
    refine lv_iload_n hx hb dX3_shareAir_7 rfl (lv_at hl 3 rfl) ?_
    obtain ⟨u_9, hg_10, h⟩ := ob_some h
    rcases oc_some h with ⟨o_12, h⟩ | ⟨k_11, hk_11, o_12, h⟩
    · refine zcSqn (W.runV (As := [.int p2]) (rest := []) ⟨hx, hb, hml, hown, hts⟩ (c_X3_liftNumbered l D cy a n V p2 hg_10) (cwV 1 hts gX3_shareAir_X3_liftNumbered rfl rfl rfl hd_X3_liftNumbered ⟨Nat.le_of_ble_eq_true rfl, Nat.le_of_ble_eq_true rfl⟩) ⟨xI_blind, va_recv hK hP (ci := 3) (q0 := 0) rfl rfl, (xI_at hP hK hD)⟩ rfl rfl hl.1 rfl (lv_room (Nat.le_of_ble_eq_true rfl)) dX3_shareAir_8 ⟨Nat.le_of_ble_eq_true rfl, Nat.le_of_ble_eq_true rfl⟩) o_12 ?_
      refine lv_astoreN (lv' := [(4, .null), (3, .ref (a.2 1 k_3)), (0, .ref (a.1 0)), (1, .int p1), (2, .int p2)]) hx hb dX3_shareAir_11 hl (by decide) rfl (fun ls hl => ?_)
      refine lv_aload_n hx hb dX3_shareAir_13 rfl (lv_at hl 1 rfl) ?_
      refine lv_ifnull hx hb dX3_shareAir_14 ?_
      refine lv_aloadN hx hb dX3_shareAir_17 (lv_at hl 0 rfl) ?_
      refine lv_ifnonnullN hx hb dX3_shareAir_19 ?_
      have h9 := Option.some.inj h
      subst h9
      exact vx_throw0 hx hb hl0 hown (by decide) (by decide) (hts _ (List.mem_of_getElem? (i := 1) rfl)) (hts _ (List.mem_of_getElem? (i := 2) rfl)) (vx_hat (fun w h9 => hts w (List.mem_cons_of_mem _ (List.mem_append_right _ h9))) (by decide +kernel) (xNB_3 hN.1 _)) (by decide +kernel) hN.2.1 hN.2.2.1 va_S.rf (hl.1.trans hml.symm) dX3_shareAir_22 dX3_shareAir_25 dX3_shareAir_26 dX3_shareAir_29 (fun z hz => (hN.2.2.2 z hz).elim) (Nat.le_of_ble_eq_true rfl) (Nat.le_of_ble_eq_true rfl) (Nat.le_of_ble_eq_true rfl) (Nat.le_of_ble_eq_true rfl) hlocks (fun t hvm hz hk => ⟨(), trivial, ⟨rfl, (show (3 : Nat) ≠ 0 by decide), zP_kept hP hk, hD⟩, zF_kept va_S.rf hz hk⟩) (fun _ hq => absurd hq List.not_mem_nil) (Nat.le_of_ble_eq_true rfl) (Nat.le_of_ble_eq_true rfl)
    · refine zcSqs (W.runV (As := [.int p2]) (rest := []) ⟨hx, hb, hml, hown, hts⟩ (c_X3_liftNumbered l D cy a n V p2 hg_10) (cwV 1 hts gX3_shareAir_X3_liftNumbered rfl rfl rfl hd_X3_liftNumbered ⟨Nat.le_of_ble_eq_true rfl, Nat.le_of_ble_eq_true rfl⟩) ⟨xI_blind, va_recv hK hP (ci := 3) (q0 := 0) rfl rfl, (xI_at hP hK hD)⟩ rfl rfl hl.1 rfl (lv_room (Nat.le_of_ble_eq_true rfl)) dX3_shareAir_8 ⟨Nat.le_of_ble_eq_true rfl, Nat.le_of_ble_eq_true rfl⟩) o_12 ?_
      refine lv_astore (lv' := [(4, .ref (a.2 1 k_11)), (3, .ref (a.2 1 k_3)), (0, .ref (a.1 0)), (1, .int p1), (2, .int p2)]) hx hb dX3_shareAir_11 hl (by decide) rfl (fun ls hl => ?_)
      refine lv_aload_n hx hb dX3_shareAir_13 rfl (lv_at hl 1 rfl) ?_
      refine lv_ifnull hx hb dX3_shareAir_14 ?_
      refine lv_aload hx hb dX3_shareAir_17 (lv_at hl 0 rfl) ?_
      refine lv_ifnonnull (tgt := 30) hx hb dX3_shareAir_19 (by decide) ?_
      refine lv_aload_n hx hb dX3_shareAir_30 rfl (lv_at hl 1 rfl) ?_
      refine lv_aload hx hb dX3_shareAir_31 (lv_at hl 0 rfl) ?_
      obtain ⟨u_13, hg_14, h⟩ := ob_some h
      refine zcSi (W.runV (As := [.ref (a.2 1 k_11)]) (rest := []) ⟨hx, hb, hml, hown, hts⟩ (c_X1_sharesAir l D cy a n V k_3 k_11 hk_3 hk_11 hg_14) (cwV 1 hts gX3_shareAir_X1_sharesAir rfl rfl rfl hd_X1_sharesAir ⟨Nat.le_of_ble_eq_true rfl, Nat.le_of_ble_eq_true rfl⟩) ⟨xI_blind, va_recv hK hP (ci := 1) rfl (xpos_li hk_3), (xI_at hP hK hD)⟩ rfl rfl hl.1 rfl (lv_room (Nat.le_of_ble_eq_true rfl)) dX3_shareAir_33 ⟨Nat.le_of_ble_eq_true rfl, Nat.le_of_ble_eq_true rfl⟩) ?_
      obtain ⟨g_15, h⟩ := og_some h
      have h9 := Option.some.inj h
      subst h9
      refine vx_ret ?_
      refine W.widen (k := 1) (n := 6) (Nat.le_of_ble_eq_true rfl) (Nat.le_of_ble_eq_true rfl) ?_
      exact W.zret (v := u_13) hx hb hr (congrArg Value.int g_15) (fun t ht hW => ⟨⟨u_13, (), rfl, ⟨rfl, rfl⟩, ⟨by rw [ht]; exact hP, hD⟩⟩, va_S.rf.F ht⟩) (fun _ hq => absurd hq List.not_mem_nil) dX3_shareAir_36 hlocks
def f_X3_liftAt_33 (n : Nat → Nat) : XV → Nat → Int32 → Int32 → Int32 → Option (Nat × Int32)
  | _, 0, _, _, _ => none
  | V, fu + 1, zx1, zx2, zx3 => oi (40 ≤ zx3) (some (0, (-1))) (og (¬ (zx3 < 0 ∨ 40 ≤ (zx3).toNatClampNeg)) (oc (n 1) (xref n 1 zx3) (f_X3_liftAt_33 n V fu zx1 zx2 (zx3 + 1)) (fun k_10 => ob (f_X1_isOn n V k_10 zx1) (fun u_12 => oi (u_12 = 0) (f_X3_liftAt_33 n V fu zx1 zx2 (zx3 + 1)) (ob (f_X1_meets n V k_10 zx2 (zx2 + 1)) (fun u_15 => oi (u_15 = 0) (f_X3_liftAt_33 n V fu zx1 zx2 (zx3 + 1)) (some (0, zx3))))))))
def f_X3_liftAt (n : Nat → Nat) (V : XV) (p1 : Int32) (p2 : Int32) : Option (Nat × Int32) := ob (f_X3_craneNumbered n V p1) (fun u_1 => oc (n 0) u_1 (some (3, 0)) (fun k_3 => ob (f_X3_isMinute p2) (fun u_5 => oi (u_5 = 0) (some (1, 0)) (f_X3_liftAt_33 n V FU p1 p2 0))))
theorem hd_X3_liftAt : yX3_liftAt.cls = RX3 ∧ yX3_liftAt.cls ≠ "java/lang/invoke/MethodHandle" ∧ yX3_liftAt.cls ≠ "java/lang/invoke/VarHandle" ∧ (parseMethodDescriptor yX3_liftAt.desc).map (fun d => d.parameters.length) = some 2 := by decide +kernel
set_option maxHeartbeats 4000000 in
set_option maxRecDepth 100000 in
theorem k_X3_liftAt_33 {p : Program} {l : Launch} {e : Env} {s : State} {m : MethodId} {args : Array Value} {below : List Frame} {meth : Method} {c : Code} {D : va_G} {cy : Nat → ClassId} {a : XA} {n : Nat → Nat} {V : XV} {A : Nat → Prop} (hl0 : l.stackTraces = false) (hx : p.tables.exec = Jvm.exec) (hb : c.code = cX3_liftAt) (hr : meth.sig.returnType = (some .int)) (hts : ∀ w ∈ wsX3_liftAt, w.before args s = true) (hml : c.maxLocals = 5) (hown : s.vm.findClass RX3 = some m.cls) (hlocks : meth.locks = false) (hK : va_K D xcl (xty cy) s) (hP : va_P D xcl (xW cy a n V) s.heap) (hD : va_D A (xW cy a n V)) (hN : zN A c s) (res : Nat × Int32) : ∀ (fu : Nat) (zx1 : Int32) (zx2 : Int32) (zx3 : Int32)  (ls : Array Slot), f_X3_liftAt_33 n V fu zx1 zx2 zx3 = some res → lv_has ls 5 [(0, .ref (a.1 0)), (1, .int zx1), (2, .int zx2), (3, .int zx3)] → W p l e ({ frames := 7, cells := 1, slots := 6, locals := 120 } : Room) s m args below meth c s.heap [] 0 0 (vx_MQ below (va_Qi (fun r (_ : Unit) => res.1 = 0 ∧ r = res.2) (fun _ t => va_P D xcl (xW cy a n V) t.heap ∧ va_D A (xW cy a n V)) A) (vx_X (fun (_ : Unit) => True) (fun E _ t => E = xnm res.1 ∧ res.1 ≠ 0 ∧ va_P D xcl (xW cy a n V) t.heap ∧ va_D A (xW cy a n V)) A) args s 1 6 (A)) (F0 m 33 ls []) := by
  have hinX3 : ∀ w ∈ wsX30, w ∈ wsX3_liftAt := (fun _ h => (List.mem_cons_of_mem _ (List.mem_append_left _ (List.mem_append_left _ (List.mem_append_left _ (List.mem_append_right _ h))))))
  intro fu
  induction fu with
  | zero =>
    intro zx1 zx2 zx3  ls h hl
    cases h
  | succ fu ih =>
    intro zx1 zx2 zx3  ls h hl
    refine lv_iload_n hx hb dX3_liftAt_33 rfl (lv_at hl 3 rfl) ?_
    refine lv_aload_n hx hb dX3_liftAt_34 rfl (lv_at hl 0 rfl) ?_
    refine va_get (D := D) (ci := 3) (v := .ref (a.1 2)) (C := RX3) (T := TX3) (N := 10) hx hb hts hinX3 hown hK hP 0 rfl rfl 1 (by decide) (hts _ (List.mem_of_getElem? (i := 5) rfl)) (fun _ h9 => h9) rfl dX3_liftAt_35 ?_
    refine va_alen (v := 40) hx hb hK hP 2 5 rfl rfl rfl dX3_liftAt_38 ?_
    refine lv_icmp_ge (tgt := 84) hx hb dX3_liftAt_39 (by decide) (fun c_8 => ?_) (fun c_8 => ?_)
    · replace h := oi_t c_8 h
      refine lv_iconst (v := (-1)) hx hb dX3_liftAt_84 (by decide) ?_
      have h9 := Option.some.inj h
      subst h9
      refine vx_ret ?_
      refine W.widen (k := 1) (n := 6) (Nat.le_of_ble_eq_true rfl) (Nat.le_of_ble_eq_true rfl) ?_
      exact W.iret (v := (-1)) hx hb hr (fun t ht hW => ⟨⟨(-1), (), rfl, ⟨rfl, rfl⟩, ⟨by rw [ht]; exact hP, hD⟩⟩, va_S.rf.F ht⟩) (fun _ hq => absurd hq List.not_mem_nil) dX3_liftAt_85 hlocks
    · replace h := oi_f c_8 h
      refine lv_aload_n hx hb dX3_liftAt_42 rfl (lv_at hl 0 rfl) ?_
      refine va_get (D := D) (ci := 3) (v := .ref (a.1 2)) (C := RX3) (T := TX3) (N := 10) hx hb hts hinX3 hown hK hP 0 rfl rfl 1 (by decide) (hts _ (List.mem_of_getElem? (i := 5) rfl)) (fun _ h9 => h9) rfl dX3_liftAt_43 ?_
      refine lv_iload_n hx hb dX3_liftAt_46 rfl (lv_at hl 3 rfl) ?_
      obtain ⟨g_9, h⟩ := og_some h
      rcases oc_some h with ⟨o_11, h⟩ | ⟨k_10, hk_10, o_11, h⟩
      · refine zaldn hx hb hK hP 2 5 rfl rfl g_9 o_11 dX3_liftAt_47 ?_
        refine lv_astoreN (lv' := [(4, .null), (0, .ref (a.1 0)), (1, .int zx1), (2, .int zx2), (3, .int zx3)]) hx hb dX3_liftAt_48 hl (by decide) rfl (fun ls hl => ?_)
        refine lv_aloadN hx hb dX3_liftAt_50 (lv_at hl 0 rfl) ?_
        refine lv_ifnullN (tgt := 78) hx hb dX3_liftAt_52 (by decide) ?_
        refine lv_iinc (v := zx3 + 1) (lv' := [(3, .int (zx3 + 1)), (4, .null), (0, .ref (a.1 0)), (1, .int zx1), (2, .int zx2)]) hx hb dX3_liftAt_78 hl (k := 4) rfl rfl (by decide) rfl (fun ls hl => ?_)
        refine lv_goto (tgt := 33) hx hb dX3_liftAt_81 (by decide) ?_
        exact ih zx1 zx2 (zx3 + 1)  ls h (lv_sub hl [2, 3, 4, 0] rfl)
      · refine zalds hx hb hK hP 2 5 rfl rfl g_9 o_11 dX3_liftAt_47 ?_
        refine lv_astore (lv' := [(4, .ref (a.2 1 k_10)), (0, .ref (a.1 0)), (1, .int zx1), (2, .int zx2), (3, .int zx3)]) hx hb dX3_liftAt_48 hl (by decide) rfl (fun ls hl => ?_)
        refine lv_aload hx hb dX3_liftAt_50 (lv_at hl 0 rfl) ?_
        refine lv_ifnull hx hb dX3_liftAt_52 ?_
        refine lv_aload hx hb dX3_liftAt_55 (lv_at hl 0 rfl) ?_
        refine lv_iload_n hx hb dX3_liftAt_57 rfl (lv_at hl 2 rfl) ?_
        obtain ⟨u_12, hg_13, h⟩ := ob_some h
        refine zcSi (W.runV (As := [.int zx1]) (rest := []) ⟨hx, hb, hml, hown, hts⟩ (c_X1_isOn l D cy a n V k_10 zx1 hk_10 hg_13) (cwV 1 hts gX3_liftAt_X1_isOn rfl rfl rfl hd_X1_isOn ⟨Nat.le_of_ble_eq_true rfl, Nat.le_of_ble_eq_true rfl⟩) ⟨xI_blind, va_recv hK hP (ci := 1) rfl (xpos_li hk_10), (xI_at hP hK hD)⟩ rfl rfl hl.1 rfl (lv_room (Nat.le_of_ble_eq_true rfl)) dX3_liftAt_58 ⟨Nat.le_of_ble_eq_true rfl, Nat.le_of_ble_eq_true rfl⟩) ?_
        refine lv_if_eq (tgt := 78) hx hb dX3_liftAt_61 (by decide) (fun c_14 => ?_) (fun c_14 => ?_)
        · replace h := oi_t c_14 h
          refine lv_iinc (v := zx3 + 1) (lv' := [(3, .int (zx3 + 1)), (4, .ref (a.2 1 k_10)), (0, .ref (a.1 0)), (1, .int zx1), (2, .int zx2)]) hx hb dX3_liftAt_78 hl (k := 4) rfl rfl (by decide) rfl (fun ls hl => ?_)
          refine lv_goto (tgt := 33) hx hb dX3_liftAt_81 (by decide) ?_
          exact ih zx1 zx2 (zx3 + 1)  ls h (lv_sub hl [2, 3, 4, 0] rfl)
        · replace h := oi_f c_14 h
          refine lv_aload hx hb dX3_liftAt_64 (lv_at hl 0 rfl) ?_
          refine lv_iload_n hx hb dX3_liftAt_66 rfl (lv_at hl 3 rfl) ?_
          refine lv_iload_n hx hb dX3_liftAt_67 rfl (lv_at hl 3 rfl) ?_
          refine lv_iconst (v := 1) hx hb dX3_liftAt_68 (by decide) ?_
          refine lv_iadd hx hb dX3_liftAt_69 ?_
          obtain ⟨u_15, hg_16, h⟩ := ob_some h
          refine zcSi (W.runV (As := [.int zx2, .int (zx2 + 1)]) (rest := []) ⟨hx, hb, hml, hown, hts⟩ (c_X1_meets l D cy a n V k_10 zx2 (zx2 + 1) hk_10 hg_16) (cwV 2 hts gX3_liftAt_X1_meets rfl rfl rfl hd_X1_meets ⟨Nat.le_of_ble_eq_true rfl, Nat.le_of_ble_eq_true rfl⟩) ⟨xI_blind, va_recv hK hP (ci := 1) rfl (xpos_li hk_10), (xI_at hP hK hD)⟩ rfl rfl hl.1 rfl (lv_room (Nat.le_of_ble_eq_true rfl)) dX3_liftAt_70 ⟨Nat.le_of_ble_eq_true rfl, Nat.le_of_ble_eq_true rfl⟩) ?_
          refine lv_if_eq (tgt := 78) hx hb dX3_liftAt_73 (by decide) (fun c_17 => ?_) (fun c_17 => ?_)
          · replace h := oi_t c_17 h
            refine lv_iinc (v := zx3 + 1) (lv' := [(3, .int (zx3 + 1)), (4, .ref (a.2 1 k_10)), (0, .ref (a.1 0)), (1, .int zx1), (2, .int zx2)]) hx hb dX3_liftAt_78 hl (k := 4) rfl rfl (by decide) rfl (fun ls hl => ?_)
            refine lv_goto (tgt := 33) hx hb dX3_liftAt_81 (by decide) ?_
            exact ih zx1 zx2 (zx3 + 1)  ls h (lv_sub hl [2, 3, 4, 0] rfl)
          · replace h := oi_f c_17 h
            refine lv_iload_n hx hb dX3_liftAt_76 rfl (lv_at hl 4 rfl) ?_
            have h9 := Option.some.inj h
            subst h9
            refine vx_ret ?_
            refine W.widen (k := 1) (n := 6) (Nat.le_of_ble_eq_true rfl) (Nat.le_of_ble_eq_true rfl) ?_
            exact W.iret (v := zx3) hx hb hr (fun t ht hW => ⟨⟨zx3, (), rfl, ⟨rfl, rfl⟩, ⟨by rw [ht]; exact hP, hD⟩⟩, va_S.rf.F ht⟩) (fun _ hq => absurd hq List.not_mem_nil) dX3_liftAt_77 hlocks
set_option maxHeartbeats 4000000 in
set_option maxRecDepth 100000 in
theorem c_X3_liftAt (l : Launch) (hl0 : l.stackTraces = false) (D : va_G) (cy : Nat → ClassId) (a : XA) (n : Nat → Nat) (V : XV) (sz : Nat) (p1 : Int32) (p2 : Int32) {res : Nat × Int32} (h : f_X3_liftAt n V p1 p2 = some res) : vx_Met l yX3_liftAt wsX3_liftAt ({ frames := 7, cells := 1, slots := 6, locals := 120 } : Room) (va_Pc [.ref (a.1 0), .int p1, .int p2] (zX sz (va_A (xW cy a n V) sz) (xI D cy a n V))) (va_Qi (fun r (_ : Unit) => res.1 = 0 ∧ r = res.2) (fun _ t => va_P D xcl (xW cy a n V) t.heap ∧ va_D (va_A (xW cy a n V) sz) (xW cy a n V)) (va_A (xW cy a n V) sz)) (vx_X (fun (_ : Unit) => True) (fun E _ t => E = xnm res.1 ∧ res.1 ≠ 0 ∧ va_P D xcl (xW cy a n V) t.heap ∧ va_D (va_A (xW cy a n V) sz) (xW cy a n V)) (va_A (xW cy a n V) sz)) 1 6 (va_A (xW cy a n V) sz) := by
  refine vx_ofW (cc := cX3_liftAt) (maxL := 5) (ret := (some .int)) (by decide) rfl ?_
  intro p e s m args below meth c s₁ B hml hex hv
  obtain ⟨rfl, hsz, hZ, hP, hK, hD0⟩ := hv
  have hx := B.exec
  have hb := B.bytes
  have hr := B.returns
  have hts := atoms_spec (ws := wsX3_liftAt) B.pre
  have hown : s.vm.findClass RX3 = some m.cls := findClass_of_methodNamed B.named
  have hlocks := B.notSynchronized
  subst hsz
  have hD := hD0.self (sz := s.heap.size)
  have hN : zN (va_A (xW cy a n V) s.heap.size) c s := ⟨hZ.1, hZ.2.1, hZ.2.2, hex⟩
  generalize hAe : va_A (xW cy a n V) s.heap.size = A at hD hN ⊢
  have hA : ∀ q : Nat, s.heap.size ≤ q → A q := fun q h => by rw [← hAe]; exact Or.inr h
  have hl := lv_entry ([.ref (a.1 0), .int p1, .int p2]) (n := 5) (Nat.le_of_ble_eq_true rfl)
  rw [lg_entry_eq]
  generalize (lg_sl ([.ref (a.1 0), .int p1, .int p2]) ++ List.replicate (5 - (lg_sl ([.ref (a.1 0), .int p1, .int p2])).length) Slot.unset).toArray = ls at hl ⊢
  have hl : lv_has ls 5 [(0, .ref (a.1 0)), (1, .int p1), (2, .int p2)] := hl
  refine lv_aload_n hx hb dX3_liftAt_0 rfl (lv_at hl 0 rfl) ?_
  refine lv_iload_n hx hb dX3_liftAt_1 rfl (lv_at hl 1 rfl) ?_
  obtain ⟨u_1, hg_2, h⟩ := ob_some h
  rcases oc_some h with ⟨o_4, h⟩ | ⟨k_3, hk_3, o_4, h⟩
  · refine zcSqn (W.runV (As := [.int p1]) (rest := []) ⟨hx, hb, hml, hown, hts⟩ (c_X3_craneNumbered l D cy a n V p1 hg_2) (cwV 1 hts gX3_liftAt_X3_craneNumbered rfl rfl rfl hd_X3_craneNumbered ⟨Nat.le_of_ble_eq_true rfl, Nat.le_of_ble_eq_true rfl⟩) ⟨xI_blind, va_recv hK hP (ci := 3) (q0 := 0) rfl rfl, (xI_at hP hK hD)⟩ rfl rfl hl.1 rfl (lv_room (Nat.le_of_ble_eq_true rfl)) dX3_liftAt_2 ⟨Nat.le_of_ble_eq_true rfl, Nat.le_of_ble_eq_true rfl⟩) o_4 ?_
    refine lv_ifnonnullN hx hb dX3_liftAt_5 ?_
    have h9 := Option.some.inj h
    subst h9
    exact vx_throw0 hx hb hl0 hown (by decide) (by decide) (hts _ (List.mem_of_getElem? (i := 1) rfl)) (hts _ (List.mem_of_getElem? (i := 2) rfl)) (vx_hat (fun w h9 => hts w (List.mem_cons_of_mem _ (List.mem_append_left _ (List.mem_append_right _ h9)))) (by decide +kernel) (xNB_3 hN.1 _)) (by decide +kernel) hN.2.1 hN.2.2.1 va_S.rf (hl.1.trans hml.symm) dX3_liftAt_8 dX3_liftAt_11 dX3_liftAt_12 dX3_liftAt_15 (fun z hz => (hN.2.2.2 z hz).elim) (Nat.le_of_ble_eq_true rfl) (Nat.le_of_ble_eq_true rfl) (Nat.le_of_ble_eq_true rfl) (Nat.le_of_ble_eq_true rfl) hlocks (fun t hvm hz hk => ⟨(), trivial, ⟨rfl, (show (3 : Nat) ≠ 0 by decide), zP_kept hP hk, hD⟩, zF_kept va_S.rf hz hk⟩) (fun _ hq => absurd hq List.not_mem_nil) (Nat.le_of_ble_eq_true rfl) (Nat.le_of_ble_eq_true rfl)
  · refine zcSqs (W.runV (As := [.int p1]) (rest := []) ⟨hx, hb, hml, hown, hts⟩ (c_X3_craneNumbered l D cy a n V p1 hg_2) (cwV 1 hts gX3_liftAt_X3_craneNumbered rfl rfl rfl hd_X3_craneNumbered ⟨Nat.le_of_ble_eq_true rfl, Nat.le_of_ble_eq_true rfl⟩) ⟨xI_blind, va_recv hK hP (ci := 3) (q0 := 0) rfl rfl, (xI_at hP hK hD)⟩ rfl rfl hl.1 rfl (lv_room (Nat.le_of_ble_eq_true rfl)) dX3_liftAt_2 ⟨Nat.le_of_ble_eq_true rfl, Nat.le_of_ble_eq_true rfl⟩) o_4 ?_
    refine lv_ifnonnull (tgt := 16) hx hb dX3_liftAt_5 (by decide) ?_
    refine lv_iload_n hx hb dX3_liftAt_16 rfl (lv_at hl 2 rfl) ?_
    obtain ⟨u_5, hg_6, h⟩ := ob_some h
    refine zcSi (W.runS (As := [.int p2]) (rest := []) ⟨hx, hb, hml, hown, hts⟩ (c_X3_isMinute l p2 hg_6) (va_cwS 1 hts gX3_liftAt_X3_isMinute rfl rfl rfl hd_X3_isMinute ⟨Nat.le_of_ble_eq_true rfl, Nat.le_of_ble_eq_true rfl⟩) ⟨zT_blind, zT_at⟩ rfl rfl hl.1 rfl (lv_room (Nat.le_of_ble_eq_true rfl)) dX3_liftAt_17 ⟨Nat.le_of_ble_eq_true rfl, Nat.le_of_ble_eq_true rfl⟩) ?_
    refine lv_if_ne (tgt := 31) hx hb dX3_liftAt_20 (by decide) (fun c_7 => ?_) (fun c_7 => ?_)
    · replace h := oi_f c_7 h
      refine lv_iconst (v := 0) hx hb dX3_liftAt_31 (by decide) ?_
      refine lv_istore_n (lv' := [(3, .int 0), (0, .ref (a.1 0)), (1, .int p1), (2, .int p2)]) hx hb dX3_liftAt_32 rfl hl (by decide) rfl (fun ls hl => ?_)
      exact k_X3_liftAt_33 hl0 hx hb hr hts hml hown hlocks hK hP hD hN _ _ p1 p2 0  ls h (lv_sub hl [1, 2, 3, 0] rfl)
    · replace h := oi_t c_7 h
      have h9 := Option.some.inj h
      subst h9
      exact vx_throw0 hx hb hl0 hown (by decide) (by decide) (hts _ (List.mem_of_getElem? (i := 3) rfl)) (hts _ (List.mem_of_getElem? (i := 4) rfl)) (vx_hat (fun w h9 => hts w (List.mem_cons_of_mem _ (List.mem_append_right _ h9))) (by decide +kernel) (xNB_1 hN.1 _)) (by decide +kernel) hN.2.1 hN.2.2.1 va_S.rf (hl.1.trans hml.symm) dX3_liftAt_23 dX3_liftAt_26 dX3_liftAt_27 dX3_liftAt_30 (fun z hz => (hN.2.2.2 z hz).elim) (Nat.le_of_ble_eq_true rfl) (Nat.le_of_ble_eq_true rfl) (Nat.le_of_ble_eq_true rfl) (Nat.le_of_ble_eq_true rfl) hlocks (fun t hvm hz hk => ⟨(), trivial, ⟨rfl, (show (1 : Nat) ≠ 0 by decide), zP_kept hP hk, hD⟩, zF_kept va_S.rf hz hk⟩) (fun _ hq => absurd hq List.not_mem_nil) (Nat.le_of_ble_eq_true rfl) (Nat.le_of_ble_eq_true rfl)
def f_X3_liftByMinutes (n : Nat → Nat) (V : XV) (p1 : Int32) (p2 : Int32) : Option (Nat × Int32 × XV) := ob (f_X3_craneNumbered n V p1) (fun u_1 => oc (n 0) u_1 (some (3, 0, V)) (fun k_3 => ob (f_X3_isMinute p2) (fun u_5 => oi (u_5 = 0) (some (1, 0, V)) (ob (f_X3_fillDayRow n V p1) (fun u_8 => oi (1440 ≤ p2) (some (0, (-1), u_8)) (og (¬ (p2 < 0 ∨ 1440 ≤ (p2).toNatClampNeg)) (some (0, u_8.2.2.2 1 (p2).toNatClampNeg, u_8))))))))
theorem hd_X3_liftByMinutes : yX3_liftByMinutes.cls = RX3 ∧ yX3_liftByMinutes.cls ≠ "java/lang/invoke/MethodHandle" ∧ yX3_liftByMinutes.cls ≠ "java/lang/invoke/VarHandle" ∧ (parseMethodDescriptor yX3_liftByMinutes.desc).map (fun d => d.parameters.length) = some 2 := by decide +kernel
set_option maxHeartbeats 4000000 in
set_option maxRecDepth 100000 in
theorem c_X3_liftByMinutes (l : Launch) (hl0 : l.stackTraces = false) (D : va_G) (cy : Nat → ClassId) (a : XA) (n : Nat → Nat) (V : XV) (sz : Nat) (p1 : Int32) (p2 : Int32) {res : Nat × Int32 × XV} (h : f_X3_liftByMinutes n V p1 p2 = some res) : vx_Met l yX3_liftByMinutes wsX3_liftByMinutes ({ frames := 7, cells := 1, slots := 6, locals := 120 } : Room) (va_Pc [.ref (a.1 0), .int p1, .int p2] (zX sz (va_A (xW cy a n V) sz) (xI D cy a n V))) (va_Qi (fun r (_ : Unit) => res.1 = 0 ∧ r = res.2.1) (fun _ t => va_P D xcl (xW cy a n res.2.2) t.heap ∧ va_D (va_A (xW cy a n V) sz) (xW cy a n res.2.2)) (va_A (xW cy a n V) sz)) (vx_X (fun (_ : Unit) => True) (fun E _ t => E = xnm res.1 ∧ res.1 ≠ 0 ∧ va_P D xcl (xW cy a n res.2.2) t.heap ∧ va_D (va_A (xW cy a n V) sz) (xW cy a n res.2.2)) (va_A (xW cy a n V) sz)) 1 6 (va_A (xW cy a n V) sz) := by
  refine vx_ofW (cc := cX3_liftByMinutes) (maxL := 3) (ret := (some .int)) (by decide) rfl ?_
  intro p e s m args below meth c s₁ B hml hex hv
  obtain ⟨rfl, hsz, hZ, hP, hK, hD0⟩ := hv
  have hx := B.exec
  have hb := B.bytes
  have hr := B.returns
  have hts := atoms_spec (ws := wsX3_liftByMinutes) B.pre
  have hown : s.vm.findClass RX3 = some m.cls := findClass_of_methodNamed B.named
  have hlocks := B.notSynchronized
  subst hsz
  have hD := hD0.self (sz := s.heap.size)
  have hN : zN (va_A (xW cy a n V) s.heap.size) c s := ⟨hZ.1, hZ.2.1, hZ.2.2, hex⟩
  generalize hAe : va_A (xW cy a n V) s.heap.size = A at hD hN ⊢
  have hA : ∀ q : Nat, s.heap.size ≤ q → A q := fun q h => by rw [← hAe]; exact Or.inr h
  have hS : va_S A s.heap s.heap [] := va_S.rf
  have hl := lv_entry ([.ref (a.1 0), .int p1, .int p2]) (n := 3) (Nat.le_of_ble_eq_true rfl)
  rw [lg_entry_eq]
  generalize (lg_sl ([.ref (a.1 0), .int p1, .int p2]) ++ List.replicate (3 - (lg_sl ([.ref (a.1 0), .int p1, .int p2])).length) Slot.unset).toArray = ls at hl ⊢
  have hl : lv_has ls 3 [(0, .ref (a.1 0)), (1, .int p1), (2, .int p2)] := hl
  have hinX3 : ∀ w ∈ wsX30, w ∈ wsX3_liftByMinutes := (fun _ h => (List.mem_cons_of_mem _ (List.mem_append_left _ (List.mem_append_left _ (List.mem_append_left _ (List.mem_append_right _ h))))))
  revert hP hS
  intro hP hS
  refine lv_aload_n hx hb dX3_liftByMinutes_0 rfl (lv_at hl 0 rfl) ?_
  refine lv_iload_n hx hb dX3_liftByMinutes_1 rfl (lv_at hl 1 rfl) ?_
  obtain ⟨u_1, hg_2, h⟩ := ob_some h
  rcases oc_some h with ⟨o_4, h⟩ | ⟨k_3, hk_3, o_4, h⟩
  · refine zcSqn (W.runV (As := [.int p1]) (rest := []) ⟨hx, hb, hml, hown, hts⟩ (c_X3_craneNumbered l D cy a n V p1 hg_2) (cwV 1 hts gX3_liftByMinutes_X3_craneNumbered rfl rfl rfl hd_X3_craneNumbered ⟨Nat.le_of_ble_eq_true rfl, Nat.le_of_ble_eq_true rfl⟩) ⟨xI_blind, va_recv hK hP (ci := 3) (q0 := 0) rfl rfl, (xI_at hP hK hD)⟩ rfl rfl hl.1 rfl (lv_room (Nat.le_of_ble_eq_true rfl)) dX3_liftByMinutes_2 ⟨Nat.le_of_ble_eq_true rfl, Nat.le_of_ble_eq_true rfl⟩) o_4 ?_
    refine lv_ifnonnullN hx hb dX3_liftByMinutes_5 ?_
    have h9 := Option.some.inj h
    subst h9
    exact vx_throw0 hx hb hl0 hown (by decide) (by decide) (hts _ (List.mem_of_getElem? (i := 1) rfl)) (hts _ (List.mem_of_getElem? (i := 2) rfl)) (vx_hat (fun w h9 => hts w (List.mem_cons_of_mem _ (List.mem_append_left _ (List.mem_append_right _ h9)))) (by decide +kernel) (xNB_3 hN.1 _)) (by decide +kernel) hN.2.1 hN.2.2.1 hS (hl.1.trans hml.symm) dX3_liftByMinutes_8 dX3_liftByMinutes_11 dX3_liftByMinutes_12 dX3_liftByMinutes_15 (fun z hz => (hN.2.2.2 z hz).elim) (Nat.le_of_ble_eq_true rfl) (Nat.le_of_ble_eq_true rfl) (Nat.le_of_ble_eq_true rfl) (Nat.le_of_ble_eq_true rfl) hlocks (fun t hvm hz hk => ⟨(), trivial, ⟨rfl, (show (3 : Nat) ≠ 0 by decide), zP_kept hP hk, hD⟩, zF_kept hS hz hk⟩) hS.2.2 (Nat.le_of_ble_eq_true rfl) (Nat.le_of_ble_eq_true rfl)
  · refine zcSqs (W.runV (As := [.int p1]) (rest := []) ⟨hx, hb, hml, hown, hts⟩ (c_X3_craneNumbered l D cy a n V p1 hg_2) (cwV 1 hts gX3_liftByMinutes_X3_craneNumbered rfl rfl rfl hd_X3_craneNumbered ⟨Nat.le_of_ble_eq_true rfl, Nat.le_of_ble_eq_true rfl⟩) ⟨xI_blind, va_recv hK hP (ci := 3) (q0 := 0) rfl rfl, (xI_at hP hK hD)⟩ rfl rfl hl.1 rfl (lv_room (Nat.le_of_ble_eq_true rfl)) dX3_liftByMinutes_2 ⟨Nat.le_of_ble_eq_true rfl, Nat.le_of_ble_eq_true rfl⟩) o_4 ?_
    refine lv_ifnonnull (tgt := 16) hx hb dX3_liftByMinutes_5 (by decide) ?_
    refine lv_iload_n hx hb dX3_liftByMinutes_16 rfl (lv_at hl 2 rfl) ?_
    obtain ⟨u_5, hg_6, h⟩ := ob_some h
    refine zcSi (W.runS (As := [.int p2]) (rest := []) ⟨hx, hb, hml, hown, hts⟩ (c_X3_isMinute l p2 hg_6) (va_cwS 1 hts gX3_liftByMinutes_X3_isMinute rfl rfl rfl hd_X3_isMinute ⟨Nat.le_of_ble_eq_true rfl, Nat.le_of_ble_eq_true rfl⟩) ⟨zT_blind, zT_at⟩ rfl rfl hl.1 rfl (lv_room (Nat.le_of_ble_eq_true rfl)) dX3_liftByMinutes_17 ⟨Nat.le_of_ble_eq_true rfl, Nat.le_of_ble_eq_true rfl⟩) ?_
    refine lv_if_ne (tgt := 31) hx hb dX3_liftByMinutes_20 (by decide) (fun c_7 => ?_) (fun c_7 => ?_)
    · replace h := oi_f c_7 h
      refine lv_aload_n hx hb dX3_liftByMinutes_31 rfl (lv_at hl 0 rfl) ?_
      refine lv_iload_n hx hb dX3_liftByMinutes_32 rfl (lv_at hl 1 rfl) ?_
      obtain ⟨u_8, hg_9, h⟩ := ob_some h
      refine zcWv (va_runV (As := [.int p1]) (rest := []) ⟨hx, hb, hml, hown, hts⟩ (c_X3_fillDayRow l D cy a n V _ p1 hg_9) (cwV 1 hts gX3_liftByMinutes_X3_fillDayRow rfl rfl rfl hd_X3_fillDayRow ⟨Nat.le_of_ble_eq_true rfl, Nat.le_of_ble_eq_true rfl⟩) ⟨(zJ_blind xI_blind), va_recv hK hP (ci := 3) (q0 := 0) rfl rfl, (zJ_at (xI_at hP hK hD))⟩ rfl rfl hl.1 rfl (lv_room (Nat.le_of_ble_eq_true rfl)) dX3_liftByMinutes_33 ⟨Nat.le_of_ble_eq_true rfl, Nat.le_of_ble_eq_true rfl⟩) hS (z_free hD hS hA) (fun H locs hP hD hS => ?_)
      refine lv_iload_n hx hb dX3_liftByMinutes_36 rfl (lv_at hl 2 rfl) ?_
      refine lv_aload_n hx hb dX3_liftByMinutes_37 rfl (lv_at hl 0 rfl) ?_
      refine va_get (D := D) (ci := 3) (v := .ref (a.1 5)) (C := RX3) (T := TX3) (N := 10) hx hb hts hinX3 hown hK hP 0 rfl rfl 9 (by decide) (hts _ (List.mem_of_getElem? (i := 5) rfl)) (fun _ h9 => h9) rfl dX3_liftByMinutes_38 ?_
      refine va_alen (v := 1440) hx hb hK hP 5 0 rfl rfl rfl dX3_liftByMinutes_41 ?_
      refine lv_icmp_ge (tgt := 54) hx hb dX3_liftByMinutes_42 (by decide) (fun c_10 => ?_) (fun c_10 => ?_)
      · replace h := oi_t c_10 h
        refine lv_iconst (v := (-1)) hx hb dX3_liftByMinutes_54 (by decide) ?_
        have h9 := Option.some.inj h
        subst h9
        refine vx_ret ?_
        refine W.widen (k := 1) (n := 6) (Nat.le_of_ble_eq_true rfl) (Nat.le_of_ble_eq_true rfl) ?_
        exact W.iret (v := (-1)) hx hb hr (fun t ht hW => ⟨⟨(-1), (), rfl, ⟨rfl, rfl⟩, ⟨by rw [ht]; exact hP, hD⟩⟩, hS.F ht⟩) hS.2.2 dX3_liftByMinutes_55 hlocks
      · replace h := oi_f c_10 h
        refine lv_aload_n hx hb dX3_liftByMinutes_45 rfl (lv_at hl 0 rfl) ?_
        refine va_get (D := D) (ci := 3) (v := .ref (a.1 5)) (C := RX3) (T := TX3) (N := 10) hx hb hts hinX3 hown hK hP 0 rfl rfl 9 (by decide) (hts _ (List.mem_of_getElem? (i := 5) rfl)) (fun _ h9 => h9) rfl dX3_liftByMinutes_46 ?_
        refine lv_iload_n hx hb dX3_liftByMinutes_49 rfl (lv_at hl 2 rfl) ?_
        obtain ⟨g_11, h⟩ := og_some h
        refine va_iald hx hb hK hP 5 0 rfl rfl g_11 dX3_liftByMinutes_50 ?_
        refine lv_goto (tgt := 55) hx hb dX3_liftByMinutes_51 (by decide) ?_
        have h9 := Option.some.inj h
        subst h9
        refine vx_ret ?_
        refine W.widen (k := 1) (n := 6) (Nat.le_of_ble_eq_true rfl) (Nat.le_of_ble_eq_true rfl) ?_
        exact W.iret (v := u_8.2.2.2 1 (p2).toNatClampNeg) hx hb hr (fun t ht hW => ⟨⟨u_8.2.2.2 1 (p2).toNatClampNeg, (), rfl, ⟨rfl, rfl⟩, ⟨by rw [ht]; exact hP, hD⟩⟩, hS.F ht⟩) hS.2.2 dX3_liftByMinutes_55 hlocks
    · replace h := oi_t c_7 h
      have h9 := Option.some.inj h
      subst h9
      exact vx_throw0 hx hb hl0 hown (by decide) (by decide) (hts _ (List.mem_of_getElem? (i := 3) rfl)) (hts _ (List.mem_of_getElem? (i := 4) rfl)) (vx_hat (fun w h9 => hts w (List.mem_cons_of_mem _ (List.mem_append_right _ h9))) (by decide +kernel) (xNB_1 hN.1 _)) (by decide +kernel) hN.2.1 hN.2.2.1 hS (hl.1.trans hml.symm) dX3_liftByMinutes_23 dX3_liftByMinutes_26 dX3_liftByMinutes_27 dX3_liftByMinutes_30 (fun z hz => (hN.2.2.2 z hz).elim) (Nat.le_of_ble_eq_true rfl) (Nat.le_of_ble_eq_true rfl) (Nat.le_of_ble_eq_true rfl) (Nat.le_of_ble_eq_true rfl) hlocks (fun t hvm hz hk => ⟨(), trivial, ⟨rfl, (show (1 : Nat) ≠ 0 by decide), zP_kept hP hk, hD⟩, zF_kept hS hz hk⟩) hS.2.2 (Nat.le_of_ble_eq_true rfl) (Nat.le_of_ble_eq_true rfl)
def f_X3_freeMinutes (n : Nat → Nat) (V : XV) (p1 : Int32) : Option (Nat × Int32) := ob (f_X3_craneNumbered n V p1) (fun u_1 => oc (n 0) u_1 (some (3, 0)) (fun k_3 => ob (f_X0_minutesAllowed n V k_3) (fun u_5 => ob (f_X3_countAllowedWork n V p1 k_3) (fun u_7 => some (0, u_5 - u_7)))))
theorem hd_X3_freeMinutes : yX3_freeMinutes.cls = RX3 ∧ yX3_freeMinutes.cls ≠ "java/lang/invoke/MethodHandle" ∧ yX3_freeMinutes.cls ≠ "java/lang/invoke/VarHandle" ∧ (parseMethodDescriptor yX3_freeMinutes.desc).map (fun d => d.parameters.length) = some 1 := by decide +kernel
set_option maxHeartbeats 4000000 in
set_option maxRecDepth 100000 in
theorem c_X3_freeMinutes (l : Launch) (hl0 : l.stackTraces = false) (D : va_G) (cy : Nat → ClassId) (a : XA) (n : Nat → Nat) (V : XV) (sz : Nat) (p1 : Int32) {res : Nat × Int32} (h : f_X3_freeMinutes n V p1 = some res) : vx_Met l yX3_freeMinutes wsX3_freeMinutes ({ frames := 7, cells := 1, slots := 6, locals := 120 } : Room) (va_Pc [.ref (a.1 0), .int p1] (zX sz (va_A (xW cy a n V) sz) (xI D cy a n V))) (va_Qi (fun r (_ : Unit) => res.1 = 0 ∧ r = res.2) (fun _ t => va_P D xcl (xW cy a n V) t.heap ∧ va_D (va_A (xW cy a n V) sz) (xW cy a n V)) (va_A (xW cy a n V) sz)) (vx_X (fun (_ : Unit) => True) (fun E _ t => E = xnm res.1 ∧ res.1 ≠ 0 ∧ va_P D xcl (xW cy a n V) t.heap ∧ va_D (va_A (xW cy a n V) sz) (xW cy a n V)) (va_A (xW cy a n V) sz)) 1 6 (va_A (xW cy a n V) sz) := by
  refine vx_ofW (cc := cX3_freeMinutes) (maxL := 3) (ret := (some .int)) (by decide) rfl ?_
  intro p e s m args below meth c s₁ B hml hex hv
  obtain ⟨rfl, hsz, hZ, hP, hK, hD0⟩ := hv
  have hx := B.exec
  have hb := B.bytes
  have hr := B.returns
  have hts := atoms_spec (ws := wsX3_freeMinutes) B.pre
  have hown : s.vm.findClass RX3 = some m.cls := findClass_of_methodNamed B.named
  have hlocks := B.notSynchronized
  subst hsz
  have hD := hD0.self (sz := s.heap.size)
  have hN : zN (va_A (xW cy a n V) s.heap.size) c s := ⟨hZ.1, hZ.2.1, hZ.2.2, hex⟩
  generalize hAe : va_A (xW cy a n V) s.heap.size = A at hD hN ⊢
  have hA : ∀ q : Nat, s.heap.size ≤ q → A q := fun q h => by rw [← hAe]; exact Or.inr h
  have hl := lv_entry ([.ref (a.1 0), .int p1]) (n := 3) (Nat.le_of_ble_eq_true rfl)
  rw [lg_entry_eq]
  generalize (lg_sl ([.ref (a.1 0), .int p1]) ++ List.replicate (3 - (lg_sl ([.ref (a.1 0), .int p1])).length) Slot.unset).toArray = ls at hl ⊢
  have hl : lv_has ls 3 [(0, .ref (a.1 0)), (1, .int p1)] := hl
  refine lv_aload_n hx hb dX3_freeMinutes_0 rfl (lv_at hl 0 rfl) ?_
  refine lv_iload_n hx hb dX3_freeMinutes_1 rfl (lv_at hl 1 rfl) ?_
  obtain ⟨u_1, hg_2, h⟩ := ob_some h
  rcases oc_some h with ⟨o_4, h⟩ | ⟨k_3, hk_3, o_4, h⟩
  · refine zcSqn (W.runV (As := [.int p1]) (rest := []) ⟨hx, hb, hml, hown, hts⟩ (c_X3_craneNumbered l D cy a n V p1 hg_2) (cwV 1 hts gX3_freeMinutes_X3_craneNumbered rfl rfl rfl hd_X3_craneNumbered ⟨Nat.le_of_ble_eq_true rfl, Nat.le_of_ble_eq_true rfl⟩) ⟨xI_blind, va_recv hK hP (ci := 3) (q0 := 0) rfl rfl, (xI_at hP hK hD)⟩ rfl rfl hl.1 rfl (lv_room (Nat.le_of_ble_eq_true rfl)) dX3_freeMinutes_2 ⟨Nat.le_of_ble_eq_true rfl, Nat.le_of_ble_eq_true rfl⟩) o_4 ?_
    refine lv_astore_nN (lv' := [(2, .null), (0, .ref (a.1 0)), (1, .int p1)]) hx hb dX3_freeMinutes_5 rfl hl (by decide) rfl (fun ls hl => ?_)
    refine lv_aload_nN hx hb dX3_freeMinutes_6 rfl (lv_at hl 0 rfl) ?_
    refine lv_ifnonnullN hx hb dX3_freeMinutes_7 ?_
    have h9 := Option.some.inj h
    subst h9
    exact vx_throw0 hx hb hl0 hown (by decide) (by decide) (hts _ (List.mem_of_getElem? (i := 1) rfl)) (hts _ (List.mem_of_getElem? (i := 2) rfl)) (vx_hat (fun w h9 => hts w (List.mem_cons_of_mem _ (List.mem_append_right _ h9))) (by decide +kernel) (xNB_3 hN.1 _)) (by decide +kernel) hN.2.1 hN.2.2.1 va_S.rf (hl.1.trans hml.symm) dX3_freeMinutes_10 dX3_freeMinutes_13 dX3_freeMinutes_14 dX3_freeMinutes_17 (fun z hz => (hN.2.2.2 z hz).elim) (Nat.le_of_ble_eq_true rfl) (Nat.le_of_ble_eq_true rfl) (Nat.le_of_ble_eq_true rfl) (Nat.le_of_ble_eq_true rfl) hlocks (fun t hvm hz hk => ⟨(), trivial, ⟨rfl, (show (3 : Nat) ≠ 0 by decide), zP_kept hP hk, hD⟩, zF_kept va_S.rf hz hk⟩) (fun _ hq => absurd hq List.not_mem_nil) (Nat.le_of_ble_eq_true rfl) (Nat.le_of_ble_eq_true rfl)
  · refine zcSqs (W.runV (As := [.int p1]) (rest := []) ⟨hx, hb, hml, hown, hts⟩ (c_X3_craneNumbered l D cy a n V p1 hg_2) (cwV 1 hts gX3_freeMinutes_X3_craneNumbered rfl rfl rfl hd_X3_craneNumbered ⟨Nat.le_of_ble_eq_true rfl, Nat.le_of_ble_eq_true rfl⟩) ⟨xI_blind, va_recv hK hP (ci := 3) (q0 := 0) rfl rfl, (xI_at hP hK hD)⟩ rfl rfl hl.1 rfl (lv_room (Nat.le_of_ble_eq_true rfl)) dX3_freeMinutes_2 ⟨Nat.le_of_ble_eq_true rfl, Nat.le_of_ble_eq_true rfl⟩) o_4 ?_
    refine lv_astore_n (lv' := [(2, .ref (a.2 0 k_3)), (0, .ref (a.1 0)), (1, .int p1)]) hx hb dX3_freeMinutes_5 rfl hl (by decide) rfl (fun ls hl => ?_)
    refine lv_aload_n hx hb dX3_freeMinutes_6 rfl (lv_at hl 0 rfl) ?_
    refine lv_ifnonnull (tgt := 18) hx hb dX3_freeMinutes_7 (by decide) ?_
    refine lv_aload_n hx hb dX3_freeMinutes_18 rfl (lv_at hl 0 rfl) ?_
    obtain ⟨u_5, hg_6, h⟩ := ob_some h
    refine zcSi (W.runV (As := []) (rest := []) ⟨hx, hb, hml, hown, hts⟩ (c_X0_minutesAllowed l D cy a n V k_3 hk_3 hg_6) (cwV 0 hts gX3_freeMinutes_X0_minutesAllowed rfl rfl rfl hd_X0_minutesAllowed ⟨Nat.le_of_ble_eq_true rfl, Nat.le_of_ble_eq_true rfl⟩) ⟨xI_blind, va_recv hK hP (ci := 0) rfl (xpos_cr hk_3), (xI_at hP hK hD)⟩ rfl rfl hl.1 rfl (lv_room (Nat.le_of_ble_eq_true rfl)) dX3_freeMinutes_19 ⟨Nat.le_of_ble_eq_true rfl, Nat.le_of_ble_eq_true rfl⟩) ?_
    refine lv_aload_n hx hb dX3_freeMinutes_22 rfl (lv_at hl 1 rfl) ?_
    refine lv_iload_n hx hb dX3_freeMinutes_23 rfl (lv_at hl 2 rfl) ?_
    refine lv_aload_n hx hb dX3_freeMinutes_24 rfl (lv_at hl 0 rfl) ?_
    obtain ⟨u_7, hg_8, h⟩ := ob_some h
    refine zcSi (W.runV (As := [.int p1, .ref (a.2 0 k_3)]) (rest := [.int u_5]) ⟨hx, hb, hml, hown, hts⟩ (c_X3_countAllowedWork l D cy a n V p1 k_3 hk_3 hg_8) (cwV 2 hts gX3_freeMinutes_X3_countAllowedWork rfl rfl rfl hd_X3_countAllowedWork ⟨Nat.le_of_ble_eq_true rfl, Nat.le_of_ble_eq_true rfl⟩) ⟨xI_blind, va_recv hK hP (ci := 3) (q0 := 0) rfl rfl, (xI_at hP hK hD)⟩ rfl rfl hl.1 rfl (lv_room (Nat.le_of_ble_eq_true rfl)) dX3_freeMinutes_25 ⟨Nat.le_of_ble_eq_true rfl, Nat.le_of_ble_eq_true rfl⟩) ?_
    refine lv_isub hx hb dX3_freeMinutes_28 ?_
    have h9 := Option.some.inj h
    subst h9
    refine vx_ret ?_
    refine W.widen (k := 1) (n := 6) (Nat.le_of_ble_eq_true rfl) (Nat.le_of_ble_eq_true rfl) ?_
    exact W.iret (v := u_5 - u_7) hx hb hr (fun t ht hW => ⟨⟨u_5 - u_7, (), rfl, ⟨rfl, rfl⟩, ⟨by rw [ht]; exact hP, hD⟩⟩, va_S.rf.F ht⟩) (fun _ hq => absurd hq List.not_mem_nil) dX3_freeMinutes_29 hlocks
def f_X3_atWork_29 (n : Nat → Nat) : XV → Nat → Int32 → Int32 → Int32 → Int32 → Option (Nat × Int32)
  | _, 0, _, _, _, _ => none
  | V, fu + 1, zx1, zx2, zx4, zx5 => oi (zx4 ≤ zx5) (some (0, zx2)) (og (¬ (zx5 < 0 ∨ 40 ≤ (zx5).toNatClampNeg)) (oc (n 1) (xref n 1 zx5) (f_X3_atWork_29 n V fu zx1 zx2 zx4 (zx5 + 1)) (fun k_6 => ob (f_X1_meets n V k_6 zx1 (zx1 + 1)) (fun u_8 => oi (u_8 = 0) (f_X3_atWork_29 n V fu zx1 zx2 zx4 (zx5 + 1)) (f_X3_atWork_29 n V fu zx1 (zx2 + 1) zx4 (zx5 + 1))))))
def f_X3_atWork (n : Nat → Nat) (V : XV) (p1 : Int32) : Option (Nat × Int32) := ob (f_X3_isMinute p1) (fun u_1 => oi (u_1 = 0) (some (1, 0)) (f_X3_atWork_29 n V FU p1 0 40 0))
theorem hd_X3_atWork : yX3_atWork.cls = RX3 ∧ yX3_atWork.cls ≠ "java/lang/invoke/MethodHandle" ∧ yX3_atWork.cls ≠ "java/lang/invoke/VarHandle" ∧ (parseMethodDescriptor yX3_atWork.desc).map (fun d => d.parameters.length) = some 1 := by decide +kernel
set_option maxHeartbeats 4000000 in
set_option maxRecDepth 100000 in
theorem k_X3_atWork_29 {p : Program} {l : Launch} {e : Env} {s : State} {m : MethodId} {args : Array Value} {below : List Frame} {meth : Method} {c : Code} {D : va_G} {cy : Nat → ClassId} {a : XA} {n : Nat → Nat} {V : XV} {A : Nat → Prop} (hl0 : l.stackTraces = false) (hx : p.tables.exec = Jvm.exec) (hb : c.code = cX3_atWork) (hr : meth.sig.returnType = (some .int)) (hts : ∀ w ∈ wsX3_atWork, w.before args s = true) (hml : c.maxLocals = 7) (hown : s.vm.findClass RX3 = some m.cls) (hlocks : meth.locks = false) (hK : va_K D xcl (xty cy) s) (hP : va_P D xcl (xW cy a n V) s.heap) (hD : va_D A (xW cy a n V)) (hN : zN A c s) (res : Nat × Int32) : ∀ (fu : Nat) (zx1 : Int32) (zx2 : Int32) (zx4 : Int32) (zx5 : Int32)  (ls : Array Slot), f_X3_atWork_29 n V fu zx1 zx2 zx4 zx5 = some res → lv_has ls 7 [(1, .int zx1), (2, .int zx2), (3, .ref (a.1 2)), (4, .int zx4), (5, .int zx5)] → W p l e ({ frames := 7, cells := 1, slots := 6, locals := 120 } : Room) s m args below meth c s.heap [] 0 0 (vx_MQ below (va_Qi (fun r (_ : Unit) => res.1 = 0 ∧ r = res.2) (fun _ t => va_P D xcl (xW cy a n V) t.heap ∧ va_D A (xW cy a n V)) A) (vx_X (fun (_ : Unit) => True) (fun E _ t => E = xnm res.1 ∧ res.1 ≠ 0 ∧ va_P D xcl (xW cy a n V) t.heap ∧ va_D A (xW cy a n V)) A) args s 1 6 (A)) (F0 m 29 ls []) := by
  intro fu
  induction fu with
  | zero =>
    intro zx1 zx2 zx4 zx5  ls h hl
    cases h
  | succ fu ih =>
    intro zx1 zx2 zx4 zx5  ls h hl
    refine lv_iload hx hb dX3_atWork_29 (lv_at hl 4 rfl) ?_
    refine lv_iload hx hb dX3_atWork_31 (lv_at hl 3 rfl) ?_
    refine lv_icmp_ge (tgt := 68) hx hb dX3_atWork_33 (by decide) (fun c_4 => ?_) (fun c_4 => ?_)
    · replace h := oi_t c_4 h
      refine lv_iload_n hx hb dX3_atWork_68 rfl (lv_at hl 1 rfl) ?_
      have h9 := Option.some.inj h
      subst h9
      refine vx_ret ?_
      refine W.widen (k := 1) (n := 6) (Nat.le_of_ble_eq_true rfl) (Nat.le_of_ble_eq_true rfl) ?_
      exact W.iret (v := zx2) hx hb hr (fun t ht hW => ⟨⟨zx2, (), rfl, ⟨rfl, rfl⟩, ⟨by rw [ht]; exact hP, hD⟩⟩, va_S.rf.F ht⟩) (fun _ hq => absurd hq List.not_mem_nil) dX3_atWork_69 hlocks
    · replace h := oi_f c_4 h
      refine lv_aload_n hx hb dX3_atWork_36 rfl (lv_at hl 2 rfl) ?_
      refine lv_iload hx hb dX3_atWork_37 (lv_at hl 4 rfl) ?_
      obtain ⟨g_5, h⟩ := og_some h
      rcases oc_some h with ⟨o_7, h⟩ | ⟨k_6, hk_6, o_7, h⟩
      · refine zaldn hx hb hK hP 2 5 rfl rfl g_5 o_7 dX3_atWork_39 ?_
        refine lv_astoreN (lv' := [(6, .null), (1, .int zx1), (2, .int zx2), (3, .ref (a.1 2)), (4, .int zx4), (5, .int zx5)]) hx hb dX3_atWork_40 hl (by decide) rfl (fun ls hl => ?_)
        refine lv_aloadN hx hb dX3_atWork_42 (lv_at hl 0 rfl) ?_
        refine lv_ifnullN (tgt := 62) hx hb dX3_atWork_44 (by decide) ?_
        refine lv_iinc (v := zx5 + 1) (lv' := [(5, .int (zx5 + 1)), (6, .null), (1, .int zx1), (2, .int zx2), (3, .ref (a.1 2)), (4, .int zx4)]) hx hb dX3_atWork_62 hl (k := 5) rfl rfl (by decide) rfl (fun ls hl => ?_)
        refine lv_goto (tgt := 29) hx hb dX3_atWork_65 (by decide) ?_
        exact ih zx1 zx2 zx4 (zx5 + 1)  ls h (lv_sub hl [2, 3, 4, 5, 0] rfl)
      · refine zalds hx hb hK hP 2 5 rfl rfl g_5 o_7 dX3_atWork_39 ?_
        refine lv_astore (lv' := [(6, .ref (a.2 1 k_6)), (1, .int zx1), (2, .int zx2), (3, .ref (a.1 2)), (4, .int zx4), (5, .int zx5)]) hx hb dX3_atWork_40 hl (by decide) rfl (fun ls hl => ?_)
        refine lv_aload hx hb dX3_atWork_42 (lv_at hl 0 rfl) ?_
        refine lv_ifnull hx hb dX3_atWork_44 ?_
        refine lv_aload hx hb dX3_atWork_47 (lv_at hl 0 rfl) ?_
        refine lv_iload_n hx hb dX3_atWork_49 rfl (lv_at hl 1 rfl) ?_
        refine lv_iload_n hx hb dX3_atWork_50 rfl (lv_at hl 1 rfl) ?_
        refine lv_iconst (v := 1) hx hb dX3_atWork_51 (by decide) ?_
        refine lv_iadd hx hb dX3_atWork_52 ?_
        obtain ⟨u_8, hg_9, h⟩ := ob_some h
        refine zcSi (W.runV (As := [.int zx1, .int (zx1 + 1)]) (rest := []) ⟨hx, hb, hml, hown, hts⟩ (c_X1_meets l D cy a n V k_6 zx1 (zx1 + 1) hk_6 hg_9) (cwV 2 hts gX3_atWork_X1_meets rfl rfl rfl hd_X1_meets ⟨Nat.le_of_ble_eq_true rfl, Nat.le_of_ble_eq_true rfl⟩) ⟨xI_blind, va_recv hK hP (ci := 1) rfl (xpos_li hk_6), (xI_at hP hK hD)⟩ rfl rfl hl.1 rfl (lv_room (Nat.le_of_ble_eq_true rfl)) dX3_atWork_53 ⟨Nat.le_of_ble_eq_true rfl, Nat.le_of_ble_eq_true rfl⟩) ?_
        refine lv_if_eq (tgt := 62) hx hb dX3_atWork_56 (by decide) (fun c_10 => ?_) (fun c_10 => ?_)
        · replace h := oi_t c_10 h
          refine lv_iinc (v := zx5 + 1) (lv' := [(5, .int (zx5 + 1)), (6, .ref (a.2 1 k_6)), (1, .int zx1), (2, .int zx2), (3, .ref (a.1 2)), (4, .int zx4)]) hx hb dX3_atWork_62 hl (k := 5) rfl rfl (by decide) rfl (fun ls hl => ?_)
          refine lv_goto (tgt := 29) hx hb dX3_atWork_65 (by decide) ?_
          exact ih zx1 zx2 zx4 (zx5 + 1)  ls h (lv_sub hl [2, 3, 4, 5, 0] rfl)
        · replace h := oi_f c_10 h
          refine lv_iinc (v := zx2 + 1) (lv' := [(2, .int (zx2 + 1)), (6, .ref (a.2 1 k_6)), (1, .int zx1), (3, .ref (a.1 2)), (4, .int zx4), (5, .int zx5)]) hx hb dX3_atWork_59 hl (k := 2) rfl rfl (by decide) rfl (fun ls hl => ?_)
          refine lv_iinc (v := zx5 + 1) (lv' := [(5, .int (zx5 + 1)), (2, .int (zx2 + 1)), (6, .ref (a.2 1 k_6)), (1, .int zx1), (3, .ref (a.1 2)), (4, .int zx4)]) hx hb dX3_atWork_62 hl (k := 5) rfl rfl (by decide) rfl (fun ls hl => ?_)
          refine lv_goto (tgt := 29) hx hb dX3_atWork_65 (by decide) ?_
          exact ih zx1 (zx2 + 1) zx4 (zx5 + 1)  ls h (lv_sub hl [3, 1, 4, 5, 0] rfl)
set_option maxHeartbeats 4000000 in
set_option maxRecDepth 100000 in
theorem c_X3_atWork (l : Launch) (hl0 : l.stackTraces = false) (D : va_G) (cy : Nat → ClassId) (a : XA) (n : Nat → Nat) (V : XV) (sz : Nat) (p1 : Int32) {res : Nat × Int32} (h : f_X3_atWork n V p1 = some res) : vx_Met l yX3_atWork wsX3_atWork ({ frames := 7, cells := 1, slots := 6, locals := 120 } : Room) (va_Pc [.ref (a.1 0), .int p1] (zX sz (va_A (xW cy a n V) sz) (xI D cy a n V))) (va_Qi (fun r (_ : Unit) => res.1 = 0 ∧ r = res.2) (fun _ t => va_P D xcl (xW cy a n V) t.heap ∧ va_D (va_A (xW cy a n V) sz) (xW cy a n V)) (va_A (xW cy a n V) sz)) (vx_X (fun (_ : Unit) => True) (fun E _ t => E = xnm res.1 ∧ res.1 ≠ 0 ∧ va_P D xcl (xW cy a n V) t.heap ∧ va_D (va_A (xW cy a n V) sz) (xW cy a n V)) (va_A (xW cy a n V) sz)) 1 6 (va_A (xW cy a n V) sz) := by
  refine vx_ofW (cc := cX3_atWork) (maxL := 7) (ret := (some .int)) (by decide) rfl ?_
  intro p e s m args below meth c s₁ B hml hex hv
  obtain ⟨rfl, hsz, hZ, hP, hK, hD0⟩ := hv
  have hx := B.exec
  have hb := B.bytes
  have hr := B.returns
  have hts := atoms_spec (ws := wsX3_atWork) B.pre
  have hown : s.vm.findClass RX3 = some m.cls := findClass_of_methodNamed B.named
  have hlocks := B.notSynchronized
  subst hsz
  have hD := hD0.self (sz := s.heap.size)
  have hN : zN (va_A (xW cy a n V) s.heap.size) c s := ⟨hZ.1, hZ.2.1, hZ.2.2, hex⟩
  generalize hAe : va_A (xW cy a n V) s.heap.size = A at hD hN ⊢
  have hA : ∀ q : Nat, s.heap.size ≤ q → A q := fun q h => by rw [← hAe]; exact Or.inr h
  have hl := lv_entry ([.ref (a.1 0), .int p1]) (n := 7) (Nat.le_of_ble_eq_true rfl)
  rw [lg_entry_eq]
  generalize (lg_sl ([.ref (a.1 0), .int p1]) ++ List.replicate (7 - (lg_sl ([.ref (a.1 0), .int p1])).length) Slot.unset).toArray = ls at hl ⊢
  have hl : lv_has ls 7 [(0, .ref (a.1 0)), (1, .int p1)] := hl
  have hinX3 : ∀ w ∈ wsX30, w ∈ wsX3_atWork := (fun _ h => (List.mem_cons_of_mem _ (List.mem_append_left _ (List.mem_append_left _ (List.mem_append_right _ h)))))
  refine lv_iload_n hx hb dX3_atWork_0 rfl (lv_at hl 1 rfl) ?_
  obtain ⟨u_1, hg_2, h⟩ := ob_some h
  refine zcSi (W.runS (As := [.int p1]) (rest := []) ⟨hx, hb, hml, hown, hts⟩ (c_X3_isMinute l p1 hg_2) (va_cwS 1 hts gX3_atWork_X3_isMinute rfl rfl rfl hd_X3_isMinute ⟨Nat.le_of_ble_eq_true rfl, Nat.le_of_ble_eq_true rfl⟩) ⟨zT_blind, zT_at⟩ rfl rfl hl.1 rfl (lv_room (Nat.le_of_ble_eq_true rfl)) dX3_atWork_1 ⟨Nat.le_of_ble_eq_true rfl, Nat.le_of_ble_eq_true rfl⟩) ?_
  refine lv_if_ne (tgt := 15) hx hb dX3_atWork_4 (by decide) (fun c_3 => ?_) (fun c_3 => ?_)
  · replace h := oi_f c_3 h
    refine lv_iconst (v := 0) hx hb dX3_atWork_15 (by decide) ?_
    refine lv_istore_n (lv' := [(2, .int 0), (0, .ref (a.1 0)), (1, .int p1)]) hx hb dX3_atWork_16 rfl hl (by decide) rfl (fun ls hl => ?_)
    refine lv_aload_n hx hb dX3_atWork_17 rfl (lv_at hl 1 rfl) ?_
    refine va_get (D := D) (ci := 3) (v := .ref (a.1 2)) (C := RX3) (T := TX3) (N := 10) hx hb hts hinX3 hown hK hP 0 rfl rfl 1 (by decide) (hts _ (List.mem_of_getElem? (i := 3) rfl)) (fun _ h9 => h9) rfl dX3_atWork_18 ?_
    refine lv_astore_n (lv' := [(3, .ref (a.1 2)), (2, .int 0), (0, .ref (a.1 0)), (1, .int p1)]) hx hb dX3_atWork_21 rfl hl (by decide) rfl (fun ls hl => ?_)
    refine lv_aload_n hx hb dX3_atWork_22 rfl (lv_at hl 0 rfl) ?_
    refine va_alen (v := 40) hx hb hK hP 2 5 rfl rfl rfl dX3_atWork_23 ?_
    refine lv_istore (lv' := [(4, .int 40), (3, .ref (a.1 2)), (2, .int 0), (0, .ref (a.1 0)), (1, .int p1)]) hx hb dX3_atWork_24 hl (by decide) rfl (fun ls hl => ?_)
    refine lv_iconst (v := 0) hx hb dX3_atWork_26 (by decide) ?_
    refine lv_istore (lv' := [(5, .int 0), (4, .int 40), (3, .ref (a.1 2)), (2, .int 0), (0, .ref (a.1 0)), (1, .int p1)]) hx hb dX3_atWork_27 hl (by decide) rfl (fun ls hl => ?_)
    exact k_X3_atWork_29 hl0 hx hb hr hts hml hown hlocks hK hP hD hN _ _ p1 0 40 0  ls h (lv_sub hl [5, 3, 2, 1, 0] rfl)
  · replace h := oi_t c_3 h
    have h9 := Option.some.inj h
    subst h9
    exact vx_throw0 hx hb hl0 hown (by decide) (by decide) (hts _ (List.mem_of_getElem? (i := 1) rfl)) (hts _ (List.mem_of_getElem? (i := 2) rfl)) (vx_hat (fun w h9 => hts w (List.mem_cons_of_mem _ (List.mem_append_right _ h9))) (by decide +kernel) (xNB_1 hN.1 _)) (by decide +kernel) hN.2.1 hN.2.2.1 va_S.rf (hl.1.trans hml.symm) dX3_atWork_7 dX3_atWork_10 dX3_atWork_11 dX3_atWork_14 (fun z hz => (hN.2.2.2 z hz).elim) (Nat.le_of_ble_eq_true rfl) (Nat.le_of_ble_eq_true rfl) (Nat.le_of_ble_eq_true rfl) (Nat.le_of_ble_eq_true rfl) hlocks (fun t hvm hz hk => ⟨(), trivial, ⟨rfl, (show (1 : Nat) ≠ 0 by decide), zP_kept hP hk, hD⟩, zF_kept va_S.rf hz hk⟩) (fun _ hq => absurd hq List.not_mem_nil) (Nat.le_of_ble_eq_true rfl) (Nat.le_of_ble_eq_true rfl)
def f_X3_airAt (n : Nat → Nat) (V : XV) (p1 : Int32) : Option (Nat × Int64) := ob (f_X3_isMinute p1) (fun u_1 => oi (u_1 = 0) (some (1, 0)) (ob (f_X3_airInMinute n V p1) (fun u_4 => some (0, u_4))))
theorem hd_X3_airAt : yX3_airAt.cls = RX3 ∧ yX3_airAt.cls ≠ "java/lang/invoke/MethodHandle" ∧ yX3_airAt.cls ≠ "java/lang/invoke/VarHandle" ∧ (parseMethodDescriptor yX3_airAt.desc).map (fun d => d.parameters.length) = some 1 := by decide +kernel
set_option maxHeartbeats 4000000 in
set_option maxRecDepth 100000 in
theorem c_X3_airAt (l : Launch) (hl0 : l.stackTraces = false) (D : va_G) (cy : Nat → ClassId) (a : XA) (n : Nat → Nat) (V : XV) (sz : Nat) (p1 : Int32) {res : Nat × Int64} (h : f_X3_airAt n V p1 = some res) : vx_Met l yX3_airAt wsX3_airAt ({ frames := 7, cells := 1, slots := 6, locals := 120 } : Room) (va_Pc [.ref (a.1 0), .int p1] (zX sz (va_A (xW cy a n V) sz) (xI D cy a n V))) (va_Ql (fun r (_ : Unit) => res.1 = 0 ∧ r = res.2) (fun _ t => va_P D xcl (xW cy a n V) t.heap ∧ va_D (va_A (xW cy a n V) sz) (xW cy a n V)) (va_A (xW cy a n V) sz)) (vx_X (fun (_ : Unit) => True) (fun E _ t => E = xnm res.1 ∧ res.1 ≠ 0 ∧ va_P D xcl (xW cy a n V) t.heap ∧ va_D (va_A (xW cy a n V) sz) (xW cy a n V)) (va_A (xW cy a n V) sz)) 1 6 (va_A (xW cy a n V) sz) := by
  refine vx_ofW (cc := cX3_airAt) (maxL := 2) (ret := (some .long)) (by decide) rfl ?_
  intro p e s m args below meth c s₁ B hml hex hv
  obtain ⟨rfl, hsz, hZ, hP, hK, hD0⟩ := hv
  have hx := B.exec
  have hb := B.bytes
  have hr := B.returns
  have hts := atoms_spec (ws := wsX3_airAt) B.pre
  have hown : s.vm.findClass RX3 = some m.cls := findClass_of_methodNamed B.named
  have hlocks := B.notSynchronized
  subst hsz
  have hD := hD0.self (sz := s.heap.size)
  have hN : zN (va_A (xW cy a n V) s.heap.size) c s := ⟨hZ.1, hZ.2.1, hZ.2.2, hex⟩
  generalize hAe : va_A (xW cy a n V) s.heap.size = A at hD hN ⊢
  have hA : ∀ q : Nat, s.heap.size ≤ q → A q := fun q h => by rw [← hAe]; exact Or.inr h
  have hl := lv_entry ([.ref (a.1 0), .int p1]) (n := 2) (Nat.le_of_ble_eq_true rfl)
  rw [lg_entry_eq]
  generalize (lg_sl ([.ref (a.1 0), .int p1]) ++ List.replicate (2 - (lg_sl ([.ref (a.1 0), .int p1])).length) Slot.unset).toArray = ls at hl ⊢
  have hl : lv_has ls 2 [(0, .ref (a.1 0)), (1, .int p1)] := hl
  refine lv_iload_n hx hb dX3_airAt_0 rfl (lv_at hl 1 rfl) ?_
  obtain ⟨u_1, hg_2, h⟩ := ob_some h
  refine zcSi (W.runS (As := [.int p1]) (rest := []) ⟨hx, hb, hml, hown, hts⟩ (c_X3_isMinute l p1 hg_2) (va_cwS 1 hts gX3_airAt_X3_isMinute rfl rfl rfl hd_X3_isMinute ⟨Nat.le_of_ble_eq_true rfl, Nat.le_of_ble_eq_true rfl⟩) ⟨zT_blind, zT_at⟩ rfl rfl hl.1 rfl (lv_room (Nat.le_of_ble_eq_true rfl)) dX3_airAt_1 ⟨Nat.le_of_ble_eq_true rfl, Nat.le_of_ble_eq_true rfl⟩) ?_
  refine lv_if_ne (tgt := 15) hx hb dX3_airAt_4 (by decide) (fun c_3 => ?_) (fun c_3 => ?_)
  · replace h := oi_f c_3 h
    refine lv_aload_n hx hb dX3_airAt_15 rfl (lv_at hl 0 rfl) ?_
    refine lv_iload_n hx hb dX3_airAt_16 rfl (lv_at hl 1 rfl) ?_
    obtain ⟨u_4, hg_5, h⟩ := ob_some h
    refine zcSl (W.runV (As := [.int p1]) (rest := []) ⟨hx, hb, hml, hown, hts⟩ (c_X3_airInMinute l D cy a n V p1 hg_5) (cwV 1 hts gX3_airAt_X3_airInMinute rfl rfl rfl hd_X3_airInMinute ⟨Nat.le_of_ble_eq_true rfl, Nat.le_of_ble_eq_true rfl⟩) ⟨xI_blind, va_recv hK hP (ci := 3) (q0 := 0) rfl rfl, (xI_at hP hK hD)⟩ rfl rfl hl.1 rfl (lv_room (Nat.le_of_ble_eq_true rfl)) dX3_airAt_17 ⟨Nat.le_of_ble_eq_true rfl, Nat.le_of_ble_eq_true rfl⟩) ?_
    have h9 := Option.some.inj h
    subst h9
    refine vx_ret ?_
    refine W.widen (k := 1) (n := 6) (Nat.le_of_ble_eq_true rfl) (Nat.le_of_ble_eq_true rfl) ?_
    exact W.lret (v := u_4) hx hb hr (fun t ht hW => ⟨⟨u_4, (), rfl, ⟨rfl, rfl⟩, ⟨by rw [ht]; exact hP, hD⟩⟩, va_S.rf.F ht⟩) (fun _ hq => absurd hq List.not_mem_nil) dX3_airAt_20 hlocks
  · replace h := oi_t c_3 h
    have h9 := Option.some.inj h
    subst h9
    exact vx_throw0 hx hb hl0 hown (by decide) (by decide) (hts _ (List.mem_of_getElem? (i := 1) rfl)) (hts _ (List.mem_of_getElem? (i := 2) rfl)) (vx_hat (fun w h9 => hts w (List.mem_cons_of_mem _ (List.mem_append_right _ h9))) (by decide +kernel) (xNB_1 hN.1 _)) (by decide +kernel) hN.2.1 hN.2.2.1 va_S.rf (hl.1.trans hml.symm) dX3_airAt_7 dX3_airAt_10 dX3_airAt_11 dX3_airAt_14 (fun z hz => (hN.2.2.2 z hz).elim) (Nat.le_of_ble_eq_true rfl) (Nat.le_of_ble_eq_true rfl) (Nat.le_of_ble_eq_true rfl) (Nat.le_of_ble_eq_true rfl) hlocks (fun t hvm hz hk => ⟨(), trivial, ⟨rfl, (show (1 : Nat) ≠ 0 by decide), zP_kept hP hk, hD⟩, zF_kept va_S.rf hz hk⟩) (fun _ hq => absurd hq List.not_mem_nil) (Nat.le_of_ble_eq_true rfl) (Nat.le_of_ble_eq_true rfl)
def f_X3_squaresAt (n : Nat → Nat) (V : XV) (p1 : Int32) : Option (Nat × Int32) := ob (f_X3_isMinute p1) (fun u_1 => oi (u_1 = 0) (some (1, 0)) (ob (f_X3_airInMinute n V p1) (fun u_4 => ob (f_J13_bitCount_95d88 u_4) (fun u_6 => some (0, u_6)))))
theorem hd_X3_squaresAt : yX3_squaresAt.cls = RX3 ∧ yX3_squaresAt.cls ≠ "java/lang/invoke/MethodHandle" ∧ yX3_squaresAt.cls ≠ "java/lang/invoke/VarHandle" ∧ (parseMethodDescriptor yX3_squaresAt.desc).map (fun d => d.parameters.length) = some 1 := by decide +kernel
set_option maxHeartbeats 4000000 in
set_option maxRecDepth 100000 in
theorem c_X3_squaresAt (l : Launch) (hl0 : l.stackTraces = false) (D : va_G) (cy : Nat → ClassId) (a : XA) (n : Nat → Nat) (V : XV) (sz : Nat) (p1 : Int32) {res : Nat × Int32} (h : f_X3_squaresAt n V p1 = some res) : vx_Met l yX3_squaresAt wsX3_squaresAt ({ frames := 7, cells := 1, slots := 6, locals := 120 } : Room) (va_Pc [.ref (a.1 0), .int p1] (zX sz (va_A (xW cy a n V) sz) (xI D cy a n V))) (va_Qi (fun r (_ : Unit) => res.1 = 0 ∧ r = res.2) (fun _ t => va_P D xcl (xW cy a n V) t.heap ∧ va_D (va_A (xW cy a n V) sz) (xW cy a n V)) (va_A (xW cy a n V) sz)) (vx_X (fun (_ : Unit) => True) (fun E _ t => E = xnm res.1 ∧ res.1 ≠ 0 ∧ va_P D xcl (xW cy a n V) t.heap ∧ va_D (va_A (xW cy a n V) sz) (xW cy a n V)) (va_A (xW cy a n V) sz)) 1 6 (va_A (xW cy a n V) sz) := by
  refine vx_ofW (cc := cX3_squaresAt) (maxL := 2) (ret := (some .int)) (by decide) rfl ?_
  intro p e s m args below meth c s₁ B hml hex hv
  obtain ⟨rfl, hsz, hZ, hP, hK, hD0⟩ := hv
  have hx := B.exec
  have hb := B.bytes
  have hr := B.returns
  have hts := atoms_spec (ws := wsX3_squaresAt) B.pre
  have hown : s.vm.findClass RX3 = some m.cls := findClass_of_methodNamed B.named
  have hlocks := B.notSynchronized
  subst hsz
  have hD := hD0.self (sz := s.heap.size)
  have hN : zN (va_A (xW cy a n V) s.heap.size) c s := ⟨hZ.1, hZ.2.1, hZ.2.2, hex⟩
  generalize hAe : va_A (xW cy a n V) s.heap.size = A at hD hN ⊢
  have hA : ∀ q : Nat, s.heap.size ≤ q → A q := fun q h => by rw [← hAe]; exact Or.inr h
  have hl := lv_entry ([.ref (a.1 0), .int p1]) (n := 2) (Nat.le_of_ble_eq_true rfl)
  rw [lg_entry_eq]
  generalize (lg_sl ([.ref (a.1 0), .int p1]) ++ List.replicate (2 - (lg_sl ([.ref (a.1 0), .int p1])).length) Slot.unset).toArray = ls at hl ⊢
  have hl : lv_has ls 2 [(0, .ref (a.1 0)), (1, .int p1)] := hl
  refine lv_iload_n hx hb dX3_squaresAt_0 rfl (lv_at hl 1 rfl) ?_
  obtain ⟨u_1, hg_2, h⟩ := ob_some h
  refine zcSi (W.runS (As := [.int p1]) (rest := []) ⟨hx, hb, hml, hown, hts⟩ (c_X3_isMinute l p1 hg_2) (va_cwS 1 hts gX3_squaresAt_X3_isMinute rfl rfl rfl hd_X3_isMinute ⟨Nat.le_of_ble_eq_true rfl, Nat.le_of_ble_eq_true rfl⟩) ⟨zT_blind, zT_at⟩ rfl rfl hl.1 rfl (lv_room (Nat.le_of_ble_eq_true rfl)) dX3_squaresAt_1 ⟨Nat.le_of_ble_eq_true rfl, Nat.le_of_ble_eq_true rfl⟩) ?_
  refine lv_if_ne (tgt := 15) hx hb dX3_squaresAt_4 (by decide) (fun c_3 => ?_) (fun c_3 => ?_)
  · replace h := oi_f c_3 h
    refine lv_aload_n hx hb dX3_squaresAt_15 rfl (lv_at hl 0 rfl) ?_
    refine lv_iload_n hx hb dX3_squaresAt_16 rfl (lv_at hl 1 rfl) ?_
    obtain ⟨u_4, hg_5, h⟩ := ob_some h
    refine zcSl (W.runV (As := [.int p1]) (rest := []) ⟨hx, hb, hml, hown, hts⟩ (c_X3_airInMinute l D cy a n V p1 hg_5) (cwV 1 hts gX3_squaresAt_X3_airInMinute rfl rfl rfl hd_X3_airInMinute ⟨Nat.le_of_ble_eq_true rfl, Nat.le_of_ble_eq_true rfl⟩) ⟨xI_blind, va_recv hK hP (ci := 3) (q0 := 0) rfl rfl, (xI_at hP hK hD)⟩ rfl rfl hl.1 rfl (lv_room (Nat.le_of_ble_eq_true rfl)) dX3_squaresAt_17 ⟨Nat.le_of_ble_eq_true rfl, Nat.le_of_ble_eq_true rfl⟩) ?_
    obtain ⟨u_6, hg_7, h⟩ := ob_some h
    refine zcSi (W.runS (As := [.long (u_4)]) (rest := []) ⟨hx, hb, hml, hown, hts⟩ (c_J13_bitCount_95d88 l u_4 hg_7) (va_cwS 1 hts gX3_squaresAt_J13_bitCount_95d88 rfl rfl rfl hd_J13_bitCount_95d88 ⟨Nat.le_of_ble_eq_true rfl, Nat.le_of_ble_eq_true rfl⟩) ⟨zT_blind, zT_at⟩ rfl rfl hl.1 rfl (lv_room (Nat.le_of_ble_eq_true rfl)) dX3_squaresAt_20 ⟨Nat.le_of_ble_eq_true rfl, Nat.le_of_ble_eq_true rfl⟩) ?_
    have h9 := Option.some.inj h
    subst h9
    refine vx_ret ?_
    refine W.widen (k := 1) (n := 6) (Nat.le_of_ble_eq_true rfl) (Nat.le_of_ble_eq_true rfl) ?_
    exact W.iret (v := u_6) hx hb hr (fun t ht hW => ⟨⟨u_6, (), rfl, ⟨rfl, rfl⟩, ⟨by rw [ht]; exact hP, hD⟩⟩, va_S.rf.F ht⟩) (fun _ hq => absurd hq List.not_mem_nil) dX3_squaresAt_23 hlocks
  · replace h := oi_t c_3 h
    have h9 := Option.some.inj h
    subst h9
    exact vx_throw0 hx hb hl0 hown (by decide) (by decide) (hts _ (List.mem_of_getElem? (i := 1) rfl)) (hts _ (List.mem_of_getElem? (i := 2) rfl)) (vx_hat (fun w h9 => hts w (List.mem_cons_of_mem _ (List.mem_append_right _ h9))) (by decide +kernel) (xNB_1 hN.1 _)) (by decide +kernel) hN.2.1 hN.2.2.1 va_S.rf (hl.1.trans hml.symm) dX3_squaresAt_7 dX3_squaresAt_10 dX3_squaresAt_11 dX3_squaresAt_14 (fun z hz => (hN.2.2.2 z hz).elim) (Nat.le_of_ble_eq_true rfl) (Nat.le_of_ble_eq_true rfl) (Nat.le_of_ble_eq_true rfl) (Nat.le_of_ble_eq_true rfl) hlocks (fun t hvm hz hk => ⟨(), trivial, ⟨rfl, (show (1 : Nat) ≠ 0 by decide), zP_kept hP hk, hD⟩, zF_kept va_S.rf hz hk⟩) (fun _ hq => absurd hq List.not_mem_nil) (Nat.le_of_ble_eq_true rfl) (Nat.le_of_ble_eq_true rfl)
def f_X3_firstOf (n : Nat → Nat) (V : XV) (p1 : Int32) : Option (Nat × Int32) := ob (f_X3_pourNumbered n V p1) (fun u_1 => oc (n 2) u_1 (some (3, 0)) (fun k_3 => some (0, V.1 2 k_3 0)))
theorem hd_X3_firstOf : yX3_firstOf.cls = RX3 ∧ yX3_firstOf.cls ≠ "java/lang/invoke/MethodHandle" ∧ yX3_firstOf.cls ≠ "java/lang/invoke/VarHandle" ∧ (parseMethodDescriptor yX3_firstOf.desc).map (fun d => d.parameters.length) = some 1 := by decide +kernel
set_option maxHeartbeats 4000000 in
set_option maxRecDepth 100000 in
theorem c_X3_firstOf (l : Launch) (hl0 : l.stackTraces = false) (D : va_G) (cy : Nat → ClassId) (a : XA) (n : Nat → Nat) (V : XV) (sz : Nat) (p1 : Int32) {res : Nat × Int32} (h : f_X3_firstOf n V p1 = some res) : vx_Met l yX3_firstOf wsX3_firstOf ({ frames := 7, cells := 1, slots := 6, locals := 120 } : Room) (va_Pc [.ref (a.1 0), .int p1] (zX sz (va_A (xW cy a n V) sz) (xI D cy a n V))) (va_Qi (fun r (_ : Unit) => res.1 = 0 ∧ r = res.2) (fun _ t => va_P D xcl (xW cy a n V) t.heap ∧ va_D (va_A (xW cy a n V) sz) (xW cy a n V)) (va_A (xW cy a n V) sz)) (vx_X (fun (_ : Unit) => True) (fun E _ t => E = xnm res.1 ∧ res.1 ≠ 0 ∧ va_P D xcl (xW cy a n V) t.heap ∧ va_D (va_A (xW cy a n V) sz) (xW cy a n V)) (va_A (xW cy a n V) sz)) 1 6 (va_A (xW cy a n V) sz) := by
  refine vx_ofW (cc := cX3_firstOf) (maxL := 3) (ret := (some .int)) (by decide) rfl ?_
  intro p e s m args below meth c s₁ B hml hex hv
  obtain ⟨rfl, hsz, hZ, hP, hK, hD0⟩ := hv
  have hx := B.exec
  have hb := B.bytes
  have hr := B.returns
  have hts := atoms_spec (ws := wsX3_firstOf) B.pre
  have hown : s.vm.findClass RX3 = some m.cls := findClass_of_methodNamed B.named
  have hlocks := B.notSynchronized
  subst hsz
  have hD := hD0.self (sz := s.heap.size)
  have hN : zN (va_A (xW cy a n V) s.heap.size) c s := ⟨hZ.1, hZ.2.1, hZ.2.2, hex⟩
  generalize hAe : va_A (xW cy a n V) s.heap.size = A at hD hN ⊢
  have hA : ∀ q : Nat, s.heap.size ≤ q → A q := fun q h => by rw [← hAe]; exact Or.inr h
  have hl := lv_entry ([.ref (a.1 0), .int p1]) (n := 3) (Nat.le_of_ble_eq_true rfl)
  rw [lg_entry_eq]
  generalize (lg_sl ([.ref (a.1 0), .int p1]) ++ List.replicate (3 - (lg_sl ([.ref (a.1 0), .int p1])).length) Slot.unset).toArray = ls at hl ⊢
  have hl : lv_has ls 3 [(0, .ref (a.1 0)), (1, .int p1)] := hl
  have hinX2 : ∀ w ∈ wsX20, w ∈ wsX3_firstOf := (fun _ h => (List.mem_cons_of_mem _ (List.mem_append_left _ (List.mem_append_left _ (List.mem_append_right _ h)))))
  refine lv_aload_n hx hb dX3_firstOf_0 rfl (lv_at hl 0 rfl) ?_
  refine lv_iload_n hx hb dX3_firstOf_1 rfl (lv_at hl 1 rfl) ?_
  obtain ⟨u_1, hg_2, h⟩ := ob_some h
  rcases oc_some h with ⟨o_4, h⟩ | ⟨k_3, hk_3, o_4, h⟩
  · refine zcSqn (W.runV (As := [.int p1]) (rest := []) ⟨hx, hb, hml, hown, hts⟩ (c_X3_pourNumbered l D cy a n V p1 hg_2) (cwV 1 hts gX3_firstOf_X3_pourNumbered rfl rfl rfl hd_X3_pourNumbered ⟨Nat.le_of_ble_eq_true rfl, Nat.le_of_ble_eq_true rfl⟩) ⟨xI_blind, va_recv hK hP (ci := 3) (q0 := 0) rfl rfl, (xI_at hP hK hD)⟩ rfl rfl hl.1 rfl (lv_room (Nat.le_of_ble_eq_true rfl)) dX3_firstOf_2 ⟨Nat.le_of_ble_eq_true rfl, Nat.le_of_ble_eq_true rfl⟩) o_4 ?_
    refine lv_astore_nN (lv' := [(2, .null), (0, .ref (a.1 0)), (1, .int p1)]) hx hb dX3_firstOf_5 rfl hl (by decide) rfl (fun ls hl => ?_)
    refine lv_aload_nN hx hb dX3_firstOf_6 rfl (lv_at hl 0 rfl) ?_
    refine lv_ifnonnullN hx hb dX3_firstOf_7 ?_
    have h9 := Option.some.inj h
    subst h9
    exact vx_throw0 hx hb hl0 hown (by decide) (by decide) (hts _ (List.mem_of_getElem? (i := 1) rfl)) (hts _ (List.mem_of_getElem? (i := 2) rfl)) (vx_hat (fun w h9 => hts w (List.mem_cons_of_mem _ (List.mem_append_right _ h9))) (by decide +kernel) (xNB_3 hN.1 _)) (by decide +kernel) hN.2.1 hN.2.2.1 va_S.rf (hl.1.trans hml.symm) dX3_firstOf_10 dX3_firstOf_13 dX3_firstOf_14 dX3_firstOf_17 (fun z hz => (hN.2.2.2 z hz).elim) (Nat.le_of_ble_eq_true rfl) (Nat.le_of_ble_eq_true rfl) (Nat.le_of_ble_eq_true rfl) (Nat.le_of_ble_eq_true rfl) hlocks (fun t hvm hz hk => ⟨(), trivial, ⟨rfl, (show (3 : Nat) ≠ 0 by decide), zP_kept hP hk, hD⟩, zF_kept va_S.rf hz hk⟩) (fun _ hq => absurd hq List.not_mem_nil) (Nat.le_of_ble_eq_true rfl) (Nat.le_of_ble_eq_true rfl)
  · refine zcSqs (W.runV (As := [.int p1]) (rest := []) ⟨hx, hb, hml, hown, hts⟩ (c_X3_pourNumbered l D cy a n V p1 hg_2) (cwV 1 hts gX3_firstOf_X3_pourNumbered rfl rfl rfl hd_X3_pourNumbered ⟨Nat.le_of_ble_eq_true rfl, Nat.le_of_ble_eq_true rfl⟩) ⟨xI_blind, va_recv hK hP (ci := 3) (q0 := 0) rfl rfl, (xI_at hP hK hD)⟩ rfl rfl hl.1 rfl (lv_room (Nat.le_of_ble_eq_true rfl)) dX3_firstOf_2 ⟨Nat.le_of_ble_eq_true rfl, Nat.le_of_ble_eq_true rfl⟩) o_4 ?_
    refine lv_astore_n (lv' := [(2, .ref (a.2 2 k_3)), (0, .ref (a.1 0)), (1, .int p1)]) hx hb dX3_firstOf_5 rfl hl (by decide) rfl (fun ls hl => ?_)
    refine lv_aload_n hx hb dX3_firstOf_6 rfl (lv_at hl 0 rfl) ?_
    refine lv_ifnonnull (tgt := 18) hx hb dX3_firstOf_7 (by decide) ?_
    refine lv_aload_n hx hb dX3_firstOf_18 rfl (lv_at hl 0 rfl) ?_
    refine va_get (D := D) (ci := 2) (v := .int (V.1 2 k_3 0)) (C := RX2) (T := TX2) (N := 3) hx hb hts hinX2 hown hK hP _ (xpos_po hk_3) rfl 0 (by decide) (hts _ (List.mem_of_getElem? (i := 3) rfl)) (fun _ h9 => h9) rfl dX3_firstOf_19 ?_
    have h9 := Option.some.inj h
    subst h9
    refine vx_ret ?_
    refine W.widen (k := 1) (n := 6) (Nat.le_of_ble_eq_true rfl) (Nat.le_of_ble_eq_true rfl) ?_
    exact W.iret (v := V.1 2 k_3 0) hx hb hr (fun t ht hW => ⟨⟨V.1 2 k_3 0, (), rfl, ⟨rfl, rfl⟩, ⟨by rw [ht]; exact hP, hD⟩⟩, va_S.rf.F ht⟩) (fun _ hq => absurd hq List.not_mem_nil) dX3_firstOf_22 hlocks
def f_X3_loadsOf (n : Nat → Nat) (V : XV) (p1 : Int32) : Option (Nat × Int32) := ob (f_X3_pourNumbered n V p1) (fun u_1 => oc (n 2) u_1 (some (3, 0)) (fun k_3 => some (0, V.1 2 k_3 1)))
theorem hd_X3_loadsOf : yX3_loadsOf.cls = RX3 ∧ yX3_loadsOf.cls ≠ "java/lang/invoke/MethodHandle" ∧ yX3_loadsOf.cls ≠ "java/lang/invoke/VarHandle" ∧ (parseMethodDescriptor yX3_loadsOf.desc).map (fun d => d.parameters.length) = some 1 := by decide +kernel
set_option maxHeartbeats 4000000 in
set_option maxRecDepth 100000 in
theorem c_X3_loadsOf (l : Launch) (hl0 : l.stackTraces = false) (D : va_G) (cy : Nat → ClassId) (a : XA) (n : Nat → Nat) (V : XV) (sz : Nat) (p1 : Int32) {res : Nat × Int32} (h : f_X3_loadsOf n V p1 = some res) : vx_Met l yX3_loadsOf wsX3_loadsOf ({ frames := 7, cells := 1, slots := 6, locals := 120 } : Room) (va_Pc [.ref (a.1 0), .int p1] (zX sz (va_A (xW cy a n V) sz) (xI D cy a n V))) (va_Qi (fun r (_ : Unit) => res.1 = 0 ∧ r = res.2) (fun _ t => va_P D xcl (xW cy a n V) t.heap ∧ va_D (va_A (xW cy a n V) sz) (xW cy a n V)) (va_A (xW cy a n V) sz)) (vx_X (fun (_ : Unit) => True) (fun E _ t => E = xnm res.1 ∧ res.1 ≠ 0 ∧ va_P D xcl (xW cy a n V) t.heap ∧ va_D (va_A (xW cy a n V) sz) (xW cy a n V)) (va_A (xW cy a n V) sz)) 1 6 (va_A (xW cy a n V) sz) := by
  refine vx_ofW (cc := cX3_loadsOf) (maxL := 3) (ret := (some .int)) (by decide) rfl ?_
  intro p e s m args below meth c s₁ B hml hex hv
  obtain ⟨rfl, hsz, hZ, hP, hK, hD0⟩ := hv
  have hx := B.exec
  have hb := B.bytes
  have hr := B.returns
  have hts := atoms_spec (ws := wsX3_loadsOf) B.pre
  have hown : s.vm.findClass RX3 = some m.cls := findClass_of_methodNamed B.named
  have hlocks := B.notSynchronized
  subst hsz
  have hD := hD0.self (sz := s.heap.size)
  have hN : zN (va_A (xW cy a n V) s.heap.size) c s := ⟨hZ.1, hZ.2.1, hZ.2.2, hex⟩
  generalize hAe : va_A (xW cy a n V) s.heap.size = A at hD hN ⊢
  have hA : ∀ q : Nat, s.heap.size ≤ q → A q := fun q h => by rw [← hAe]; exact Or.inr h
  have hl := lv_entry ([.ref (a.1 0), .int p1]) (n := 3) (Nat.le_of_ble_eq_true rfl)
  rw [lg_entry_eq]
  generalize (lg_sl ([.ref (a.1 0), .int p1]) ++ List.replicate (3 - (lg_sl ([.ref (a.1 0), .int p1])).length) Slot.unset).toArray = ls at hl ⊢
  have hl : lv_has ls 3 [(0, .ref (a.1 0)), (1, .int p1)] := hl
  have hinX2 : ∀ w ∈ wsX20, w ∈ wsX3_loadsOf := (fun _ h => (List.mem_cons_of_mem _ (List.mem_append_left _ (List.mem_append_left _ (List.mem_append_right _ h)))))
  refine lv_aload_n hx hb dX3_loadsOf_0 rfl (lv_at hl 0 rfl) ?_
  refine lv_iload_n hx hb dX3_loadsOf_1 rfl (lv_at hl 1 rfl) ?_
  obtain ⟨u_1, hg_2, h⟩ := ob_some h
  rcases oc_some h with ⟨o_4, h⟩ | ⟨k_3, hk_3, o_4, h⟩
  · refine zcSqn (W.runV (As := [.int p1]) (rest := []) ⟨hx, hb, hml, hown, hts⟩ (c_X3_pourNumbered l D cy a n V p1 hg_2) (cwV 1 hts gX3_loadsOf_X3_pourNumbered rfl rfl rfl hd_X3_pourNumbered ⟨Nat.le_of_ble_eq_true rfl, Nat.le_of_ble_eq_true rfl⟩) ⟨xI_blind, va_recv hK hP (ci := 3) (q0 := 0) rfl rfl, (xI_at hP hK hD)⟩ rfl rfl hl.1 rfl (lv_room (Nat.le_of_ble_eq_true rfl)) dX3_loadsOf_2 ⟨Nat.le_of_ble_eq_true rfl, Nat.le_of_ble_eq_true rfl⟩) o_4 ?_
    refine lv_astore_nN (lv' := [(2, .null), (0, .ref (a.1 0)), (1, .int p1)]) hx hb dX3_loadsOf_5 rfl hl (by decide) rfl (fun ls hl => ?_)
    refine lv_aload_nN hx hb dX3_loadsOf_6 rfl (lv_at hl 0 rfl) ?_
    refine lv_ifnonnullN hx hb dX3_loadsOf_7 ?_
    have h9 := Option.some.inj h
    subst h9
    exact vx_throw0 hx hb hl0 hown (by decide) (by decide) (hts _ (List.mem_of_getElem? (i := 1) rfl)) (hts _ (List.mem_of_getElem? (i := 2) rfl)) (vx_hat (fun w h9 => hts w (List.mem_cons_of_mem _ (List.mem_append_right _ h9))) (by decide +kernel) (xNB_3 hN.1 _)) (by decide +kernel) hN.2.1 hN.2.2.1 va_S.rf (hl.1.trans hml.symm) dX3_loadsOf_10 dX3_loadsOf_13 dX3_loadsOf_14 dX3_loadsOf_17 (fun z hz => (hN.2.2.2 z hz).elim) (Nat.le_of_ble_eq_true rfl) (Nat.le_of_ble_eq_true rfl) (Nat.le_of_ble_eq_true rfl) (Nat.le_of_ble_eq_true rfl) hlocks (fun t hvm hz hk => ⟨(), trivial, ⟨rfl, (show (3 : Nat) ≠ 0 by decide), zP_kept hP hk, hD⟩, zF_kept va_S.rf hz hk⟩) (fun _ hq => absurd hq List.not_mem_nil) (Nat.le_of_ble_eq_true rfl) (Nat.le_of_ble_eq_true rfl)
  · refine zcSqs (W.runV (As := [.int p1]) (rest := []) ⟨hx, hb, hml, hown, hts⟩ (c_X3_pourNumbered l D cy a n V p1 hg_2) (cwV 1 hts gX3_loadsOf_X3_pourNumbered rfl rfl rfl hd_X3_pourNumbered ⟨Nat.le_of_ble_eq_true rfl, Nat.le_of_ble_eq_true rfl⟩) ⟨xI_blind, va_recv hK hP (ci := 3) (q0 := 0) rfl rfl, (xI_at hP hK hD)⟩ rfl rfl hl.1 rfl (lv_room (Nat.le_of_ble_eq_true rfl)) dX3_loadsOf_2 ⟨Nat.le_of_ble_eq_true rfl, Nat.le_of_ble_eq_true rfl⟩) o_4 ?_
    refine lv_astore_n (lv' := [(2, .ref (a.2 2 k_3)), (0, .ref (a.1 0)), (1, .int p1)]) hx hb dX3_loadsOf_5 rfl hl (by decide) rfl (fun ls hl => ?_)
    refine lv_aload_n hx hb dX3_loadsOf_6 rfl (lv_at hl 0 rfl) ?_
    refine lv_ifnonnull (tgt := 18) hx hb dX3_loadsOf_7 (by decide) ?_
    refine lv_aload_n hx hb dX3_loadsOf_18 rfl (lv_at hl 0 rfl) ?_
    refine va_get (D := D) (ci := 2) (v := .int (V.1 2 k_3 1)) (C := RX2) (T := TX2) (N := 3) hx hb hts hinX2 hown hK hP _ (xpos_po hk_3) rfl 1 (by decide) (hts _ (List.mem_of_getElem? (i := 3) rfl)) (fun _ h9 => h9) rfl dX3_loadsOf_19 ?_
    have h9 := Option.some.inj h
    subst h9
    refine vx_ret ?_
    refine W.widen (k := 1) (n := 6) (Nat.le_of_ble_eq_true rfl) (Nat.le_of_ble_eq_true rfl) ?_
    exact W.iret (v := V.1 2 k_3 1) hx hb hr (fun t ht hW => ⟨⟨V.1 2 k_3 1, (), rfl, ⟨rfl, rfl⟩, ⟨by rw [ht]; exact hP, hD⟩⟩, va_S.rf.F ht⟩) (fun _ hq => absurd hq List.not_mem_nil) dX3_loadsOf_22 hlocks
def f_X3_longestWait_41 (n : Nat → Nat) : XV → Nat → Nat → Int32 → Int32 → Option (Nat × Int32)
  | _, 0, _, _, _ => none
  | V, fu + 1, zx2, zx3, zx4 => oi ((V.1 2 zx2 1) ≤ zx4) (some (0, zx3)) (ob (f_X3_liftNumbered n V (((V.1 2 zx2 0) + zx4) - 1)) (fun u_9 => oc (n 1) u_9 (ob (f_X3_liftNumbered n V ((V.1 2 zx2 0) + zx4)) (fun u_13 => oc (n 1) u_13 (f_X3_longestWait_41 n V fu zx2 zx3 (zx4 + 1)) (fun k_15 => f_X3_longestWait_41 n V fu zx2 zx3 (zx4 + 1)))) (fun k_11 => ob (f_X3_liftNumbered n V ((V.1 2 zx2 0) + zx4)) (fun u_17 => oc (n 1) u_17 (f_X3_longestWait_41 n V fu zx2 zx3 (zx4 + 1)) (fun k_19 => ob (f_X1_end n V k_11) (fun u_21 => f_X3_longestWait_41 n V fu zx2 (if zx3 < ((V.1 1 k_19 10) - u_21) then ((V.1 1 k_19 10) - u_21) else zx3) (zx4 + 1)))))))
def f_X3_longestWait (n : Nat → Nat) (V : XV) (p1 : Int32) : Option (Nat × Int32) := ob (f_X3_pourNumbered n V p1) (fun u_1 => oc (n 2) u_1 (some (3, 0)) (fun k_3 => ob (f_X3_countOfPour n V p1 119) (fun u_5 => oi (u_5 ≤ 0) (f_X3_longestWait_41 n V FU k_3 0 1) (some (2, 0)))))
theorem hd_X3_longestWait : yX3_longestWait.cls = RX3 ∧ yX3_longestWait.cls ≠ "java/lang/invoke/MethodHandle" ∧ yX3_longestWait.cls ≠ "java/lang/invoke/VarHandle" ∧ (parseMethodDescriptor yX3_longestWait.desc).map (fun d => d.parameters.length) = some 1 := by decide +kernel
set_option maxHeartbeats 4000000 in
set_option maxRecDepth 100000 in
theorem k_X3_longestWait_41 {p : Program} {l : Launch} {e : Env} {s : State} {m : MethodId} {args : Array Value} {below : List Frame} {meth : Method} {c : Code} {D : va_G} {cy : Nat → ClassId} {a : XA} {n : Nat → Nat} {V : XV} {A : Nat → Prop} (hl0 : l.stackTraces = false) (hx : p.tables.exec = Jvm.exec) (hb : c.code = cX3_longestWait) (hr : meth.sig.returnType = (some .int)) (hts : ∀ w ∈ wsX3_longestWait, w.before args s = true) (hml : c.maxLocals = 7) (hown : s.vm.findClass RX3 = some m.cls) (hlocks : meth.locks = false) (hK : va_K D xcl (xty cy) s) (hP : va_P D xcl (xW cy a n V) s.heap) (hD : va_D A (xW cy a n V)) (hN : zN A c s) (res : Nat × Int32) : ∀ (fu : Nat) (zx2 : Nat) (zx3 : Int32) (zx4 : Int32) (hzx2 : zx2 < n 2) (ls : Array Slot), f_X3_longestWait_41 n V fu zx2 zx3 zx4 = some res → lv_has ls 7 [(0, .ref (a.1 0)), (2, .ref (a.2 2 zx2)), (3, .int zx3), (4, .int zx4)] → W p l e ({ frames := 7, cells := 1, slots := 6, locals := 120 } : Room) s m args below meth c s.heap [] 0 0 (vx_MQ below (va_Qi (fun r (_ : Unit) => res.1 = 0 ∧ r = res.2) (fun _ t => va_P D xcl (xW cy a n V) t.heap ∧ va_D A (xW cy a n V)) A) (vx_X (fun (_ : Unit) => True) (fun E _ t => E = xnm res.1 ∧ res.1 ≠ 0 ∧ va_P D xcl (xW cy a n V) t.heap ∧ va_D A (xW cy a n V)) A) args s 1 6 (A)) (F0 m 41 ls []) := by
  have hinX1 : ∀ w ∈ wsX10, w ∈ wsX3_longestWait := (fun _ h => (List.mem_cons_of_mem _ (List.mem_append_left _ (List.mem_append_left _ (List.mem_append_left _ (List.mem_append_right _ h))))))
  have hinX2 : ∀ w ∈ wsX20, w ∈ wsX3_longestWait := (fun _ h => (List.mem_cons_of_mem _ (List.mem_append_left _ (List.mem_append_left _ (List.mem_append_left _ (List.mem_append_left _ (List.mem_append_right _ h)))))))
  intro fu
  induction fu with
  | zero =>
    intro zx2 zx3 zx4 hzx2 ls h hl
    cases h
  | succ fu ih =>
    intro zx2 zx3 zx4 hzx2 ls h hl
    refine lv_iload hx hb dX3_longestWait_41 (lv_at hl 3 rfl) ?_
    refine lv_aload_n hx hb dX3_longestWait_43 rfl (lv_at hl 1 rfl) ?_
    refine va_get (D := D) (ci := 2) (v := .int (V.1 2 zx2 1)) (C := RX2) (T := TX2) (N := 3) hx hb hts hinX2 hown hK hP _ (xpos_po hzx2) rfl 1 (by decide) (hts _ (List.mem_of_getElem? (i := 5) rfl)) (fun _ h9 => h9) rfl dX3_longestWait_44 ?_
    refine lv_icmp_ge (tgt := 110) hx hb dX3_longestWait_47 (by decide) (fun c_8 => ?_) (fun c_8 => ?_)
    · replace h := oi_t c_8 h
      refine lv_iload_n hx hb dX3_longestWait_110 rfl (lv_at hl 2 rfl) ?_
      have h9 := Option.some.inj h
      subst h9
      refine vx_ret ?_
      refine W.widen (k := 1) (n := 6) (Nat.le_of_ble_eq_true rfl) (Nat.le_of_ble_eq_true rfl) ?_
      exact W.iret (v := zx3) hx hb hr (fun t ht hW => ⟨⟨zx3, (), rfl, ⟨rfl, rfl⟩, ⟨by rw [ht]; exact hP, hD⟩⟩, va_S.rf.F ht⟩) (fun _ hq => absurd hq List.not_mem_nil) dX3_longestWait_111 hlocks
    · replace h := oi_f c_8 h
      refine lv_aload_n hx hb dX3_longestWait_50 rfl (lv_at hl 0 rfl) ?_
      refine lv_aload_n hx hb dX3_longestWait_51 rfl (lv_at hl 1 rfl) ?_
      refine va_get (D := D) (ci := 2) (v := .int (V.1 2 zx2 0)) (C := RX2) (T := TX2) (N := 3) hx hb hts hinX2 hown hK hP _ (xpos_po hzx2) rfl 0 (by decide) (hts _ (List.mem_of_getElem? (i := 6) rfl)) (fun _ h9 => h9) rfl dX3_longestWait_52 ?_
      refine lv_iload hx hb dX3_longestWait_55 (lv_at hl 3 rfl) ?_
      refine lv_iadd hx hb dX3_longestWait_57 ?_
      refine lv_iconst (v := 1) hx hb dX3_longestWait_58 (by decide) ?_
      refine lv_isub hx hb dX3_longestWait_59 ?_
      obtain ⟨u_9, hg_10, h⟩ := ob_some h
      rcases oc_some h with ⟨o_12, h⟩ | ⟨k_11, hk_11, o_12, h⟩
      · refine zcSqn (W.runV (As := [.int (((V.1 2 zx2 0) + zx4) - 1)]) (rest := []) ⟨hx, hb, hml, hown, hts⟩ (c_X3_liftNumbered l D cy a n V (((V.1 2 zx2 0) + zx4) - 1) hg_10) (cwV 1 hts gX3_longestWait_X3_liftNumbered rfl rfl rfl hd_X3_liftNumbered ⟨Nat.le_of_ble_eq_true rfl, Nat.le_of_ble_eq_true rfl⟩) ⟨xI_blind, va_recv hK hP (ci := 3) (q0 := 0) rfl rfl, (xI_at hP hK hD)⟩ rfl rfl hl.1 rfl (lv_room (Nat.le_of_ble_eq_true rfl)) dX3_longestWait_60 ⟨Nat.le_of_ble_eq_true rfl, Nat.le_of_ble_eq_true rfl⟩) o_12 ?_
        refine lv_astoreN (lv' := [(5, .null), (0, .ref (a.1 0)), (2, .ref (a.2 2 zx2)), (3, .int zx3), (4, .int zx4)]) hx hb dX3_longestWait_63 hl (by decide) rfl (fun ls hl => ?_)
        refine lv_aload_n hx hb dX3_longestWait_65 rfl (lv_at hl 1 rfl) ?_
        refine lv_aload_n hx hb dX3_longestWait_66 rfl (lv_at hl 2 rfl) ?_
        refine va_get (D := D) (ci := 2) (v := .int (V.1 2 zx2 0)) (C := RX2) (T := TX2) (N := 3) hx hb hts hinX2 hown hK hP _ (xpos_po hzx2) rfl 0 (by decide) (hts _ (List.mem_of_getElem? (i := 6) rfl)) (fun _ h9 => h9) rfl dX3_longestWait_67 ?_
        refine lv_iload hx hb dX3_longestWait_70 (lv_at hl 4 rfl) ?_
        refine lv_iadd hx hb dX3_longestWait_72 ?_
        obtain ⟨u_13, hg_14, h⟩ := ob_some h
        rcases oc_some h with ⟨o_16, h⟩ | ⟨k_15, hk_15, o_16, h⟩
        · refine zcSqn (W.runV (As := [.int ((V.1 2 zx2 0) + zx4)]) (rest := []) ⟨hx, hb, hml, hown, hts⟩ (c_X3_liftNumbered l D cy a n V ((V.1 2 zx2 0) + zx4) hg_14) (cwV 1 hts gX3_longestWait_X3_liftNumbered rfl rfl rfl hd_X3_liftNumbered ⟨Nat.le_of_ble_eq_true rfl, Nat.le_of_ble_eq_true rfl⟩) ⟨xI_blind, va_recv hK hP (ci := 3) (q0 := 0) rfl rfl, (xI_at hP hK hD)⟩ rfl rfl hl.1 rfl (lv_room (Nat.le_of_ble_eq_true rfl)) dX3_longestWait_73 ⟨Nat.le_of_ble_eq_true rfl, Nat.le_of_ble_eq_true rfl⟩) o_16 ?_
          refine lv_astoreN (lv' := [(6, .null), (5, .null), (0, .ref (a.1 0)), (2, .ref (a.2 2 zx2)), (3, .int zx3), (4, .int zx4)]) hx hb dX3_longestWait_76 hl (by decide) rfl (fun ls hl => ?_)
          refine lv_aloadN hx hb dX3_longestWait_78 (lv_at hl 1 rfl) ?_
          refine lv_ifnullN (tgt := 104) hx hb dX3_longestWait_80 (by decide) ?_
          refine lv_iinc (v := zx4 + 1) (lv' := [(4, .int (zx4 + 1)), (6, .null), (5, .null), (0, .ref (a.1 0)), (2, .ref (a.2 2 zx2)), (3, .int zx3)]) hx hb dX3_longestWait_104 hl (k := 5) rfl rfl (by decide) rfl (fun ls hl => ?_)
          refine lv_goto (tgt := 41) hx hb dX3_longestWait_107 (by decide) ?_
          exact ih zx2 zx3 (zx4 + 1) hzx2 ls h (lv_sub hl [3, 4, 5, 0] rfl)
        · refine zcSqs (W.runV (As := [.int ((V.1 2 zx2 0) + zx4)]) (rest := []) ⟨hx, hb, hml, hown, hts⟩ (c_X3_liftNumbered l D cy a n V ((V.1 2 zx2 0) + zx4) hg_14) (cwV 1 hts gX3_longestWait_X3_liftNumbered rfl rfl rfl hd_X3_liftNumbered ⟨Nat.le_of_ble_eq_true rfl, Nat.le_of_ble_eq_true rfl⟩) ⟨xI_blind, va_recv hK hP (ci := 3) (q0 := 0) rfl rfl, (xI_at hP hK hD)⟩ rfl rfl hl.1 rfl (lv_room (Nat.le_of_ble_eq_true rfl)) dX3_longestWait_73 ⟨Nat.le_of_ble_eq_true rfl, Nat.le_of_ble_eq_true rfl⟩) o_16 ?_
          refine lv_astore (lv' := [(6, .ref (a.2 1 k_15)), (5, .null), (0, .ref (a.1 0)), (2, .ref (a.2 2 zx2)), (3, .int zx3), (4, .int zx4)]) hx hb dX3_longestWait_76 hl (by decide) rfl (fun ls hl => ?_)
          refine lv_aloadN hx hb dX3_longestWait_78 (lv_at hl 1 rfl) ?_
          refine lv_ifnullN (tgt := 104) hx hb dX3_longestWait_80 (by decide) ?_
          refine lv_iinc (v := zx4 + 1) (lv' := [(4, .int (zx4 + 1)), (6, .ref (a.2 1 k_15)), (5, .null), (0, .ref (a.1 0)), (2, .ref (a.2 2 zx2)), (3, .int zx3)]) hx hb dX3_longestWait_104 hl (k := 5) rfl rfl (by decide) rfl (fun ls hl => ?_)
          refine lv_goto (tgt := 41) hx hb dX3_longestWait_107 (by decide) ?_
          exact ih zx2 zx3 (zx4 + 1) hzx2 ls h (lv_sub hl [3, 4, 5, 0] rfl)
      · refine zcSqs (W.runV (As := [.int (((V.1 2 zx2 0) + zx4) - 1)]) (rest := []) ⟨hx, hb, hml, hown, hts⟩ (c_X3_liftNumbered l D cy a n V (((V.1 2 zx2 0) + zx4) - 1) hg_10) (cwV 1 hts gX3_longestWait_X3_liftNumbered rfl rfl rfl hd_X3_liftNumbered ⟨Nat.le_of_ble_eq_true rfl, Nat.le_of_ble_eq_true rfl⟩) ⟨xI_blind, va_recv hK hP (ci := 3) (q0 := 0) rfl rfl, (xI_at hP hK hD)⟩ rfl rfl hl.1 rfl (lv_room (Nat.le_of_ble_eq_true rfl)) dX3_longestWait_60 ⟨Nat.le_of_ble_eq_true rfl, Nat.le_of_ble_eq_true rfl⟩) o_12 ?_
        refine lv_astore (lv' := [(5, .ref (a.2 1 k_11)), (0, .ref (a.1 0)), (2, .ref (a.2 2 zx2)), (3, .int zx3), (4, .int zx4)]) hx hb dX3_longestWait_63 hl (by decide) rfl (fun ls hl => ?_)
        refine lv_aload_n hx hb dX3_longestWait_65 rfl (lv_at hl 1 rfl) ?_
        refine lv_aload_n hx hb dX3_longestWait_66 rfl (lv_at hl 2 rfl) ?_
        refine va_get (D := D) (ci := 2) (v := .int (V.1 2 zx2 0)) (C := RX2) (T := TX2) (N := 3) hx hb hts hinX2 hown hK hP _ (xpos_po hzx2) rfl 0 (by decide) (hts _ (List.mem_of_getElem? (i := 6) rfl)) (fun _ h9 => h9) rfl dX3_longestWait_67 ?_
        refine lv_iload hx hb dX3_longestWait_70 (lv_at hl 4 rfl) ?_
        refine lv_iadd hx hb dX3_longestWait_72 ?_
        obtain ⟨u_17, hg_18, h⟩ := ob_some h
        rcases oc_some h with ⟨o_20, h⟩ | ⟨k_19, hk_19, o_20, h⟩
        · refine zcSqn (W.runV (As := [.int ((V.1 2 zx2 0) + zx4)]) (rest := []) ⟨hx, hb, hml, hown, hts⟩ (c_X3_liftNumbered l D cy a n V ((V.1 2 zx2 0) + zx4) hg_18) (cwV 1 hts gX3_longestWait_X3_liftNumbered rfl rfl rfl hd_X3_liftNumbered ⟨Nat.le_of_ble_eq_true rfl, Nat.le_of_ble_eq_true rfl⟩) ⟨xI_blind, va_recv hK hP (ci := 3) (q0 := 0) rfl rfl, (xI_at hP hK hD)⟩ rfl rfl hl.1 rfl (lv_room (Nat.le_of_ble_eq_true rfl)) dX3_longestWait_73 ⟨Nat.le_of_ble_eq_true rfl, Nat.le_of_ble_eq_true rfl⟩) o_20 ?_
          refine lv_astoreN (lv' := [(6, .null), (5, .ref (a.2 1 k_11)), (0, .ref (a.1 0)), (2, .ref (a.2 2 zx2)), (3, .int zx3), (4, .int zx4)]) hx hb dX3_longestWait_76 hl (by decide) rfl (fun ls hl => ?_)
          refine lv_aload hx hb dX3_longestWait_78 (lv_at hl 1 rfl) ?_
          refine lv_ifnull hx hb dX3_longestWait_80 ?_
          refine lv_aloadN hx hb dX3_longestWait_83 (lv_at hl 0 rfl) ?_
          refine lv_ifnullN (tgt := 104) hx hb dX3_longestWait_85 (by decide) ?_
          refine lv_iinc (v := zx4 + 1) (lv' := [(4, .int (zx4 + 1)), (6, .null), (5, .ref (a.2 1 k_11)), (0, .ref (a.1 0)), (2, .ref (a.2 2 zx2)), (3, .int zx3)]) hx hb dX3_longestWait_104 hl (k := 5) rfl rfl (by decide) rfl (fun ls hl => ?_)
          refine lv_goto (tgt := 41) hx hb dX3_longestWait_107 (by decide) ?_
          exact ih zx2 zx3 (zx4 + 1) hzx2 ls h (lv_sub hl [3, 4, 5, 0] rfl)
        · refine zcSqs (W.runV (As := [.int ((V.1 2 zx2 0) + zx4)]) (rest := []) ⟨hx, hb, hml, hown, hts⟩ (c_X3_liftNumbered l D cy a n V ((V.1 2 zx2 0) + zx4) hg_18) (cwV 1 hts gX3_longestWait_X3_liftNumbered rfl rfl rfl hd_X3_liftNumbered ⟨Nat.le_of_ble_eq_true rfl, Nat.le_of_ble_eq_true rfl⟩) ⟨xI_blind, va_recv hK hP (ci := 3) (q0 := 0) rfl rfl, (xI_at hP hK hD)⟩ rfl rfl hl.1 rfl (lv_room (Nat.le_of_ble_eq_true rfl)) dX3_longestWait_73 ⟨Nat.le_of_ble_eq_true rfl, Nat.le_of_ble_eq_true rfl⟩) o_20 ?_
          refine lv_astore (lv' := [(6, .ref (a.2 1 k_19)), (5, .ref (a.2 1 k_11)), (0, .ref (a.1 0)), (2, .ref (a.2 2 zx2)), (3, .int zx3), (4, .int zx4)]) hx hb dX3_longestWait_76 hl (by decide) rfl (fun ls hl => ?_)
          refine lv_aload hx hb dX3_longestWait_78 (lv_at hl 1 rfl) ?_
          refine lv_ifnull hx hb dX3_longestWait_80 ?_
          refine lv_aload hx hb dX3_longestWait_83 (lv_at hl 0 rfl) ?_
          refine lv_ifnull hx hb dX3_longestWait_85 ?_
          refine lv_iload_n hx hb dX3_longestWait_88 rfl (lv_at hl 4 rfl) ?_
          refine lv_aload hx hb dX3_longestWait_89 (lv_at hl 0 rfl) ?_
          refine va_get (D := D) (ci := 1) (v := .int (V.1 1 k_19 10)) (C := RX1) (T := TX1) (N := 11) hx hb hts hinX1 hown hK hP _ (xpos_li hk_19) rfl 10 (by decide) (hts _ (List.mem_of_getElem? (i := 7) rfl)) (fun _ h9 => h9) rfl dX3_longestWait_91 ?_
          refine lv_aload hx hb dX3_longestWait_94 (lv_at hl 1 rfl) ?_
          obtain ⟨u_21, hg_22, h⟩ := ob_some h
          refine zcSi (W.runV (As := []) (rest := [.int (V.1 1 k_19 10), .int zx3]) ⟨hx, hb, hml, hown, hts⟩ (c_X1_end l D cy a n V k_11 hk_11 hg_22) (cwV 0 hts gX3_longestWait_X1_end rfl rfl rfl hd_X1_end ⟨Nat.le_of_ble_eq_true rfl, Nat.le_of_ble_eq_true rfl⟩) ⟨xI_blind, va_recv hK hP (ci := 1) rfl (xpos_li hk_11), (xI_at hP hK hD)⟩ rfl rfl hl.1 rfl (lv_room (Nat.le_of_ble_eq_true rfl)) dX3_longestWait_96 ⟨Nat.le_of_ble_eq_true rfl, Nat.le_of_ble_eq_true rfl⟩) ?_
          refine lv_isub hx hb dX3_longestWait_99 ?_
          refine va_mmax hx hb (hml.trans hl.1.symm) hown (hts _ (List.mem_of_getElem? (i := 8) rfl)) (hts _ (List.mem_of_getElem? (i := 9) rfl)) (hts _ (List.mem_of_getElem? (i := 10) rfl)) (hts _ (List.mem_of_getElem? (i := 11) rfl)) (Nat.le_of_ble_eq_true rfl) (Nat.le_of_ble_eq_true rfl) (Nat.le_of_ble_eq_true rfl) (Nat.le_of_ble_eq_true rfl) dX3_longestWait_100 ?_
          refine lv_istore_n (lv' := [(3, .int (if zx3 < ((V.1 1 k_19 10) - u_21) then ((V.1 1 k_19 10) - u_21) else zx3)), (6, .ref (a.2 1 k_19)), (5, .ref (a.2 1 k_11)), (0, .ref (a.1 0)), (2, .ref (a.2 2 zx2)), (4, .int zx4)]) hx hb dX3_longestWait_103 rfl hl (by decide) rfl (fun ls hl => ?_)
          refine lv_iinc (v := zx4 + 1) (lv' := [(4, .int (zx4 + 1)), (3, .int (if zx3 < ((V.1 1 k_19 10) - u_21) then ((V.1 1 k_19 10) - u_21) else zx3)), (6, .ref (a.2 1 k_19)), (5, .ref (a.2 1 k_11)), (0, .ref (a.1 0)), (2, .ref (a.2 2 zx2))]) hx hb dX3_longestWait_104 hl (k := 5) rfl rfl (by decide) rfl (fun ls hl => ?_)
          refine lv_goto (tgt := 41) hx hb dX3_longestWait_107 (by decide) ?_
          exact ih zx2 (if zx3 < ((V.1 1 k_19 10) - u_21) then ((V.1 1 k_19 10) - u_21) else zx3) (zx4 + 1) hzx2 ls h (lv_sub hl [4, 5, 1, 0] rfl)
set_option maxHeartbeats 4000000 in
set_option maxRecDepth 100000 in
theorem c_X3_longestWait (l : Launch) (hl0 : l.stackTraces = false) (D : va_G) (cy : Nat → ClassId) (a : XA) (n : Nat → Nat) (V : XV) (sz : Nat) (p1 : Int32) {res : Nat × Int32} (h : f_X3_longestWait n V p1 = some res) : vx_Met l yX3_longestWait wsX3_longestWait ({ frames := 7, cells := 1, slots := 6, locals := 120 } : Room) (va_Pc [.ref (a.1 0), .int p1] (zX sz (va_A (xW cy a n V) sz) (xI D cy a n V))) (va_Qi (fun r (_ : Unit) => res.1 = 0 ∧ r = res.2) (fun _ t => va_P D xcl (xW cy a n V) t.heap ∧ va_D (va_A (xW cy a n V) sz) (xW cy a n V)) (va_A (xW cy a n V) sz)) (vx_X (fun (_ : Unit) => True) (fun E _ t => E = xnm res.1 ∧ res.1 ≠ 0 ∧ va_P D xcl (xW cy a n V) t.heap ∧ va_D (va_A (xW cy a n V) sz) (xW cy a n V)) (va_A (xW cy a n V) sz)) 1 6 (va_A (xW cy a n V) sz) := by
  refine vx_ofW (cc := cX3_longestWait) (maxL := 7) (ret := (some .int)) (by decide) rfl ?_
  intro p e s m args below meth c s₁ B hml hex hv
  obtain ⟨rfl, hsz, hZ, hP, hK, hD0⟩ := hv
  have hx := B.exec
  have hb := B.bytes
  have hr := B.returns
  have hts := atoms_spec (ws := wsX3_longestWait) B.pre
  have hown : s.vm.findClass RX3 = some m.cls := findClass_of_methodNamed B.named
  have hlocks := B.notSynchronized
  subst hsz
  have hD := hD0.self (sz := s.heap.size)
  have hN : zN (va_A (xW cy a n V) s.heap.size) c s := ⟨hZ.1, hZ.2.1, hZ.2.2, hex⟩
  generalize hAe : va_A (xW cy a n V) s.heap.size = A at hD hN ⊢
  have hA : ∀ q : Nat, s.heap.size ≤ q → A q := fun q h => by rw [← hAe]; exact Or.inr h
  have hl := lv_entry ([.ref (a.1 0), .int p1]) (n := 7) (Nat.le_of_ble_eq_true rfl)
  rw [lg_entry_eq]
  generalize (lg_sl ([.ref (a.1 0), .int p1]) ++ List.replicate (7 - (lg_sl ([.ref (a.1 0), .int p1])).length) Slot.unset).toArray = ls at hl ⊢
  have hl : lv_has ls 7 [(0, .ref (a.1 0)), (1, .int p1)] := hl
  refine lv_aload_n hx hb dX3_longestWait_0 rfl (lv_at hl 0 rfl) ?_
  refine lv_iload_n hx hb dX3_longestWait_1 rfl (lv_at hl 1 rfl) ?_
  obtain ⟨u_1, hg_2, h⟩ := ob_some h
  rcases oc_some h with ⟨o_4, h⟩ | ⟨k_3, hk_3, o_4, h⟩
  · refine zcSqn (W.runV (As := [.int p1]) (rest := []) ⟨hx, hb, hml, hown, hts⟩ (c_X3_pourNumbered l D cy a n V p1 hg_2) (cwV 1 hts gX3_longestWait_X3_pourNumbered rfl rfl rfl hd_X3_pourNumbered ⟨Nat.le_of_ble_eq_true rfl, Nat.le_of_ble_eq_true rfl⟩) ⟨xI_blind, va_recv hK hP (ci := 3) (q0 := 0) rfl rfl, (xI_at hP hK hD)⟩ rfl rfl hl.1 rfl (lv_room (Nat.le_of_ble_eq_true rfl)) dX3_longestWait_2 ⟨Nat.le_of_ble_eq_true rfl, Nat.le_of_ble_eq_true rfl⟩) o_4 ?_
    refine lv_astore_nN (lv' := [(2, .null), (0, .ref (a.1 0)), (1, .int p1)]) hx hb dX3_longestWait_5 rfl hl (by decide) rfl (fun ls hl => ?_)
    refine lv_aload_nN hx hb dX3_longestWait_6 rfl (lv_at hl 0 rfl) ?_
    refine lv_ifnonnullN hx hb dX3_longestWait_7 ?_
    have h9 := Option.some.inj h
    subst h9
    exact vx_throw0 hx hb hl0 hown (by decide) (by decide) (hts _ (List.mem_of_getElem? (i := 1) rfl)) (hts _ (List.mem_of_getElem? (i := 2) rfl)) (vx_hat (fun w h9 => hts w (List.mem_cons_of_mem _ (List.mem_append_left _ (List.mem_append_right _ h9)))) (by decide +kernel) (xNB_3 hN.1 _)) (by decide +kernel) hN.2.1 hN.2.2.1 va_S.rf (hl.1.trans hml.symm) dX3_longestWait_10 dX3_longestWait_13 dX3_longestWait_14 dX3_longestWait_17 (fun z hz => (hN.2.2.2 z hz).elim) (Nat.le_of_ble_eq_true rfl) (Nat.le_of_ble_eq_true rfl) (Nat.le_of_ble_eq_true rfl) (Nat.le_of_ble_eq_true rfl) hlocks (fun t hvm hz hk => ⟨(), trivial, ⟨rfl, (show (3 : Nat) ≠ 0 by decide), zP_kept hP hk, hD⟩, zF_kept va_S.rf hz hk⟩) (fun _ hq => absurd hq List.not_mem_nil) (Nat.le_of_ble_eq_true rfl) (Nat.le_of_ble_eq_true rfl)
  · refine zcSqs (W.runV (As := [.int p1]) (rest := []) ⟨hx, hb, hml, hown, hts⟩ (c_X3_pourNumbered l D cy a n V p1 hg_2) (cwV 1 hts gX3_longestWait_X3_pourNumbered rfl rfl rfl hd_X3_pourNumbered ⟨Nat.le_of_ble_eq_true rfl, Nat.le_of_ble_eq_true rfl⟩) ⟨xI_blind, va_recv hK hP (ci := 3) (q0 := 0) rfl rfl, (xI_at hP hK hD)⟩ rfl rfl hl.1 rfl (lv_room (Nat.le_of_ble_eq_true rfl)) dX3_longestWait_2 ⟨Nat.le_of_ble_eq_true rfl, Nat.le_of_ble_eq_true rfl⟩) o_4 ?_
    refine lv_astore_n (lv' := [(2, .ref (a.2 2 k_3)), (0, .ref (a.1 0)), (1, .int p1)]) hx hb dX3_longestWait_5 rfl hl (by decide) rfl (fun ls hl => ?_)
    refine lv_aload_n hx hb dX3_longestWait_6 rfl (lv_at hl 0 rfl) ?_
    refine lv_ifnonnull (tgt := 18) hx hb dX3_longestWait_7 (by decide) ?_
    refine lv_aload_n hx hb dX3_longestWait_18 rfl (lv_at hl 1 rfl) ?_
    refine lv_iload_n hx hb dX3_longestWait_19 rfl (lv_at hl 2 rfl) ?_
    refine lv_bipush (v := 119) hx hb dX3_longestWait_20 (by decide) ?_
    obtain ⟨u_5, hg_6, h⟩ := ob_some h
    refine zcSi (W.runV (As := [.int p1, .int 119]) (rest := []) ⟨hx, hb, hml, hown, hts⟩ (c_X3_countOfPour l D cy a n V p1 119 hg_6) (cwV 2 hts gX3_longestWait_X3_countOfPour rfl rfl rfl hd_X3_countOfPour ⟨Nat.le_of_ble_eq_true rfl, Nat.le_of_ble_eq_true rfl⟩) ⟨xI_blind, va_recv hK hP (ci := 3) (q0 := 0) rfl rfl, (xI_at hP hK hD)⟩ rfl rfl hl.1 rfl (lv_room (Nat.le_of_ble_eq_true rfl)) dX3_longestWait_22 ⟨Nat.le_of_ble_eq_true rfl, Nat.le_of_ble_eq_true rfl⟩) ?_
    refine lv_if_le (tgt := 36) hx hb dX3_longestWait_25 (by decide) (fun c_7 => ?_) (fun c_7 => ?_)
    · replace h := oi_t c_7 h
      refine lv_iconst (v := 0) hx hb dX3_longestWait_36 (by decide) ?_
      refine lv_istore_n (lv' := [(3, .int 0), (2, .ref (a.2 2 k_3)), (0, .ref (a.1 0)), (1, .int p1)]) hx hb dX3_longestWait_37 rfl hl (by decide) rfl (fun ls hl => ?_)
      refine lv_iconst (v := 1) hx hb dX3_longestWait_38 (by decide) ?_
      refine lv_istore (lv' := [(4, .int 1), (3, .int 0), (2, .ref (a.2 2 k_3)), (0, .ref (a.1 0)), (1, .int p1)]) hx hb dX3_longestWait_39 hl (by decide) rfl (fun ls hl => ?_)
      exact k_X3_longestWait_41 hl0 hx hb hr hts hml hown hlocks hK hP hD hN _ _ k_3 0 1 hk_3 ls h (lv_sub hl [3, 2, 1, 0] rfl)
    · replace h := oi_f c_7 h
      have h9 := Option.some.inj h
      subst h9
      exact vx_throw0 hx hb hl0 hown (by decide) (by decide) (hts _ (List.mem_of_getElem? (i := 3) rfl)) (hts _ (List.mem_of_getElem? (i := 4) rfl)) (vx_hat (fun w h9 => hts w (List.mem_cons_of_mem _ (List.mem_append_right _ h9))) (by decide +kernel) (xNB_2 hN.1 _)) (by decide +kernel) hN.2.1 hN.2.2.1 va_S.rf (hl.1.trans hml.symm) dX3_longestWait_28 dX3_longestWait_31 dX3_longestWait_32 dX3_longestWait_35 (fun z hz => (hN.2.2.2 z hz).elim) (Nat.le_of_ble_eq_true rfl) (Nat.le_of_ble_eq_true rfl) (Nat.le_of_ble_eq_true rfl) (Nat.le_of_ble_eq_true rfl) hlocks (fun t hvm hz hk => ⟨(), trivial, ⟨rfl, (show (2 : Nat) ≠ 0 by decide), zP_kept hP hk, hD⟩, zF_kept va_S.rf hz hk⟩) (fun _ hq => absurd hq List.not_mem_nil) (Nat.le_of_ble_eq_true rfl) (Nat.le_of_ble_eq_true rfl)
def f_X3_isBroken (n : Nat → Nat) (V : XV) (p1 : Int32) : Option (Nat × Int32) := ob (f_X3_pourNumbered n V p1) (fun u_1 => oc (n 2) u_1 (some (3, 0)) (fun k_3 => ob (f_X3_countOfPour n V p1 119) (fun u_5 => oi (u_5 ≤ 0) (some (0, 0)) (ob (f_X3_countOfPour n V p1 117) (fun u_8 => oi (0 < u_8) (some (0, 1)) (ob (f_X3_countOfPour n V p1 100) (fun u_11 => oi (u_11 ≤ 0) (some (0, 0)) (some (0, 1)))))))))
theorem hd_X3_isBroken : yX3_isBroken.cls = RX3 ∧ yX3_isBroken.cls ≠ "java/lang/invoke/MethodHandle" ∧ yX3_isBroken.cls ≠ "java/lang/invoke/VarHandle" ∧ (parseMethodDescriptor yX3_isBroken.desc).map (fun d => d.parameters.length) = some 1 := by decide +kernel
set_option maxHeartbeats 4000000 in
set_option maxRecDepth 100000 in
theorem c_X3_isBroken (l : Launch) (hl0 : l.stackTraces = false) (D : va_G) (cy : Nat → ClassId) (a : XA) (n : Nat → Nat) (V : XV) (sz : Nat) (p1 : Int32) {res : Nat × Int32} (h : f_X3_isBroken n V p1 = some res) : vx_Met l yX3_isBroken wsX3_isBroken ({ frames := 7, cells := 1, slots := 6, locals := 120 } : Room) (va_Pc [.ref (a.1 0), .int p1] (zX sz (va_A (xW cy a n V) sz) (xI D cy a n V))) (va_Qi (fun r (_ : Unit) => res.1 = 0 ∧ r = res.2) (fun _ t => va_P D xcl (xW cy a n V) t.heap ∧ va_D (va_A (xW cy a n V) sz) (xW cy a n V)) (va_A (xW cy a n V) sz)) (vx_X (fun (_ : Unit) => True) (fun E _ t => E = xnm res.1 ∧ res.1 ≠ 0 ∧ va_P D xcl (xW cy a n V) t.heap ∧ va_D (va_A (xW cy a n V) sz) (xW cy a n V)) (va_A (xW cy a n V) sz)) 1 6 (va_A (xW cy a n V) sz) := by
  refine vx_ofW (cc := cX3_isBroken) (maxL := 2) (ret := (some .boolean)) (by decide) rfl ?_
  intro p e s m args below meth c s₁ B hml hex hv
  obtain ⟨rfl, hsz, hZ, hP, hK, hD0⟩ := hv
  have hx := B.exec
  have hb := B.bytes
  have hr := B.returns
  have hts := atoms_spec (ws := wsX3_isBroken) B.pre
  have hown : s.vm.findClass RX3 = some m.cls := findClass_of_methodNamed B.named
  have hlocks := B.notSynchronized
  subst hsz
  have hD := hD0.self (sz := s.heap.size)
  have hN : zN (va_A (xW cy a n V) s.heap.size) c s := ⟨hZ.1, hZ.2.1, hZ.2.2, hex⟩
  generalize hAe : va_A (xW cy a n V) s.heap.size = A at hD hN ⊢
  have hA : ∀ q : Nat, s.heap.size ≤ q → A q := fun q h => by rw [← hAe]; exact Or.inr h
  have hl := lv_entry ([.ref (a.1 0), .int p1]) (n := 2) (Nat.le_of_ble_eq_true rfl)
  rw [lg_entry_eq]
  generalize (lg_sl ([.ref (a.1 0), .int p1]) ++ List.replicate (2 - (lg_sl ([.ref (a.1 0), .int p1])).length) Slot.unset).toArray = ls at hl ⊢
  have hl : lv_has ls 2 [(0, .ref (a.1 0)), (1, .int p1)] := hl
  refine lv_aload_n hx hb dX3_isBroken_0 rfl (lv_at hl 0 rfl) ?_
  refine lv_iload_n hx hb dX3_isBroken_1 rfl (lv_at hl 1 rfl) ?_
  obtain ⟨u_1, hg_2, h⟩ := ob_some h
  rcases oc_some h with ⟨o_4, h⟩ | ⟨k_3, hk_3, o_4, h⟩
  · refine zcSqn (W.runV (As := [.int p1]) (rest := []) ⟨hx, hb, hml, hown, hts⟩ (c_X3_pourNumbered l D cy a n V p1 hg_2) (cwV 1 hts gX3_isBroken_X3_pourNumbered rfl rfl rfl hd_X3_pourNumbered ⟨Nat.le_of_ble_eq_true rfl, Nat.le_of_ble_eq_true rfl⟩) ⟨xI_blind, va_recv hK hP (ci := 3) (q0 := 0) rfl rfl, (xI_at hP hK hD)⟩ rfl rfl hl.1 rfl (lv_room (Nat.le_of_ble_eq_true rfl)) dX3_isBroken_2 ⟨Nat.le_of_ble_eq_true rfl, Nat.le_of_ble_eq_true rfl⟩) o_4 ?_
    refine lv_ifnonnullN hx hb dX3_isBroken_5 ?_
    have h9 := Option.some.inj h
    subst h9
    exact vx_throw0 hx hb hl0 hown (by decide) (by decide) (hts _ (List.mem_of_getElem? (i := 1) rfl)) (hts _ (List.mem_of_getElem? (i := 2) rfl)) (vx_hat (fun w h9 => hts w (List.mem_cons_of_mem _ (List.mem_append_right _ h9))) (by decide +kernel) (xNB_3 hN.1 _)) (by decide +kernel) hN.2.1 hN.2.2.1 va_S.rf (hl.1.trans hml.symm) dX3_isBroken_8 dX3_isBroken_11 dX3_isBroken_12 dX3_isBroken_15 (fun z hz => (hN.2.2.2 z hz).elim) (Nat.le_of_ble_eq_true rfl) (Nat.le_of_ble_eq_true rfl) (Nat.le_of_ble_eq_true rfl) (Nat.le_of_ble_eq_true rfl) hlocks (fun t hvm hz hk => ⟨(), trivial, ⟨rfl, (show (3 : Nat) ≠ 0 by decide), zP_kept hP hk, hD⟩, zF_kept va_S.rf hz hk⟩) (fun _ hq => absurd hq List.not_mem_nil) (Nat.le_of_ble_eq_true rfl) (Nat.le_of_ble_eq_true rfl)
  · refine zcSqs (W.runV (As := [.int p1]) (rest := []) ⟨hx, hb, hml, hown, hts⟩ (c_X3_pourNumbered l D cy a n V p1 hg_2) (cwV 1 hts gX3_isBroken_X3_pourNumbered rfl rfl rfl hd_X3_pourNumbered ⟨Nat.le_of_ble_eq_true rfl, Nat.le_of_ble_eq_true rfl⟩) ⟨xI_blind, va_recv hK hP (ci := 3) (q0 := 0) rfl rfl, (xI_at hP hK hD)⟩ rfl rfl hl.1 rfl (lv_room (Nat.le_of_ble_eq_true rfl)) dX3_isBroken_2 ⟨Nat.le_of_ble_eq_true rfl, Nat.le_of_ble_eq_true rfl⟩) o_4 ?_
    refine lv_ifnonnull (tgt := 16) hx hb dX3_isBroken_5 (by decide) ?_
    refine lv_aload_n hx hb dX3_isBroken_16 rfl (lv_at hl 0 rfl) ?_
    refine lv_iload_n hx hb dX3_isBroken_17 rfl (lv_at hl 1 rfl) ?_
    refine lv_bipush (v := 119) hx hb dX3_isBroken_18 (by decide) ?_
    obtain ⟨u_5, hg_6, h⟩ := ob_some h
    refine zcSi (W.runV (As := [.int p1, .int 119]) (rest := []) ⟨hx, hb, hml, hown, hts⟩ (c_X3_countOfPour l D cy a n V p1 119 hg_6) (cwV 2 hts gX3_isBroken_X3_countOfPour rfl rfl rfl hd_X3_countOfPour ⟨Nat.le_of_ble_eq_true rfl, Nat.le_of_ble_eq_true rfl⟩) ⟨xI_blind, va_recv hK hP (ci := 3) (q0 := 0) rfl rfl, (xI_at hP hK hD)⟩ rfl rfl hl.1 rfl (lv_room (Nat.le_of_ble_eq_true rfl)) dX3_isBroken_20 ⟨Nat.le_of_ble_eq_true rfl, Nat.le_of_ble_eq_true rfl⟩) ?_
    refine lv_if_le (tgt := 50) hx hb dX3_isBroken_23 (by decide) (fun c_7 => ?_) (fun c_7 => ?_)
    · replace h := oi_t c_7 h
      refine lv_iconst (v := 0) hx hb dX3_isBroken_50 (by decide) ?_
      have h9 := Option.some.inj h
      subst h9
      refine vx_ret ?_
      refine W.widen (k := 1) (n := 6) (Nat.le_of_ble_eq_true rfl) (Nat.le_of_ble_eq_true rfl) ?_
      exact W.zret (v := 0) hx hb hr (by decide) (fun t ht hW => ⟨⟨0, (), rfl, ⟨rfl, rfl⟩, ⟨by rw [ht]; exact hP, hD⟩⟩, va_S.rf.F ht⟩) (fun _ hq => absurd hq List.not_mem_nil) dX3_isBroken_51 hlocks
    · replace h := oi_f c_7 h
      refine lv_aload_n hx hb dX3_isBroken_26 rfl (lv_at hl 0 rfl) ?_
      refine lv_iload_n hx hb dX3_isBroken_27 rfl (lv_at hl 1 rfl) ?_
      refine lv_bipush (v := 117) hx hb dX3_isBroken_28 (by decide) ?_
      obtain ⟨u_8, hg_9, h⟩ := ob_some h
      refine zcSi (W.runV (As := [.int p1, .int 117]) (rest := []) ⟨hx, hb, hml, hown, hts⟩ (c_X3_countOfPour l D cy a n V p1 117 hg_9) (cwV 2 hts gX3_isBroken_X3_countOfPour rfl rfl rfl hd_X3_countOfPour ⟨Nat.le_of_ble_eq_true rfl, Nat.le_of_ble_eq_true rfl⟩) ⟨xI_blind, va_recv hK hP (ci := 3) (q0 := 0) rfl rfl, (xI_at hP hK hD)⟩ rfl rfl hl.1 rfl (lv_room (Nat.le_of_ble_eq_true rfl)) dX3_isBroken_30 ⟨Nat.le_of_ble_eq_true rfl, Nat.le_of_ble_eq_true rfl⟩) ?_
      refine lv_if_gt (tgt := 46) hx hb dX3_isBroken_33 (by decide) (fun c_10 => ?_) (fun c_10 => ?_)
      · replace h := oi_t c_10 h
        refine lv_iconst (v := 1) hx hb dX3_isBroken_46 (by decide) ?_
        refine lv_goto (tgt := 51) hx hb dX3_isBroken_47 (by decide) ?_
        have h9 := Option.some.inj h
        subst h9
        refine vx_ret ?_
        refine W.widen (k := 1) (n := 6) (Nat.le_of_ble_eq_true rfl) (Nat.le_of_ble_eq_true rfl) ?_
        exact W.zret (v := 1) hx hb hr (by decide) (fun t ht hW => ⟨⟨1, (), rfl, ⟨rfl, rfl⟩, ⟨by rw [ht]; exact hP, hD⟩⟩, va_S.rf.F ht⟩) (fun _ hq => absurd hq List.not_mem_nil) dX3_isBroken_51 hlocks
      · replace h := oi_f c_10 h
        refine lv_aload_n hx hb dX3_isBroken_36 rfl (lv_at hl 0 rfl) ?_
        refine lv_iload_n hx hb dX3_isBroken_37 rfl (lv_at hl 1 rfl) ?_
        refine lv_bipush (v := 100) hx hb dX3_isBroken_38 (by decide) ?_
        obtain ⟨u_11, hg_12, h⟩ := ob_some h
        refine zcSi (W.runV (As := [.int p1, .int 100]) (rest := []) ⟨hx, hb, hml, hown, hts⟩ (c_X3_countOfPour l D cy a n V p1 100 hg_12) (cwV 2 hts gX3_isBroken_X3_countOfPour rfl rfl rfl hd_X3_countOfPour ⟨Nat.le_of_ble_eq_true rfl, Nat.le_of_ble_eq_true rfl⟩) ⟨xI_blind, va_recv hK hP (ci := 3) (q0 := 0) rfl rfl, (xI_at hP hK hD)⟩ rfl rfl hl.1 rfl (lv_room (Nat.le_of_ble_eq_true rfl)) dX3_isBroken_40 ⟨Nat.le_of_ble_eq_true rfl, Nat.le_of_ble_eq_true rfl⟩) ?_
        refine lv_if_le (tgt := 50) hx hb dX3_isBroken_43 (by decide) (fun c_13 => ?_) (fun c_13 => ?_)
        · replace h := oi_t c_13 h
          refine lv_iconst (v := 0) hx hb dX3_isBroken_50 (by decide) ?_
          have h9 := Option.some.inj h
          subst h9
          refine vx_ret ?_
          refine W.widen (k := 1) (n := 6) (Nat.le_of_ble_eq_true rfl) (Nat.le_of_ble_eq_true rfl) ?_
          exact W.zret (v := 0) hx hb hr (by decide) (fun t ht hW => ⟨⟨0, (), rfl, ⟨rfl, rfl⟩, ⟨by rw [ht]; exact hP, hD⟩⟩, va_S.rf.F ht⟩) (fun _ hq => absurd hq List.not_mem_nil) dX3_isBroken_51 hlocks
        · replace h := oi_f c_13 h
          refine lv_iconst (v := 1) hx hb dX3_isBroken_46 (by decide) ?_
          refine lv_goto (tgt := 51) hx hb dX3_isBroken_47 (by decide) ?_
          have h9 := Option.some.inj h
          subst h9
          refine vx_ret ?_
          refine W.widen (k := 1) (n := 6) (Nat.le_of_ble_eq_true rfl) (Nat.le_of_ble_eq_true rfl) ?_
          exact W.zret (v := 1) hx hb hr (by decide) (fun t ht hW => ⟨⟨1, (), rfl, ⟨rfl, rfl⟩, ⟨by rw [ht]; exact hP, hD⟩⟩, va_S.rf.F ht⟩) (fun _ hq => absurd hq List.not_mem_nil) dX3_isBroken_51 hlocks
def f_X3_minutesOf_30 (n : Nat → Nat) : XV → Nat → Int32 → Int32 → Int32 → Int32 → Option (Nat × Int32)
  | _, 0, _, _, _, _ => none
  | V, fu + 1, zx1, zx2, zx4, zx5 => oi (zx4 ≤ zx5) (some (0, zx2)) (og (¬ (zx5 < 0 ∨ 40 ≤ (zx5).toNatClampNeg)) (oc (n 1) (xref n 1 zx5) (f_X3_minutesOf_30 n V fu zx1 zx2 zx4 (zx5 + 1)) (fun k_7 => ob (f_X1_isOn n V k_7 zx1) (fun u_9 => oi (u_9 = 0) (f_X3_minutesOf_30 n V fu zx1 zx2 zx4 (zx5 + 1)) (f_X3_minutesOf_30 n V fu zx1 (zx2 + (V.1 1 k_7 5)) zx4 (zx5 + 1))))))
def f_X3_minutesOf (n : Nat → Nat) (V : XV) (p1 : Int32) : Option (Nat × Int32) := ob (f_X3_craneNumbered n V p1) (fun u_1 => oc (n 0) u_1 (some (3, 0)) (fun k_3 => f_X3_minutesOf_30 n V FU p1 0 40 0))
theorem hd_X3_minutesOf : yX3_minutesOf.cls = RX3 ∧ yX3_minutesOf.cls ≠ "java/lang/invoke/MethodHandle" ∧ yX3_minutesOf.cls ≠ "java/lang/invoke/VarHandle" ∧ (parseMethodDescriptor yX3_minutesOf.desc).map (fun d => d.parameters.length) = some 1 := by decide +kernel
set_option maxHeartbeats 4000000 in
set_option maxRecDepth 100000 in
theorem k_X3_minutesOf_30 {p : Program} {l : Launch} {e : Env} {s : State} {m : MethodId} {args : Array Value} {below : List Frame} {meth : Method} {c : Code} {D : va_G} {cy : Nat → ClassId} {a : XA} {n : Nat → Nat} {V : XV} {A : Nat → Prop} (hl0 : l.stackTraces = false) (hx : p.tables.exec = Jvm.exec) (hb : c.code = cX3_minutesOf) (hr : meth.sig.returnType = (some .int)) (hts : ∀ w ∈ wsX3_minutesOf, w.before args s = true) (hml : c.maxLocals = 7) (hown : s.vm.findClass RX3 = some m.cls) (hlocks : meth.locks = false) (hK : va_K D xcl (xty cy) s) (hP : va_P D xcl (xW cy a n V) s.heap) (hD : va_D A (xW cy a n V)) (hN : zN A c s) (res : Nat × Int32) : ∀ (fu : Nat) (zx1 : Int32) (zx2 : Int32) (zx4 : Int32) (zx5 : Int32)  (ls : Array Slot), f_X3_minutesOf_30 n V fu zx1 zx2 zx4 zx5 = some res → lv_has ls 7 [(1, .int zx1), (2, .int zx2), (3, .ref (a.1 2)), (4, .int zx4), (5, .int zx5)] → W p l e ({ frames := 7, cells := 1, slots := 6, locals := 120 } : Room) s m args below meth c s.heap [] 0 0 (vx_MQ below (va_Qi (fun r (_ : Unit) => res.1 = 0 ∧ r = res.2) (fun _ t => va_P D xcl (xW cy a n V) t.heap ∧ va_D A (xW cy a n V)) A) (vx_X (fun (_ : Unit) => True) (fun E _ t => E = xnm res.1 ∧ res.1 ≠ 0 ∧ va_P D xcl (xW cy a n V) t.heap ∧ va_D A (xW cy a n V)) A) args s 1 6 (A)) (F0 m 30 ls []) := by
  have hinX1 : ∀ w ∈ wsX10, w ∈ wsX3_minutesOf := (fun _ h => (List.mem_cons_of_mem _ (List.mem_append_left _ (List.mem_append_right _ h))))
  intro fu
  induction fu with
  | zero =>
    intro zx1 zx2 zx4 zx5  ls h hl
    cases h
  | succ fu ih =>
    intro zx1 zx2 zx4 zx5  ls h hl
    refine lv_iload hx hb dX3_minutesOf_30 (lv_at hl 4 rfl) ?_
    refine lv_iload hx hb dX3_minutesOf_32 (lv_at hl 3 rfl) ?_
    refine lv_icmp_ge (tgt := 71) hx hb dX3_minutesOf_34 (by decide) (fun c_5 => ?_) (fun c_5 => ?_)
    · replace h := oi_t c_5 h
      refine lv_iload_n hx hb dX3_minutesOf_71 rfl (lv_at hl 1 rfl) ?_
      have h9 := Option.some.inj h
      subst h9
      refine vx_ret ?_
      refine W.widen (k := 1) (n := 6) (Nat.le_of_ble_eq_true rfl) (Nat.le_of_ble_eq_true rfl) ?_
      exact W.iret (v := zx2) hx hb hr (fun t ht hW => ⟨⟨zx2, (), rfl, ⟨rfl, rfl⟩, ⟨by rw [ht]; exact hP, hD⟩⟩, va_S.rf.F ht⟩) (fun _ hq => absurd hq List.not_mem_nil) dX3_minutesOf_72 hlocks
    · replace h := oi_f c_5 h
      refine lv_aload_n hx hb dX3_minutesOf_37 rfl (lv_at hl 2 rfl) ?_
      refine lv_iload hx hb dX3_minutesOf_38 (lv_at hl 4 rfl) ?_
      obtain ⟨g_6, h⟩ := og_some h
      rcases oc_some h with ⟨o_8, h⟩ | ⟨k_7, hk_7, o_8, h⟩
      · refine zaldn hx hb hK hP 2 5 rfl rfl g_6 o_8 dX3_minutesOf_40 ?_
        refine lv_astoreN (lv' := [(6, .null), (1, .int zx1), (2, .int zx2), (3, .ref (a.1 2)), (4, .int zx4), (5, .int zx5)]) hx hb dX3_minutesOf_41 hl (by decide) rfl (fun ls hl => ?_)
        refine lv_aloadN hx hb dX3_minutesOf_43 (lv_at hl 0 rfl) ?_
        refine lv_ifnullN (tgt := 65) hx hb dX3_minutesOf_45 (by decide) ?_
        refine lv_iinc (v := zx5 + 1) (lv' := [(5, .int (zx5 + 1)), (6, .null), (1, .int zx1), (2, .int zx2), (3, .ref (a.1 2)), (4, .int zx4)]) hx hb dX3_minutesOf_65 hl (k := 5) rfl rfl (by decide) rfl (fun ls hl => ?_)
        refine lv_goto (tgt := 30) hx hb dX3_minutesOf_68 (by decide) ?_
        exact ih zx1 zx2 zx4 (zx5 + 1)  ls h (lv_sub hl [2, 3, 4, 5, 0] rfl)
      · refine zalds hx hb hK hP 2 5 rfl rfl g_6 o_8 dX3_minutesOf_40 ?_
        refine lv_astore (lv' := [(6, .ref (a.2 1 k_7)), (1, .int zx1), (2, .int zx2), (3, .ref (a.1 2)), (4, .int zx4), (5, .int zx5)]) hx hb dX3_minutesOf_41 hl (by decide) rfl (fun ls hl => ?_)
        refine lv_aload hx hb dX3_minutesOf_43 (lv_at hl 0 rfl) ?_
        refine lv_ifnull hx hb dX3_minutesOf_45 ?_
        refine lv_aload hx hb dX3_minutesOf_48 (lv_at hl 0 rfl) ?_
        refine lv_iload_n hx hb dX3_minutesOf_50 rfl (lv_at hl 1 rfl) ?_
        obtain ⟨u_9, hg_10, h⟩ := ob_some h
        refine zcSi (W.runV (As := [.int zx1]) (rest := []) ⟨hx, hb, hml, hown, hts⟩ (c_X1_isOn l D cy a n V k_7 zx1 hk_7 hg_10) (cwV 1 hts gX3_minutesOf_X1_isOn rfl rfl rfl hd_X1_isOn ⟨Nat.le_of_ble_eq_true rfl, Nat.le_of_ble_eq_true rfl⟩) ⟨xI_blind, va_recv hK hP (ci := 1) rfl (xpos_li hk_7), (xI_at hP hK hD)⟩ rfl rfl hl.1 rfl (lv_room (Nat.le_of_ble_eq_true rfl)) dX3_minutesOf_51 ⟨Nat.le_of_ble_eq_true rfl, Nat.le_of_ble_eq_true rfl⟩) ?_
        refine lv_if_eq (tgt := 65) hx hb dX3_minutesOf_54 (by decide) (fun c_11 => ?_) (fun c_11 => ?_)
        · replace h := oi_t c_11 h
          refine lv_iinc (v := zx5 + 1) (lv' := [(5, .int (zx5 + 1)), (6, .ref (a.2 1 k_7)), (1, .int zx1), (2, .int zx2), (3, .ref (a.1 2)), (4, .int zx4)]) hx hb dX3_minutesOf_65 hl (k := 5) rfl rfl (by decide) rfl (fun ls hl => ?_)
          refine lv_goto (tgt := 30) hx hb dX3_minutesOf_68 (by decide) ?_
          exact ih zx1 zx2 zx4 (zx5 + 1)  ls h (lv_sub hl [2, 3, 4, 5, 0] rfl)
        · replace h := oi_f c_11 h
          refine lv_iload_n hx hb dX3_minutesOf_57 rfl (lv_at hl 2 rfl) ?_
          refine lv_aload hx hb dX3_minutesOf_58 (lv_at hl 0 rfl) ?_
          refine va_get (D := D) (ci := 1) (v := .int (V.1 1 k_7 5)) (C := RX1) (T := TX1) (N := 11) hx hb hts hinX1 hown hK hP _ (xpos_li hk_7) rfl 5 (by decide) (hts _ (List.mem_of_getElem? (i := 4) rfl)) (fun _ h9 => h9) rfl dX3_minutesOf_60 ?_
          refine lv_iadd hx hb dX3_minutesOf_63 ?_
          refine lv_istore_n (lv' := [(2, .int (zx2 + (V.1 1 k_7 5))), (6, .ref (a.2 1 k_7)), (1, .int zx1), (3, .ref (a.1 2)), (4, .int zx4), (5, .int zx5)]) hx hb dX3_minutesOf_64 rfl hl (by decide) rfl (fun ls hl => ?_)
          refine lv_iinc (v := zx5 + 1) (lv' := [(5, .int (zx5 + 1)), (2, .int (zx2 + (V.1 1 k_7 5))), (6, .ref (a.2 1 k_7)), (1, .int zx1), (3, .ref (a.1 2)), (4, .int zx4)]) hx hb dX3_minutesOf_65 hl (k := 5) rfl rfl (by decide) rfl (fun ls hl => ?_)
          refine lv_goto (tgt := 30) hx hb dX3_minutesOf_68 (by decide) ?_
          exact ih zx1 (zx2 + (V.1 1 k_7 5)) zx4 (zx5 + 1)  ls h (lv_sub hl [3, 1, 4, 5, 0] rfl)
set_option maxHeartbeats 4000000 in
set_option maxRecDepth 100000 in
theorem c_X3_minutesOf (l : Launch) (hl0 : l.stackTraces = false) (D : va_G) (cy : Nat → ClassId) (a : XA) (n : Nat → Nat) (V : XV) (sz : Nat) (p1 : Int32) {res : Nat × Int32} (h : f_X3_minutesOf n V p1 = some res) : vx_Met l yX3_minutesOf wsX3_minutesOf ({ frames := 7, cells := 1, slots := 6, locals := 120 } : Room) (va_Pc [.ref (a.1 0), .int p1] (zX sz (va_A (xW cy a n V) sz) (xI D cy a n V))) (va_Qi (fun r (_ : Unit) => res.1 = 0 ∧ r = res.2) (fun _ t => va_P D xcl (xW cy a n V) t.heap ∧ va_D (va_A (xW cy a n V) sz) (xW cy a n V)) (va_A (xW cy a n V) sz)) (vx_X (fun (_ : Unit) => True) (fun E _ t => E = xnm res.1 ∧ res.1 ≠ 0 ∧ va_P D xcl (xW cy a n V) t.heap ∧ va_D (va_A (xW cy a n V) sz) (xW cy a n V)) (va_A (xW cy a n V) sz)) 1 6 (va_A (xW cy a n V) sz) := by
  refine vx_ofW (cc := cX3_minutesOf) (maxL := 7) (ret := (some .int)) (by decide) rfl ?_
  intro p e s m args below meth c s₁ B hml hex hv
  obtain ⟨rfl, hsz, hZ, hP, hK, hD0⟩ := hv
  have hx := B.exec
  have hb := B.bytes
  have hr := B.returns
  have hts := atoms_spec (ws := wsX3_minutesOf) B.pre
  have hown : s.vm.findClass RX3 = some m.cls := findClass_of_methodNamed B.named
  have hlocks := B.notSynchronized
  subst hsz
  have hD := hD0.self (sz := s.heap.size)
  have hN : zN (va_A (xW cy a n V) s.heap.size) c s := ⟨hZ.1, hZ.2.1, hZ.2.2, hex⟩
  generalize hAe : va_A (xW cy a n V) s.heap.size = A at hD hN ⊢
  have hA : ∀ q : Nat, s.heap.size ≤ q → A q := fun q h => by rw [← hAe]; exact Or.inr h
  have hl := lv_entry ([.ref (a.1 0), .int p1]) (n := 7) (Nat.le_of_ble_eq_true rfl)
  rw [lg_entry_eq]
  generalize (lg_sl ([.ref (a.1 0), .int p1]) ++ List.replicate (7 - (lg_sl ([.ref (a.1 0), .int p1])).length) Slot.unset).toArray = ls at hl ⊢
  have hl : lv_has ls 7 [(0, .ref (a.1 0)), (1, .int p1)] := hl
  have hinX3 : ∀ w ∈ wsX30, w ∈ wsX3_minutesOf := (fun _ h => (List.mem_cons_of_mem _ (List.mem_append_left _ (List.mem_append_left _ (List.mem_append_right _ h)))))
  refine lv_aload_n hx hb dX3_minutesOf_0 rfl (lv_at hl 0 rfl) ?_
  refine lv_iload_n hx hb dX3_minutesOf_1 rfl (lv_at hl 1 rfl) ?_
  obtain ⟨u_1, hg_2, h⟩ := ob_some h
  rcases oc_some h with ⟨o_4, h⟩ | ⟨k_3, hk_3, o_4, h⟩
  · refine zcSqn (W.runV (As := [.int p1]) (rest := []) ⟨hx, hb, hml, hown, hts⟩ (c_X3_craneNumbered l D cy a n V p1 hg_2) (cwV 1 hts gX3_minutesOf_X3_craneNumbered rfl rfl rfl hd_X3_craneNumbered ⟨Nat.le_of_ble_eq_true rfl, Nat.le_of_ble_eq_true rfl⟩) ⟨xI_blind, va_recv hK hP (ci := 3) (q0 := 0) rfl rfl, (xI_at hP hK hD)⟩ rfl rfl hl.1 rfl (lv_room (Nat.le_of_ble_eq_true rfl)) dX3_minutesOf_2 ⟨Nat.le_of_ble_eq_true rfl, Nat.le_of_ble_eq_true rfl⟩) o_4 ?_
    refine lv_ifnonnullN hx hb dX3_minutesOf_5 ?_
    have h9 := Option.some.inj h
    subst h9
    exact vx_throw0 hx hb hl0 hown (by decide) (by decide) (hts _ (List.mem_of_getElem? (i := 1) rfl)) (hts _ (List.mem_of_getElem? (i := 2) rfl)) (vx_hat (fun w h9 => hts w (List.mem_cons_of_mem _ (List.mem_append_right _ h9))) (by decide +kernel) (xNB_3 hN.1 _)) (by decide +kernel) hN.2.1 hN.2.2.1 va_S.rf (hl.1.trans hml.symm) dX3_minutesOf_8 dX3_minutesOf_11 dX3_minutesOf_12 dX3_minutesOf_15 (fun z hz => (hN.2.2.2 z hz).elim) (Nat.le_of_ble_eq_true rfl) (Nat.le_of_ble_eq_true rfl) (Nat.le_of_ble_eq_true rfl) (Nat.le_of_ble_eq_true rfl) hlocks (fun t hvm hz hk => ⟨(), trivial, ⟨rfl, (show (3 : Nat) ≠ 0 by decide), zP_kept hP hk, hD⟩, zF_kept va_S.rf hz hk⟩) (fun _ hq => absurd hq List.not_mem_nil) (Nat.le_of_ble_eq_true rfl) (Nat.le_of_ble_eq_true rfl)
  · refine zcSqs (W.runV (As := [.int p1]) (rest := []) ⟨hx, hb, hml, hown, hts⟩ (c_X3_craneNumbered l D cy a n V p1 hg_2) (cwV 1 hts gX3_minutesOf_X3_craneNumbered rfl rfl rfl hd_X3_craneNumbered ⟨Nat.le_of_ble_eq_true rfl, Nat.le_of_ble_eq_true rfl⟩) ⟨xI_blind, va_recv hK hP (ci := 3) (q0 := 0) rfl rfl, (xI_at hP hK hD)⟩ rfl rfl hl.1 rfl (lv_room (Nat.le_of_ble_eq_true rfl)) dX3_minutesOf_2 ⟨Nat.le_of_ble_eq_true rfl, Nat.le_of_ble_eq_true rfl⟩) o_4 ?_
    refine lv_ifnonnull (tgt := 16) hx hb dX3_minutesOf_5 (by decide) ?_
    refine lv_iconst (v := 0) hx hb dX3_minutesOf_16 (by decide) ?_
    refine lv_istore_n (lv' := [(2, .int 0), (0, .ref (a.1 0)), (1, .int p1)]) hx hb dX3_minutesOf_17 rfl hl (by decide) rfl (fun ls hl => ?_)
    refine lv_aload_n hx hb dX3_minutesOf_18 rfl (lv_at hl 1 rfl) ?_
    refine va_get (D := D) (ci := 3) (v := .ref (a.1 2)) (C := RX3) (T := TX3) (N := 10) hx hb hts hinX3 hown hK hP 0 rfl rfl 1 (by decide) (hts _ (List.mem_of_getElem? (i := 3) rfl)) (fun _ h9 => h9) rfl dX3_minutesOf_19 ?_
    refine lv_astore_n (lv' := [(3, .ref (a.1 2)), (2, .int 0), (0, .ref (a.1 0)), (1, .int p1)]) hx hb dX3_minutesOf_22 rfl hl (by decide) rfl (fun ls hl => ?_)
    refine lv_aload_n hx hb dX3_minutesOf_23 rfl (lv_at hl 0 rfl) ?_
    refine va_alen (v := 40) hx hb hK hP 2 5 rfl rfl rfl dX3_minutesOf_24 ?_
    refine lv_istore (lv' := [(4, .int 40), (3, .ref (a.1 2)), (2, .int 0), (0, .ref (a.1 0)), (1, .int p1)]) hx hb dX3_minutesOf_25 hl (by decide) rfl (fun ls hl => ?_)
    refine lv_iconst (v := 0) hx hb dX3_minutesOf_27 (by decide) ?_
    refine lv_istore (lv' := [(5, .int 0), (4, .int 40), (3, .ref (a.1 2)), (2, .int 0), (0, .ref (a.1 0)), (1, .int p1)]) hx hb dX3_minutesOf_28 hl (by decide) rfl (fun ls hl => ?_)
    exact k_X3_minutesOf_30 hl0 hx hb hr hts hml hown hlocks hK hP hD hN _ _ p1 0 40 0  ls h (lv_sub hl [5, 3, 2, 1, 0] rfl)
def f_X3_code (n : Nat → Nat) (V : XV) (p1 : Int32) : Option (Nat × Int32) := ob (f_X3_craneNumbered n V p1) (fun u_1 => oc (n 0) u_1 (some (3, 0)) (fun k_3 => ob (some ((((V.1 0 k_3 0) ||| ((V.1 0 k_3 1) <<< (6 &&& 31))) ||| ((V.1 0 k_3 2) <<< (12 &&& 31))) ||| ((V.2.2.1 6) <<< (18 &&& 31)))) (fun x_5 => some (0, x_5))))
theorem hd_X3_code : yX3_code.cls = RX3 ∧ yX3_code.cls ≠ "java/lang/invoke/MethodHandle" ∧ yX3_code.cls ≠ "java/lang/invoke/VarHandle" ∧ (parseMethodDescriptor yX3_code.desc).map (fun d => d.parameters.length) = some 1 := by decide +kernel
set_option maxHeartbeats 4000000 in
set_option maxRecDepth 100000 in
theorem c_X3_code (l : Launch) (hl0 : l.stackTraces = false) (D : va_G) (cy : Nat → ClassId) (a : XA) (n : Nat → Nat) (V : XV) (sz : Nat) (p1 : Int32) {res : Nat × Int32} (h : f_X3_code n V p1 = some res) : vx_Met l yX3_code wsX3_code ({ frames := 7, cells := 1, slots := 6, locals := 120 } : Room) (va_Pc [.ref (a.1 0), .int p1] (zX sz (va_A (xW cy a n V) sz) (xI D cy a n V))) (va_Qi (fun r (_ : Unit) => res.1 = 0 ∧ r = res.2) (fun _ t => va_P D xcl (xW cy a n V) t.heap ∧ va_D (va_A (xW cy a n V) sz) (xW cy a n V)) (va_A (xW cy a n V) sz)) (vx_X (fun (_ : Unit) => True) (fun E _ t => E = xnm res.1 ∧ res.1 ≠ 0 ∧ va_P D xcl (xW cy a n V) t.heap ∧ va_D (va_A (xW cy a n V) sz) (xW cy a n V)) (va_A (xW cy a n V) sz)) 1 6 (va_A (xW cy a n V) sz) := by
  refine vx_ofW (cc := cX3_code) (maxL := 3) (ret := (some .int)) (by decide) rfl ?_
  intro p e s m args below meth c s₁ B hml hex hv
  obtain ⟨rfl, hsz, hZ, hP, hK, hD0⟩ := hv
  have hx := B.exec
  have hb := B.bytes
  have hr := B.returns
  have hts := atoms_spec (ws := wsX3_code) B.pre
  have hown : s.vm.findClass RX3 = some m.cls := findClass_of_methodNamed B.named
  have hlocks := B.notSynchronized
  subst hsz
  have hD := hD0.self (sz := s.heap.size)
  have hN : zN (va_A (xW cy a n V) s.heap.size) c s := ⟨hZ.1, hZ.2.1, hZ.2.2, hex⟩
  generalize hAe : va_A (xW cy a n V) s.heap.size = A at hD hN ⊢
  have hA : ∀ q : Nat, s.heap.size ≤ q → A q := fun q h => by rw [← hAe]; exact Or.inr h
  have hl := lv_entry ([.ref (a.1 0), .int p1]) (n := 3) (Nat.le_of_ble_eq_true rfl)
  rw [lg_entry_eq]
  generalize (lg_sl ([.ref (a.1 0), .int p1]) ++ List.replicate (3 - (lg_sl ([.ref (a.1 0), .int p1])).length) Slot.unset).toArray = ls at hl ⊢
  have hl : lv_has ls 3 [(0, .ref (a.1 0)), (1, .int p1)] := hl
  have hinX0 : ∀ w ∈ wsX00, w ∈ wsX3_code := (fun _ h => (List.mem_cons_of_mem _ (List.mem_append_left _ (List.mem_append_left _ (List.mem_append_right _ h)))))
  have hinX3 : ∀ w ∈ wsX30, w ∈ wsX3_code := (fun _ h => (List.mem_cons_of_mem _ (List.mem_append_left _ (List.mem_append_right _ h))))
  refine lv_aload_n hx hb dX3_code_0 rfl (lv_at hl 0 rfl) ?_
  refine lv_iload_n hx hb dX3_code_1 rfl (lv_at hl 1 rfl) ?_
  obtain ⟨u_1, hg_2, h⟩ := ob_some h
  rcases oc_some h with ⟨o_4, h⟩ | ⟨k_3, hk_3, o_4, h⟩
  · refine zcSqn (W.runV (As := [.int p1]) (rest := []) ⟨hx, hb, hml, hown, hts⟩ (c_X3_craneNumbered l D cy a n V p1 hg_2) (cwV 1 hts gX3_code_X3_craneNumbered rfl rfl rfl hd_X3_craneNumbered ⟨Nat.le_of_ble_eq_true rfl, Nat.le_of_ble_eq_true rfl⟩) ⟨xI_blind, va_recv hK hP (ci := 3) (q0 := 0) rfl rfl, (xI_at hP hK hD)⟩ rfl rfl hl.1 rfl (lv_room (Nat.le_of_ble_eq_true rfl)) dX3_code_2 ⟨Nat.le_of_ble_eq_true rfl, Nat.le_of_ble_eq_true rfl⟩) o_4 ?_
    refine lv_astore_nN (lv' := [(2, .null), (0, .ref (a.1 0)), (1, .int p1)]) hx hb dX3_code_5 rfl hl (by decide) rfl (fun ls hl => ?_)
    refine lv_aload_nN hx hb dX3_code_6 rfl (lv_at hl 0 rfl) ?_
    refine lv_ifnonnullN hx hb dX3_code_7 ?_
    have h9 := Option.some.inj h
    subst h9
    exact vx_throw0 hx hb hl0 hown (by decide) (by decide) (hts _ (List.mem_of_getElem? (i := 1) rfl)) (hts _ (List.mem_of_getElem? (i := 2) rfl)) (vx_hat (fun w h9 => hts w (List.mem_cons_of_mem _ (List.mem_append_right _ h9))) (by decide +kernel) (xNB_3 hN.1 _)) (by decide +kernel) hN.2.1 hN.2.2.1 va_S.rf (hl.1.trans hml.symm) dX3_code_10 dX3_code_13 dX3_code_14 dX3_code_17 (fun z hz => (hN.2.2.2 z hz).elim) (Nat.le_of_ble_eq_true rfl) (Nat.le_of_ble_eq_true rfl) (Nat.le_of_ble_eq_true rfl) (Nat.le_of_ble_eq_true rfl) hlocks (fun t hvm hz hk => ⟨(), trivial, ⟨rfl, (show (3 : Nat) ≠ 0 by decide), zP_kept hP hk, hD⟩, zF_kept va_S.rf hz hk⟩) (fun _ hq => absurd hq List.not_mem_nil) (Nat.le_of_ble_eq_true rfl) (Nat.le_of_ble_eq_true rfl)
  · refine zcSqs (W.runV (As := [.int p1]) (rest := []) ⟨hx, hb, hml, hown, hts⟩ (c_X3_craneNumbered l D cy a n V p1 hg_2) (cwV 1 hts gX3_code_X3_craneNumbered rfl rfl rfl hd_X3_craneNumbered ⟨Nat.le_of_ble_eq_true rfl, Nat.le_of_ble_eq_true rfl⟩) ⟨xI_blind, va_recv hK hP (ci := 3) (q0 := 0) rfl rfl, (xI_at hP hK hD)⟩ rfl rfl hl.1 rfl (lv_room (Nat.le_of_ble_eq_true rfl)) dX3_code_2 ⟨Nat.le_of_ble_eq_true rfl, Nat.le_of_ble_eq_true rfl⟩) o_4 ?_
    refine lv_astore_n (lv' := [(2, .ref (a.2 0 k_3)), (0, .ref (a.1 0)), (1, .int p1)]) hx hb dX3_code_5 rfl hl (by decide) rfl (fun ls hl => ?_)
    refine lv_aload_n hx hb dX3_code_6 rfl (lv_at hl 0 rfl) ?_
    refine lv_ifnonnull (tgt := 18) hx hb dX3_code_7 (by decide) ?_
    refine lv_aload_n hx hb dX3_code_18 rfl (lv_at hl 0 rfl) ?_
    refine va_get (D := D) (ci := 0) (v := .int (V.1 0 k_3 0)) (C := RX0) (T := TX0) (N := 6) hx hb hts hinX0 hown hK hP _ (xpos_cr hk_3) rfl 0 (by decide) (hts _ (List.mem_of_getElem? (i := 3) rfl)) (fun _ h9 => h9) rfl dX3_code_19 ?_
    refine lv_aload_n hx hb dX3_code_22 rfl (lv_at hl 0 rfl) ?_
    refine va_get (D := D) (ci := 0) (v := .int (V.1 0 k_3 1)) (C := RX0) (T := TX0) (N := 6) hx hb hts hinX0 hown hK hP _ (xpos_cr hk_3) rfl 1 (by decide) (hts _ (List.mem_of_getElem? (i := 4) rfl)) (fun _ h9 => h9) rfl dX3_code_23 ?_
    refine lv_bipush (v := 6) hx hb dX3_code_26 (by decide) ?_
    refine lv_ishl hx hb dX3_code_28 ?_
    refine lv_ior hx hb dX3_code_29 ?_
    refine lv_aload_n hx hb dX3_code_30 rfl (lv_at hl 0 rfl) ?_
    refine va_get (D := D) (ci := 0) (v := .int (V.1 0 k_3 2)) (C := RX0) (T := TX0) (N := 6) hx hb hts hinX0 hown hK hP _ (xpos_cr hk_3) rfl 2 (by decide) (hts _ (List.mem_of_getElem? (i := 5) rfl)) (fun _ h9 => h9) rfl dX3_code_31 ?_
    refine lv_bipush (v := 12) hx hb dX3_code_34 (by decide) ?_
    refine lv_ishl hx hb dX3_code_36 ?_
    refine lv_ior hx hb dX3_code_37 ?_
    refine lv_aload_n hx hb dX3_code_38 rfl (lv_at hl 1 rfl) ?_
    refine va_get (D := D) (ci := 3) (v := .int (V.2.2.1 6)) (C := RX3) (T := TX3) (N := 10) hx hb hts hinX3 hown hK hP 0 rfl rfl 6 (by decide) (hts _ (List.mem_of_getElem? (i := 6) rfl)) (fun _ h9 => h9) rfl dX3_code_39 ?_
    refine lv_bipush (v := 18) hx hb dX3_code_42 (by decide) ?_
    refine lv_ishl hx hb dX3_code_44 ?_
    refine lv_ior hx hb dX3_code_45 ?_
    obtain ⟨x_5, ex_6, h⟩ := ob_some h
    refine W.eq (g2 := F0 m 46 ls [.int x_5]) (by rw [← Option.some.inj ex_6]) ?_
    have h9 := Option.some.inj h
    subst h9
    refine vx_ret ?_
    refine W.widen (k := 1) (n := 6) (Nat.le_of_ble_eq_true rfl) (Nat.le_of_ble_eq_true rfl) ?_
    exact W.iret (v := x_5) hx hb hr (fun t ht hW => ⟨⟨x_5, (), rfl, ⟨rfl, rfl⟩, ⟨by rw [ht]; exact hP, hD⟩⟩, va_S.rf.F ht⟩) (fun _ hq => absurd hq List.not_mem_nil) dX3_code_46 hlocks
def f_X3_workShare (n : Nat → Nat) (V : XV) (p1 : Int32) : Option (Nat × UInt32) := ob (f_X3_craneNumbered n V p1) (fun u_1 => oc (n 0) u_1 (some (3, 0)) (fun k_3 => ob (f_X0_minutesAllowed n V k_3) (fun u_5 => oi (u_5 = 0) (some (5, 0)) (ob (f_X3_countAllowedWork n V p1 k_3) (fun u_8 => og ((FP.fdiv (FP.i2f u_8) (FP.i2f u_5)) &&& 0x7fffffff ≤ 0x7f800000) (some (0, FP.fdiv (FP.i2f u_8) (FP.i2f u_5))))))))
theorem hd_X3_workShare : yX3_workShare.cls = RX3 ∧ yX3_workShare.cls ≠ "java/lang/invoke/MethodHandle" ∧ yX3_workShare.cls ≠ "java/lang/invoke/VarHandle" ∧ (parseMethodDescriptor yX3_workShare.desc).map (fun d => d.parameters.length) = some 1 := by decide +kernel
set_option maxHeartbeats 4000000 in
set_option maxRecDepth 100000 in
theorem c_X3_workShare (l : Launch) (hl0 : l.stackTraces = false) (D : va_G) (cy : Nat → ClassId) (a : XA) (n : Nat → Nat) (V : XV) (sz : Nat) (p1 : Int32) {res : Nat × UInt32} (h : f_X3_workShare n V p1 = some res) : vx_Met l yX3_workShare wsX3_workShare ({ frames := 7, cells := 1, slots := 6, locals := 120 } : Room) (va_Pc [.ref (a.1 0), .int p1] (zX sz (va_A (xW cy a n V) sz) (xI D cy a n V))) (va_Qf (fun r (_ : Unit) => res.1 = 0 ∧ r = res.2) (fun _ t => va_P D xcl (xW cy a n V) t.heap ∧ va_D (va_A (xW cy a n V) sz) (xW cy a n V)) (va_A (xW cy a n V) sz)) (vx_X (fun (_ : Unit) => True) (fun E _ t => E = xnm res.1 ∧ res.1 ≠ 0 ∧ va_P D xcl (xW cy a n V) t.heap ∧ va_D (va_A (xW cy a n V) sz) (xW cy a n V)) (va_A (xW cy a n V) sz)) 1 6 (va_A (xW cy a n V) sz) := by
  refine vx_ofW (cc := cX3_workShare) (maxL := 4) (ret := (some .float)) (by decide) rfl ?_
  intro p e s m args below meth c s₁ B hml hex hv
  obtain ⟨rfl, hsz, hZ, hP, hK, hD0⟩ := hv
  have hx := B.exec
  have hb := B.bytes
  have hr := B.returns
  have hts := atoms_spec (ws := wsX3_workShare) B.pre
  have hown : s.vm.findClass RX3 = some m.cls := findClass_of_methodNamed B.named
  have hlocks := B.notSynchronized
  subst hsz
  have hD := hD0.self (sz := s.heap.size)
  have hN : zN (va_A (xW cy a n V) s.heap.size) c s := ⟨hZ.1, hZ.2.1, hZ.2.2, hex⟩
  generalize hAe : va_A (xW cy a n V) s.heap.size = A at hD hN ⊢
  have hA : ∀ q : Nat, s.heap.size ≤ q → A q := fun q h => by rw [← hAe]; exact Or.inr h
  have hl := lv_entry ([.ref (a.1 0), .int p1]) (n := 4) (Nat.le_of_ble_eq_true rfl)
  rw [lg_entry_eq]
  generalize (lg_sl ([.ref (a.1 0), .int p1]) ++ List.replicate (4 - (lg_sl ([.ref (a.1 0), .int p1])).length) Slot.unset).toArray = ls at hl ⊢
  have hl : lv_has ls 4 [(0, .ref (a.1 0)), (1, .int p1)] := hl
  refine lv_aload_n hx hb dX3_workShare_0 rfl (lv_at hl 0 rfl) ?_
  refine lv_iload_n hx hb dX3_workShare_1 rfl (lv_at hl 1 rfl) ?_
  obtain ⟨u_1, hg_2, h⟩ := ob_some h
  rcases oc_some h with ⟨o_4, h⟩ | ⟨k_3, hk_3, o_4, h⟩
  · refine zcSqn (W.runV (As := [.int p1]) (rest := []) ⟨hx, hb, hml, hown, hts⟩ (c_X3_craneNumbered l D cy a n V p1 hg_2) (cwV 1 hts gX3_workShare_X3_craneNumbered rfl rfl rfl hd_X3_craneNumbered ⟨Nat.le_of_ble_eq_true rfl, Nat.le_of_ble_eq_true rfl⟩) ⟨xI_blind, va_recv hK hP (ci := 3) (q0 := 0) rfl rfl, (xI_at hP hK hD)⟩ rfl rfl hl.1 rfl (lv_room (Nat.le_of_ble_eq_true rfl)) dX3_workShare_2 ⟨Nat.le_of_ble_eq_true rfl, Nat.le_of_ble_eq_true rfl⟩) o_4 ?_
    refine lv_astore_nN (lv' := [(2, .null), (0, .ref (a.1 0)), (1, .int p1)]) hx hb dX3_workShare_5 rfl hl (by decide) rfl (fun ls hl => ?_)
    refine lv_aload_nN hx hb dX3_workShare_6 rfl (lv_at hl 0 rfl) ?_
    refine lv_ifnonnullN hx hb dX3_workShare_7 ?_
    have h9 := Option.some.inj h
    subst h9
    exact vx_throw0 hx hb hl0 hown (by decide) (by decide) (hts _ (List.mem_of_getElem? (i := 1) rfl)) (hts _ (List.mem_of_getElem? (i := 2) rfl)) (vx_hat (fun w h9 => hts w (List.mem_cons_of_mem _ (List.mem_append_left _ (List.mem_append_right _ h9)))) (by decide +kernel) (xNB_3 hN.1 _)) (by decide +kernel) hN.2.1 hN.2.2.1 va_S.rf (hl.1.trans hml.symm) dX3_workShare_10 dX3_workShare_13 dX3_workShare_14 dX3_workShare_17 (fun z hz => (hN.2.2.2 z hz).elim) (Nat.le_of_ble_eq_true rfl) (Nat.le_of_ble_eq_true rfl) (Nat.le_of_ble_eq_true rfl) (Nat.le_of_ble_eq_true rfl) hlocks (fun t hvm hz hk => ⟨(), trivial, ⟨rfl, (show (3 : Nat) ≠ 0 by decide), zP_kept hP hk, hD⟩, zF_kept va_S.rf hz hk⟩) (fun _ hq => absurd hq List.not_mem_nil) (Nat.le_of_ble_eq_true rfl) (Nat.le_of_ble_eq_true rfl)
  · refine zcSqs (W.runV (As := [.int p1]) (rest := []) ⟨hx, hb, hml, hown, hts⟩ (c_X3_craneNumbered l D cy a n V p1 hg_2) (cwV 1 hts gX3_workShare_X3_craneNumbered rfl rfl rfl hd_X3_craneNumbered ⟨Nat.le_of_ble_eq_true rfl, Nat.le_of_ble_eq_true rfl⟩) ⟨xI_blind, va_recv hK hP (ci := 3) (q0 := 0) rfl rfl, (xI_at hP hK hD)⟩ rfl rfl hl.1 rfl (lv_room (Nat.le_of_ble_eq_true rfl)) dX3_workShare_2 ⟨Nat.le_of_ble_eq_true rfl, Nat.le_of_ble_eq_true rfl⟩) o_4 ?_
    refine lv_astore_n (lv' := [(2, .ref (a.2 0 k_3)), (0, .ref (a.1 0)), (1, .int p1)]) hx hb dX3_workShare_5 rfl hl (by decide) rfl (fun ls hl => ?_)
    refine lv_aload_n hx hb dX3_workShare_6 rfl (lv_at hl 0 rfl) ?_
    refine lv_ifnonnull (tgt := 18) hx hb dX3_workShare_7 (by decide) ?_
    refine lv_aload_n hx hb dX3_workShare_18 rfl (lv_at hl 0 rfl) ?_
    obtain ⟨u_5, hg_6, h⟩ := ob_some h
    refine zcSi (W.runV (As := []) (rest := []) ⟨hx, hb, hml, hown, hts⟩ (c_X0_minutesAllowed l D cy a n V k_3 hk_3 hg_6) (cwV 0 hts gX3_workShare_X0_minutesAllowed rfl rfl rfl hd_X0_minutesAllowed ⟨Nat.le_of_ble_eq_true rfl, Nat.le_of_ble_eq_true rfl⟩) ⟨xI_blind, va_recv hK hP (ci := 0) rfl (xpos_cr hk_3), (xI_at hP hK hD)⟩ rfl rfl hl.1 rfl (lv_room (Nat.le_of_ble_eq_true rfl)) dX3_workShare_19 ⟨Nat.le_of_ble_eq_true rfl, Nat.le_of_ble_eq_true rfl⟩) ?_
    refine lv_istore_n (lv' := [(3, .int u_5), (2, .ref (a.2 0 k_3)), (0, .ref (a.1 0)), (1, .int p1)]) hx hb dX3_workShare_22 rfl hl (by decide) rfl (fun ls hl => ?_)
    refine lv_iload_n hx hb dX3_workShare_23 rfl (lv_at hl 0 rfl) ?_
    refine lv_if_ne (tgt := 35) hx hb dX3_workShare_24 (by decide) (fun c_7 => ?_) (fun c_7 => ?_)
    · replace h := oi_f c_7 h
      refine lv_aload_n hx hb dX3_workShare_35 rfl (lv_at hl 2 rfl) ?_
      refine lv_iload_n hx hb dX3_workShare_36 rfl (lv_at hl 3 rfl) ?_
      refine lv_aload_n hx hb dX3_workShare_37 rfl (lv_at hl 1 rfl) ?_
      obtain ⟨u_8, hg_9, h⟩ := ob_some h
      refine zcSi (W.runV (As := [.int p1, .ref (a.2 0 k_3)]) (rest := []) ⟨hx, hb, hml, hown, hts⟩ (c_X3_countAllowedWork l D cy a n V p1 k_3 hk_3 hg_9) (cwV 2 hts gX3_workShare_X3_countAllowedWork rfl rfl rfl hd_X3_countAllowedWork ⟨Nat.le_of_ble_eq_true rfl, Nat.le_of_ble_eq_true rfl⟩) ⟨xI_blind, va_recv hK hP (ci := 3) (q0 := 0) rfl rfl, (xI_at hP hK hD)⟩ rfl rfl hl.1 rfl (lv_room (Nat.le_of_ble_eq_true rfl)) dX3_workShare_38 ⟨Nat.le_of_ble_eq_true rfl, Nat.le_of_ble_eq_true rfl⟩) ?_
      refine lv_i2f hx hb dX3_workShare_41 ?_
      refine lv_iload_n hx hb dX3_workShare_42 rfl (lv_at hl 0 rfl) ?_
      refine lv_i2f hx hb dX3_workShare_43 ?_
      obtain ⟨g_10, h⟩ := og_some h
      refine lv_fdiv hx hb dX3_workShare_44 g_10 ?_
      have h9 := Option.some.inj h
      subst h9
      refine vx_ret ?_
      refine W.widen (k := 1) (n := 6) (Nat.le_of_ble_eq_true rfl) (Nat.le_of_ble_eq_true rfl) ?_
      exact W.fret (v := FP.fdiv (FP.i2f u_8) (FP.i2f u_5)) hx hb hr (fun t ht hW => ⟨⟨FP.fdiv (FP.i2f u_8) (FP.i2f u_5), (), rfl, ⟨rfl, rfl⟩, ⟨by rw [ht]; exact hP, hD⟩⟩, va_S.rf.F ht⟩) (fun _ hq => absurd hq List.not_mem_nil) dX3_workShare_45 hlocks
    · replace h := oi_t c_7 h
      have h9 := Option.some.inj h
      subst h9
      exact vx_throw0 hx hb hl0 hown (by decide) (by decide) (hts _ (List.mem_of_getElem? (i := 3) rfl)) (hts _ (List.mem_of_getElem? (i := 4) rfl)) (vx_hat (fun w h9 => hts w (List.mem_cons_of_mem _ (List.mem_append_right _ h9))) (by decide +kernel) (xNB_5 hN.1 _)) (by decide +kernel) hN.2.1 hN.2.2.1 va_S.rf (hl.1.trans hml.symm) dX3_workShare_27 dX3_workShare_30 dX3_workShare_31 dX3_workShare_34 (fun z hz => (hN.2.2.2 z hz).elim) (Nat.le_of_ble_eq_true rfl) (Nat.le_of_ble_eq_true rfl) (Nat.le_of_ble_eq_true rfl) (Nat.le_of_ble_eq_true rfl) hlocks (fun t hvm hz hk => ⟨(), trivial, ⟨rfl, (show (5 : Nat) ≠ 0 by decide), zP_kept hP hk, hD⟩, zF_kept va_S.rf hz hk⟩) (fun _ hq => absurd hq List.not_mem_nil) (Nat.le_of_ble_eq_true rfl) (Nat.le_of_ble_eq_true rfl)
def f_X3_meanStart_16 (n : Nat → Nat) : XV → Nat → Int32 → Int32 → Int32 → Int32 → Option (Nat × UInt64)
  | _, 0, _, _, _, _ => none
  | V, fu + 1, zx1, zx2, zx4, zx5 => oi (zx4 ≤ zx5) (oi (zx2 = 0) (some (5, 0)) (og ((FP.ddiv (FP.i2d zx1) (FP.i2d zx2)) &&& 0x7fffffffffffffff ≤ 0x7ff0000000000000) (some (0, FP.ddiv (FP.i2d zx1) (FP.i2d zx2))))) (og (¬ (zx5 < 0 ∨ 40 ≤ (zx5).toNatClampNeg)) (oc (n 1) (xref n 1 zx5) (f_X3_meanStart_16 n V fu zx1 zx2 zx4 (zx5 + 1)) (fun k_5 => ob (f_X1_hasCrane n V k_5) (fun u_7 => oi (u_7 = 0) (f_X3_meanStart_16 n V fu zx1 zx2 zx4 (zx5 + 1)) (f_X3_meanStart_16 n V fu (zx1 + (V.1 1 k_5 10)) (zx2 + 1) zx4 (zx5 + 1))))))
def f_X3_meanStart (n : Nat → Nat) (V : XV)  : Option (Nat × UInt64) := f_X3_meanStart_16 n V FU 0 0 40 0
theorem hd_X3_meanStart : yX3_meanStart.cls = RX3 ∧ yX3_meanStart.cls ≠ "java/lang/invoke/MethodHandle" ∧ yX3_meanStart.cls ≠ "java/lang/invoke/VarHandle" ∧ (parseMethodDescriptor yX3_meanStart.desc).map (fun d => d.parameters.length) = some 0 := by decide +kernel
set_option maxHeartbeats 4000000 in
set_option maxRecDepth 100000 in
theorem k_X3_meanStart_16 {p : Program} {l : Launch} {e : Env} {s : State} {m : MethodId} {args : Array Value} {below : List Frame} {meth : Method} {c : Code} {D : va_G} {cy : Nat → ClassId} {a : XA} {n : Nat → Nat} {V : XV} {A : Nat → Prop} (hl0 : l.stackTraces = false) (hx : p.tables.exec = Jvm.exec) (hb : c.code = cX3_meanStart) (hr : meth.sig.returnType = (some .double)) (hts : ∀ w ∈ wsX3_meanStart, w.before args s = true) (hml : c.maxLocals = 7) (hown : s.vm.findClass RX3 = some m.cls) (hlocks : meth.locks = false) (hK : va_K D xcl (xty cy) s) (hP : va_P D xcl (xW cy a n V) s.heap) (hD : va_D A (xW cy a n V)) (hN : zN A c s) (res : Nat × UInt64) : ∀ (fu : Nat) (zx1 : Int32) (zx2 : Int32) (zx4 : Int32) (zx5 : Int32)  (ls : Array Slot), f_X3_meanStart_16 n V fu zx1 zx2 zx4 zx5 = some res → lv_has ls 7 [(1, .int zx1), (2, .int zx2), (3, .ref (a.1 2)), (4, .int zx4), (5, .int zx5)] → W p l e ({ frames := 7, cells := 1, slots := 6, locals := 120 } : Room) s m args below meth c s.heap [] 0 0 (vx_MQ below (va_Qd (fun r (_ : Unit) => res.1 = 0 ∧ r = res.2) (fun _ t => va_P D xcl (xW cy a n V) t.heap ∧ va_D A (xW cy a n V)) A) (vx_X (fun (_ : Unit) => True) (fun E _ t => E = xnm res.1 ∧ res.1 ≠ 0 ∧ va_P D xcl (xW cy a n V) t.heap ∧ va_D A (xW cy a n V)) A) args s 1 6 (A)) (F0 m 16 ls []) := by
  have hinX1 : ∀ w ∈ wsX10, w ∈ wsX3_meanStart := (fun _ h => (List.mem_cons_of_mem _ (List.mem_append_left _ (List.mem_append_right _ h))))
  intro fu
  induction fu with
  | zero =>
    intro zx1 zx2 zx4 zx5  ls h hl
    cases h
  | succ fu ih =>
    intro zx1 zx2 zx4 zx5  ls h hl
    refine lv_iload hx hb dX3_meanStart_16 (lv_at hl 4 rfl) ?_
    refine lv_iload hx hb dX3_meanStart_18 (lv_at hl 3 rfl) ?_
    refine lv_icmp_ge (tgt := 59) hx hb dX3_meanStart_20 (by decide) (fun c_1 => ?_) (fun c_1 => ?_)
    · replace h := oi_t c_1 h
      refine lv_iload_n hx hb dX3_meanStart_59 rfl (lv_at hl 1 rfl) ?_
      refine lv_if_ne (tgt := 71) hx hb dX3_meanStart_60 (by decide) (fun c_2 => ?_) (fun c_2 => ?_)
      · replace h := oi_f c_2 h
        refine lv_iload_n hx hb dX3_meanStart_71 rfl (lv_at hl 0 rfl) ?_
        refine lv_i2d hx hb dX3_meanStart_72 ?_
        refine lv_iload_n hx hb dX3_meanStart_73 rfl (lv_at hl 1 rfl) ?_
        refine lv_i2d hx hb dX3_meanStart_74 ?_
        obtain ⟨g_3, h⟩ := og_some h
        refine lv_ddiv hx hb dX3_meanStart_75 g_3 ?_
        have h9 := Option.some.inj h
        subst h9
        refine vx_ret ?_
        refine W.widen (k := 1) (n := 6) (Nat.le_of_ble_eq_true rfl) (Nat.le_of_ble_eq_true rfl) ?_
        exact W.dret (v := FP.ddiv (FP.i2d zx1) (FP.i2d zx2)) hx hb hr (fun t ht hW => ⟨⟨FP.ddiv (FP.i2d zx1) (FP.i2d zx2), (), rfl, ⟨rfl, rfl⟩, ⟨by rw [ht]; exact hP, hD⟩⟩, va_S.rf.F ht⟩) (fun _ hq => absurd hq List.not_mem_nil) dX3_meanStart_76 hlocks
      · replace h := oi_t c_2 h
        have h9 := Option.some.inj h
        subst h9
        exact vx_throw0 hx hb hl0 hown (by decide) (by decide) (hts _ (List.mem_of_getElem? (i := 1) rfl)) (hts _ (List.mem_of_getElem? (i := 2) rfl)) (vx_hat (fun w h9 => hts w (List.mem_cons_of_mem _ (List.mem_append_right _ h9))) (by decide +kernel) (xNB_5 hN.1 _)) (by decide +kernel) hN.2.1 hN.2.2.1 va_S.rf (hl.1.trans hml.symm) dX3_meanStart_63 dX3_meanStart_66 dX3_meanStart_67 dX3_meanStart_70 (fun z hz => (hN.2.2.2 z hz).elim) (Nat.le_of_ble_eq_true rfl) (Nat.le_of_ble_eq_true rfl) (Nat.le_of_ble_eq_true rfl) (Nat.le_of_ble_eq_true rfl) hlocks (fun t hvm hz hk => ⟨(), trivial, ⟨rfl, (show (5 : Nat) ≠ 0 by decide), zP_kept hP hk, hD⟩, zF_kept va_S.rf hz hk⟩) (fun _ hq => absurd hq List.not_mem_nil) (Nat.le_of_ble_eq_true rfl) (Nat.le_of_ble_eq_true rfl)
    · replace h := oi_f c_1 h
      refine lv_aload_n hx hb dX3_meanStart_23 rfl (lv_at hl 2 rfl) ?_
      refine lv_iload hx hb dX3_meanStart_24 (lv_at hl 4 rfl) ?_
      obtain ⟨g_4, h⟩ := og_some h
      rcases oc_some h with ⟨o_6, h⟩ | ⟨k_5, hk_5, o_6, h⟩
      · refine zaldn hx hb hK hP 2 5 rfl rfl g_4 o_6 dX3_meanStart_26 ?_
        refine lv_astoreN (lv' := [(6, .null), (1, .int zx1), (2, .int zx2), (3, .ref (a.1 2)), (4, .int zx4), (5, .int zx5)]) hx hb dX3_meanStart_27 hl (by decide) rfl (fun ls hl => ?_)
        refine lv_aloadN hx hb dX3_meanStart_29 (lv_at hl 0 rfl) ?_
        refine lv_ifnullN (tgt := 53) hx hb dX3_meanStart_31 (by decide) ?_
        refine lv_iinc (v := zx5 + 1) (lv' := [(5, .int (zx5 + 1)), (6, .null), (1, .int zx1), (2, .int zx2), (3, .ref (a.1 2)), (4, .int zx4)]) hx hb dX3_meanStart_53 hl (k := 5) rfl rfl (by decide) rfl (fun ls hl => ?_)
        refine lv_goto (tgt := 16) hx hb dX3_meanStart_56 (by decide) ?_
        exact ih zx1 zx2 zx4 (zx5 + 1)  ls h (lv_sub hl [2, 3, 4, 5, 0] rfl)
      · refine zalds hx hb hK hP 2 5 rfl rfl g_4 o_6 dX3_meanStart_26 ?_
        refine lv_astore (lv' := [(6, .ref (a.2 1 k_5)), (1, .int zx1), (2, .int zx2), (3, .ref (a.1 2)), (4, .int zx4), (5, .int zx5)]) hx hb dX3_meanStart_27 hl (by decide) rfl (fun ls hl => ?_)
        refine lv_aload hx hb dX3_meanStart_29 (lv_at hl 0 rfl) ?_
        refine lv_ifnull hx hb dX3_meanStart_31 ?_
        refine lv_aload hx hb dX3_meanStart_34 (lv_at hl 0 rfl) ?_
        obtain ⟨u_7, hg_8, h⟩ := ob_some h
        refine zcSi (W.runV (As := []) (rest := []) ⟨hx, hb, hml, hown, hts⟩ (c_X1_hasCrane l D cy a n V k_5 hk_5 hg_8) (cwV 0 hts gX3_meanStart_X1_hasCrane rfl rfl rfl hd_X1_hasCrane ⟨Nat.le_of_ble_eq_true rfl, Nat.le_of_ble_eq_true rfl⟩) ⟨xI_blind, va_recv hK hP (ci := 1) rfl (xpos_li hk_5), (xI_at hP hK hD)⟩ rfl rfl hl.1 rfl (lv_room (Nat.le_of_ble_eq_true rfl)) dX3_meanStart_36 ⟨Nat.le_of_ble_eq_true rfl, Nat.le_of_ble_eq_true rfl⟩) ?_
        refine lv_if_eq (tgt := 53) hx hb dX3_meanStart_39 (by decide) (fun c_9 => ?_) (fun c_9 => ?_)
        · replace h := oi_t c_9 h
          refine lv_iinc (v := zx5 + 1) (lv' := [(5, .int (zx5 + 1)), (6, .ref (a.2 1 k_5)), (1, .int zx1), (2, .int zx2), (3, .ref (a.1 2)), (4, .int zx4)]) hx hb dX3_meanStart_53 hl (k := 5) rfl rfl (by decide) rfl (fun ls hl => ?_)
          refine lv_goto (tgt := 16) hx hb dX3_meanStart_56 (by decide) ?_
          exact ih zx1 zx2 zx4 (zx5 + 1)  ls h (lv_sub hl [2, 3, 4, 5, 0] rfl)
        · replace h := oi_f c_9 h
          refine lv_iload_n hx hb dX3_meanStart_42 rfl (lv_at hl 1 rfl) ?_
          refine lv_aload hx hb dX3_meanStart_43 (lv_at hl 0 rfl) ?_
          refine va_get (D := D) (ci := 1) (v := .int (V.1 1 k_5 10)) (C := RX1) (T := TX1) (N := 11) hx hb hts hinX1 hown hK hP _ (xpos_li hk_5) rfl 10 (by decide) (hts _ (List.mem_of_getElem? (i := 4) rfl)) (fun _ h9 => h9) rfl dX3_meanStart_45 ?_
          refine lv_iadd hx hb dX3_meanStart_48 ?_
          refine lv_istore_n (lv' := [(1, .int (zx1 + (V.1 1 k_5 10))), (6, .ref (a.2 1 k_5)), (2, .int zx2), (3, .ref (a.1 2)), (4, .int zx4), (5, .int zx5)]) hx hb dX3_meanStart_49 rfl hl (by decide) rfl (fun ls hl => ?_)
          refine lv_iinc (v := zx2 + 1) (lv' := [(2, .int (zx2 + 1)), (1, .int (zx1 + (V.1 1 k_5 10))), (6, .ref (a.2 1 k_5)), (3, .ref (a.1 2)), (4, .int zx4), (5, .int zx5)]) hx hb dX3_meanStart_50 hl (k := 2) rfl rfl (by decide) rfl (fun ls hl => ?_)
          refine lv_iinc (v := zx5 + 1) (lv' := [(5, .int (zx5 + 1)), (2, .int (zx2 + 1)), (1, .int (zx1 + (V.1 1 k_5 10))), (6, .ref (a.2 1 k_5)), (3, .ref (a.1 2)), (4, .int zx4)]) hx hb dX3_meanStart_53 hl (k := 5) rfl rfl (by decide) rfl (fun ls hl => ?_)
          refine lv_goto (tgt := 16) hx hb dX3_meanStart_56 (by decide) ?_
          exact ih (zx1 + (V.1 1 k_5 10)) (zx2 + 1) zx4 (zx5 + 1)  ls h (lv_sub hl [2, 1, 4, 5, 0] rfl)
set_option maxHeartbeats 4000000 in
set_option maxRecDepth 100000 in
theorem c_X3_meanStart (l : Launch) (hl0 : l.stackTraces = false) (D : va_G) (cy : Nat → ClassId) (a : XA) (n : Nat → Nat) (V : XV) (sz : Nat)  {res : Nat × UInt64} (h : f_X3_meanStart n V  = some res) : vx_Met l yX3_meanStart wsX3_meanStart ({ frames := 7, cells := 1, slots := 6, locals := 120 } : Room) (va_Pc [.ref (a.1 0)] (zX sz (va_A (xW cy a n V) sz) (xI D cy a n V))) (va_Qd (fun r (_ : Unit) => res.1 = 0 ∧ r = res.2) (fun _ t => va_P D xcl (xW cy a n V) t.heap ∧ va_D (va_A (xW cy a n V) sz) (xW cy a n V)) (va_A (xW cy a n V) sz)) (vx_X (fun (_ : Unit) => True) (fun E _ t => E = xnm res.1 ∧ res.1 ≠ 0 ∧ va_P D xcl (xW cy a n V) t.heap ∧ va_D (va_A (xW cy a n V) sz) (xW cy a n V)) (va_A (xW cy a n V) sz)) 1 6 (va_A (xW cy a n V) sz) := by
  refine vx_ofW (cc := cX3_meanStart) (maxL := 7) (ret := (some .double)) (by decide) rfl ?_
  intro p e s m args below meth c s₁ B hml hex hv
  obtain ⟨rfl, hsz, hZ, hP, hK, hD0⟩ := hv
  have hx := B.exec
  have hb := B.bytes
  have hr := B.returns
  have hts := atoms_spec (ws := wsX3_meanStart) B.pre
  have hown : s.vm.findClass RX3 = some m.cls := findClass_of_methodNamed B.named
  have hlocks := B.notSynchronized
  subst hsz
  have hD := hD0.self (sz := s.heap.size)
  have hN : zN (va_A (xW cy a n V) s.heap.size) c s := ⟨hZ.1, hZ.2.1, hZ.2.2, hex⟩
  generalize hAe : va_A (xW cy a n V) s.heap.size = A at hD hN ⊢
  have hA : ∀ q : Nat, s.heap.size ≤ q → A q := fun q h => by rw [← hAe]; exact Or.inr h
  have hl := lv_entry ([.ref (a.1 0)]) (n := 7) (Nat.le_of_ble_eq_true rfl)
  rw [lg_entry_eq]
  generalize (lg_sl ([.ref (a.1 0)]) ++ List.replicate (7 - (lg_sl ([.ref (a.1 0)])).length) Slot.unset).toArray = ls at hl ⊢
  have hl : lv_has ls 7 [(0, .ref (a.1 0))] := hl
  have hinX3 : ∀ w ∈ wsX30, w ∈ wsX3_meanStart := (fun _ h => (List.mem_cons_of_mem _ (List.mem_append_left _ (List.mem_append_left _ (List.mem_append_right _ h)))))
  refine lv_iconst (v := 0) hx hb dX3_meanStart_0 (by decide) ?_
  refine lv_istore_n (lv' := [(1, .int 0), (0, .ref (a.1 0))]) hx hb dX3_meanStart_1 rfl hl (by decide) rfl (fun ls hl => ?_)
  refine lv_iconst (v := 0) hx hb dX3_meanStart_2 (by decide) ?_
  refine lv_istore_n (lv' := [(2, .int 0), (1, .int 0), (0, .ref (a.1 0))]) hx hb dX3_meanStart_3 rfl hl (by decide) rfl (fun ls hl => ?_)
  refine lv_aload_n hx hb dX3_meanStart_4 rfl (lv_at hl 2 rfl) ?_
  refine va_get (D := D) (ci := 3) (v := .ref (a.1 2)) (C := RX3) (T := TX3) (N := 10) hx hb hts hinX3 hown hK hP 0 rfl rfl 1 (by decide) (hts _ (List.mem_of_getElem? (i := 3) rfl)) (fun _ h9 => h9) rfl dX3_meanStart_5 ?_
  refine lv_astore_n (lv' := [(3, .ref (a.1 2)), (2, .int 0), (1, .int 0), (0, .ref (a.1 0))]) hx hb dX3_meanStart_8 rfl hl (by decide) rfl (fun ls hl => ?_)
  refine lv_aload_n hx hb dX3_meanStart_9 rfl (lv_at hl 0 rfl) ?_
  refine va_alen (v := 40) hx hb hK hP 2 5 rfl rfl rfl dX3_meanStart_10 ?_
  refine lv_istore (lv' := [(4, .int 40), (3, .ref (a.1 2)), (2, .int 0), (1, .int 0), (0, .ref (a.1 0))]) hx hb dX3_meanStart_11 hl (by decide) rfl (fun ls hl => ?_)
  refine lv_iconst (v := 0) hx hb dX3_meanStart_13 (by decide) ?_
  refine lv_istore (lv' := [(5, .int 0), (4, .int 40), (3, .ref (a.1 2)), (2, .int 0), (1, .int 0), (0, .ref (a.1 0))]) hx hb dX3_meanStart_14 hl (by decide) rfl (fun ls hl => ?_)
  exact k_X3_meanStart_16 hl0 hx hb hr hts hml hown hlocks hK hP hD hN _ _ 0 0 40 0  ls h (lv_sub hl [4, 3, 2, 1, 0] rfl)
