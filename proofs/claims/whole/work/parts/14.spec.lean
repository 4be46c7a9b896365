theorem hd_X0_init : yX0_init.cls ≠ "java/lang/invoke/MethodHandle" ∧ yX0_init.cls ≠ "java/lang/invoke/VarHandle" ∧ (parseMethodDescriptor yX0_init.desc).map (fun d => d.parameters.length) = some 5 := by decide +kernel
set_option maxHeartbeats 4000000 in
set_option maxRecDepth 100000 in
theorem c_X0_init (l : Launch) (D : va_G) (cy : Nat → ClassId) (q sz : Nat) (p1 p2 p3 p4 p5 : Int32) : Met l yX0_init wsX0_init ({ frames := 1, cells := 0, slots := 0, locals := 12 } : Room) (va_Pc [.ref q, .int p1, .int p2, .int p3, .int p4, .int p5] (zJ sz (cI D cy [(q, .inr (0, [.int 0, .int 0, .int 0, .int 0, .int 0, .int 0]))]))) (va_Qv (fun (_ : Unit) => True) (fun _ t => va_P D xcl [(q, .inr (0, [.int p1, .int p2, .int p3, .int p4, .int p5, .int 0]))] t.heap ∧ va_D (va_A [(q, .inr (0, [.int 0, .int 0, .int 0, .int 0, .int 0, .int 0]))] sz) [(q, .inr (0, [.int p1, .int p2, .int p3, .int p4, .int p5, .int 0]))]) (va_A [(q, .inr (0, [.int 0, .int 0, .int 0, .int 0, .int 0, .int 0]))] sz)) 0 0 (va_A [(q, .inr (0, [.int 0, .int 0, .int 0, .int 0, .int 0, .int 0]))] sz) := by
  refine Met.ofW (cc := cX0_init) (maxL := 6) (ret := none) (by decide) rfl ?_
  intro p e s m args below meth c s₁ B hml hv
  obtain ⟨rfl, hsz, hP, hK, hD0⟩ := hv
  have hx := B.exec
  have hb := B.bytes
  have hr := B.returns
  have hts := atoms_spec (ws := wsX0_init) B.pre
  have hown : s.vm.findClass RX0 = some m.cls := findClass_of_methodNamed B.named
  have hlocks := B.notSynchronized
  have hmi : meth.name = "<init>" := (name_of_methodNamed B.named B.method).1
  subst hsz
  have hD := hD0.self (sz := s.heap.size)
  generalize hAe : va_A [(q, .inr (0, [.int 0, .int 0, .int 0, .int 0, .int 0, .int 0]))] s.heap.size = A at hD ⊢
  have hS : va_S A s.heap s.heap [] := va_S.rf
  have hl := lv_entry ([.ref q, .int p1, .int p2, .int p3, .int p4, .int p5]) (n := 6) (Nat.le_of_ble_eq_true rfl)
  rw [lg_entry_eq]
  generalize (lg_sl ([.ref q, .int p1, .int p2, .int p3, .int p4, .int p5]) ++ List.replicate (6 - (lg_sl ([.ref q, .int p1, .int p2, .int p3, .int p4, .int p5])).length) Slot.unset).toArray = ls at hl ⊢
  have hl : lv_has ls 6 [(0, .ref q), (1, .int p1), (2, .int p2), (3, .int p3), (4, .int p4), (5, .int p5)] := hl
  have hinX0 : ∀ w ∈ wsX00, w ∈ wsX0_init := (fun _ h => (List.mem_cons_of_mem _ (List.mem_append_right _ h)))
  refine lv_aload_n hx hb dX0_init_0 rfl (lv_at hl 0 rfl) ?_
  refine W.objInit hx hb hown (hts _ (List.mem_of_getElem? (i := 1) rfl)) (hts _ (List.mem_of_getElem? (i := 2) rfl)) (hts _ (List.mem_of_getElem? (i := 3) rfl)) rfl (by rw [hml]; exact hl.1) rfl dX0_init_1 (Nat.le_of_ble_eq_true rfl) (Nat.le_of_ble_eq_true rfl) ?_
  refine W.eq (g2 := F0 m 4 ls []) rfl ?_
  refine lv_aload_n hx hb dX0_init_4 rfl (lv_at hl 0 rfl) ?_
  refine lv_iload_n hx hb dX0_init_5 rfl (lv_at hl 1 rfl) ?_
  refine va_putF (D := D) (ci := 0) (v := .int p1) (ty := .int) (C := RX0) (T := TX0) (N := 6) hx hb hts hinX0 tyX0 tyX0_ok nmX0 hown hK hP hD hS 0 rfl rfl 0 (by decide) (hts _ (List.mem_of_getElem? (i := 4) rfl)) (fun _ h9 => h9) rfl hmi rfl (by decide +kernel) rfl rfl (Nat.le_of_ble_eq_true rfl) dX0_init_6 (fun H locs hP hD hS => ?_)
  replace hP : va_P D xcl [(q, .inr (0, [.int p1, .int 0, .int 0, .int 0, .int 0, .int 0]))] H := hP
  replace hD : va_D A [(q, .inr (0, [.int p1, .int 0, .int 0, .int 0, .int 0, .int 0]))] := hD
  refine lv_aload_n hx hb dX0_init_9 rfl (lv_at hl 0 rfl) ?_
  refine lv_iload_n hx hb dX0_init_10 rfl (lv_at hl 2 rfl) ?_
  refine va_putF (D := D) (ci := 0) (v := .int p2) (ty := .int) (C := RX0) (T := TX0) (N := 6) hx hb hts hinX0 tyX0 tyX0_ok nmX0 hown hK hP hD hS 0 rfl rfl 1 (by decide) (hts _ (List.mem_of_getElem? (i := 5) rfl)) (fun _ h9 => h9) rfl hmi rfl (by decide +kernel) rfl rfl (Nat.le_of_ble_eq_true rfl) dX0_init_11 (fun H locs hP hD hS => ?_)
  replace hP : va_P D xcl [(q, .inr (0, [.int p1, .int p2, .int 0, .int 0, .int 0, .int 0]))] H := hP
  replace hD : va_D A [(q, .inr (0, [.int p1, .int p2, .int 0, .int 0, .int 0, .int 0]))] := hD
  refine lv_aload_n hx hb dX0_init_14 rfl (lv_at hl 0 rfl) ?_
  refine lv_iload_n hx hb dX0_init_15 rfl (lv_at hl 3 rfl) ?_
  refine va_putF (D := D) (ci := 0) (v := .int p3) (ty := .int) (C := RX0) (T := TX0) (N := 6) hx hb hts hinX0 tyX0 tyX0_ok nmX0 hown hK hP hD hS 0 rfl rfl 2 (by decide) (hts _ (List.mem_of_getElem? (i := 6) rfl)) (fun _ h9 => h9) rfl hmi rfl (by decide +kernel) rfl rfl (Nat.le_of_ble_eq_true rfl) dX0_init_16 (fun H locs hP hD hS => ?_)
  replace hP : va_P D xcl [(q, .inr (0, [.int p1, .int p2, .int p3, .int 0, .int 0, .int 0]))] H := hP
  replace hD : va_D A [(q, .inr (0, [.int p1, .int p2, .int p3, .int 0, .int 0, .int 0]))] := hD
  refine lv_aload_n hx hb dX0_init_19 rfl (lv_at hl 0 rfl) ?_
  refine lv_iload hx hb dX0_init_20 (lv_at hl 4 rfl) ?_
  refine va_putF (D := D) (ci := 0) (v := .int p4) (ty := .int) (C := RX0) (T := TX0) (N := 6) hx hb hts hinX0 tyX0 tyX0_ok nmX0 hown hK hP hD hS 0 rfl rfl 3 (by decide) (hts _ (List.mem_of_getElem? (i := 7) rfl)) (fun _ h9 => h9) rfl hmi rfl (by decide +kernel) rfl rfl (Nat.le_of_ble_eq_true rfl) dX0_init_22 (fun H locs hP hD hS => ?_)
  replace hP : va_P D xcl [(q, .inr (0, [.int p1, .int p2, .int p3, .int p4, .int 0, .int 0]))] H := hP
  replace hD : va_D A [(q, .inr (0, [.int p1, .int p2, .int p3, .int p4, .int 0, .int 0]))] := hD
  refine lv_aload_n hx hb dX0_init_25 rfl (lv_at hl 0 rfl) ?_
  refine lv_iload hx hb dX0_init_26 (lv_at hl 5 rfl) ?_
  refine va_putF (D := D) (ci := 0) (v := .int p5) (ty := .int) (C := RX0) (T := TX0) (N := 6) hx hb hts hinX0 tyX0 tyX0_ok nmX0 hown hK hP hD hS 0 rfl rfl 4 (by decide) (hts _ (List.mem_of_getElem? (i := 8) rfl)) (fun _ h9 => h9) rfl hmi rfl (by decide +kernel) rfl rfl (Nat.le_of_ble_eq_true rfl) dX0_init_28 (fun H locs hP hD hS => ?_)
  replace hP : va_P D xcl [(q, .inr (0, [.int p1, .int p2, .int p3, .int p4, .int p5, .int 0]))] H := hP
  replace hD : va_D A [(q, .inr (0, [.int p1, .int p2, .int p3, .int p4, .int p5, .int 0]))] := hD
  exact W.vret hx hb hr (fun t ht hW => ⟨⟨(), rfl, trivial, by rw [ht]; exact hP, hD⟩, hS.F ht⟩) hS.2.2 dX0_init_31 hlocks
theorem hd_X1_init : yX1_init.cls ≠ "java/lang/invoke/MethodHandle" ∧ yX1_init.cls ≠ "java/lang/invoke/VarHandle" ∧ (parseMethodDescriptor yX1_init.desc).map (fun d => d.parameters.length) = some 7 := by decide +kernel
set_option maxHeartbeats 4000000 in
set_option maxRecDepth 100000 in
theorem c_X1_init (l : Launch) (D : va_G) (cy : Nat → ClassId) (q sz : Nat) (p1 p2 p3 p4 p5 p6 p7 : Int32) {air : Int64} (h : f_X3_airBetween p1 p2 p3 p4 = some air) : Met l yX1_init wsX1_init ({ frames := 2, cells := 0, slots := 0, locals := 80 } : Room) (va_Pc [.ref q, .int p1, .int p2, .int p3, .int p4, .int p5, .int p6, .int p7] (zJ sz (nI1 (cI D cy [(q, .inr (1, [.int 0, .int 0, .int 0, .int 0, .int 0, .int 0, .int 0, .long 0, .int 0, .int 0, .int 0]))])))) (va_Qv (fun (_ : Unit) => True) (fun _ t => va_P D xcl [(q, .inr (1, [.int p1, .int p2, .int p3, .int p4, .int p5, .int p6, .int p7, .long air, .int 119, .int (-1), .int (-1)]))] t.heap ∧ va_D (va_A [(q, .inr (1, [.int 0, .int 0, .int 0, .int 0, .int 0, .int 0, .int 0, .long 0, .int 0, .int 0, .int 0]))] sz) [(q, .inr (1, [.int p1, .int p2, .int p3, .int p4, .int p5, .int p6, .int p7, .long air, .int 119, .int (-1), .int (-1)]))]) (va_A [(q, .inr (1, [.int 0, .int 0, .int 0, .int 0, .int 0, .int 0, .int 0, .long 0, .int 0, .int 0, .int 0]))] sz)) 0 0 (va_A [(q, .inr (1, [.int 0, .int 0, .int 0, .int 0, .int 0, .int 0, .int 0, .long 0, .int 0, .int 0, .int 0]))] sz) := by
  refine Met.ofW (cc := cX1_init) (maxL := 8) (ret := none) (by decide) rfl ?_
  intro p e s m args below meth c s₁ B hml hv
  obtain ⟨rfl, hsz, hNest, hP, hK, hD0⟩ := hv
  have hx := B.exec
  have hb := B.bytes
  have hr := B.returns
  have hts := atoms_spec (ws := wsX1_init) B.pre
  have hown : s.vm.findClass RX1 = some m.cls := findClass_of_methodNamed B.named
  have hlocks := B.notSynchronized
  have hmi : meth.name = "<init>" := (name_of_methodNamed B.named B.method).1
  subst hsz
  have hD := hD0.self (sz := s.heap.size)
  generalize hAe : va_A [(q, .inr (1, [.int 0, .int 0, .int 0, .int 0, .int 0, .int 0, .int 0, .long 0, .int 0, .int 0, .int 0]))] s.heap.size = A at hD ⊢
  have hS : va_S A s.heap s.heap [] := va_S.rf
  have hl := lv_entry ([.ref q, .int p1, .int p2, .int p3, .int p4, .int p5, .int p6, .int p7]) (n := 8) (Nat.le_of_ble_eq_true rfl)
  rw [lg_entry_eq]
  generalize (lg_sl ([.ref q, .int p1, .int p2, .int p3, .int p4, .int p5, .int p6, .int p7]) ++ List.replicate (8 - (lg_sl ([.ref q, .int p1, .int p2, .int p3, .int p4, .int p5, .int p6, .int p7])).length) Slot.unset).toArray = ls at hl ⊢
  have hl : lv_has ls 8 [(0, .ref q), (1, .int p1), (2, .int p2), (3, .int p3), (4, .int p4), (5, .int p5), (6, .int p6), (7, .int p7)] := hl
  have hinX1 : ∀ w ∈ wsX10, w ∈ wsX1_init := (fun _ h => (List.mem_cons_of_mem _ (List.mem_append_right _ h)))
  refine lv_aload_n hx hb dX1_init_0 rfl (lv_at hl 0 rfl) ?_
  refine W.objInit hx hb hown (hts _ (List.mem_of_getElem? (i := 1) rfl)) (hts _ (List.mem_of_getElem? (i := 2) rfl)) (hts _ (List.mem_of_getElem? (i := 3) rfl)) rfl (by rw [hml]; exact hl.1) rfl dX1_init_1 (Nat.le_of_ble_eq_true rfl) (Nat.le_of_ble_eq_true rfl) ?_
  refine W.eq (g2 := F0 m 4 ls []) rfl ?_
  refine lv_aload_n hx hb dX1_init_4 rfl (lv_at hl 0 rfl) ?_
  refine lv_bipush (v := 119) hx hb dX1_init_5 (by decide) ?_
  refine va_put (D := D) (ci := 1) (v := .int 119) (ty := .char) (C := RX1) (T := TX1) (N := 11) hx hb hts hinX1 tyX1 tyX1_ok nmX1 hown hK hP hD hS 0 rfl rfl 8 (by decide) (hts _ (List.mem_of_getElem? (i := 4) rfl)) (fun _ h9 => h9) rfl (by decide +kernel) (by decide) (by decide) (Nat.le_of_ble_eq_true rfl) dX1_init_7 (fun H locs hP hD hS => ?_)
  replace hP : va_P D xcl [(q, .inr (1, [.int 0, .int 0, .int 0, .int 0, .int 0, .int 0, .int 0, .long 0, .int 119, .int 0, .int 0]))] H := hP
  replace hD : va_D A [(q, .inr (1, [.int 0, .int 0, .int 0, .int 0, .int 0, .int 0, .int 0, .long 0, .int 119, .int 0, .int 0]))] := hD
  refine lv_aload_n hx hb dX1_init_10 rfl (lv_at hl 0 rfl) ?_
  refine lv_iconst (v := (-1)) hx hb dX1_init_11 (by decide) ?_
  refine va_put (D := D) (ci := 1) (v := .int (-1)) (ty := .int) (C := RX1) (T := TX1) (N := 11) hx hb hts hinX1 tyX1 tyX1_ok nmX1 hown hK hP hD hS 0 rfl rfl 9 (by decide) (hts _ (List.mem_of_getElem? (i := 5) rfl)) (fun _ h9 => h9) rfl (by decide +kernel) rfl rfl (Nat.le_of_ble_eq_true rfl) dX1_init_12 (fun H locs hP hD hS => ?_)
  replace hP : va_P D xcl [(q, .inr (1, [.int 0, .int 0, .int 0, .int 0, .int 0, .int 0, .int 0, .long 0, .int 119, .int (-1), .int 0]))] H := hP
  replace hD : va_D A [(q, .inr (1, [.int 0, .int 0, .int 0, .int 0, .int 0, .int 0, .int 0, .long 0, .int 119, .int (-1), .int 0]))] := hD
  refine lv_aload_n hx hb dX1_init_15 rfl (lv_at hl 0 rfl) ?_
  refine lv_iconst (v := (-1)) hx hb dX1_init_16 (by decide) ?_
  refine va_put (D := D) (ci := 1) (v := .int (-1)) (ty := .int) (C := RX1) (T := TX1) (N := 11) hx hb hts hinX1 tyX1 tyX1_ok nmX1 hown hK hP hD hS 0 rfl rfl 10 (by decide) (hts _ (List.mem_of_getElem? (i := 6) rfl)) (fun _ h9 => h9) rfl (by decide +kernel) rfl rfl (Nat.le_of_ble_eq_true rfl) dX1_init_17 (fun H locs hP hD hS => ?_)
  replace hP : va_P D xcl [(q, .inr (1, [.int 0, .int 0, .int 0, .int 0, .int 0, .int 0, .int 0, .long 0, .int 119, .int (-1), .int (-1)]))] H := hP
  replace hD : va_D A [(q, .inr (1, [.int 0, .int 0, .int 0, .int 0, .int 0, .int 0, .int 0, .long 0, .int 119, .int (-1), .int (-1)]))] := hD
  refine lv_aload_n hx hb dX1_init_20 rfl (lv_at hl 0 rfl) ?_
  refine lv_iload_n hx hb dX1_init_21 rfl (lv_at hl 1 rfl) ?_
  refine va_putF (D := D) (ci := 1) (v := .int p1) (ty := .int) (C := RX1) (T := TX1) (N := 11) hx hb hts hinX1 tyX1 tyX1_ok nmX1 hown hK hP hD hS 0 rfl rfl 0 (by decide) (hts _ (List.mem_of_getElem? (i := 7) rfl)) (fun _ h9 => h9) rfl hmi rfl (by decide +kernel) rfl rfl (Nat.le_of_ble_eq_true rfl) dX1_init_22 (fun H locs hP hD hS => ?_)
  replace hP : va_P D xcl [(q, .inr (1, [.int p1, .int 0, .int 0, .int 0, .int 0, .int 0, .int 0, .long 0, .int 119, .int (-1), .int (-1)]))] H := hP
  replace hD : va_D A [(q, .inr (1, [.int p1, .int 0, .int 0, .int 0, .int 0, .int 0, .int 0, .long 0, .int 119, .int (-1), .int (-1)]))] := hD
  refine lv_aload_n hx hb dX1_init_25 rfl (lv_at hl 0 rfl) ?_
  refine lv_iload_n hx hb dX1_init_26 rfl (lv_at hl 2 rfl) ?_
  refine va_putF (D := D) (ci := 1) (v := .int p2) (ty := .int) (C := RX1) (T := TX1) (N := 11) hx hb hts hinX1 tyX1 tyX1_ok nmX1 hown hK hP hD hS 0 rfl rfl 1 (by decide) (hts _ (List.mem_of_getElem? (i := 8) rfl)) (fun _ h9 => h9) rfl hmi rfl (by decide +kernel) rfl rfl (Nat.le_of_ble_eq_true rfl) dX1_init_27 (fun H locs hP hD hS => ?_)
  replace hP : va_P D xcl [(q, .inr (1, [.int p1, .int p2, .int 0, .int 0, .int 0, .int 0, .int 0, .long 0, .int 119, .int (-1), .int (-1)]))] H := hP
  replace hD : va_D A [(q, .inr (1, [.int p1, .int p2, .int 0, .int 0, .int 0, .int 0, .int 0, .long 0, .int 119, .int (-1), .int (-1)]))] := hD
  refine lv_aload_n hx hb dX1_init_30 rfl (lv_at hl 0 rfl) ?_
  refine lv_iload_n hx hb dX1_init_31 rfl (lv_at hl 3 rfl) ?_
  refine va_putF (D := D) (ci := 1) (v := .int p3) (ty := .int) (C := RX1) (T := TX1) (N := 11) hx hb hts hinX1 tyX1 tyX1_ok nmX1 hown hK hP hD hS 0 rfl rfl 2 (by decide) (hts _ (List.mem_of_getElem? (i := 9) rfl)) (fun _ h9 => h9) rfl hmi rfl (by decide +kernel) rfl rfl (Nat.le_of_ble_eq_true rfl) dX1_init_32 (fun H locs hP hD hS => ?_)
  replace hP : va_P D xcl [(q, .inr (1, [.int p1, .int p2, .int p3, .int 0, .int 0, .int 0, .int 0, .long 0, .int 119, .int (-1), .int (-1)]))] H := hP
  replace hD : va_D A [(q, .inr (1, [.int p1, .int p2, .int p3, .int 0, .int 0, .int 0, .int 0, .long 0, .int 119, .int (-1), .int (-1)]))] := hD
  refine lv_aload_n hx hb dX1_init_35 rfl (lv_at hl 0 rfl) ?_
  refine lv_iload hx hb dX1_init_36 (lv_at hl 4 rfl) ?_
  refine va_putF (D := D) (ci := 1) (v := .int p4) (ty := .int) (C := RX1) (T := TX1) (N := 11) hx hb hts hinX1 tyX1 tyX1_ok nmX1 hown hK hP hD hS 0 rfl rfl 3 (by decide) (hts _ (List.mem_of_getElem? (i := 10) rfl)) (fun _ h9 => h9) rfl hmi rfl (by decide +kernel) rfl rfl (Nat.le_of_ble_eq_true rfl) dX1_init_38 (fun H locs hP hD hS => ?_)
  replace hP : va_P D xcl [(q, .inr (1, [.int p1, .int p2, .int p3, .int p4, .int 0, .int 0, .int 0, .long 0, .int 119, .int (-1), .int (-1)]))] H := hP
  replace hD : va_D A [(q, .inr (1, [.int p1, .int p2, .int p3, .int p4, .int 0, .int 0, .int 0, .long 0, .int 119, .int (-1), .int (-1)]))] := hD
  refine lv_aload_n hx hb dX1_init_41 rfl (lv_at hl 0 rfl) ?_
  refine lv_iload hx hb dX1_init_42 (lv_at hl 5 rfl) ?_
  refine va_putF (D := D) (ci := 1) (v := .int p5) (ty := .int) (C := RX1) (T := TX1) (N := 11) hx hb hts hinX1 tyX1 tyX1_ok nmX1 hown hK hP hD hS 0 rfl rfl 4 (by decide) (hts _ (List.mem_of_getElem? (i := 11) rfl)) (fun _ h9 => h9) rfl hmi rfl (by decide +kernel) rfl rfl (Nat.le_of_ble_eq_true rfl) dX1_init_44 (fun H locs hP hD hS => ?_)
  replace hP : va_P D xcl [(q, .inr (1, [.int p1, .int p2, .int p3, .int p4, .int p5, .int 0, .int 0, .long 0, .int 119, .int (-1), .int (-1)]))] H := hP
  replace hD : va_D A [(q, .inr (1, [.int p1, .int p2, .int p3, .int p4, .int p5, .int 0, .int 0, .long 0, .int 119, .int (-1), .int (-1)]))] := hD
  refine lv_aload_n hx hb dX1_init_47 rfl (lv_at hl 0 rfl) ?_
  refine lv_iload hx hb dX1_init_48 (lv_at hl 6 rfl) ?_
  refine va_putF (D := D) (ci := 1) (v := .int p6) (ty := .int) (C := RX1) (T := TX1) (N := 11) hx hb hts hinX1 tyX1 tyX1_ok nmX1 hown hK hP hD hS 0 rfl rfl 5 (by decide) (hts _ (List.mem_of_getElem? (i := 12) rfl)) (fun _ h9 => h9) rfl hmi rfl (by decide +kernel) rfl rfl (Nat.le_of_ble_eq_true rfl) dX1_init_50 (fun H locs hP hD hS => ?_)
  replace hP : va_P D xcl [(q, .inr (1, [.int p1, .int p2, .int p3, .int p4, .int p5, .int p6, .int 0, .long 0, .int 119, .int (-1), .int (-1)]))] H := hP
  replace hD : va_D A [(q, .inr (1, [.int p1, .int p2, .int p3, .int p4, .int p5, .int p6, .int 0, .long 0, .int 119, .int (-1), .int (-1)]))] := hD
  refine lv_aload_n hx hb dX1_init_53 rfl (lv_at hl 0 rfl) ?_
  refine lv_iload hx hb dX1_init_54 (lv_at hl 7 rfl) ?_
  refine va_putF (D := D) (ci := 1) (v := .int p7) (ty := .int) (C := RX1) (T := TX1) (N := 11) hx hb hts hinX1 tyX1 tyX1_ok nmX1 hown hK hP hD hS 0 rfl rfl 6 (by decide) (hts _ (List.mem_of_getElem? (i := 13) rfl)) (fun _ h9 => h9) rfl hmi rfl (by decide +kernel) rfl rfl (Nat.le_of_ble_eq_true rfl) dX1_init_56 (fun H locs hP hD hS => ?_)
  replace hP : va_P D xcl [(q, .inr (1, [.int p1, .int p2, .int p3, .int p4, .int p5, .int p6, .int p7, .long 0, .int 119, .int (-1), .int (-1)]))] H := hP
  replace hD : va_D A [(q, .inr (1, [.int p1, .int p2, .int p3, .int p4, .int p5, .int p6, .int p7, .long 0, .int 119, .int (-1), .int (-1)]))] := hD
  refine lv_aload_n hx hb dX1_init_59 rfl (lv_at hl 0 rfl) ?_
  refine lv_iload_n hx hb dX1_init_60 rfl (lv_at hl 1 rfl) ?_
  refine lv_iload_n hx hb dX1_init_61 rfl (lv_at hl 2 rfl) ?_
  refine lv_iload_n hx hb dX1_init_62 rfl (lv_at hl 3 rfl) ?_
  refine lv_iload hx hb dX1_init_63 (lv_at hl 4 rfl) ?_
  refine zcSl (v := air) (z_CR (va_runSN (As := [.int p1, .int p2, .int p3, .int p4]) (rest := [.ref q]) ⟨hx, hb, hml, hown, hts⟩ (c_X3_airBetween l p1 p2 p3 p4 h) ⟨va_cnB 4 hts gX1_init_X3_airBetween_n43 rfl rfl rfl hNest (hts _ (List.mem_of_getElem? (i := 16) rfl)) hd_X3_airBetween ⟨Nat.le_of_ble_eq_true rfl, Nat.le_of_ble_eq_true rfl⟩, (hts _ (List.mem_of_getElem? (i := 15) rfl)), trivial⟩ ⟨zT_blind, zT_at⟩ rfl rfl hl.1 rfl (lv_room (Nat.le_of_ble_eq_true rfl)) dX1_init_65 ⟨Nat.le_of_ble_eq_true rfl, Nat.le_of_ble_eq_true rfl⟩)) ?_
  refine va_putF (D := D) (ci := 1) (v := .long air) (ty := .long) (C := RX1) (T := TX1) (N := 11) hx hb hts hinX1 tyX1 tyX1_ok nmX1 hown hK hP hD hS 0 rfl rfl 7 (by decide) (hts _ (List.mem_of_getElem? (i := 14) rfl)) (fun _ h9 => h9) rfl hmi rfl (by decide +kernel) rfl rfl (Nat.le_of_ble_eq_true rfl) dX1_init_68 (fun H locs hP hD hS => ?_)
  replace hP : va_P D xcl [(q, .inr (1, [.int p1, .int p2, .int p3, .int p4, .int p5, .int p6, .int p7, .long air, .int 119, .int (-1), .int (-1)]))] H := hP
  replace hD : va_D A [(q, .inr (1, [.int p1, .int p2, .int p3, .int p4, .int p5, .int p6, .int p7, .long air, .int 119, .int (-1), .int (-1)]))] := hD
  exact W.vret hx hb hr (fun t ht hW => ⟨⟨(), rfl, trivial, by rw [ht]; exact hP, hD⟩, hS.F ht⟩) hS.2.2 dX1_init_71 hlocks
theorem hd_X2_init : yX2_init.cls ≠ "java/lang/invoke/MethodHandle" ∧ yX2_init.cls ≠ "java/lang/invoke/VarHandle" ∧ (parseMethodDescriptor yX2_init.desc).map (fun d => d.parameters.length) = some 3 := by decide +kernel
set_option maxHeartbeats 4000000 in
set_option maxRecDepth 100000 in
theorem c_X2_init (l : Launch) (D : va_G) (cy : Nat → ClassId) (q sz : Nat) (p1 p2 p3 : Int32) : Met l yX2_init wsX2_init ({ frames := 1, cells := 0, slots := 0, locals := 12 } : Room) (va_Pc [.ref q, .int p1, .int p2, .int p3] (zJ sz (cI D cy [(q, .inr (2, [.int 0, .int 0, .int 0]))]))) (va_Qv (fun (_ : Unit) => True) (fun _ t => va_P D xcl [(q, .inr (2, [.int p1, .int p2, .int p3]))] t.heap ∧ va_D (va_A [(q, .inr (2, [.int 0, .int 0, .int 0]))] sz) [(q, .inr (2, [.int p1, .int p2, .int p3]))]) (va_A [(q, .inr (2, [.int 0, .int 0, .int 0]))] sz)) 0 0 (va_A [(q, .inr (2, [.int 0, .int 0, .int 0]))] sz) := by
  refine Met.ofW (cc := cX2_init) (maxL := 4) (ret := none) (by decide) rfl ?_
  intro p e s m args below meth c s₁ B hml hv
  obtain ⟨rfl, hsz, hP, hK, hD0⟩ := hv
  have hx := B.exec
  have hb := B.bytes
  have hr := B.returns
  have hts := atoms_spec (ws := wsX2_init) B.pre
  have hown : s.vm.findClass RX2 = some m.cls := findClass_of_methodNamed B.named
  have hlocks := B.notSynchronized
  have hmi : meth.name = "<init>" := (name_of_methodNamed B.named B.method).1
  subst hsz
  have hD := hD0.self (sz := s.heap.size)
  generalize hAe : va_A [(q, .inr (2, [.int 0, .int 0, .int 0]))] s.heap.size = A at hD ⊢
  have hS : va_S A s.heap s.heap [] := va_S.rf
  have hl := lv_entry ([.ref q, .int p1, .int p2, .int p3]) (n := 4) (Nat.le_of_ble_eq_true rfl)
  rw [lg_entry_eq]
  generalize (lg_sl ([.ref q, .int p1, .int p2, .int p3]) ++ List.replicate (4 - (lg_sl ([.ref q, .int p1, .int p2, .int p3])).length) Slot.unset).toArray = ls at hl ⊢
  have hl : lv_has ls 4 [(0, .ref q), (1, .int p1), (2, .int p2), (3, .int p3)] := hl
  have hinX2 : ∀ w ∈ wsX20, w ∈ wsX2_init := (fun _ h => (List.mem_cons_of_mem _ (List.mem_append_right _ h)))
  refine lv_aload_n hx hb dX2_init_0 rfl (lv_at hl 0 rfl) ?_
  refine W.objInit hx hb hown (hts _ (List.mem_of_getElem? (i := 1) rfl)) (hts _ (List.mem_of_getElem? (i := 2) rfl)) (hts _ (List.mem_of_getElem? (i := 3) rfl)) rfl (by rw [hml]; exact hl.1) rfl dX2_init_1 (Nat.le_of_ble_eq_true rfl) (Nat.le_of_ble_eq_true rfl) ?_
  refine W.eq (g2 := F0 m 4 ls []) rfl ?_
  refine lv_aload_n hx hb dX2_init_4 rfl (lv_at hl 0 rfl) ?_
  refine lv_iload_n hx hb dX2_init_5 rfl (lv_at hl 1 rfl) ?_
  refine va_putF (D := D) (ci := 2) (v := .int p1) (ty := .int) (C := RX2) (T := TX2) (N := 3) hx hb hts hinX2 tyX2 tyX2_ok nmX2 hown hK hP hD hS 0 rfl rfl 0 (by decide) (hts _ (List.mem_of_getElem? (i := 4) rfl)) (fun _ h9 => h9) rfl hmi rfl (by decide +kernel) rfl rfl (Nat.le_of_ble_eq_true rfl) dX2_init_6 (fun H locs hP hD hS => ?_)
  replace hP : va_P D xcl [(q, .inr (2, [.int p1, .int 0, .int 0]))] H := hP
  replace hD : va_D A [(q, .inr (2, [.int p1, .int 0, .int 0]))] := hD
  refine lv_aload_n hx hb dX2_init_9 rfl (lv_at hl 0 rfl) ?_
  refine lv_iload_n hx hb dX2_init_10 rfl (lv_at hl 2 rfl) ?_
  refine va_putF (D := D) (ci := 2) (v := .int p2) (ty := .int) (C := RX2) (T := TX2) (N := 3) hx hb hts hinX2 tyX2 tyX2_ok nmX2 hown hK hP hD hS 0 rfl rfl 1 (by decide) (hts _ (List.mem_of_getElem? (i := 5) rfl)) (fun _ h9 => h9) rfl hmi rfl (by decide +kernel) rfl rfl (Nat.le_of_ble_eq_true rfl) dX2_init_11 (fun H locs hP hD hS => ?_)
  replace hP : va_P D xcl [(q, .inr (2, [.int p1, .int p2, .int 0]))] H := hP
  replace hD : va_D A [(q, .inr (2, [.int p1, .int p2, .int 0]))] := hD
  refine lv_aload_n hx hb dX2_init_14 rfl (lv_at hl 0 rfl) ?_
  refine lv_iload_n hx hb dX2_init_15 rfl (lv_at hl 3 rfl) ?_
  refine va_putF (D := D) (ci := 2) (v := .int p3) (ty := .int) (C := RX2) (T := TX2) (N := 3) hx hb hts hinX2 tyX2 tyX2_ok nmX2 hown hK hP hD hS 0 rfl rfl 2 (by decide) (hts _ (List.mem_of_getElem? (i := 6) rfl)) (fun _ h9 => h9) rfl hmi rfl (by decide +kernel) rfl rfl (Nat.le_of_ble_eq_true rfl) dX2_init_16 (fun H locs hP hD hS => ?_)
  replace hP : va_P D xcl [(q, .inr (2, [.int p1, .int p2, .int p3]))] H := hP
  replace hD : va_D A [(q, .inr (2, [.int p1, .int p2, .int p3]))] := hD
  exact W.vret hx hb hr (fun t ht hW => ⟨⟨(), rfl, trivial, by rw [ht]; exact hP, hD⟩, hS.F ht⟩) hS.2.2 dX2_init_19 hlocks
theorem hd_X3_keepLift : yX3_keepLift.cls = RX3 ∧ yX3_keepLift.cls ≠ "java/lang/invoke/MethodHandle" ∧ yX3_keepLift.cls ≠ "java/lang/invoke/VarHandle" ∧ (parseMethodDescriptor yX3_keepLift.desc).map (fun d => d.parameters.length) = some 1 := by decide +kernel
set_option maxHeartbeats 4000000 in
set_option maxRecDepth 100000 in
theorem c_X3_keepLift (l : Launch) (D : va_G) (cy : Nat → ClassId) (a : XA) (n : Nat → Nat) (V : XV) (q sz : Nat) (g : Nat → Int32) (air : Int64) (h1 : ¬ 40 ≤ V.2.2.1 4) (h2 : vp_in (V.2.2.1 4) 40) (h3 : (V.2.2.1 4).toNatClampNeg = n 1) : Met l yX3_keepLift wsX3_keepLift ({ frames := 0, cells := 0, slots := 0, locals := 0 } : Room) (va_Pc [.ref (a.1 0), .ref q] (zJ sz (cI D cy (xW cy a n V ++ [(q, .inr (1, [.int (g 0), .int (g 1), .int (g 2), .int (g 3), .int (g 4), .int (g 5), .int (g 6), .long air, .int (g 8), .int (g 9), .int (g 10)]))])))) (va_Qv (fun (_ : Unit) => True) (fun _ t => va_P D xcl (xW cy (aup a 1 (n 1) q) (nup n 1) (xsc (xnai (xnew V 1 (n 1) g) (n 1) air) 4 (V.2.2.1 4 + 1))) t.heap ∧ va_D (va_A (xW cy a n V ++ [(q, .inr (1, [.int (g 0), .int (g 1), .int (g 2), .int (g 3), .int (g 4), .int (g 5), .int (g 6), .long air, .int (g 8), .int (g 9), .int (g 10)]))]) sz) (xW cy (aup a 1 (n 1) q) (nup n 1) (xsc (xnai (xnew V 1 (n 1) g) (n 1) air) 4 (V.2.2.1 4 + 1)))) (va_A (xW cy a n V ++ [(q, .inr (1, [.int (g 0), .int (g 1), .int (g 2), .int (g 3), .int (g 4), .int (g 5), .int (g 6), .long air, .int (g 8), .int (g 9), .int (g 10)]))]) sz)) 0 0 (va_A (xW cy a n V ++ [(q, .inr (1, [.int (g 0), .int (g 1), .int (g 2), .int (g 3), .int (g 4), .int (g 5), .int (g 6), .long air, .int (g 8), .int (g 9), .int (g 10)]))]) sz) := by
  refine Met.ofW (cc := cX3_keepLift) (maxL := 2) (ret := none) (by decide) rfl ?_
  intro p e s m args below meth c s₁ B hml hv
  obtain ⟨rfl, hsz, hP, hK, hD0⟩ := hv
  have hx := B.exec
  have hb := B.bytes
  have hr := B.returns
  have hts := atoms_spec (ws := wsX3_keepLift) B.pre
  have hown : s.vm.findClass RX3 = some m.cls := findClass_of_methodNamed B.named
  have hlocks := B.notSynchronized
  subst hsz
  have hD := hD0.self (sz := s.heap.size)
  generalize hAe : va_A (xW cy a n V ++ [(q, .inr (1, [.int (g 0), .int (g 1), .int (g 2), .int (g 3), .int (g 4), .int (g 5), .int (g 6), .long air, .int (g 8), .int (g 9), .int (g 10)]))]) s.heap.size = A at hD ⊢
  have hS : va_S A s.heap s.heap [] := va_S.rf
  have hl := lv_entry ([.ref (a.1 0), .ref q]) (n := 2) (Nat.le_of_ble_eq_true rfl)
  rw [lg_entry_eq]
  generalize (lg_sl ([.ref (a.1 0), .ref q]) ++ List.replicate (2 - (lg_sl ([.ref (a.1 0), .ref q])).length) Slot.unset).toArray = ls at hl ⊢
  have hl : lv_has ls 2 [(0, .ref (a.1 0)), (1, .ref q)] := hl
  have hinX3 : ∀ w ∈ wsX30, w ∈ wsX3_keepLift := (fun _ h => (List.mem_cons_of_mem _ (List.mem_append_right _ h)))
  refine lv_aload_n hx hb dX3_keepLift_0 rfl (lv_at hl 0 rfl) ?_
  refine va_get (D := D) (ci := 3) (v := .int (V.2.2.1 4)) (C := RX3) (T := TX3) (N := 10) hx hb hts hinX3 hown hK hP 0 rfl rfl 4 (by decide) (hts _ (List.mem_of_getElem? (i := 1) rfl)) (fun _ h9 => h9) rfl dX3_keepLift_1 ?_
  refine lv_aload_n hx hb dX3_keepLift_4 rfl (lv_at hl 0 rfl) ?_
  refine va_get (D := D) (ci := 3) (v := .ref (a.1 2)) (C := RX3) (T := TX3) (N := 10) hx hb hts hinX3 hown hK hP 0 rfl rfl 1 (by decide) (hts _ (List.mem_of_getElem? (i := 2) rfl)) (fun _ h9 => h9) rfl dX3_keepLift_5 ?_
  refine va_alen (v := 40) hx hb hK hP 2 5 rfl rfl rfl dX3_keepLift_8 ?_
  refine lv_icmp_ge (tgt := 32) hx hb dX3_keepLift_9 (by decide) (fun c0 => absurd c0 h1) (fun _ => ?_)
  refine lv_aload_n hx hb dX3_keepLift_12 rfl (lv_at hl 0 rfl) ?_
  refine va_get (D := D) (ci := 3) (v := .ref (a.1 2)) (C := RX3) (T := TX3) (N := 10) hx hb hts hinX3 hown hK hP 0 rfl rfl 1 (by decide) (hts _ (List.mem_of_getElem? (i := 2) rfl)) (fun _ h9 => h9) rfl dX3_keepLift_13 ?_
  refine lv_aload_n hx hb dX3_keepLift_16 rfl (lv_at hl 0 rfl) ?_
  refine va_get (D := D) (ci := 3) (v := .int (V.2.2.1 4)) (C := RX3) (T := TX3) (N := 10) hx hb hts hinX3 hown hK hP 0 rfl rfl 4 (by decide) (hts _ (List.mem_of_getElem? (i := 1) rfl)) (fun _ h9 => h9) rfl dX3_keepLift_17 ?_
  refine lv_aload_n hx hb dX3_keepLift_20 rfl (lv_at hl 1 rfl) ?_
  refine va_astq hx hb hK hP hD hS 2 5 _ 1 rfl rfl (z_at_last) rfl h2 dX3_keepLift_21 (fun H locs hP hD hS => ?_)
  rw [h3] at hP hD
  replace hP := zP_perm (xperm1 g air) hP
  replace hD := zD_perm (xperm1 g air) hD
  refine lv_aload_n hx hb dX3_keepLift_22 rfl (lv_at hl 0 rfl) ?_
  refine lv_dup hx hb dX3_keepLift_23 rfl ?_
  refine va_get (D := D) (ci := 3) (v := .int (V.2.2.1 4)) (C := RX3) (T := TX3) (N := 10) hx hb hts hinX3 hown hK hP 0 rfl rfl 4 (by decide) (hts _ (List.mem_of_getElem? (i := 1) rfl)) (fun _ h9 => h9) rfl dX3_keepLift_24 ?_
  refine lv_iconst (v := 1) hx hb dX3_keepLift_27 (by decide) ?_
  refine lv_iadd hx hb dX3_keepLift_28 ?_
  refine va_put (D := D) (ci := 3) (v := .int (V.2.2.1 4 + 1)) (ty := .int) (C := RX3) (T := TX3) (N := 10) hx hb hts hinX3 tyX3 tyX3_ok nmX3 hown hK hP hD hS 0 rfl rfl 4 (by decide) (hts _ (List.mem_of_getElem? (i := 1) rfl)) (fun _ h9 => h9) rfl (by decide +kernel) rfl rfl (Nat.le_of_ble_eq_true rfl) dX3_keepLift_29 (fun H locs hP hD hS => ?_)
  replace hP : va_P D xcl (xW cy (aup a 1 (n 1) q) (nup n 1) (xsc (xnai (xnew V 1 (n 1) g) (n 1) air) 4 (V.2.2.1 4 + 1))) H := hP
  replace hD : va_D A (xW cy (aup a 1 (n 1) q) (nup n 1) (xsc (xnai (xnew V 1 (n 1) g) (n 1) air) 4 (V.2.2.1 4 + 1))) := hD
  exact W.vret hx hb hr (fun t ht hW => ⟨⟨(), rfl, trivial, by rw [ht]; exact hP, hD⟩, hS.F ht⟩) hS.2.2 dX3_keepLift_32 hlocks
def f_X3_addCrane (n : Nat → Nat) (V : XV) (p1 : Int32) (p2 : Int32) (p3 : Int32) (p4 : Int32) (p5 : Int32) : Option (Nat × Int32 × (Nat → Nat) × XV) := ob (f_X3_isPlace p1 p2) (fun u_1 => oi (u_1 = 0) (some (1, 0, n, V)) (ob (f_X3_isFrom 1 p3 40) (fun u_4 => oi (u_4 = 0) (some (1, 0, n, V)) (ob (f_X3_isFrom 1 p4 999) (fun u_7 => oi (u_7 = 0) (some (1, 0, n, V)) (ob (f_X3_isFrom 1 p5 9999) (fun u_10 => oi (u_10 = 0) (some (1, 0, n, V)) (oi ((V.2.2.1 3) < 5) (og (¬ ((V.2.2.1 3) < 0 ∨ 5 ≤ (V.2.2.1 3).toNatClampNeg)) (og ((V.2.2.1 3).toNatClampNeg = n 0) (ob (some (xnew V 0 (n 0) (gC p1 p2 p3 p4 p5))) (fun V_17 => ob (some (xsc V_17 3 ((V_17.2.2.1 3) + 1))) (fun V_19 => some (0, (V_19.2.2.1 3) - 1, nup n 0, V_19)))))) (some (2, 0, n, V))))))))))
theorem hd_X3_addCrane : yX3_addCrane.cls = RX3 ∧ yX3_addCrane.cls ≠ "java/lang/invoke/MethodHandle" ∧ yX3_addCrane.cls ≠ "java/lang/invoke/VarHandle" ∧ (parseMethodDescriptor yX3_addCrane.desc).map (fun d => d.parameters.length) = some 5 := by decide +kernel
set_option maxHeartbeats 4000000 in
set_option maxRecDepth 100000 in
theorem c_X3_addCrane (l : Launch) (hl0 : l.stackTraces = false) (D : va_G) (cy : Nat → ClassId) (a : XA) (n : Nat → Nat) (V : XV) (sz : Nat) (p1 : Int32) (p2 : Int32) (p3 : Int32) (p4 : Int32) (p5 : Int32) {res : Nat × Int32 × (Nat → Nat) × XV} (h : f_X3_addCrane n V p1 p2 p3 p4 p5 = some res) : vx_Met l yX3_addCrane wsX3_addCrane ({ frames := 7, cells := 1, slots := 6, locals := 120 } : Room) (va_Pc [.ref (a.1 0), .int p1, .int p2, .int p3, .int p4, .int p5] (zX sz (va_A (xW cy a n V) sz) (xI D cy a n V))) (va_Qi (fun r (_ : XA) => res.1 = 0 ∧ r = res.2.1) (fun a1 t => a1.1 = a.1 ∧ va_P D xcl (xW cy a1 res.2.2.1 res.2.2.2) t.heap ∧ va_D (va_A (xW cy a n V) sz) (xW cy a1 res.2.2.1 res.2.2.2)) (va_A (xW cy a n V) sz)) (vx_X (fun (_ : XA) => True) (fun E a1 t => E = xnm res.1 ∧ res.1 ≠ 0 ∧ a1.1 = a.1 ∧ va_P D xcl (xW cy a1 res.2.2.1 res.2.2.2) t.heap ∧ va_D (va_A (xW cy a n V) sz) (xW cy a1 res.2.2.1 res.2.2.2)) (va_A (xW cy a n V) sz)) 1 6 (va_A (xW cy a n V) sz) := by
  refine vx_ofW (cc := cX3_addCrane) (maxL := 6) (ret := (some .int)) (by decide) rfl ?_
  intro p e s m args below meth c s₁ B hml hex hv
  obtain ⟨rfl, hsz, hZ, hP, hK, hD0⟩ := hv
  have hx := B.exec
  have hb := B.bytes
  have hr := B.returns
  have hts := atoms_spec (ws := wsX3_addCrane) B.pre
  have hown : s.vm.findClass RX3 = some m.cls := findClass_of_methodNamed B.named
  have hlocks := B.notSynchronized
  subst hsz
  have hD := hD0.self (sz := s.heap.size)
  have hN : zN (va_A (xW cy a n V) s.heap.size) c s := ⟨hZ.1, hZ.2.1, hZ.2.2, hex⟩
  generalize hAe : va_A (xW cy a n V) s.heap.size = A at hD hN ⊢
  have hA : ∀ q : Nat, s.heap.size ≤ q → A q := fun q h => by rw [← hAe]; exact Or.inr h
  have hS : va_S A s.heap s.heap [] := va_S.rf
  have hl := lv_entry ([.ref (a.1 0), .int p1, .int p2, .int p3, .int p4, .int p5]) (n := 6) (Nat.le_of_ble_eq_true rfl)
  rw [lg_entry_eq]
  generalize (lg_sl ([.ref (a.1 0), .int p1, .int p2, .int p3, .int p4, .int p5]) ++ List.replicate (6 - (lg_sl ([.ref (a.1 0), .int p1, .int p2, .int p3, .int p4, .int p5])).length) Slot.unset).toArray = ls at hl ⊢
  have hl : lv_has ls 6 [(0, .ref (a.1 0)), (1, .int p1), (2, .int p2), (3, .int p3), (4, .int p4), (5, .int p5)] := hl
  have hinX0 : ∀ w ∈ wsX00, w ∈ wsX3_addCrane := (fun _ h => (List.mem_cons_of_mem _ (List.mem_append_left _ (List.mem_append_left _ (List.mem_append_right _ h)))))
  have hinX3 : ∀ w ∈ wsX30, w ∈ wsX3_addCrane := (fun _ h => (List.mem_cons_of_mem _ (List.mem_append_left _ (List.mem_append_left _ (List.mem_append_left _ (List.mem_append_right _ h))))))
  revert hP hS
  intro hP hS
  refine lv_iload_n hx hb dX3_addCrane_0 rfl (lv_at hl 1 rfl) ?_
  refine lv_iload_n hx hb dX3_addCrane_1 rfl (lv_at hl 2 rfl) ?_
  obtain ⟨u_1, hg_2, h⟩ := ob_some h
  refine zcSi (W.runS (As := [.int p1, .int p2]) (rest := []) ⟨hx, hb, hml, hown, hts⟩ (c_X3_isPlace l p1 p2 hg_2) (va_cwS 2 hts gX3_addCrane_X3_isPlace rfl rfl rfl hd_X3_isPlace ⟨Nat.le_of_ble_eq_true rfl, Nat.le_of_ble_eq_true rfl⟩) ⟨zT_blind, zT_at⟩ rfl rfl hl.1 rfl (lv_room (Nat.le_of_ble_eq_true rfl)) dX3_addCrane_2 ⟨Nat.le_of_ble_eq_true rfl, Nat.le_of_ble_eq_true rfl⟩) ?_
  refine lv_if_eq (tgt := 42) hx hb dX3_addCrane_5 (by decide) (fun c_3 => ?_) (fun c_3 => ?_)
  · replace h := oi_t c_3 h
    have h9 := Option.some.inj h
    subst h9
    exact vx_throw0 hx hb hl0 hown (by decide) (by decide) (hts _ (List.mem_of_getElem? (i := 1) rfl)) (hts _ (List.mem_of_getElem? (i := 2) rfl)) (vx_hat (fun w h9 => hts w (List.mem_cons_of_mem _ (List.mem_append_left _ (List.mem_append_right _ h9)))) (by decide +kernel) (xNB_1 hN.1 _)) (by decide +kernel) hN.2.1 hN.2.2.1 hS (hl.1.trans hml.symm) dX3_addCrane_42 dX3_addCrane_45 dX3_addCrane_46 dX3_addCrane_49 (fun z hz => (hN.2.2.2 z hz).elim) (Nat.le_of_ble_eq_true rfl) (Nat.le_of_ble_eq_true rfl) (Nat.le_of_ble_eq_true rfl) (Nat.le_of_ble_eq_true rfl) hlocks (fun t hvm hz hk => ⟨a, trivial, ⟨rfl, (show (1 : Nat) ≠ 0 by decide), rfl, zP_kept hP hk, hD⟩, zF_kept hS hz hk⟩) hS.2.2 (Nat.le_of_ble_eq_true rfl) (Nat.le_of_ble_eq_true rfl)
  · replace h := oi_f c_3 h
    refine lv_iconst (v := 1) hx hb dX3_addCrane_8 (by decide) ?_
    refine lv_iload_n hx hb dX3_addCrane_9 rfl (lv_at hl 3 rfl) ?_
    refine lv_bipush (v := 40) hx hb dX3_addCrane_10 (by decide) ?_
    obtain ⟨u_4, hg_5, h⟩ := ob_some h
    refine zcSi (W.runS (As := [.int 1, .int p3, .int 40]) (rest := []) ⟨hx, hb, hml, hown, hts⟩ (c_X3_isFrom l 1 p3 40 hg_5) (va_cwS 3 hts gX3_addCrane_X3_isFrom rfl rfl rfl hd_X3_isFrom ⟨Nat.le_of_ble_eq_true rfl, Nat.le_of_ble_eq_true rfl⟩) ⟨zT_blind, zT_at⟩ rfl rfl hl.1 rfl (lv_room (Nat.le_of_ble_eq_true rfl)) dX3_addCrane_12 ⟨Nat.le_of_ble_eq_true rfl, Nat.le_of_ble_eq_true rfl⟩) ?_
    refine lv_if_eq (tgt := 42) hx hb dX3_addCrane_15 (by decide) (fun c_6 => ?_) (fun c_6 => ?_)
    · replace h := oi_t c_6 h
      have h9 := Option.some.inj h
      subst h9
      exact vx_throw0 hx hb hl0 hown (by decide) (by decide) (hts _ (List.mem_of_getElem? (i := 1) rfl)) (hts _ (List.mem_of_getElem? (i := 2) rfl)) (vx_hat (fun w h9 => hts w (List.mem_cons_of_mem _ (List.mem_append_left _ (List.mem_append_right _ h9)))) (by decide +kernel) (xNB_1 hN.1 _)) (by decide +kernel) hN.2.1 hN.2.2.1 hS (hl.1.trans hml.symm) dX3_addCrane_42 dX3_addCrane_45 dX3_addCrane_46 dX3_addCrane_49 (fun z hz => (hN.2.2.2 z hz).elim) (Nat.le_of_ble_eq_true rfl) (Nat.le_of_ble_eq_true rfl) (Nat.le_of_ble_eq_true rfl) (Nat.le_of_ble_eq_true rfl) hlocks (fun t hvm hz hk => ⟨a, trivial, ⟨rfl, (show (1 : Nat) ≠ 0 by decide), rfl, zP_kept hP hk, hD⟩, zF_kept hS hz hk⟩) hS.2.2 (Nat.le_of_ble_eq_true rfl) (Nat.le_of_ble_eq_true rfl)
    · replace h := oi_f c_6 h
      refine lv_iconst (v := 1) hx hb dX3_addCrane_18 (by decide) ?_
      refine lv_iload hx hb dX3_addCrane_19 (lv_at hl 4 rfl) ?_
      refine lv_sipush (v := 999) hx hb dX3_addCrane_21 (by decide) ?_
      obtain ⟨u_7, hg_8, h⟩ := ob_some h
      refine zcSi (W.runS (As := [.int 1, .int p4, .int 999]) (rest := []) ⟨hx, hb, hml, hown, hts⟩ (c_X3_isFrom l 1 p4 999 hg_8) (va_cwS 3 hts gX3_addCrane_X3_isFrom rfl rfl rfl hd_X3_isFrom ⟨Nat.le_of_ble_eq_true rfl, Nat.le_of_ble_eq_true rfl⟩) ⟨zT_blind, zT_at⟩ rfl rfl hl.1 rfl (lv_room (Nat.le_of_ble_eq_true rfl)) dX3_addCrane_24 ⟨Nat.le_of_ble_eq_true rfl, Nat.le_of_ble_eq_true rfl⟩) ?_
      refine lv_if_eq (tgt := 42) hx hb dX3_addCrane_27 (by decide) (fun c_9 => ?_) (fun c_9 => ?_)
      · replace h := oi_t c_9 h
        have h9 := Option.some.inj h
        subst h9
        exact vx_throw0 hx hb hl0 hown (by decide) (by decide) (hts _ (List.mem_of_getElem? (i := 1) rfl)) (hts _ (List.mem_of_getElem? (i := 2) rfl)) (vx_hat (fun w h9 => hts w (List.mem_cons_of_mem _ (List.mem_append_left _ (List.mem_append_right _ h9)))) (by decide +kernel) (xNB_1 hN.1 _)) (by decide +kernel) hN.2.1 hN.2.2.1 hS (hl.1.trans hml.symm) dX3_addCrane_42 dX3_addCrane_45 dX3_addCrane_46 dX3_addCrane_49 (fun z hz => (hN.2.2.2 z hz).elim) (Nat.le_of_ble_eq_true rfl) (Nat.le_of_ble_eq_true rfl) (Nat.le_of_ble_eq_true rfl) (Nat.le_of_ble_eq_true rfl) hlocks (fun t hvm hz hk => ⟨a, trivial, ⟨rfl, (show (1 : Nat) ≠ 0 by decide), rfl, zP_kept hP hk, hD⟩, zF_kept hS hz hk⟩) hS.2.2 (Nat.le_of_ble_eq_true rfl) (Nat.le_of_ble_eq_true rfl)
      · replace h := oi_f c_9 h
        refine lv_iconst (v := 1) hx hb dX3_addCrane_30 (by decide) ?_
        refine lv_iload hx hb dX3_addCrane_31 (lv_at hl 5 rfl) ?_
        refine lv_sipush (v := 9999) hx hb dX3_addCrane_33 (by decide) ?_
        obtain ⟨u_10, hg_11, h⟩ := ob_some h
        refine zcSi (W.runS (As := [.int 1, .int p5, .int 9999]) (rest := []) ⟨hx, hb, hml, hown, hts⟩ (c_X3_isFrom l 1 p5 9999 hg_11) (va_cwS 3 hts gX3_addCrane_X3_isFrom rfl rfl rfl hd_X3_isFrom ⟨Nat.le_of_ble_eq_true rfl, Nat.le_of_ble_eq_true rfl⟩) ⟨zT_blind, zT_at⟩ rfl rfl hl.1 rfl (lv_room (Nat.le_of_ble_eq_true rfl)) dX3_addCrane_36 ⟨Nat.le_of_ble_eq_true rfl, Nat.le_of_ble_eq_true rfl⟩) ?_
        refine lv_if_ne (tgt := 50) hx hb dX3_addCrane_39 (by decide) (fun c_12 => ?_) (fun c_12 => ?_)
        · replace h := oi_f c_12 h
          refine lv_aload_n hx hb dX3_addCrane_50 rfl (lv_at hl 0 rfl) ?_
          refine va_get (D := D) (ci := 3) (v := .int (V.2.2.1 3)) (C := RX3) (T := TX3) (N := 10) hx hb hts hinX3 hown hK hP 0 rfl rfl 3 (by decide) (hts _ (List.mem_of_getElem? (i := 5) rfl)) (fun _ h9 => h9) rfl dX3_addCrane_51 ?_
          refine lv_aload_n hx hb dX3_addCrane_54 rfl (lv_at hl 0 rfl) ?_
          refine va_get (D := D) (ci := 3) (v := .ref (a.1 1)) (C := RX3) (T := TX3) (N := 10) hx hb hts hinX3 hown hK hP 0 rfl rfl 0 (by decide) (hts _ (List.mem_of_getElem? (i := 6) rfl)) (fun _ h9 => h9) rfl dX3_addCrane_55 ?_
          refine va_alen (v := 5) hx hb hK hP 1 4 rfl rfl rfl dX3_addCrane_58 ?_
          refine lv_icmp_lt (tgt := 70) hx hb dX3_addCrane_59 (by decide) (fun c_13 => ?_) (fun c_13 => ?_)
          · replace h := oi_t c_13 h
            refine lv_aload_n hx hb dX3_addCrane_70 rfl (lv_at hl 0 rfl) ?_
            refine va_get (D := D) (ci := 3) (v := .ref (a.1 1)) (C := RX3) (T := TX3) (N := 10) hx hb hts hinX3 hown hK hP 0 rfl rfl 0 (by decide) (hts _ (List.mem_of_getElem? (i := 6) rfl)) (fun _ h9 => h9) rfl dX3_addCrane_71 ?_
            refine lv_aload_n hx hb dX3_addCrane_74 rfl (lv_at hl 0 rfl) ?_
            refine va_get (D := D) (ci := 3) (v := .int (V.2.2.1 3)) (C := RX3) (T := TX3) (N := 10) hx hb hts hinX3 hown hK hP 0 rfl rfl 3 (by decide) (hts _ (List.mem_of_getElem? (i := 5) rfl)) (fun _ h9 => h9) rfl dX3_addCrane_75 ?_
            refine va_new (D := D) (ci := 0) (fs := [.int 0, .int 0, .int 0, .int 0, .int 0, .int 0]) (C := RX0) (T := TX0) (N := 6) hx hb hts hinX0 tyX0 tyX0_ok hown (hts _ (List.mem_of_getElem? (i := 7) rfl)) (hts _ (List.mem_of_getElem? (i := 8) rfl)) (hts _ (List.mem_of_getElem? (i := 9) rfl)) hK hP hD hS hA rfl (fun j hj => by rcases (show j = 0 ∨ j = 1 ∨ j = 2 ∨ j = 3 ∨ j = 4 ∨ j = 5 by omega) with rfl | rfl | rfl | rfl | rfl | rfl <;> rfl) (Nat.le_of_ble_eq_true rfl) (Nat.le_of_ble_eq_true rfl) dX3_addCrane_78 (fun q_14 H hP hD hS => ?_)
            refine W.widen (k := 1) (n := 6) (Nat.le_of_ble_eq_true rfl) (Nat.le_of_ble_eq_true rfl) ?_
            refine lv_dup hx hb dX3_addCrane_81 rfl ?_
            refine lv_iload_n hx hb dX3_addCrane_82 rfl (lv_at hl 1 rfl) ?_
            refine lv_iload_n hx hb dX3_addCrane_83 rfl (lv_at hl 2 rfl) ?_
            refine lv_iload_n hx hb dX3_addCrane_84 rfl (lv_at hl 3 rfl) ?_
            refine lv_iload hx hb dX3_addCrane_85 (lv_at hl 4 rfl) ?_
            refine lv_iload hx hb dX3_addCrane_87 (lv_at hl 5 rfl) ?_
            have hPc : va_P D xcl [(q_14, .inr (0, [.int 0, .int 0, .int 0, .int 0, .int 0, .int 0]))] H := zP_last hP
            have hDc : va_D A [(q_14, .inr (0, [.int 0, .int 0, .int 0, .int 0, .int 0, .int 0]))] := zD_last hD
            have hFc := z_free hDc hS hA
            refine va_callv (va_runI (As := [.int p1, .int p2, .int p3, .int p4, .int p5]) (rest := [.ref q_14, .int (V.2.2.1 3), .ref (a.1 1)]) ⟨hx, hb, hml, hown, hts⟩ (c_X0_init l D cy q_14 H.size p1 p2 p3 p4 p5) (cwI 5 hts gX3_addCrane_X0_init rfl rfl rfl (hts _ (List.mem_of_getElem? (i := 9) rfl)) (hts _ (List.mem_of_getElem? (i := 17) rfl)) (hts _ (List.mem_of_getElem? (i := 18) rfl)) rfl hd_X0_init ⟨Nat.le_of_ble_eq_true rfl, Nat.le_of_ble_eq_true rfl⟩) ⟨(zJ_blind cI_blind), (zJ_at (cI_at hPc hK hDc))⟩ rfl rfl hl.1 rfl (lv_room (Nat.le_of_ble_eq_true rfl)) dX3_addCrane_89 ⟨Nat.le_of_ble_eq_true rfl, Nat.le_of_ble_eq_true rfl⟩) hS (fun q _ h => hFc q h) hFc (fun u9 t H1 locs1 ht hvm hw hB hz1 hk1 hS => ?_)
            obtain ⟨hP1, hD1⟩ := hB
            rw [ht] at hP1
            obtain ⟨hP, hD⟩ := z_join (ws := xW cy a n V) (wc := [(q_14, .inr (0, [.int 0, .int 0, .int 0, .int 0, .int 0, .int 0]))]) (w1 := [(q_14, .inr (0, [.int p1, .int p2, .int p3, .int p4, .int p5, .int 0]))]) hP hD hk1 hFc hP1 hD1
            clear hk1 hz1 ht
            generalize H1 = H at hP hS ⊢
            obtain ⟨g_15, h⟩ := og_some h
            obtain ⟨g_16, h⟩ := og_some h
            refine va_astq hx hb hK hP hD hS 1 4 _ 0 rfl rfl (z_at_last) rfl g_15 dX3_addCrane_92 (fun H locs hP hD hS => ?_)
            rw [g_16] at hP hD
            replace hP := zP_perm (xperm0 (gC p1 p2 p3 p4 p5)) hP
            replace hD := zD_perm (xperm0 (gC p1 p2 p3 p4 p5)) hD
            obtain ⟨V_17, eV_18, h⟩ := ob_some h
            rw [Option.some.inj eV_18] at hP hD
            refine lv_aload_n hx hb dX3_addCrane_93 rfl (lv_at hl 0 rfl) ?_
            refine lv_dup hx hb dX3_addCrane_94 rfl ?_
            refine va_get (D := D) (ci := 3) (v := .int (V_17.2.2.1 3)) (C := RX3) (T := TX3) (N := 10) hx hb hts hinX3 hown hK hP 0 rfl rfl 3 (by decide) (hts _ (List.mem_of_getElem? (i := 5) rfl)) (fun _ h9 => h9) rfl dX3_addCrane_95 ?_
            refine lv_iconst (v := 1) hx hb dX3_addCrane_98 (by decide) ?_
            refine lv_iadd hx hb dX3_addCrane_99 ?_
            refine va_put (D := D) (ci := 3) (v := .int ((V_17.2.2.1 3) + 1)) (ty := .int) (C := RX3) (T := TX3) (N := 10) hx hb hts hinX3 tyX3 tyX3_ok nmX3 hown hK hP hD hS 0 rfl rfl 3 (by decide) (hts _ (List.mem_of_getElem? (i := 5) rfl)) (fun _ h9 => h9) rfl (by decide +kernel) rfl rfl (Nat.le_of_ble_eq_true rfl) dX3_addCrane_100 (fun H locs hP hD hS => ?_)
            replace hP : va_P D xcl (xW cy (aup a 0 (n 0) q_14) (nup n 0) (xsc V_17 3 ((V_17.2.2.1 3) + 1))) H := hP
            replace hD : va_D A (xW cy (aup a 0 (n 0) q_14) (nup n 0) (xsc V_17 3 ((V_17.2.2.1 3) + 1))) := hD
            obtain ⟨V_19, eV_20, h⟩ := ob_some h
            rw [Option.some.inj eV_20] at hP hD
            refine lv_aload_n hx hb dX3_addCrane_103 rfl (lv_at hl 0 rfl) ?_
            refine va_get (D := D) (ci := 3) (v := .int (V_19.2.2.1 3)) (C := RX3) (T := TX3) (N := 10) hx hb hts hinX3 hown hK hP 0 rfl rfl 3 (by decide) (hts _ (List.mem_of_getElem? (i := 5) rfl)) (fun _ h9 => h9) rfl dX3_addCrane_104 ?_
            refine lv_iconst (v := 1) hx hb dX3_addCrane_107 (by decide) ?_
            refine lv_isub hx hb dX3_addCrane_108 ?_
            have h9 := Option.some.inj h
            subst h9
            refine vx_ret ?_
            refine W.widen (k := 1) (n := 6) (Nat.le_of_ble_eq_true rfl) (Nat.le_of_ble_eq_true rfl) ?_
            exact W.iret (v := (V_19.2.2.1 3) - 1) hx hb hr (fun t ht hW => ⟨⟨(V_19.2.2.1 3) - 1, (aup a 0 (n 0) q_14), rfl, ⟨rfl, rfl⟩, ⟨rfl, by rw [ht]; exact hP, hD⟩⟩, hS.F ht⟩) hS.2.2 dX3_addCrane_109 hlocks
          · replace h := oi_f c_13 h
            have h9 := Option.some.inj h
            subst h9
            exact vx_throw0 hx hb hl0 hown (by decide) (by decide) (hts _ (List.mem_of_getElem? (i := 3) rfl)) (hts _ (List.mem_of_getElem? (i := 4) rfl)) (vx_hat (fun w h9 => hts w (List.mem_cons_of_mem _ (List.mem_append_right _ h9))) (by decide +kernel) (xNB_2 hN.1 _)) (by decide +kernel) hN.2.1 hN.2.2.1 hS (hl.1.trans hml.symm) dX3_addCrane_62 dX3_addCrane_65 dX3_addCrane_66 dX3_addCrane_69 (fun z hz => (hN.2.2.2 z hz).elim) (Nat.le_of_ble_eq_true rfl) (Nat.le_of_ble_eq_true rfl) (Nat.le_of_ble_eq_true rfl) (Nat.le_of_ble_eq_true rfl) hlocks (fun t hvm hz hk => ⟨a, trivial, ⟨rfl, (show (2 : Nat) ≠ 0 by decide), rfl, zP_kept hP hk, hD⟩, zF_kept hS hz hk⟩) hS.2.2 (Nat.le_of_ble_eq_true rfl) (Nat.le_of_ble_eq_true rfl)
        · replace h := oi_t c_12 h
          have h9 := Option.some.inj h
          subst h9
          exact vx_throw0 hx hb hl0 hown (by decide) (by decide) (hts _ (List.mem_of_getElem? (i := 1) rfl)) (hts _ (List.mem_of_getElem? (i := 2) rfl)) (vx_hat (fun w h9 => hts w (List.mem_cons_of_mem _ (List.mem_append_left _ (List.mem_append_right _ h9)))) (by decide +kernel) (xNB_1 hN.1 _)) (by decide +kernel) hN.2.1 hN.2.2.1 hS (hl.1.trans hml.symm) dX3_addCrane_42 dX3_addCrane_45 dX3_addCrane_46 dX3_addCrane_49 (fun z hz => (hN.2.2.2 z hz).elim) (Nat.le_of_ble_eq_true rfl) (Nat.le_of_ble_eq_true rfl) (Nat.le_of_ble_eq_true rfl) (Nat.le_of_ble_eq_true rfl) hlocks (fun t hvm hz hk => ⟨a, trivial, ⟨rfl, (show (1 : Nat) ≠ 0 by decide), rfl, zP_kept hP hk, hD⟩, zF_kept hS hz hk⟩) hS.2.2 (Nat.le_of_ble_eq_true rfl) (Nat.le_of_ble_eq_true rfl)
def f_X3_addLift (n : Nat → Nat) (V : XV) (p1 : Int32) (p2 : Int32) (p3 : Int32) (p4 : Int32) (p5 : Int32) (p6 : Int32) : Option (Nat × Int32 × (Nat → Nat) × XV) := ob (f_X3_isPlace p1 p2) (fun u_1 => oi (u_1 = 0) (some (1, 0, n, V)) (ob (f_X3_isPlace p3 p4) (fun u_4 => oi (u_4 = 0) (some (1, 0, n, V)) (ob (f_X3_isBurden p5 p6) (fun u_7 => oi (u_7 = 0) (some (1, 0, n, V)) (oi ((V.2.2.1 4) < 40) (ob (f_X3_airBetween p1 p2 p3 p4) (fun air_13 => og (¬ 40 ≤ V.2.2.1 4) (og (¬ ((V.2.2.1 4) < 0 ∨ 40 ≤ (V.2.2.1 4).toNatClampNeg)) (og ((V.2.2.1 4).toNatClampNeg = n 1) (ob (some (xsc (xnai (xnew V 1 (n 1) (gL p1 p2 p3 p4 p5 p6 (-1))) (n 1) air_13) 4 (V.2.2.1 4 + 1))) (fun V_17 => some (0, (V_17.2.2.1 4) - 1, nup n 1, V_17))))))) (some (2, 0, n, V))))))))
theorem hd_X3_addLift : yX3_addLift.cls = RX3 ∧ yX3_addLift.cls ≠ "java/lang/invoke/MethodHandle" ∧ yX3_addLift.cls ≠ "java/lang/invoke/VarHandle" ∧ (parseMethodDescriptor yX3_addLift.desc).map (fun d => d.parameters.length) = some 6 := by decide +kernel
set_option maxHeartbeats 4000000 in
set_option maxRecDepth 100000 in
theorem c_X3_addLift (l : Launch) (hl0 : l.stackTraces = false) (D : va_G) (cy : Nat → ClassId) (a : XA) (n : Nat → Nat) (V : XV) (sz : Nat) (p1 : Int32) (p2 : Int32) (p3 : Int32) (p4 : Int32) (p5 : Int32) (p6 : Int32) {res : Nat × Int32 × (Nat → Nat) × XV} (h : f_X3_addLift n V p1 p2 p3 p4 p5 p6 = some res) : vx_Met l yX3_addLift wsX3_addLift ({ frames := 7, cells := 1, slots := 11, locals := 140 } : Room) (va_Pc [.ref (a.1 0), .int p1, .int p2, .int p3, .int p4, .int p5, .int p6] (zX sz (va_A (xW cy a n V) sz) (xI D cy a n V))) (va_Qi (fun r (_ : XA) => res.1 = 0 ∧ r = res.2.1) (fun a1 t => a1.1 = a.1 ∧ va_P D xcl (xW cy a1 res.2.2.1 res.2.2.2) t.heap ∧ va_D (va_A (xW cy a n V) sz) (xW cy a1 res.2.2.1 res.2.2.2)) (va_A (xW cy a n V) sz)) (vx_X (fun (_ : XA) => True) (fun E a1 t => E = xnm res.1 ∧ res.1 ≠ 0 ∧ a1.1 = a.1 ∧ va_P D xcl (xW cy a1 res.2.2.1 res.2.2.2) t.heap ∧ va_D (va_A (xW cy a n V) sz) (xW cy a1 res.2.2.1 res.2.2.2)) (va_A (xW cy a n V) sz)) 1 11 (va_A (xW cy a n V) sz) := by
  refine vx_ofW (cc := cX3_addLift) (maxL := 7) (ret := (some .int)) (by decide) rfl ?_
  intro p e s m args below meth c s₁ B hml hex hv
  obtain ⟨rfl, hsz, hZ, hP, hK, hD0⟩ := hv
  have hx := B.exec
  have hb := B.bytes
  have hr := B.returns
  have hts := atoms_spec (ws := wsX3_addLift) B.pre
  have hown : s.vm.findClass RX3 = some m.cls := findClass_of_methodNamed B.named
  have hlocks := B.notSynchronized
  subst hsz
  have hD := hD0.self (sz := s.heap.size)
  have hN : zN (va_A (xW cy a n V) s.heap.size) c s := ⟨hZ.1, hZ.2.1, hZ.2.2, hex⟩
  generalize hAe : va_A (xW cy a n V) s.heap.size = A at hD hN ⊢
  have hA : ∀ q : Nat, s.heap.size ≤ q → A q := fun q h => by rw [← hAe]; exact Or.inr h
  have hS : va_S A s.heap s.heap [] := va_S.rf
  have hl := lv_entry ([.ref (a.1 0), .int p1, .int p2, .int p3, .int p4, .int p5, .int p6]) (n := 7) (Nat.le_of_ble_eq_true rfl)
  rw [lg_entry_eq]
  generalize (lg_sl ([.ref (a.1 0), .int p1, .int p2, .int p3, .int p4, .int p5, .int p6]) ++ List.replicate (7 - (lg_sl ([.ref (a.1 0), .int p1, .int p2, .int p3, .int p4, .int p5, .int p6])).length) Slot.unset).toArray = ls at hl ⊢
  have hl : lv_has ls 7 [(0, .ref (a.1 0)), (1, .int p1), (2, .int p2), (3, .int p3), (4, .int p4), (5, .int p5), (6, .int p6)] := hl
  have hinX1 : ∀ w ∈ wsX10, w ∈ wsX3_addLift := (fun _ h => (List.mem_cons_of_mem _ (List.mem_append_left _ (List.mem_append_left _ (List.mem_append_right _ h)))))
  have hinX3 : ∀ w ∈ wsX30, w ∈ wsX3_addLift := (fun _ h => (List.mem_cons_of_mem _ (List.mem_append_left _ (List.mem_append_left _ (List.mem_append_left _ (List.mem_append_right _ h))))))
  revert hP hS
  intro hP hS
  refine lv_iload_n hx hb dX3_addLift_0 rfl (lv_at hl 1 rfl) ?_
  refine lv_iload_n hx hb dX3_addLift_1 rfl (lv_at hl 2 rfl) ?_
  obtain ⟨u_1, hg_2, h⟩ := ob_some h
  refine zcSi (W.runS (As := [.int p1, .int p2]) (rest := []) ⟨hx, hb, hml, hown, hts⟩ (c_X3_isPlace l p1 p2 hg_2) (va_cwS 2 hts gX3_addLift_X3_isPlace rfl rfl rfl hd_X3_isPlace ⟨Nat.le_of_ble_eq_true rfl, Nat.le_of_ble_eq_true rfl⟩) ⟨zT_blind, zT_at⟩ rfl rfl hl.1 rfl (lv_room (Nat.le_of_ble_eq_true rfl)) dX3_addLift_2 ⟨Nat.le_of_ble_eq_true rfl, Nat.le_of_ble_eq_true rfl⟩) ?_
  refine lv_if_eq (tgt := 27) hx hb dX3_addLift_5 (by decide) (fun c_3 => ?_) (fun c_3 => ?_)
  · replace h := oi_t c_3 h
    have h9 := Option.some.inj h
    subst h9
    exact vx_throw0 hx hb hl0 hown (by decide) (by decide) (hts _ (List.mem_of_getElem? (i := 1) rfl)) (hts _ (List.mem_of_getElem? (i := 2) rfl)) (vx_hat (fun w h9 => hts w (List.mem_cons_of_mem _ (List.mem_append_left _ (List.mem_append_right _ h9)))) (by decide +kernel) (xNB_1 hN.1 _)) (by decide +kernel) hN.2.1 hN.2.2.1 hS (hl.1.trans hml.symm) dX3_addLift_27 dX3_addLift_30 dX3_addLift_31 dX3_addLift_34 (fun z hz => (hN.2.2.2 z hz).elim) (Nat.le_of_ble_eq_true rfl) (Nat.le_of_ble_eq_true rfl) (Nat.le_of_ble_eq_true rfl) (Nat.le_of_ble_eq_true rfl) hlocks (fun t hvm hz hk => ⟨a, trivial, ⟨rfl, (show (1 : Nat) ≠ 0 by decide), rfl, zP_kept hP hk, hD⟩, zF_kept hS hz hk⟩) hS.2.2 (Nat.le_of_ble_eq_true rfl) (Nat.le_of_ble_eq_true rfl)
  · replace h := oi_f c_3 h
    refine lv_iload_n hx hb dX3_addLift_8 rfl (lv_at hl 3 rfl) ?_
    refine lv_iload hx hb dX3_addLift_9 (lv_at hl 4 rfl) ?_
    obtain ⟨u_4, hg_5, h⟩ := ob_some h
    refine zcSi (W.runS (As := [.int p3, .int p4]) (rest := []) ⟨hx, hb, hml, hown, hts⟩ (c_X3_isPlace l p3 p4 hg_5) (va_cwS 2 hts gX3_addLift_X3_isPlace rfl rfl rfl hd_X3_isPlace ⟨Nat.le_of_ble_eq_true rfl, Nat.le_of_ble_eq_true rfl⟩) ⟨zT_blind, zT_at⟩ rfl rfl hl.1 rfl (lv_room (Nat.le_of_ble_eq_true rfl)) dX3_addLift_11 ⟨Nat.le_of_ble_eq_true rfl, Nat.le_of_ble_eq_true rfl⟩) ?_
    refine lv_if_eq (tgt := 27) hx hb dX3_addLift_14 (by decide) (fun c_6 => ?_) (fun c_6 => ?_)
    · replace h := oi_t c_6 h
      have h9 := Option.some.inj h
      subst h9
      exact vx_throw0 hx hb hl0 hown (by decide) (by decide) (hts _ (List.mem_of_getElem? (i := 1) rfl)) (hts _ (List.mem_of_getElem? (i := 2) rfl)) (vx_hat (fun w h9 => hts w (List.mem_cons_of_mem _ (List.mem_append_left _ (List.mem_append_right _ h9)))) (by decide +kernel) (xNB_1 hN.1 _)) (by decide +kernel) hN.2.1 hN.2.2.1 hS (hl.1.trans hml.symm) dX3_addLift_27 dX3_addLift_30 dX3_addLift_31 dX3_addLift_34 (fun z hz => (hN.2.2.2 z hz).elim) (Nat.le_of_ble_eq_true rfl) (Nat.le_of_ble_eq_true rfl) (Nat.le_of_ble_eq_true rfl) (Nat.le_of_ble_eq_true rfl) hlocks (fun t hvm hz hk => ⟨a, trivial, ⟨rfl, (show (1 : Nat) ≠ 0 by decide), rfl, zP_kept hP hk, hD⟩, zF_kept hS hz hk⟩) hS.2.2 (Nat.le_of_ble_eq_true rfl) (Nat.le_of_ble_eq_true rfl)
    · replace h := oi_f c_6 h
      refine lv_iload hx hb dX3_addLift_17 (lv_at hl 5 rfl) ?_
      refine lv_iload hx hb dX3_addLift_19 (lv_at hl 6 rfl) ?_
      obtain ⟨u_7, hg_8, h⟩ := ob_some h
      refine zcSi (W.runS (As := [.int p5, .int p6]) (rest := []) ⟨hx, hb, hml, hown, hts⟩ (c_X3_isBurden l p5 p6 hg_8) (va_cwS 2 hts gX3_addLift_X3_isBurden rfl rfl rfl hd_X3_isBurden ⟨Nat.le_of_ble_eq_true rfl, Nat.le_of_ble_eq_true rfl⟩) ⟨zT_blind, zT_at⟩ rfl rfl hl.1 rfl (lv_room (Nat.le_of_ble_eq_true rfl)) dX3_addLift_21 ⟨Nat.le_of_ble_eq_true rfl, Nat.le_of_ble_eq_true rfl⟩) ?_
      refine lv_if_ne (tgt := 35) hx hb dX3_addLift_24 (by decide) (fun c_9 => ?_) (fun c_9 => ?_)
      · replace h := oi_f c_9 h
        refine lv_aload_n hx hb dX3_addLift_35 rfl (lv_at hl 0 rfl) ?_
        refine va_get (D := D) (ci := 3) (v := .int (V.2.2.1 4)) (C := RX3) (T := TX3) (N := 10) hx hb hts hinX3 hown hK hP 0 rfl rfl 4 (by decide) (hts _ (List.mem_of_getElem? (i := 5) rfl)) (fun _ h9 => h9) rfl dX3_addLift_36 ?_
        refine lv_aload_n hx hb dX3_addLift_39 rfl (lv_at hl 0 rfl) ?_
        refine va_get (D := D) (ci := 3) (v := .ref (a.1 2)) (C := RX3) (T := TX3) (N := 10) hx hb hts hinX3 hown hK hP 0 rfl rfl 1 (by decide) (hts _ (List.mem_of_getElem? (i := 6) rfl)) (fun _ h9 => h9) rfl dX3_addLift_40 ?_
        refine va_alen (v := 40) hx hb hK hP 2 5 rfl rfl rfl dX3_addLift_43 ?_
        refine lv_icmp_lt (tgt := 55) hx hb dX3_addLift_44 (by decide) (fun c_10 => ?_) (fun c_10 => ?_)
        · replace h := oi_t c_10 h
          refine lv_aload_n hx hb dX3_addLift_55 rfl (lv_at hl 0 rfl) ?_
          refine va_new (D := D) (ci := 1) (fs := [.int 0, .int 0, .int 0, .int 0, .int 0, .int 0, .int 0, .long 0, .int 0, .int 0, .int 0]) (C := RX1) (T := TX1) (N := 11) hx hb hts hinX1 tyX1 tyX1_ok hown (hts _ (List.mem_of_getElem? (i := 7) rfl)) (hts _ (List.mem_of_getElem? (i := 8) rfl)) (hts _ (List.mem_of_getElem? (i := 9) rfl)) hK hP hD hS hA rfl (fun j hj => by rcases (show j = 0 ∨ j = 1 ∨ j = 2 ∨ j = 3 ∨ j = 4 ∨ j = 5 ∨ j = 6 ∨ j = 7 ∨ j = 8 ∨ j = 9 ∨ j = 10 by omega) with rfl | rfl | rfl | rfl | rfl | rfl | rfl | rfl | rfl | rfl | rfl <;> rfl) (Nat.le_of_ble_eq_true rfl) (Nat.le_of_ble_eq_true rfl) dX3_addLift_56 (fun q_11 H hP hD hS => ?_)
          refine W.widen (k := 1) (n := 11) (Nat.le_of_ble_eq_true rfl) (Nat.le_of_ble_eq_true rfl) ?_
          refine lv_dup hx hb dX3_addLift_59 rfl ?_
          refine lv_iload_n hx hb dX3_addLift_60 rfl (lv_at hl 1 rfl) ?_
          refine lv_iload_n hx hb dX3_addLift_61 rfl (lv_at hl 2 rfl) ?_
          refine lv_iload_n hx hb dX3_addLift_62 rfl (lv_at hl 3 rfl) ?_
          refine lv_iload hx hb dX3_addLift_63 (lv_at hl 4 rfl) ?_
          refine lv_iload hx hb dX3_addLift_65 (lv_at hl 5 rfl) ?_
          refine lv_iload hx hb dX3_addLift_67 (lv_at hl 6 rfl) ?_
          refine lv_iconst (v := (-1)) hx hb dX3_addLift_69 (by decide) ?_
          obtain ⟨air_13, hg_12, h⟩ := ob_some h
          have hPc : va_P D xcl [(q_11, .inr (1, [.int 0, .int 0, .int 0, .int 0, .int 0, .int 0, .int 0, .long 0, .int 0, .int 0, .int 0]))] H := zP_last hP
          have hDc : va_D A [(q_11, .inr (1, [.int 0, .int 0, .int 0, .int 0, .int 0, .int 0, .int 0, .long 0, .int 0, .int 0, .int 0]))] := zD_last hD
          have hFc := z_free hDc hS hA
          refine va_callv (va_runI (As := [.int p1, .int p2, .int p3, .int p4, .int p5, .int p6, .int ((-1))]) (rest := [.ref q_11, .ref (a.1 0)]) ⟨hx, hb, hml, hown, hts⟩ (c_X1_init l D cy q_11 H.size p1 p2 p3 p4 p5 p6 (-1) hg_12) (cwI 7 hts gX3_addLift_X1_init rfl rfl rfl (hts _ (List.mem_of_getElem? (i := 9) rfl)) (hts _ (List.mem_of_getElem? (i := 20) rfl)) (hts _ (List.mem_of_getElem? (i := 21) rfl)) rfl hd_X1_init ⟨Nat.le_of_ble_eq_true rfl, Nat.le_of_ble_eq_true rfl⟩) ⟨(zJ_blind (nI1_blind cI_blind)), (zJ_at (nI1_at hN.1 (cI_at hPc hK hDc)))⟩ rfl rfl hl.1 rfl (lv_room (Nat.le_of_ble_eq_true rfl)) dX3_addLift_70 ⟨Nat.le_of_ble_eq_true rfl, Nat.le_of_ble_eq_true rfl⟩) hS (fun q _ h => hFc q h) hFc (fun u9 t H1 locs1 ht hvm hw hB hz1 hk1 hS => ?_)
          obtain ⟨hP1, hD1⟩ := hB
          rw [ht] at hP1
          obtain ⟨hP, hD⟩ := z_join (ws := xW cy a n V) (wc := [(q_11, .inr (1, [.int 0, .int 0, .int 0, .int 0, .int 0, .int 0, .int 0, .long 0, .int 0, .int 0, .int 0]))]) (w1 := [(q_11, .inr (1, [.int p1, .int p2, .int p3, .int p4, .int p5, .int p6, .int (-1), .long air_13, .int 119, .int (-1), .int (-1)]))]) hP hD hk1 hFc hP1 hD1
          clear hk1 hz1 ht
          generalize H1 = H at hP hS ⊢
          obtain ⟨g_14, h⟩ := og_some h
          obtain ⟨g_15, h⟩ := og_some h
          obtain ⟨g_16, h⟩ := og_some h
          have hFc := z_free hD hS hA
          refine zcWv (va_runV (As := [.ref q_11]) (rest := []) ⟨hx, hb, hml, hown, hts⟩ (c_X3_keepLift l D cy a n V q_11 H.size (gL p1 p2 p3 p4 p5 p6 (-1)) air_13 g_14 g_15 g_16) (cwV 1 hts gX3_addLift_X3_keepLift rfl rfl rfl hd_X3_keepLift ⟨Nat.le_of_ble_eq_true rfl, Nat.le_of_ble_eq_true rfl⟩) ⟨zJ_blind cI_blind, va_recv hK hP (ci := 3) (q0 := 0) rfl rfl, zJ_at (cI_at hP hK hD)⟩ rfl rfl hl.1 rfl (lv_room (Nat.le_of_ble_eq_true rfl)) dX3_addLift_73 ⟨Nat.le_of_ble_eq_true rfl, Nat.le_of_ble_eq_true rfl⟩) hS hFc (fun H locs hP hD hS => ?_)
          obtain ⟨V_17, eV_18, h⟩ := ob_some h
          rw [Option.some.inj eV_18] at hP hD
          refine lv_aload_n hx hb dX3_addLift_76 rfl (lv_at hl 0 rfl) ?_
          refine va_get (D := D) (ci := 3) (v := .int (V_17.2.2.1 4)) (C := RX3) (T := TX3) (N := 10) hx hb hts hinX3 hown hK hP 0 rfl rfl 4 (by decide) (hts _ (List.mem_of_getElem? (i := 5) rfl)) (fun _ h9 => h9) rfl dX3_addLift_77 ?_
          refine lv_iconst (v := 1) hx hb dX3_addLift_80 (by decide) ?_
          refine lv_isub hx hb dX3_addLift_81 ?_
          have h9 := Option.some.inj h
          subst h9
          refine vx_ret ?_
          refine W.widen (k := 1) (n := 11) (Nat.le_of_ble_eq_true rfl) (Nat.le_of_ble_eq_true rfl) ?_
          exact W.iret (v := (V_17.2.2.1 4) - 1) hx hb hr (fun t ht hW => ⟨⟨(V_17.2.2.1 4) - 1, (aup a 1 (n 1) q_11), rfl, ⟨rfl, rfl⟩, ⟨rfl, by rw [ht]; exact hP, hD⟩⟩, hS.F ht⟩) hS.2.2 dX3_addLift_82 hlocks
        · replace h := oi_f c_10 h
          have h9 := Option.some.inj h
          subst h9
          exact vx_throw0 hx hb hl0 hown (by decide) (by decide) (hts _ (List.mem_of_getElem? (i := 3) rfl)) (hts _ (List.mem_of_getElem? (i := 4) rfl)) (vx_hat (fun w h9 => hts w (List.mem_cons_of_mem _ (List.mem_append_right _ h9))) (by decide +kernel) (xNB_2 hN.1 _)) (by decide +kernel) hN.2.1 hN.2.2.1 hS (hl.1.trans hml.symm) dX3_addLift_47 dX3_addLift_50 dX3_addLift_51 dX3_addLift_54 (fun z hz => (hN.2.2.2 z hz).elim) (Nat.le_of_ble_eq_true rfl) (Nat.le_of_ble_eq_true rfl) (Nat.le_of_ble_eq_true rfl) (Nat.le_of_ble_eq_true rfl) hlocks (fun t hvm hz hk => ⟨a, trivial, ⟨rfl, (show (2 : Nat) ≠ 0 by decide), rfl, zP_kept hP hk, hD⟩, zF_kept hS hz hk⟩) hS.2.2 (Nat.le_of_ble_eq_true rfl) (Nat.le_of_ble_eq_true rfl)
      · replace h := oi_t c_9 h
        have h9 := Option.some.inj h
        subst h9
        exact vx_throw0 hx hb hl0 hown (by decide) (by decide) (hts _ (List.mem_of_getElem? (i := 1) rfl)) (hts _ (List.mem_of_getElem? (i := 2) rfl)) (vx_hat (fun w h9 => hts w (List.mem_cons_of_mem _ (List.mem_append_left _ (List.mem_append_right _ h9)))) (by decide +kernel) (xNB_1 hN.1 _)) (by decide +kernel) hN.2.1 hN.2.2.1 hS (hl.1.trans hml.symm) dX3_addLift_27 dX3_addLift_30 dX3_addLift_31 dX3_addLift_34 (fun z hz => (hN.2.2.2 z hz).elim) (Nat.le_of_ble_eq_true rfl) (Nat.le_of_ble_eq_true rfl) (Nat.le_of_ble_eq_true rfl) (Nat.le_of_ble_eq_true rfl) hlocks (fun t hvm hz hk => ⟨a, trivial, ⟨rfl, (show (1 : Nat) ≠ 0 by decide), rfl, zP_kept hP hk, hD⟩, zF_kept hS hz hk⟩) hS.2.2 (Nat.le_of_ble_eq_true rfl) (Nat.le_of_ble_eq_true rfl)
def f_X3_addPour_119 (p1 p2 p3 p4 p5 p6 p7 p8 : Int32) : Nat → (Nat → Nat) → XV → Int32 → Option (Nat × Int32 × (Nat → Nat) × XV)
  | 0, _, _, _ => none
  | fu + 1, n, V, zi => oi (p7 ≤ zi) (ob (some (xsc V 5 ((V.2.2.1 5) + 1))) (fun V_2 => some (0, (V_2.2.2.1 5) - 1, n, V_2))) (ob (f_X3_airBetween p1 p2 p3 p4) (fun air_6 => og (¬ 40 ≤ V.2.2.1 4) (og (¬ ((V.2.2.1 4) < 0 ∨ 40 ≤ (V.2.2.1 4).toNatClampNeg)) (og ((V.2.2.1 4).toNatClampNeg = n 1) (ob (some (xsc (xnai (xnew V 1 (n 1) (gL p1 p2 p3 p4 p5 p6 (V.2.2.1 5))) (n 1) air_6) 4 (V.2.2.1 4 + 1))) (fun V_10 => f_X3_addPour_119 p1 p2 p3 p4 p5 p6 p7 p8 fu (nup n 1) V_10 (zi + 1)))))))
set_option maxHeartbeats 4000000 in
set_option maxRecDepth 100000 in
theorem k_X3_addPour_119 {p : Program} {l : Launch} {e : Env} {s : State} {m : MethodId} {args : Array Value} {below : List Frame} {meth : Method} {c : Code} {D : va_G} {cy : Nat → ClassId} {a0 : XA} {p1 p2 p3 p4 p5 p6 p7 p8 : Int32} {A : Nat → Prop} (hl0 : l.stackTraces = false) (hx : p.tables.exec = Jvm.exec) (hb : c.code = cX3_addPour) (hr : meth.sig.returnType = (some .int)) (hts : ∀ w ∈ wsX3_addPour, w.before args s = true) (hml : c.maxLocals = 10) (hown : s.vm.findClass RX3 = some m.cls) (hlocks : meth.locks = false) (hK : va_K D xcl (xty cy) s) (hA : ∀ q, s.heap.size ≤ q → A q) (hN : zN A c s) (res : Nat × Int32 × (Nat → Nat) × XV) : ∀ (fu : Nat) (zi : Int32) (a : XA) (n : Nat → Nat) (V : XV) (H : Heap) (locs : List Loc) (cells_ slots_ : Nat) (ls : Array Slot), a.1 = a0.1 → cells_ + fu ≤ 16 → slots_ + 11 * fu ≤ 130 → f_X3_addPour_119 p1 p2 p3 p4 p5 p6 p7 p8 fu n V zi = some res → va_P D xcl (xW cy a n V) H → va_D A (xW cy a n V) → va_S A s.heap H locs → lv_has ls 10 [(9, .int zi), (0, .ref (a.1 0)), (1, .int p1), (2, .int p2), (3, .int p3), (4, .int p4), (5, .int p5), (6, .int p6), (7, .int p7), (8, .int p8)] → W p l e ({ frames := 7, cells := 16, slots := 130, locals := 140 } : Room) s m args below meth c H locs cells_ slots_ (vx_MQ below (va_Qi (fun r (_ : XA) => res.1 = 0 ∧ r = res.2.1) (fun a1 t => a1.1 = a0.1 ∧ va_P D xcl (xW cy a1 res.2.2.1 res.2.2.2) t.heap ∧ va_D A (xW cy a1 res.2.2.1 res.2.2.2)) A) (vx_X (fun (_ : XA) => True) (fun E a1 t => E = xnm res.1 ∧ res.1 ≠ 0 ∧ a1.1 = a0.1 ∧ va_P D xcl (xW cy a1 res.2.2.1 res.2.2.2) t.heap ∧ va_D A (xW cy a1 res.2.2.1 res.2.2.2)) A) args s 16 130 (A)) (F0 m 119 ls []) := by
  have hinX1 : ∀ w ∈ wsX10, w ∈ wsX3_addPour := (fun _ h => (List.mem_cons_of_mem _ (List.mem_append_left _ (List.mem_append_left _ (List.mem_append_right _ h)))))
  have hinX3 : ∀ w ∈ wsX30, w ∈ wsX3_addPour := (fun _ h => (List.mem_cons_of_mem _ (List.mem_append_left _ (List.mem_append_left _ (List.mem_append_left _ (List.mem_append_left _ (List.mem_append_right _ h)))))))
  intro fu
  induction fu with
  | zero =>
    intro zi a n V H locs cells_ slots_ ls ha1 hc1 hc2 h
    cases h
  | succ fu ih =>
    intro zi a n V H locs cells_ slots_ ls ha1 hc1 hc2 h hP hD hS hl
    refine lv_iload hx hb dX3_addPour_119 (lv_at hl 0 rfl) ?_
    refine lv_iload hx hb dX3_addPour_121 (lv_at hl 8 rfl) ?_
    refine lv_icmp_ge (tgt := 156) hx hb dX3_addPour_123 (by decide) (fun c_1 => ?_) (fun c_1 => ?_)
    · replace h := oi_t c_1 h
      refine lv_aload_n hx hb dX3_addPour_156 rfl (lv_at hl 1 rfl) ?_
      refine lv_dup hx hb dX3_addPour_157 rfl ?_
      refine va_get (D := D) (ci := 3) (v := .int (V.2.2.1 5)) (C := RX3) (T := TX3) (N := 10) hx hb hts hinX3 hown hK hP 0 rfl rfl 5 (by decide) (hts _ (List.mem_of_getElem? (i := 5) rfl)) (fun _ h9 => h9) rfl dX3_addPour_158 ?_
      refine lv_iconst (v := 1) hx hb dX3_addPour_161 (by decide) ?_
      refine lv_iadd hx hb dX3_addPour_162 ?_
      refine va_put (D := D) (ci := 3) (v := .int ((V.2.2.1 5) + 1)) (ty := .int) (C := RX3) (T := TX3) (N := 10) hx hb hts hinX3 tyX3 tyX3_ok nmX3 hown hK hP hD hS 0 rfl rfl 5 (by decide) (hts _ (List.mem_of_getElem? (i := 5) rfl)) (fun _ h9 => h9) rfl (by decide +kernel) rfl rfl (Nat.le_of_ble_eq_true rfl) dX3_addPour_163 (fun H locs hP hD hS => ?_)
      replace hP : va_P D xcl (xW cy a n (xsc V 5 ((V.2.2.1 5) + 1))) H := hP
      replace hD : va_D A (xW cy a n (xsc V 5 ((V.2.2.1 5) + 1))) := hD
      obtain ⟨V_2, eV_3, h⟩ := ob_some h
      rw [Option.some.inj eV_3] at hP hD
      refine lv_aload_n hx hb dX3_addPour_166 rfl (lv_at hl 1 rfl) ?_
      refine va_get (D := D) (ci := 3) (v := .int (V_2.2.2.1 5)) (C := RX3) (T := TX3) (N := 10) hx hb hts hinX3 hown hK hP 0 rfl rfl 5 (by decide) (hts _ (List.mem_of_getElem? (i := 5) rfl)) (fun _ h9 => h9) rfl dX3_addPour_167 ?_
      refine lv_iconst (v := 1) hx hb dX3_addPour_170 (by decide) ?_
      refine lv_isub hx hb dX3_addPour_171 ?_
      have h9 := Option.some.inj h
      subst h9
      refine vx_ret ?_
      refine W.widen (k := 16) (n := 130) (by omega) (by omega) ?_
      exact W.iret (v := (V_2.2.2.1 5) - 1) hx hb hr (fun t ht hW => ⟨⟨(V_2.2.2.1 5) - 1, a, rfl, ⟨rfl, rfl⟩, ⟨ha1, by rw [ht]; exact hP, hD⟩⟩, hS.F ht⟩) hS.2.2 dX3_addPour_172 hlocks
    · replace h := oi_f c_1 h
      refine lv_aload_n hx hb dX3_addPour_126 rfl (lv_at hl 1 rfl) ?_
      refine va_new (D := D) (ci := 1) (fs := [.int 0, .int 0, .int 0, .int 0, .int 0, .int 0, .int 0, .long 0, .int 0, .int 0, .int 0]) (C := RX1) (T := TX1) (N := 11) hx hb hts hinX1 tyX1 tyX1_ok hown (hts _ (List.mem_of_getElem? (i := 12) rfl)) (hts _ (List.mem_of_getElem? (i := 13) rfl)) (hts _ (List.mem_of_getElem? (i := 14) rfl)) hK hP hD hS hA rfl (fun j hj => by rcases (show j = 0 ∨ j = 1 ∨ j = 2 ∨ j = 3 ∨ j = 4 ∨ j = 5 ∨ j = 6 ∨ j = 7 ∨ j = 8 ∨ j = 9 ∨ j = 10 by omega) with rfl | rfl | rfl | rfl | rfl | rfl | rfl | rfl | rfl | rfl | rfl <;> rfl) (by show (_ : Nat) ≤ 16; omega) (by show (_ : Nat) ≤ 130; omega) dX3_addPour_127 (fun q_4 H hP hD hS => ?_)
      refine lv_dup hx hb dX3_addPour_130 rfl ?_
      refine lv_iload_n hx hb dX3_addPour_131 rfl (lv_at hl 2 rfl) ?_
      refine lv_iload_n hx hb dX3_addPour_132 rfl (lv_at hl 3 rfl) ?_
      refine lv_iload_n hx hb dX3_addPour_133 rfl (lv_at hl 4 rfl) ?_
      refine lv_iload hx hb dX3_addPour_134 (lv_at hl 5 rfl) ?_
      refine lv_iload hx hb dX3_addPour_136 (lv_at hl 6 rfl) ?_
      refine lv_iload hx hb dX3_addPour_138 (lv_at hl 7 rfl) ?_
      refine lv_aload_n hx hb dX3_addPour_140 rfl (lv_at hl 1 rfl) ?_
      refine va_get (D := D) (ci := 3) (v := .int (V.2.2.1 5)) (C := RX3) (T := TX3) (N := 10) hx hb hts hinX3 hown hK hP 0 rfl rfl 5 (by decide) (hts _ (List.mem_of_getElem? (i := 5) rfl)) (fun _ h9 => h9) rfl dX3_addPour_141 ?_
      obtain ⟨air_6, hg_5, h⟩ := ob_some h
      have hPc : va_P D xcl [(q_4, .inr (1, [.int 0, .int 0, .int 0, .int 0, .int 0, .int 0, .int 0, .long 0, .int 0, .int 0, .int 0]))] H := zP_last hP
      have hDc : va_D A [(q_4, .inr (1, [.int 0, .int 0, .int 0, .int 0, .int 0, .int 0, .int 0, .long 0, .int 0, .int 0, .int 0]))] := zD_last hD
      have hFc := z_free hDc hS hA
      refine va_callv (va_runI (As := [.int p1, .int p2, .int p3, .int p4, .int p5, .int p6, .int (V.2.2.1 5)]) (rest := [.ref q_4, .ref (a.1 0)]) ⟨hx, hb, hml, hown, hts⟩ (c_X1_init l D cy q_4 H.size p1 p2 p3 p4 p5 p6 (V.2.2.1 5) hg_5) (cwI 7 hts gX3_addPour_X1_init rfl rfl rfl (hts _ (List.mem_of_getElem? (i := 14) rfl)) (hts _ (List.mem_of_getElem? (i := 34) rfl)) (hts _ (List.mem_of_getElem? (i := 35) rfl)) rfl hd_X1_init ⟨Nat.le_of_ble_eq_true rfl, Nat.le_of_ble_eq_true rfl⟩) ⟨(zJ_blind (nI1_blind cI_blind)), (zJ_at (nI1_at hN.1 (cI_at hPc hK hDc)))⟩ rfl rfl hl.1 rfl (lv_room (Nat.le_of_ble_eq_true rfl)) dX3_addPour_144 ⟨by show (_ : Nat) ≤ 16; omega, by show (_ : Nat) ≤ 130; omega⟩) hS (fun q _ h => hFc q h) hFc (fun u9 t H1 locs1 ht hvm hw hB hz1 hk1 hS => ?_)
      obtain ⟨hP1, hD1⟩ := hB
      rw [ht] at hP1
      obtain ⟨hP, hD⟩ := z_join (ws := xW cy a n V) (wc := [(q_4, .inr (1, [.int 0, .int 0, .int 0, .int 0, .int 0, .int 0, .int 0, .long 0, .int 0, .int 0, .int 0]))]) (w1 := [(q_4, .inr (1, [.int p1, .int p2, .int p3, .int p4, .int p5, .int p6, .int (V.2.2.1 5), .long air_6, .int 119, .int (-1), .int (-1)]))]) hP hD hk1 hFc hP1 hD1
      clear hk1 hz1 ht
      generalize H1 = H at hP hS ⊢
      obtain ⟨g_7, h⟩ := og_some h
      obtain ⟨g_8, h⟩ := og_some h
      obtain ⟨g_9, h⟩ := og_some h
      have hFc := z_free hD hS hA
      refine zcWv (va_runV (As := [.ref q_4]) (rest := []) ⟨hx, hb, hml, hown, hts⟩ (c_X3_keepLift l D cy a n V q_4 H.size (gL p1 p2 p3 p4 p5 p6 (V.2.2.1 5)) air_6 g_7 g_8 g_9) (cwV 1 hts gX3_addPour_X3_keepLift rfl rfl rfl hd_X3_keepLift ⟨Nat.le_of_ble_eq_true rfl, Nat.le_of_ble_eq_true rfl⟩) ⟨zJ_blind cI_blind, va_recv hK hP (ci := 3) (q0 := 0) rfl rfl, zJ_at (cI_at hP hK hD)⟩ rfl rfl hl.1 rfl (lv_room (Nat.le_of_ble_eq_true rfl)) dX3_addPour_147 ⟨by show (_ : Nat) ≤ 16; omega, by show (_ : Nat) ≤ 130; omega⟩) hS hFc (fun H locs hP hD hS => ?_)
      obtain ⟨V_10, eV_11, h⟩ := ob_some h
      rw [Option.some.inj eV_11] at hP hD
      refine lv_iinc (v := zi + 1) (lv' := [(9, .int (zi + 1)), (0, .ref (a.1 0)), (1, .int p1), (2, .int p2), (3, .int p3), (4, .int p4), (5, .int p5), (6, .int p6), (7, .int p7), (8, .int p8)]) hx hb dX3_addPour_150 hl (k := 0) rfl rfl (by decide) rfl (fun ls hl => ?_)
      refine lv_goto (tgt := 119) hx hb dX3_addPour_153 (by decide) ?_
      exact ih (zi + 1) (aup a 1 (n 1) q_4) (nup n 1) V_10 _ _ _ _ ls ha1 (by omega) (by omega) h hP hD hS (lv_sub hl [0, 1, 2, 3, 4, 5, 6, 7, 8, 9] rfl)
def f_X3_addPour (n : Nat → Nat) (V : XV) (p1 : Int32) (p2 : Int32) (p3 : Int32) (p4 : Int32) (p5 : Int32) (p6 : Int32) (p7 : Int32) (p8 : Int32) : Option (Nat × Int32 × (Nat → Nat) × XV) := ob (f_X3_isPlace p1 p2) (fun u_1 => oi (u_1 = 0) (some (1, 0, n, V)) (ob (f_X3_isPlace p3 p4) (fun u_4 => oi (u_4 = 0) (some (1, 0, n, V)) (ob (f_X3_isBurden p5 p6) (fun u_7 => oi (u_7 = 0) (some (1, 0, n, V)) (ob (f_X3_isFrom 2 p7 8) (fun u_10 => oi (u_10 = 0) (some (1, 0, n, V)) (ob (f_X3_isFrom 0 p8 60) (fun u_13 => oi (u_13 = 0) (some (1, 0, n, V)) (oi (6 ≤ (V.2.2.1 5)) (some (2, 0, n, V)) (oi (((V.2.2.1 4) + p7) ≤ 40) (og (¬ ((V.2.2.1 5) < 0 ∨ 6 ≤ (V.2.2.1 5).toNatClampNeg)) (og ((V.2.2.1 5).toNatClampNeg = n 2) (ob (some (xnew V 2 (n 2) (gP (V.2.2.1 4) p7 p8))) (fun V_21 => f_X3_addPour_119 p1 p2 p3 p4 p5 p6 p7 p8 9 (nup n 2) V_21 0)))) (some (2, 0, n, V)))))))))))))
theorem hd_X3_addPour : yX3_addPour.cls = RX3 ∧ yX3_addPour.cls ≠ "java/lang/invoke/MethodHandle" ∧ yX3_addPour.cls ≠ "java/lang/invoke/VarHandle" ∧ (parseMethodDescriptor yX3_addPour.desc).map (fun d => d.parameters.length) = some 8 := by decide +kernel
set_option maxHeartbeats 4000000 in
set_option maxRecDepth 100000 in
theorem c_X3_addPour (l : Launch) (hl0 : l.stackTraces = false) (D : va_G) (cy : Nat → ClassId) (a : XA) (n : Nat → Nat) (V : XV) (sz : Nat) (p1 : Int32) (p2 : Int32) (p3 : Int32) (p4 : Int32) (p5 : Int32) (p6 : Int32) (p7 : Int32) (p8 : Int32) {res : Nat × Int32 × (Nat → Nat) × XV} (h : f_X3_addPour n V p1 p2 p3 p4 p5 p6 p7 p8 = some res) : vx_Met l yX3_addPour wsX3_addPour ({ frames := 7, cells := 16, slots := 130, locals := 140 } : Room) (va_Pc [.ref (a.1 0), .int p1, .int p2, .int p3, .int p4, .int p5, .int p6, .int p7, .int p8] (zX sz (va_A (xW cy a n V) sz) (xI D cy a n V))) (va_Qi (fun r (_ : XA) => res.1 = 0 ∧ r = res.2.1) (fun a1 t => a1.1 = a.1 ∧ va_P D xcl (xW cy a1 res.2.2.1 res.2.2.2) t.heap ∧ va_D (va_A (xW cy a n V) sz) (xW cy a1 res.2.2.1 res.2.2.2)) (va_A (xW cy a n V) sz)) (vx_X (fun (_ : XA) => True) (fun E a1 t => E = xnm res.1 ∧ res.1 ≠ 0 ∧ a1.1 = a.1 ∧ va_P D xcl (xW cy a1 res.2.2.1 res.2.2.2) t.heap ∧ va_D (va_A (xW cy a n V) sz) (xW cy a1 res.2.2.1 res.2.2.2)) (va_A (xW cy a n V) sz)) 16 130 (va_A (xW cy a n V) sz) := by
  refine vx_ofW (cc := cX3_addPour) (maxL := 10) (ret := (some .int)) (by decide) rfl ?_
  intro p e s m args below meth c s₁ B hml hex hv
  obtain ⟨rfl, hsz, hZ, hP, hK, hD0⟩ := hv
  have hx := B.exec
  have hb := B.bytes
  have hr := B.returns
  have hts := atoms_spec (ws := wsX3_addPour) B.pre
  have hown : s.vm.findClass RX3 = some m.cls := findClass_of_methodNamed B.named
  have hlocks := B.notSynchronized
  subst hsz
  have hD := hD0.self (sz := s.heap.size)
  have hN : zN (va_A (xW cy a n V) s.heap.size) c s := ⟨hZ.1, hZ.2.1, hZ.2.2, hex⟩
  generalize hAe : va_A (xW cy a n V) s.heap.size = A at hD hN ⊢
  have hA : ∀ q : Nat, s.heap.size ≤ q → A q := fun q h => by rw [← hAe]; exact Or.inr h
  have hS : va_S A s.heap s.heap [] := va_S.rf
  have hl := lv_entry ([.ref (a.1 0), .int p1, .int p2, .int p3, .int p4, .int p5, .int p6, .int p7, .int p8]) (n := 10) (Nat.le_of_ble_eq_true rfl)
  rw [lg_entry_eq]
  generalize (lg_sl ([.ref (a.1 0), .int p1, .int p2, .int p3, .int p4, .int p5, .int p6, .int p7, .int p8]) ++ List.replicate (10 - (lg_sl ([.ref (a.1 0), .int p1, .int p2, .int p3, .int p4, .int p5, .int p6, .int p7, .int p8])).length) Slot.unset).toArray = ls at hl ⊢
  have hl : lv_has ls 10 [(0, .ref (a.1 0)), (1, .int p1), (2, .int p2), (3, .int p3), (4, .int p4), (5, .int p5), (6, .int p6), (7, .int p7), (8, .int p8)] := hl
  have hinX2 : ∀ w ∈ wsX20, w ∈ wsX3_addPour := (fun _ h => (List.mem_cons_of_mem _ (List.mem_append_left _ (List.mem_append_left _ (List.mem_append_left _ (List.mem_append_right _ h))))))
  have hinX3 : ∀ w ∈ wsX30, w ∈ wsX3_addPour := (fun _ h => (List.mem_cons_of_mem _ (List.mem_append_left _ (List.mem_append_left _ (List.mem_append_left _ (List.mem_append_left _ (List.mem_append_right _ h)))))))
  revert hP hS
  intro hP hS
  refine lv_iload_n hx hb dX3_addPour_0 rfl (lv_at hl 1 rfl) ?_
  refine lv_iload_n hx hb dX3_addPour_1 rfl (lv_at hl 2 rfl) ?_
  obtain ⟨u_1, hg_2, h⟩ := ob_some h
  refine zcSi (W.runS (As := [.int p1, .int p2]) (rest := []) ⟨hx, hb, hml, hown, hts⟩ (c_X3_isPlace l p1 p2 hg_2) (va_cwS 2 hts gX3_addPour_X3_isPlace rfl rfl rfl hd_X3_isPlace ⟨Nat.le_of_ble_eq_true rfl, Nat.le_of_ble_eq_true rfl⟩) ⟨zT_blind, zT_at⟩ rfl rfl hl.1 rfl (lv_room (Nat.le_of_ble_eq_true rfl)) dX3_addPour_2 ⟨Nat.le_of_ble_eq_true rfl, Nat.le_of_ble_eq_true rfl⟩) ?_
  refine lv_if_eq (tgt := 49) hx hb dX3_addPour_5 (by decide) (fun c_3 => ?_) (fun c_3 => ?_)
  · replace h := oi_t c_3 h
    have h9 := Option.some.inj h
    subst h9
    exact vx_throw0 hx hb hl0 hown (by decide) (by decide) (hts _ (List.mem_of_getElem? (i := 1) rfl)) (hts _ (List.mem_of_getElem? (i := 2) rfl)) (vx_hat (fun w h9 => hts w (List.mem_cons_of_mem _ (List.mem_append_left _ (List.mem_append_right _ h9)))) (by decide +kernel) (xNB_1 hN.1 _)) (by decide +kernel) hN.2.1 hN.2.2.1 hS (hl.1.trans hml.symm) dX3_addPour_49 dX3_addPour_52 dX3_addPour_53 dX3_addPour_56 (fun z hz => (hN.2.2.2 z hz).elim) (Nat.le_of_ble_eq_true rfl) (Nat.le_of_ble_eq_true rfl) (Nat.le_of_ble_eq_true rfl) (Nat.le_of_ble_eq_true rfl) hlocks (fun t hvm hz hk => ⟨a, trivial, ⟨rfl, (show (1 : Nat) ≠ 0 by decide), rfl, zP_kept hP hk, hD⟩, zF_kept hS hz hk⟩) hS.2.2 (Nat.le_of_ble_eq_true rfl) (Nat.le_of_ble_eq_true rfl)
  · replace h := oi_f c_3 h
    refine lv_iload_n hx hb dX3_addPour_8 rfl (lv_at hl 3 rfl) ?_
    refine lv_iload hx hb dX3_addPour_9 (lv_at hl 4 rfl) ?_
    obtain ⟨u_4, hg_5, h⟩ := ob_some h
    refine zcSi (W.runS (As := [.int p3, .int p4]) (rest := []) ⟨hx, hb, hml, hown, hts⟩ (c_X3_isPlace l p3 p4 hg_5) (va_cwS 2 hts gX3_addPour_X3_isPlace rfl rfl rfl hd_X3_isPlace ⟨Nat.le_of_ble_eq_true rfl, Nat.le_of_ble_eq_true rfl⟩) ⟨zT_blind, zT_at⟩ rfl rfl hl.1 rfl (lv_room (Nat.le_of_ble_eq_true rfl)) dX3_addPour_11 ⟨Nat.le_of_ble_eq_true rfl, Nat.le_of_ble_eq_true rfl⟩) ?_
    refine lv_if_eq (tgt := 49) hx hb dX3_addPour_14 (by decide) (fun c_6 => ?_) (fun c_6 => ?_)
    · replace h := oi_t c_6 h
      have h9 := Option.some.inj h
      subst h9
      exact vx_throw0 hx hb hl0 hown (by decide) (by decide) (hts _ (List.mem_of_getElem? (i := 1) rfl)) (hts _ (List.mem_of_getElem? (i := 2) rfl)) (vx_hat (fun w h9 => hts w (List.mem_cons_of_mem _ (List.mem_append_left _ (List.mem_append_right _ h9)))) (by decide +kernel) (xNB_1 hN.1 _)) (by decide +kernel) hN.2.1 hN.2.2.1 hS (hl.1.trans hml.symm) dX3_addPour_49 dX3_addPour_52 dX3_addPour_53 dX3_addPour_56 (fun z hz => (hN.2.2.2 z hz).elim) (Nat.le_of_ble_eq_true rfl) (Nat.le_of_ble_eq_true rfl) (Nat.le_of_ble_eq_true rfl) (Nat.le_of_ble_eq_true rfl) hlocks (fun t hvm hz hk => ⟨a, trivial, ⟨rfl, (show (1 : Nat) ≠ 0 by decide), rfl, zP_kept hP hk, hD⟩, zF_kept hS hz hk⟩) hS.2.2 (Nat.le_of_ble_eq_true rfl) (Nat.le_of_ble_eq_true rfl)
    · replace h := oi_f c_6 h
      refine lv_iload hx hb dX3_addPour_17 (lv_at hl 5 rfl) ?_
      refine lv_iload hx hb dX3_addPour_19 (lv_at hl 6 rfl) ?_
      obtain ⟨u_7, hg_8, h⟩ := ob_some h
      refine zcSi (W.runS (As := [.int p5, .int p6]) (rest := []) ⟨hx, hb, hml, hown, hts⟩ (c_X3_isBurden l p5 p6 hg_8) (va_cwS 2 hts gX3_addPour_X3_isBurden rfl rfl rfl hd_X3_isBurden ⟨Nat.le_of_ble_eq_true rfl, Nat.le_of_ble_eq_true rfl⟩) ⟨zT_blind, zT_at⟩ rfl rfl hl.1 rfl (lv_room (Nat.le_of_ble_eq_true rfl)) dX3_addPour_21 ⟨Nat.le_of_ble_eq_true rfl, Nat.le_of_ble_eq_true rfl⟩) ?_
      refine lv_if_eq (tgt := 49) hx hb dX3_addPour_24 (by decide) (fun c_9 => ?_) (fun c_9 => ?_)
      · replace h := oi_t c_9 h
        have h9 := Option.some.inj h
        subst h9
        exact vx_throw0 hx hb hl0 hown (by decide) (by decide) (hts _ (List.mem_of_getElem? (i := 1) rfl)) (hts _ (List.mem_of_getElem? (i := 2) rfl)) (vx_hat (fun w h9 => hts w (List.mem_cons_of_mem _ (List.mem_append_left _ (List.mem_append_right _ h9)))) (by decide +kernel) (xNB_1 hN.1 _)) (by decide +kernel) hN.2.1 hN.2.2.1 hS (hl.1.trans hml.symm) dX3_addPour_49 dX3_addPour_52 dX3_addPour_53 dX3_addPour_56 (fun z hz => (hN.2.2.2 z hz).elim) (Nat.le_of_ble_eq_true rfl) (Nat.le_of_ble_eq_true rfl) (Nat.le_of_ble_eq_true rfl) (Nat.le_of_ble_eq_true rfl) hlocks (fun t hvm hz hk => ⟨a, trivial, ⟨rfl, (show (1 : Nat) ≠ 0 by decide), rfl, zP_kept hP hk, hD⟩, zF_kept hS hz hk⟩) hS.2.2 (Nat.le_of_ble_eq_true rfl) (Nat.le_of_ble_eq_true rfl)
      · replace h := oi_f c_9 h
        refine lv_iconst (v := 2) hx hb dX3_addPour_27 (by decide) ?_
        refine lv_iload hx hb dX3_addPour_28 (lv_at hl 7 rfl) ?_
        refine lv_bipush (v := 8) hx hb dX3_addPour_30 (by decide) ?_
        obtain ⟨u_10, hg_11, h⟩ := ob_some h
        refine zcSi (W.runS (As := [.int 2, .int p7, .int 8]) (rest := []) ⟨hx, hb, hml, hown, hts⟩ (c_X3_isFrom l 2 p7 8 hg_11) (va_cwS 3 hts gX3_addPour_X3_isFrom rfl rfl rfl hd_X3_isFrom ⟨Nat.le_of_ble_eq_true rfl, Nat.le_of_ble_eq_true rfl⟩) ⟨zT_blind, zT_at⟩ rfl rfl hl.1 rfl (lv_room (Nat.le_of_ble_eq_true rfl)) dX3_addPour_32 ⟨Nat.le_of_ble_eq_true rfl, Nat.le_of_ble_eq_true rfl⟩) ?_
        refine lv_if_eq (tgt := 49) hx hb dX3_addPour_35 (by decide) (fun c_12 => ?_) (fun c_12 => ?_)
        · replace h := oi_t c_12 h
          have h9 := Option.some.inj h
          subst h9
          exact vx_throw0 hx hb hl0 hown (by decide) (by decide) (hts _ (List.mem_of_getElem? (i := 1) rfl)) (hts _ (List.mem_of_getElem? (i := 2) rfl)) (vx_hat (fun w h9 => hts w (List.mem_cons_of_mem _ (List.mem_append_left _ (List.mem_append_right _ h9)))) (by decide +kernel) (xNB_1 hN.1 _)) (by decide +kernel) hN.2.1 hN.2.2.1 hS (hl.1.trans hml.symm) dX3_addPour_49 dX3_addPour_52 dX3_addPour_53 dX3_addPour_56 (fun z hz => (hN.2.2.2 z hz).elim) (Nat.le_of_ble_eq_true rfl) (Nat.le_of_ble_eq_true rfl) (Nat.le_of_ble_eq_true rfl) (Nat.le_of_ble_eq_true rfl) hlocks (fun t hvm hz hk => ⟨a, trivial, ⟨rfl, (show (1 : Nat) ≠ 0 by decide), rfl, zP_kept hP hk, hD⟩, zF_kept hS hz hk⟩) hS.2.2 (Nat.le_of_ble_eq_true rfl) (Nat.le_of_ble_eq_true rfl)
        · replace h := oi_f c_12 h
          refine lv_iconst (v := 0) hx hb dX3_addPour_38 (by decide) ?_
          refine lv_iload hx hb dX3_addPour_39 (lv_at hl 8 rfl) ?_
          refine lv_bipush (v := 60) hx hb dX3_addPour_41 (by decide) ?_
          obtain ⟨u_13, hg_14, h⟩ := ob_some h
          refine zcSi (W.runS (As := [.int 0, .int p8, .int 60]) (rest := []) ⟨hx, hb, hml, hown, hts⟩ (c_X3_isFrom l 0 p8 60 hg_14) (va_cwS 3 hts gX3_addPour_X3_isFrom rfl rfl rfl hd_X3_isFrom ⟨Nat.le_of_ble_eq_true rfl, Nat.le_of_ble_eq_true rfl⟩) ⟨zT_blind, zT_at⟩ rfl rfl hl.1 rfl (lv_room (Nat.le_of_ble_eq_true rfl)) dX3_addPour_43 ⟨Nat.le_of_ble_eq_true rfl, Nat.le_of_ble_eq_true rfl⟩) ?_
          refine lv_if_ne (tgt := 57) hx hb dX3_addPour_46 (by decide) (fun c_15 => ?_) (fun c_15 => ?_)
          · replace h := oi_f c_15 h
            refine lv_aload_n hx hb dX3_addPour_57 rfl (lv_at hl 0 rfl) ?_
            refine va_get (D := D) (ci := 3) (v := .int (V.2.2.1 5)) (C := RX3) (T := TX3) (N := 10) hx hb hts hinX3 hown hK hP 0 rfl rfl 5 (by decide) (hts _ (List.mem_of_getElem? (i := 5) rfl)) (fun _ h9 => h9) rfl dX3_addPour_58 ?_
            refine lv_aload_n hx hb dX3_addPour_61 rfl (lv_at hl 0 rfl) ?_
            refine va_get (D := D) (ci := 3) (v := .ref (a.1 3)) (C := RX3) (T := TX3) (N := 10) hx hb hts hinX3 hown hK hP 0 rfl rfl 2 (by decide) (hts _ (List.mem_of_getElem? (i := 6) rfl)) (fun _ h9 => h9) rfl dX3_addPour_62 ?_
            refine va_alen (v := 6) hx hb hK hP 3 6 rfl rfl rfl dX3_addPour_65 ?_
            refine lv_icmp_ge (tgt := 84) hx hb dX3_addPour_66 (by decide) (fun c_16 => ?_) (fun c_16 => ?_)
            · replace h := oi_t c_16 h
              have h9 := Option.some.inj h
              subst h9
              exact vx_throw0 hx hb hl0 hown (by decide) (by decide) (hts _ (List.mem_of_getElem? (i := 3) rfl)) (hts _ (List.mem_of_getElem? (i := 4) rfl)) (vx_hat (fun w h9 => hts w (List.mem_cons_of_mem _ (List.mem_append_right _ h9))) (by decide +kernel) (xNB_2 hN.1 _)) (by decide +kernel) hN.2.1 hN.2.2.1 hS (hl.1.trans hml.symm) dX3_addPour_84 dX3_addPour_87 dX3_addPour_88 dX3_addPour_91 (fun z hz => (hN.2.2.2 z hz).elim) (Nat.le_of_ble_eq_true rfl) (Nat.le_of_ble_eq_true rfl) (Nat.le_of_ble_eq_true rfl) (Nat.le_of_ble_eq_true rfl) hlocks (fun t hvm hz hk => ⟨a, trivial, ⟨rfl, (show (2 : Nat) ≠ 0 by decide), rfl, zP_kept hP hk, hD⟩, zF_kept hS hz hk⟩) hS.2.2 (Nat.le_of_ble_eq_true rfl) (Nat.le_of_ble_eq_true rfl)
            · replace h := oi_f c_16 h
              refine lv_aload_n hx hb dX3_addPour_69 rfl (lv_at hl 0 rfl) ?_
              refine va_get (D := D) (ci := 3) (v := .int (V.2.2.1 4)) (C := RX3) (T := TX3) (N := 10) hx hb hts hinX3 hown hK hP 0 rfl rfl 4 (by decide) (hts _ (List.mem_of_getElem? (i := 7) rfl)) (fun _ h9 => h9) rfl dX3_addPour_70 ?_
              refine lv_iload hx hb dX3_addPour_73 (lv_at hl 7 rfl) ?_
              refine lv_iadd hx hb dX3_addPour_75 ?_
              refine lv_aload_n hx hb dX3_addPour_76 rfl (lv_at hl 0 rfl) ?_
              refine va_get (D := D) (ci := 3) (v := .ref (a.1 2)) (C := RX3) (T := TX3) (N := 10) hx hb hts hinX3 hown hK hP 0 rfl rfl 1 (by decide) (hts _ (List.mem_of_getElem? (i := 8) rfl)) (fun _ h9 => h9) rfl dX3_addPour_77 ?_
              refine va_alen (v := 40) hx hb hK hP 2 5 rfl rfl rfl dX3_addPour_80 ?_
              refine lv_icmp_le (tgt := 92) hx hb dX3_addPour_81 (by decide) (fun c_17 => ?_) (fun c_17 => ?_)
              · replace h := oi_t c_17 h
                refine lv_aload_n hx hb dX3_addPour_92 rfl (lv_at hl 0 rfl) ?_
                refine va_get (D := D) (ci := 3) (v := .ref (a.1 3)) (C := RX3) (T := TX3) (N := 10) hx hb hts hinX3 hown hK hP 0 rfl rfl 2 (by decide) (hts _ (List.mem_of_getElem? (i := 6) rfl)) (fun _ h9 => h9) rfl dX3_addPour_93 ?_
                refine lv_aload_n hx hb dX3_addPour_96 rfl (lv_at hl 0 rfl) ?_
                refine va_get (D := D) (ci := 3) (v := .int (V.2.2.1 5)) (C := RX3) (T := TX3) (N := 10) hx hb hts hinX3 hown hK hP 0 rfl rfl 5 (by decide) (hts _ (List.mem_of_getElem? (i := 5) rfl)) (fun _ h9 => h9) rfl dX3_addPour_97 ?_
                refine va_new (D := D) (ci := 2) (fs := [.int 0, .int 0, .int 0]) (C := RX2) (T := TX2) (N := 3) hx hb hts hinX2 tyX2 tyX2_ok hown (hts _ (List.mem_of_getElem? (i := 9) rfl)) (hts _ (List.mem_of_getElem? (i := 10) rfl)) (hts _ (List.mem_of_getElem? (i := 11) rfl)) hK hP hD hS hA rfl (fun j hj => by rcases (show j = 0 ∨ j = 1 ∨ j = 2 by omega) with rfl | rfl | rfl <;> rfl) (Nat.le_of_ble_eq_true rfl) (Nat.le_of_ble_eq_true rfl) dX3_addPour_100 (fun q_18 H hP hD hS => ?_)
                refine W.widen (k := 1) (n := 3) (Nat.le_of_ble_eq_true rfl) (Nat.le_of_ble_eq_true rfl) ?_
                refine lv_dup hx hb dX3_addPour_103 rfl ?_
                refine lv_aload_n hx hb dX3_addPour_104 rfl (lv_at hl 0 rfl) ?_
                refine va_get (D := D) (ci := 3) (v := .int (V.2.2.1 4)) (C := RX3) (T := TX3) (N := 10) hx hb hts hinX3 hown hK hP 0 rfl rfl 4 (by decide) (hts _ (List.mem_of_getElem? (i := 7) rfl)) (fun _ h9 => h9) rfl dX3_addPour_105 ?_
                refine lv_iload hx hb dX3_addPour_108 (lv_at hl 7 rfl) ?_
                refine lv_iload hx hb dX3_addPour_110 (lv_at hl 8 rfl) ?_
                have hPc : va_P D xcl [(q_18, .inr (2, [.int 0, .int 0, .int 0]))] H := zP_last hP
                have hDc : va_D A [(q_18, .inr (2, [.int 0, .int 0, .int 0]))] := zD_last hD
                have hFc := z_free hDc hS hA
                refine va_callv (va_runI (As := [.int (V.2.2.1 4), .int p7, .int p8]) (rest := [.ref q_18, .int (V.2.2.1 5), .ref (a.1 3)]) ⟨hx, hb, hml, hown, hts⟩ (c_X2_init l D cy q_18 H.size (V.2.2.1 4) p7 p8) (cwI 3 hts gX3_addPour_X2_init rfl rfl rfl (hts _ (List.mem_of_getElem? (i := 11) rfl)) (hts _ (List.mem_of_getElem? (i := 25) rfl)) (hts _ (List.mem_of_getElem? (i := 26) rfl)) rfl hd_X2_init ⟨Nat.le_of_ble_eq_true rfl, Nat.le_of_ble_eq_true rfl⟩) ⟨(zJ_blind cI_blind), (zJ_at (cI_at hPc hK hDc))⟩ rfl rfl hl.1 rfl (lv_room (Nat.le_of_ble_eq_true rfl)) dX3_addPour_112 ⟨Nat.le_of_ble_eq_true rfl, Nat.le_of_ble_eq_true rfl⟩) hS (fun q _ h => hFc q h) hFc (fun u9 t H1 locs1 ht hvm hw hB hz1 hk1 hS => ?_)
                obtain ⟨hP1, hD1⟩ := hB
                rw [ht] at hP1
                obtain ⟨hP, hD⟩ := z_join (ws := xW cy a n V) (wc := [(q_18, .inr (2, [.int 0, .int 0, .int 0]))]) (w1 := [(q_18, .inr (2, [.int (V.2.2.1 4), .int p7, .int p8]))]) hP hD hk1 hFc hP1 hD1
                clear hk1 hz1 ht
                generalize H1 = H at hP hS ⊢
                obtain ⟨g_19, h⟩ := og_some h
                obtain ⟨g_20, h⟩ := og_some h
                refine va_astq hx hb hK hP hD hS 3 6 _ 2 rfl rfl (z_at_last) rfl g_19 dX3_addPour_115 (fun H locs hP hD hS => ?_)
                rw [g_20] at hP hD
                replace hP := zP_perm (xperm2 (gP (V.2.2.1 4) p7 p8)) hP
                replace hD := zD_perm (xperm2 (gP (V.2.2.1 4) p7 p8)) hD
                obtain ⟨V_21, eV_22, h⟩ := ob_some h
                rw [Option.some.inj eV_22] at hP hD
                refine lv_iconst (v := 0) hx hb dX3_addPour_116 (by decide) ?_
                refine lv_istore (lv' := [(9, .int 0), (0, .ref (a.1 0)), (1, .int p1), (2, .int p2), (3, .int p3), (4, .int p4), (5, .int p5), (6, .int p6), (7, .int p7), (8, .int p8)]) hx hb dX3_addPour_117 hl (by decide) rfl (fun ls hl => ?_)
                exact k_X3_addPour_119 hl0 hx hb hr hts hml hown hlocks hK hA hN _ 9 0 (aup a 2 (n 2) q_18) (nup n 2) V_21 _ _ _ _ ls rfl (Nat.le_of_ble_eq_true rfl) (Nat.le_of_ble_eq_true rfl) h hP hD hS (lv_sub hl [0, 1, 2, 3, 4, 5, 6, 7, 8, 9] rfl)
              · replace h := oi_f c_17 h
                have h9 := Option.some.inj h
                subst h9
                exact vx_throw0 hx hb hl0 hown (by decide) (by decide) (hts _ (List.mem_of_getElem? (i := 3) rfl)) (hts _ (List.mem_of_getElem? (i := 4) rfl)) (vx_hat (fun w h9 => hts w (List.mem_cons_of_mem _ (List.mem_append_right _ h9))) (by decide +kernel) (xNB_2 hN.1 _)) (by decide +kernel) hN.2.1 hN.2.2.1 hS (hl.1.trans hml.symm) dX3_addPour_84 dX3_addPour_87 dX3_addPour_88 dX3_addPour_91 (fun z hz => (hN.2.2.2 z hz).elim) (Nat.le_of_ble_eq_true rfl) (Nat.le_of_ble_eq_true rfl) (Nat.le_of_ble_eq_true rfl) (Nat.le_of_ble_eq_true rfl) hlocks (fun t hvm hz hk => ⟨a, trivial, ⟨rfl, (show (2 : Nat) ≠ 0 by decide), rfl, zP_kept hP hk, hD⟩, zF_kept hS hz hk⟩) hS.2.2 (Nat.le_of_ble_eq_true rfl) (Nat.le_of_ble_eq_true rfl)
          · replace h := oi_t c_15 h
            have h9 := Option.some.inj h
            subst h9
            exact vx_throw0 hx hb hl0 hown (by decide) (by decide) (hts _ (List.mem_of_getElem? (i := 1) rfl)) (hts _ (List.mem_of_getElem? (i := 2) rfl)) (vx_hat (fun w h9 => hts w (List.mem_cons_of_mem _ (List.mem_append_left _ (List.mem_append_right _ h9)))) (by decide +kernel) (xNB_1 hN.1 _)) (by decide +kernel) hN.2.1 hN.2.2.1 hS (hl.1.trans hml.symm) dX3_addPour_49 dX3_addPour_52 dX3_addPour_53 dX3_addPour_56 (fun z hz => (hN.2.2.2 z hz).elim) (Nat.le_of_ble_eq_true rfl) (Nat.le_of_ble_eq_true rfl) (Nat.le_of_ble_eq_true rfl) (Nat.le_of_ble_eq_true rfl) hlocks (fun t hvm hz hk => ⟨a, trivial, ⟨rfl, (show (1 : Nat) ≠ 0 by decide), rfl, zP_kept hP hk, hD⟩, zF_kept hS hz hk⟩) hS.2.2 (Nat.le_of_ble_eq_true rfl) (Nat.le_of_ble_eq_true rfl)
