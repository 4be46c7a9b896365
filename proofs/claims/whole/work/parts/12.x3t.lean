def f_X3_permit (n : Nat → Nat) (V : XV) (p1 : Int32) (p2 : Int32) (p3 : Int32) : Option (Nat × Int32 × XV) := ob (f_X3_craneNumbered n V p1) (fun u_1 => oc (n 0) u_1 (some (3, 0, V)) (fun k_3 => ob (f_X3_areHours p2 p3) (fun u_5 => oi (u_5 = 0) (some (1, 0, V)) (ob (f_X3_bitsOfHours p2 p3) (fun u_8 => ob (some (xput V 0 k_3 5 ((V.1 0 k_3 5) ||| u_8))) (fun V_10 => ob (f_J6_bitCount_0f7a4 (V_10.1 0 k_3 5)) (fun u_12 => some (0, u_12, V_10))))))))
theorem hd_X3_permit : yX3_permit.cls = RX3 ∧ yX3_permit.cls ≠ "java/lang/invoke/MethodHandle" ∧ yX3_permit.cls ≠ "java/lang/invoke/VarHandle" ∧ (parseMethodDescriptor yX3_permit.desc).map (fun d => d.parameters.length) = some 3 := by decide +kernel
set_option maxHeartbeats 4000000 in
set_option maxRecDepth 100000 in
theorem c_X3_permit (l : Launch) (hl0 : l.stackTraces = false) (D : va_G) (cy : Nat → ClassId) (a : XA) (n : Nat → Nat) (V : XV) (sz : Nat) (p1 : Int32) (p2 : Int32) (p3 : Int32) {res : Nat × Int32 × XV} (h : f_X3_permit n V p1 p2 p3 = some res) : vx_Met l yX3_permit wsX3_permit ({ frames := 7, cells := 1, slots := 6, locals := 120 } : Room) (va_Pc [.ref (a.1 0), .int p1, .int p2, .int p3] (zX sz (va_A (xW cy a n V) sz) (xI D cy a n V))) (va_Qi (fun r (_ : Unit) => res.1 = 0 ∧ r = res.2.1) (fun _ t => va_P D xcl (xW cy a n res.2.2) t.heap ∧ va_D (va_A (xW cy a n V) sz) (xW cy a n res.2.2)) (va_A (xW cy a n V) sz)) (vx_X (fun (_ : Unit) => True) (fun E _ t => E = xnm res.1 ∧ res.1 ≠ 0 ∧ va_P D xcl (xW cy a n res.2.2) t.heap ∧ va_D (va_A (xW cy a n V) sz) (xW cy a n res.2.2)) (va_A (xW cy a n V) sz)) 1 6 (va_A (xW cy a n V) sz) := by
  refine vx_ofW (cc := cX3_permit) (maxL := 5) (ret := (some .int)) (by decide) rfl ?_
  intro p e s m args below meth c s₁ B hml hex hv
  obtain ⟨rfl, hsz, hZ, hP, hK, hD0⟩ := hv
  have hx := B.exec
  have hb := B.bytes
  have hr := B.returns
  have hts := atoms_spec (ws := wsX3_permit) B.pre
  have hown : s.vm.findClass RX3 = some m.cls := findClass_of_methodNamed B.named
  have hlocks := B.notSynchronized
  subst hsz
  have hD := hD0.self (sz := s.heap.size)
  have hN : zN (va_A (xW cy a n V) s.heap.size) c s := ⟨hZ.1, hZ.2.1, hZ.2.2, hex⟩
  generalize hAe : va_A (xW cy a n V) s.heap.size = A at hD hN ⊢
  have hA : ∀ q : Nat, s.heap.size ≤ q → A q := fun q h => by rw [← hAe]; exact Or.inr h
  have hS : va_S A s.heap s.heap [] := va_S.rf
  have hl := lv_entry ([.ref (a.1 0), .int p1, .int p2, .int p3]) (n := 5) (Nat.le_of_ble_eq_true rfl)
  rw [lg_entry_eq]
  generalize (lg_sl ([.ref (a.1 0), .int p1, .int p2, .int p3]) ++ List.replicate (5 - (lg_sl ([.ref (a.1 0), .int p1, .int p2, .int p3])).length) Slot.unset).toArray = ls at hl ⊢
  have hl : lv_has ls 5 [(0, .ref (a.1 0)), (1, .int p1), (2, .int p2), (3, .int p3)] := hl
  have hinX0 : ∀ w ∈ wsX00, w ∈ wsX3_permit := (fun _ h => (List.mem_cons_of_mem _ (List.mem_append_left _ (List.mem_append_left _ (List.mem_append_left _ (List.mem_append_right _ h))))))
  revert hP hS
  intro hP hS
  refine lv_aload_n hx hb dX3_permit_0 rfl (lv_at hl 0 rfl) ?_
  refine lv_iload_n hx hb dX3_permit_1 rfl (lv_at hl 1 rfl) ?_
  obtain ⟨u_1, hg_2, h⟩ := ob_some h
  rcases oc_some h with ⟨o_4, h⟩ | ⟨k_3, hk_3, o_4, h⟩
  · refine zcSqn (W.runV (As := [.int p1]) (rest := []) ⟨hx, hb, hml, hown, hts⟩ (c_X3_craneNumbered l D cy a n V p1 hg_2) (cwV 1 hts gX3_permit_X3_craneNumbered rfl rfl rfl hd_X3_craneNumbered ⟨Nat.le_of_ble_eq_true rfl, Nat.le_of_ble_eq_true rfl⟩) ⟨xI_blind, va_recv hK hP (ci := 3) (q0 := 0) rfl rfl, (xI_at hP hK hD)⟩ rfl rfl hl.1 rfl (lv_room (Nat.le_of_ble_eq_true rfl)) dX3_permit_2 ⟨Nat.le_of_ble_eq_true rfl, Nat.le_of_ble_eq_true rfl⟩) o_4 ?_
    refine lv_astoreN (lv' := [(4, .null), (0, .ref (a.1 0)), (1, .int p1), (2, .int p2), (3, .int p3)]) hx hb dX3_permit_5 hl (by decide) rfl (fun ls hl => ?_)
    refine lv_aloadN hx hb dX3_permit_7 (lv_at hl 0 rfl) ?_
    refine lv_ifnonnullN hx hb dX3_permit_9 ?_
    have h9 := Option.some.inj h
    subst h9
    exact vx_throw0 hx hb hl0 hown (by decide) (by decide) (hts _ (List.mem_of_getElem? (i := 1) rfl)) (hts _ (List.mem_of_getElem? (i := 2) rfl)) (vx_hat (fun w h9 => hts w (List.mem_cons_of_mem _ (List.mem_append_left _ (List.mem_append_right _ h9)))) (by decide +kernel) (xNB_3 hN.1 _)) (by decide +kernel) hN.2.1 hN.2.2.1 hS (hl.1.trans hml.symm) dX3_permit_12 dX3_permit_15 dX3_permit_16 dX3_permit_19 (fun z hz => (hN.2.2.2 z hz).elim) (Nat.le_of_ble_eq_true rfl) (Nat.le_of_ble_eq_true rfl) (Nat.le_of_ble_eq_true rfl) (Nat.le_of_ble_eq_true rfl) hlocks (fun t hvm hz hk => ⟨(), trivial, ⟨rfl, (show (3 : Nat) ≠ 0 by decide), zP_kept hP hk, hD⟩, zF_kept hS hz hk⟩) hS.2.2 (Nat.le_of_ble_eq_true rfl) (Nat.le_of_ble_eq_true rfl)
  · refine zcSqs (W.runV (As := [.int p1]) (rest := []) ⟨hx, hb, hml, hown, hts⟩ (c_X3_craneNumbered l D cy a n V p1 hg_2) (cwV 1 hts gX3_permit_X3_craneNumbered rfl rfl rfl hd_X3_craneNumbered ⟨Nat.le_of_ble_eq_true rfl, Nat.le_of_ble_eq_true rfl⟩) ⟨xI_blind, va_recv hK hP (ci := 3) (q0 := 0) rfl rfl, (xI_at hP hK hD)⟩ rfl rfl hl.1 rfl (lv_room (Nat.le_of_ble_eq_true rfl)) dX3_permit_2 ⟨Nat.le_of_ble_eq_true rfl, Nat.le_of_ble_eq_true rfl⟩) o_4 ?_
    refine lv_astore (lv' := [(4, .ref (a.2 0 k_3)), (0, .ref (a.1 0)), (1, .int p1), (2, .int p2), (3, .int p3)]) hx hb dX3_permit_5 hl (by decide) rfl (fun ls hl => ?_)
    refine lv_aload hx hb dX3_permit_7 (lv_at hl 0 rfl) ?_
    refine lv_ifnonnull (tgt := 20) hx hb dX3_permit_9 (by decide) ?_
    refine lv_iload_n hx hb dX3_permit_20 rfl (lv_at hl 3 rfl) ?_
    refine lv_iload_n hx hb dX3_permit_21 rfl (lv_at hl 4 rfl) ?_
    obtain ⟨u_5, hg_6, h⟩ := ob_some h
    refine zcSi (W.runS (As := [.int p2, .int p3]) (rest := []) ⟨hx, hb, hml, hown, hts⟩ (c_X3_areHours l p2 p3 hg_6) (va_cwS 2 hts gX3_permit_X3_areHours rfl rfl rfl hd_X3_areHours ⟨Nat.le_of_ble_eq_true rfl, Nat.le_of_ble_eq_true rfl⟩) ⟨zT_blind, zT_at⟩ rfl rfl hl.1 rfl (lv_room (Nat.le_of_ble_eq_true rfl)) dX3_permit_22 ⟨Nat.le_of_ble_eq_true rfl, Nat.le_of_ble_eq_true rfl⟩) ?_
    refine lv_if_ne (tgt := 36) hx hb dX3_permit_25 (by decide) (fun c_7 => ?_) (fun c_7 => ?_)
    · replace h := oi_f c_7 h
      refine lv_aload hx hb dX3_permit_36 (lv_at hl 0 rfl) ?_
      refine lv_dup hx hb dX3_permit_38 rfl ?_
      refine va_get (D := D) (ci := 0) (v := .int (V.1 0 k_3 5)) (C := RX0) (T := TX0) (N := 6) hx hb hts hinX0 hown hK hP _ (xpos_cr hk_3) rfl 5 (by decide) (hts _ (List.mem_of_getElem? (i := 5) rfl)) (fun _ h9 => h9) rfl dX3_permit_39 ?_
      refine lv_iload_n hx hb dX3_permit_42 rfl (lv_at hl 3 rfl) ?_
      refine lv_iload_n hx hb dX3_permit_43 rfl (lv_at hl 4 rfl) ?_
      obtain ⟨u_8, hg_9, h⟩ := ob_some h
      refine zcSi (W.runS (As := [.int p2, .int p3]) (rest := [.int (V.1 0 k_3 5), .ref (a.2 0 k_3)]) ⟨hx, hb, hml, hown, hts⟩ (c_X3_bitsOfHours l p2 p3 hg_9) (va_cwS 2 hts gX3_permit_X3_bitsOfHours rfl rfl rfl hd_X3_bitsOfHours ⟨Nat.le_of_ble_eq_true rfl, Nat.le_of_ble_eq_true rfl⟩) ⟨zT_blind, zT_at⟩ rfl rfl hl.1 rfl (lv_room (Nat.le_of_ble_eq_true rfl)) dX3_permit_44 ⟨Nat.le_of_ble_eq_true rfl, Nat.le_of_ble_eq_true rfl⟩) ?_
      refine lv_ior hx hb dX3_permit_47 ?_
      refine va_put (D := D) (ci := 0) (v := .int ((V.1 0 k_3 5) ||| u_8)) (ty := .int) (C := RX0) (T := TX0) (N := 6) hx hb hts hinX0 tyX0 tyX0_ok nmX0 hown hK hP hD hS _ (xpos_cr hk_3) rfl 5 (by decide) (hts _ (List.mem_of_getElem? (i := 5) rfl)) (fun _ h9 => h9) rfl (by decide +kernel) rfl rfl (Nat.le_of_ble_eq_true rfl) dX3_permit_48 (fun H locs hP hD hS => ?_)
      rw [xset_cr hk_3 _] at hP hD
      obtain ⟨V_10, eV_11, h⟩ := ob_some h
      rw [Option.some.inj eV_11] at hP hD
      refine lv_aload hx hb dX3_permit_51 (lv_at hl 0 rfl) ?_
      refine va_get (D := D) (ci := 0) (v := .int (V_10.1 0 k_3 5)) (C := RX0) (T := TX0) (N := 6) hx hb hts hinX0 hown hK hP _ (xpos_cr hk_3) rfl 5 (by decide) (hts _ (List.mem_of_getElem? (i := 5) rfl)) (fun _ h9 => h9) rfl dX3_permit_53 ?_
      obtain ⟨u_12, hg_13, h⟩ := ob_some h
      refine zcSi (W.runS (As := [.int (V_10.1 0 k_3 5)]) (rest := []) ⟨hx, hb, hml, hown, hts⟩ (c_J6_bitCount_0f7a4 l (V_10.1 0 k_3 5) hg_13) (va_cwS 1 hts gX3_permit_J6_bitCount_0f7a4 rfl rfl rfl hd_J6_bitCount_0f7a4 ⟨Nat.le_of_ble_eq_true rfl, Nat.le_of_ble_eq_true rfl⟩) ⟨zT_blind, zT_at⟩ rfl rfl hl.1 rfl (lv_room (Nat.le_of_ble_eq_true rfl)) dX3_permit_56 ⟨Nat.le_of_ble_eq_true rfl, Nat.le_of_ble_eq_true rfl⟩) ?_
      have h9 := Option.some.inj h
      subst h9
      refine vx_ret ?_
      refine W.widen (k := 1) (n := 6) (Nat.le_of_ble_eq_true rfl) (Nat.le_of_ble_eq_true rfl) ?_
      exact W.iret (v := u_12) hx hb hr (fun t ht hW => ⟨⟨u_12, (), rfl, ⟨rfl, rfl⟩, ⟨by rw [ht]; exact hP, hD⟩⟩, hS.F ht⟩) hS.2.2 dX3_permit_59 hlocks
    · replace h := oi_t c_7 h
      have h9 := Option.some.inj h
      subst h9
      exact vx_throw0 hx hb hl0 hown (by decide) (by decide) (hts _ (List.mem_of_getElem? (i := 3) rfl)) (hts _ (List.mem_of_getElem? (i := 4) rfl)) (vx_hat (fun w h9 => hts w (List.mem_cons_of_mem _ (List.mem_append_right _ h9))) (by decide +kernel) (xNB_1 hN.1 _)) (by decide +kernel) hN.2.1 hN.2.2.1 hS (hl.1.trans hml.symm) dX3_permit_28 dX3_permit_31 dX3_permit_32 dX3_permit_35 (fun z hz => (hN.2.2.2 z hz).elim) (Nat.le_of_ble_eq_true rfl) (Nat.le_of_ble_eq_true rfl) (Nat.le_of_ble_eq_true rfl) (Nat.le_of_ble_eq_true rfl) hlocks (fun t hvm hz hk => ⟨(), trivial, ⟨rfl, (show (1 : Nat) ≠ 0 by decide), zP_kept hP hk, hD⟩, zF_kept hS hz hk⟩) hS.2.2 (Nat.le_of_ble_eq_true rfl) (Nat.le_of_ble_eq_true rfl)
def f_X3_endPermit (n : Nat → Nat) (V : XV) (p1 : Int32) (p2 : Int32) (p3 : Int32) : Option (Nat × Int32 × XV) := ob (f_X3_craneNumbered n V p1) (fun u_1 => oc (n 0) u_1 (some (3, 0, V)) (fun k_3 => ob (f_X3_areHours p2 p3) (fun u_5 => oi (u_5 = 0) (some (1, 0, V)) (ob (f_X3_bitsOfHours p2 p3) (fun u_8 => ob (some (xput V 0 k_3 5 ((V.1 0 k_3 5) &&& (u_8 ^^^ (-1))))) (fun V_10 => ob (f_X3_takeBackUnfit n V_10 ) (fun u_12 => some (0, u_12.1, u_12.2))))))))
theorem hd_X3_endPermit : yX3_endPermit.cls = RX3 ∧ yX3_endPermit.cls ≠ "java/lang/invoke/MethodHandle" ∧ yX3_endPermit.cls ≠ "java/lang/invoke/VarHandle" ∧ (parseMethodDescriptor yX3_endPermit.desc).map (fun d => d.parameters.length) = some 3 := by decide +kernel
set_option maxHeartbeats 4000000 in
set_option maxRecDepth 100000 in
theorem c_X3_endPermit (l : Launch) (hl0 : l.stackTraces = false) (D : va_G) (cy : Nat → ClassId) (a : XA) (n : Nat → Nat) (V : XV) (sz : Nat) (p1 : Int32) (p2 : Int32) (p3 : Int32) {res : Nat × Int32 × XV} (h : f_X3_endPermit n V p1 p2 p3 = some res) : vx_Met l yX3_endPermit wsX3_endPermit ({ frames := 7, cells := 1, slots := 6, locals := 134 } : Room) (va_Pc [.ref (a.1 0), .int p1, .int p2, .int p3] (zX sz (va_A (xW cy a n V) sz) (xI D cy a n V))) (va_Qi (fun r (_ : Unit) => res.1 = 0 ∧ r = res.2.1) (fun _ t => va_P D xcl (xW cy a n res.2.2) t.heap ∧ va_D (va_A (xW cy a n V) sz) (xW cy a n res.2.2)) (va_A (xW cy a n V) sz)) (vx_X (fun (_ : Unit) => True) (fun E _ t => E = xnm res.1 ∧ res.1 ≠ 0 ∧ va_P D xcl (xW cy a n res.2.2) t.heap ∧ va_D (va_A (xW cy a n V) sz) (xW cy a n res.2.2)) (va_A (xW cy a n V) sz)) 1 6 (va_A (xW cy a n V) sz) := by
  refine vx_ofW (cc := cX3_endPermit) (maxL := 5) (ret := (some .int)) (by decide) rfl ?_
  intro p e s m args below meth c s₁ B hml hex hv
  obtain ⟨rfl, hsz, hZ, hP, hK, hD0⟩ := hv
  have hx := B.exec
  have hb := B.bytes
  have hr := B.returns
  have hts := atoms_spec (ws := wsX3_endPermit) B.pre
  have hown : s.vm.findClass RX3 = some m.cls := findClass_of_methodNamed B.named
  have hlocks := B.notSynchronized
  subst hsz
  have hD := hD0.self (sz := s.heap.size)
  have hN : zN (va_A (xW cy a n V) s.heap.size) c s := ⟨hZ.1, hZ.2.1, hZ.2.2, hex⟩
  generalize hAe : va_A (xW cy a n V) s.heap.size = A at hD hN ⊢
  have hA : ∀ q : Nat, s.heap.size ≤ q → A q := fun q h => by rw [← hAe]; exact Or.inr h
  have hS : va_S A s.heap s.heap [] := va_S.rf
  have hl := lv_entry ([.ref (a.1 0), .int p1, .int p2, .int p3]) (n := 5) (Nat.le_of_ble_eq_true rfl)
  rw [lg_entry_eq]
  generalize (lg_sl ([.ref (a.1 0), .int p1, .int p2, .int p3]) ++ List.replicate (5 - (lg_sl ([.ref (a.1 0), .int p1, .int p2, .int p3])).length) Slot.unset).toArray = ls at hl ⊢
  have hl : lv_has ls 5 [(0, .ref (a.1 0)), (1, .int p1), (2, .int p2), (3, .int p3)] := hl
  have hinX0 : ∀ w ∈ wsX00, w ∈ wsX3_endPermit := (fun _ h => (List.mem_cons_of_mem _ (List.mem_append_left _ (List.mem_append_left _ (List.mem_append_left _ (List.mem_append_left _ (List.mem_append_left _ (List.mem_append_right _ h))))))))
  revert hP hS
  intro hP hS
  refine lv_aload_n hx hb dX3_endPermit_0 rfl (lv_at hl 0 rfl) ?_
  refine lv_iload_n hx hb dX3_endPermit_1 rfl (lv_at hl 1 rfl) ?_
  obtain ⟨u_1, hg_2, h⟩ := ob_some h
  rcases oc_some h with ⟨o_4, h⟩ | ⟨k_3, hk_3, o_4, h⟩
  · refine zcSqn (W.runV (As := [.int p1]) (rest := []) ⟨hx, hb, hml, hown, hts⟩ (c_X3_craneNumbered l D cy a n V p1 hg_2) (cwV 1 hts gX3_endPermit_X3_craneNumbered rfl rfl rfl hd_X3_craneNumbered ⟨Nat.le_of_ble_eq_true rfl, Nat.le_of_ble_eq_true rfl⟩) ⟨xI_blind, va_recv hK hP (ci := 3) (q0 := 0) rfl rfl, (xI_at hP hK hD)⟩ rfl rfl hl.1 rfl (lv_room (Nat.le_of_ble_eq_true rfl)) dX3_endPermit_2 ⟨Nat.le_of_ble_eq_true rfl, Nat.le_of_ble_eq_true rfl⟩) o_4 ?_
    refine lv_astoreN (lv' := [(4, .null), (0, .ref (a.1 0)), (1, .int p1), (2, .int p2), (3, .int p3)]) hx hb dX3_endPermit_5 hl (by decide) rfl (fun ls hl => ?_)
    refine lv_aloadN hx hb dX3_endPermit_7 (lv_at hl 0 rfl) ?_
    refine lv_ifnonnullN hx hb dX3_endPermit_9 ?_
    have h9 := Option.some.inj h
    subst h9
    exact vx_throw0 hx hb hl0 hown (by decide) (by decide) (hts _ (List.mem_of_getElem? (i := 1) rfl)) (hts _ (List.mem_of_getElem? (i := 2) rfl)) (vx_hat (fun w h9 => hts w (List.mem_cons_of_mem _ (List.mem_append_left _ (List.mem_append_left _ (List.mem_append_right _ h9))))) (by decide +kernel) (xNB_3 hN.1 _)) (by decide +kernel) hN.2.1 hN.2.2.1 hS (hl.1.trans hml.symm) dX3_endPermit_12 dX3_endPermit_15 dX3_endPermit_16 dX3_endPermit_19 (fun z hz => (hN.2.2.2 z hz).elim) (Nat.le_of_ble_eq_true rfl) (Nat.le_of_ble_eq_true rfl) (Nat.le_of_ble_eq_true rfl) (Nat.le_of_ble_eq_true rfl) hlocks (fun t hvm hz hk => ⟨(), trivial, ⟨rfl, (show (3 : Nat) ≠ 0 by decide), zP_kept hP hk, hD⟩, zF_kept hS hz hk⟩) hS.2.2 (Nat.le_of_ble_eq_true rfl) (Nat.le_of_ble_eq_true rfl)
  · refine zcSqs (W.runV (As := [.int p1]) (rest := []) ⟨hx, hb, hml, hown, hts⟩ (c_X3_craneNumbered l D cy a n V p1 hg_2) (cwV 1 hts gX3_endPermit_X3_craneNumbered rfl rfl rfl hd_X3_craneNumbered ⟨Nat.le_of_ble_eq_true rfl, Nat.le_of_ble_eq_true rfl⟩) ⟨xI_blind, va_recv hK hP (ci := 3) (q0 := 0) rfl rfl, (xI_at hP hK hD)⟩ rfl rfl hl.1 rfl (lv_room (Nat.le_of_ble_eq_true rfl)) dX3_endPermit_2 ⟨Nat.le_of_ble_eq_true rfl, Nat.le_of_ble_eq_true rfl⟩) o_4 ?_
    refine lv_astore (lv' := [(4, .ref (a.2 0 k_3)), (0, .ref (a.1 0)), (1, .int p1), (2, .int p2), (3, .int p3)]) hx hb dX3_endPermit_5 hl (by decide) rfl (fun ls hl => ?_)
    refine lv_aload hx hb dX3_endPermit_7 (lv_at hl 0 rfl) ?_
    refine lv_ifnonnull (tgt := 20) hx hb dX3_endPermit_9 (by decide) ?_
    refine lv_iload_n hx hb dX3_endPermit_20 rfl (lv_at hl 3 rfl) ?_
    refine lv_iload_n hx hb dX3_endPermit_21 rfl (lv_at hl 4 rfl) ?_
    obtain ⟨u_5, hg_6, h⟩ := ob_some h
    refine zcSi (W.runS (As := [.int p2, .int p3]) (rest := []) ⟨hx, hb, hml, hown, hts⟩ (c_X3_areHours l p2 p3 hg_6) (va_cwS 2 hts gX3_endPermit_X3_areHours rfl rfl rfl hd_X3_areHours ⟨Nat.le_of_ble_eq_true rfl, Nat.le_of_ble_eq_true rfl⟩) ⟨zT_blind, zT_at⟩ rfl rfl hl.1 rfl (lv_room (Nat.le_of_ble_eq_true rfl)) dX3_endPermit_22 ⟨Nat.le_of_ble_eq_true rfl, Nat.le_of_ble_eq_true rfl⟩) ?_
    refine lv_if_ne (tgt := 36) hx hb dX3_endPermit_25 (by decide) (fun c_7 => ?_) (fun c_7 => ?_)
    · replace h := oi_f c_7 h
      refine lv_aload hx hb dX3_endPermit_36 (lv_at hl 0 rfl) ?_
      refine lv_dup hx hb dX3_endPermit_38 rfl ?_
      refine va_get (D := D) (ci := 0) (v := .int (V.1 0 k_3 5)) (C := RX0) (T := TX0) (N := 6) hx hb hts hinX0 hown hK hP _ (xpos_cr hk_3) rfl 5 (by decide) (hts _ (List.mem_of_getElem? (i := 5) rfl)) (fun _ h9 => h9) rfl dX3_endPermit_39 ?_
      refine lv_iload_n hx hb dX3_endPermit_42 rfl (lv_at hl 3 rfl) ?_
      refine lv_iload_n hx hb dX3_endPermit_43 rfl (lv_at hl 4 rfl) ?_
      obtain ⟨u_8, hg_9, h⟩ := ob_some h
      refine zcSi (W.runS (As := [.int p2, .int p3]) (rest := [.int (V.1 0 k_3 5), .ref (a.2 0 k_3)]) ⟨hx, hb, hml, hown, hts⟩ (c_X3_bitsOfHours l p2 p3 hg_9) (va_cwS 2 hts gX3_endPermit_X3_bitsOfHours rfl rfl rfl hd_X3_bitsOfHours ⟨Nat.le_of_ble_eq_true rfl, Nat.le_of_ble_eq_true rfl⟩) ⟨zT_blind, zT_at⟩ rfl rfl hl.1 rfl (lv_room (Nat.le_of_ble_eq_true rfl)) dX3_endPermit_44 ⟨Nat.le_of_ble_eq_true rfl, Nat.le_of_ble_eq_true rfl⟩) ?_
      refine lv_iconst (v := (-1)) hx hb dX3_endPermit_47 (by decide) ?_
      refine lv_ixor hx hb dX3_endPermit_48 ?_
      refine lv_iand hx hb dX3_endPermit_49 ?_
      refine va_put (D := D) (ci := 0) (v := .int ((V.1 0 k_3 5) &&& (u_8 ^^^ (-1)))) (ty := .int) (C := RX0) (T := TX0) (N := 6) hx hb hts hinX0 tyX0 tyX0_ok nmX0 hown hK hP hD hS _ (xpos_cr hk_3) rfl 5 (by decide) (hts _ (List.mem_of_getElem? (i := 5) rfl)) (fun _ h9 => h9) rfl (by decide +kernel) rfl rfl (Nat.le_of_ble_eq_true rfl) dX3_endPermit_50 (fun H locs hP hD hS => ?_)
      rw [xset_cr hk_3 _] at hP hD
      obtain ⟨V_10, eV_11, h⟩ := ob_some h
      rw [Option.some.inj eV_11] at hP hD
      refine lv_aload_n hx hb dX3_endPermit_53 rfl (lv_at hl 1 rfl) ?_
      obtain ⟨u_12, hg_13, h⟩ := ob_some h
      refine zcWi (va_runV (As := []) (rest := []) ⟨hx, hb, hml, hown, hts⟩ (c_X3_takeBackUnfit l D cy a n V_10 _ hg_13) (cwV 0 hts gX3_endPermit_X3_takeBackUnfit rfl rfl rfl hd_X3_takeBackUnfit ⟨Nat.le_of_ble_eq_true rfl, Nat.le_of_ble_eq_true rfl⟩) ⟨(zJ_blind xI_blind), va_recv hK hP (ci := 3) (q0 := 0) rfl rfl, (zJ_at (xI_at hP hK hD))⟩ rfl rfl hl.1 rfl (lv_room (Nat.le_of_ble_eq_true rfl)) dX3_endPermit_54 ⟨Nat.le_of_ble_eq_true rfl, Nat.le_of_ble_eq_true rfl⟩) hS (z_free hD hS hA) (fun H locs hP hD hS => ?_)
      have h9 := Option.some.inj h
      subst h9
      refine vx_ret ?_
      refine W.widen (k := 1) (n := 6) (Nat.le_of_ble_eq_true rfl) (Nat.le_of_ble_eq_true rfl) ?_
      exact W.iret (v := u_12.1) hx hb hr (fun t ht hW => ⟨⟨u_12.1, (), rfl, ⟨rfl, rfl⟩, ⟨by rw [ht]; exact hP, hD⟩⟩, hS.F ht⟩) hS.2.2 dX3_endPermit_57 hlocks
    · replace h := oi_t c_7 h
      have h9 := Option.some.inj h
      subst h9
      exact vx_throw0 hx hb hl0 hown (by decide) (by decide) (hts _ (List.mem_of_getElem? (i := 3) rfl)) (hts _ (List.mem_of_getElem? (i := 4) rfl)) (vx_hat (fun w h9 => hts w (List.mem_cons_of_mem _ (List.mem_append_left _ (List.mem_append_right _ h9)))) (by decide +kernel) (xNB_1 hN.1 _)) (by decide +kernel) hN.2.1 hN.2.2.1 hS (hl.1.trans hml.symm) dX3_endPermit_28 dX3_endPermit_31 dX3_endPermit_32 dX3_endPermit_35 (fun z hz => (hN.2.2.2 z hz).elim) (Nat.le_of_ble_eq_true rfl) (Nat.le_of_ble_eq_true rfl) (Nat.le_of_ble_eq_true rfl) (Nat.le_of_ble_eq_true rfl) hlocks (fun t hvm hz hk => ⟨(), trivial, ⟨rfl, (show (1 : Nat) ≠ 0 by decide), zP_kept hP hk, hD⟩, zF_kept hS hz hk⟩) hS.2.2 (Nat.le_of_ble_eq_true rfl) (Nat.le_of_ble_eq_true rfl)
def f_X3_setWind (n : Nat → Nat) (V : XV) (p1 : Int32) : Option (Nat × Int32 × XV) := ob (f_X3_isFrom 0 p1 40) (fun u_1 => oi (u_1 = 0) (some (1, 0, V)) (ob (some (xsc V 6 p1)) (fun V_4 => ob (f_X3_takeBackUnfit n V_4 ) (fun u_6 => some (0, u_6.1, u_6.2)))))
theorem hd_X3_setWind : yX3_setWind.cls = RX3 ∧ yX3_setWind.cls ≠ "java/lang/invoke/MethodHandle" ∧ yX3_setWind.cls ≠ "java/lang/invoke/VarHandle" ∧ (parseMethodDescriptor yX3_setWind.desc).map (fun d => d.parameters.length) = some 1 := by decide +kernel
set_option maxHeartbeats 4000000 in
set_option maxRecDepth 100000 in
theorem c_X3_setWind (l : Launch) (hl0 : l.stackTraces = false) (D : va_G) (cy : Nat → ClassId) (a : XA) (n : Nat → Nat) (V : XV) (sz : Nat) (p1 : Int32) {res : Nat × Int32 × XV} (h : f_X3_setWind n V p1 = some res) : vx_Met l yX3_setWind wsX3_setWind ({ frames := 7, cells := 1, slots := 6, locals := 134 } : Room) (va_Pc [.ref (a.1 0), .int p1] (zX sz (va_A (xW cy a n V) sz) (xI D cy a n V))) (va_Qi (fun r (_ : Unit) => res.1 = 0 ∧ r = res.2.1) (fun _ t => va_P D xcl (xW cy a n res.2.2) t.heap ∧ va_D (va_A (xW cy a n V) sz) (xW cy a n res.2.2)) (va_A (xW cy a n V) sz)) (vx_X (fun (_ : Unit) => True) (fun E _ t => E = xnm res.1 ∧ res.1 ≠ 0 ∧ va_P D xcl (xW cy a n res.2.2) t.heap ∧ va_D (va_A (xW cy a n V) sz) (xW cy a n res.2.2)) (va_A (xW cy a n V) sz)) 1 6 (va_A (xW cy a n V) sz) := by
  refine vx_ofW (cc := cX3_setWind) (maxL := 2) (ret := (some .int)) (by decide) rfl ?_
  intro p e s m args below meth c s₁ B hml hex hv
  obtain ⟨rfl, hsz, hZ, hP, hK, hD0⟩ := hv
  have hx := B.exec
  have hb := B.bytes
  have hr := B.returns
  have hts := atoms_spec (ws := wsX3_setWind) B.pre
  have hown : s.vm.findClass RX3 = some m.cls := findClass_of_methodNamed B.named
  have hlocks := B.notSynchronized
  subst hsz
  have hD := hD0.self (sz := s.heap.size)
  have hN : zN (va_A (xW cy a n V) s.heap.size) c s := ⟨hZ.1, hZ.2.1, hZ.2.2, hex⟩
  generalize hAe : va_A (xW cy a n V) s.heap.size = A at hD hN ⊢
  have hA : ∀ q : Nat, s.heap.size ≤ q → A q := fun q h => by rw [← hAe]; exact Or.inr h
  have hS : va_S A s.heap s.heap [] := va_S.rf
  have hl := lv_entry ([.ref (a.1 0), .int p1]) (n := 2) (Nat.le_of_ble_eq_true rfl)
  rw [lg_entry_eq]
  generalize (lg_sl ([.ref (a.1 0), .int p1]) ++ List.replicate (2 - (lg_sl ([.ref (a.1 0), .int p1])).length) Slot.unset).toArray = ls at hl ⊢
  have hl : lv_has ls 2 [(0, .ref (a.1 0)), (1, .int p1)] := hl
  have hinX3 : ∀ w ∈ wsX30, w ∈ wsX3_setWind := (fun _ h => (List.mem_cons_of_mem _ (List.mem_append_left _ (List.mem_append_left _ (List.mem_append_left _ (List.mem_append_left _ (List.mem_append_right _ h)))))))
  revert hP hS
  intro hP hS
  refine lv_iconst (v := 0) hx hb dX3_setWind_0 (by decide) ?_
  refine lv_iload_n hx hb dX3_setWind_1 rfl (lv_at hl 1 rfl) ?_
  refine lv_bipush (v := 40) hx hb dX3_setWind_2 (by decide) ?_
  obtain ⟨u_1, hg_2, h⟩ := ob_some h
  refine zcSi (W.runS (As := [.int 0, .int p1, .int 40]) (rest := []) ⟨hx, hb, hml, hown, hts⟩ (c_X3_isFrom l 0 p1 40 hg_2) (va_cwS 3 hts gX3_setWind_X3_isFrom rfl rfl rfl hd_X3_isFrom ⟨Nat.le_of_ble_eq_true rfl, Nat.le_of_ble_eq_true rfl⟩) ⟨zT_blind, zT_at⟩ rfl rfl hl.1 rfl (lv_room (Nat.le_of_ble_eq_true rfl)) dX3_setWind_4 ⟨Nat.le_of_ble_eq_true rfl, Nat.le_of_ble_eq_true rfl⟩) ?_
  refine lv_if_ne (tgt := 18) hx hb dX3_setWind_7 (by decide) (fun c_3 => ?_) (fun c_3 => ?_)
  · replace h := oi_f c_3 h
    refine lv_aload_n hx hb dX3_setWind_18 rfl (lv_at hl 0 rfl) ?_
    refine lv_iload_n hx hb dX3_setWind_19 rfl (lv_at hl 1 rfl) ?_
    refine va_put (D := D) (ci := 3) (v := .int p1) (ty := .int) (C := RX3) (T := TX3) (N := 10) hx hb hts hinX3 tyX3 tyX3_ok nmX3 hown hK hP hD hS 0 rfl rfl 6 (by decide) (hts _ (List.mem_of_getElem? (i := 3) rfl)) (fun _ h9 => h9) rfl (by decide +kernel) rfl rfl (Nat.le_of_ble_eq_true rfl) dX3_setWind_20 (fun H locs hP hD hS => ?_)
    replace hP : va_P D xcl (xW cy a n (xsc V 6 p1)) H := hP
    replace hD : va_D A (xW cy a n (xsc V 6 p1)) := hD
    obtain ⟨V_4, eV_5, h⟩ := ob_some h
    rw [Option.some.inj eV_5] at hP hD
    refine lv_aload_n hx hb dX3_setWind_23 rfl (lv_at hl 0 rfl) ?_
    obtain ⟨u_6, hg_7, h⟩ := ob_some h
    refine zcWi (va_runV (As := []) (rest := []) ⟨hx, hb, hml, hown, hts⟩ (c_X3_takeBackUnfit l D cy a n V_4 _ hg_7) (cwV 0 hts gX3_setWind_X3_takeBackUnfit rfl rfl rfl hd_X3_takeBackUnfit ⟨Nat.le_of_ble_eq_true rfl, Nat.le_of_ble_eq_true rfl⟩) ⟨(zJ_blind xI_blind), va_recv hK hP (ci := 3) (q0 := 0) rfl rfl, (zJ_at (xI_at hP hK hD))⟩ rfl rfl hl.1 rfl (lv_room (Nat.le_of_ble_eq_true rfl)) dX3_setWind_24 ⟨Nat.le_of_ble_eq_true rfl, Nat.le_of_ble_eq_true rfl⟩) hS (z_free hD hS hA) (fun H locs hP hD hS => ?_)
    have h9 := Option.some.inj h
    subst h9
    refine vx_ret ?_
    refine W.widen (k := 1) (n := 6) (Nat.le_of_ble_eq_true rfl) (Nat.le_of_ble_eq_true rfl) ?_
    exact W.iret (v := u_6.1) hx hb hr (fun t ht hW => ⟨⟨u_6.1, (), rfl, ⟨rfl, rfl⟩, ⟨by rw [ht]; exact hP, hD⟩⟩, hS.F ht⟩) hS.2.2 dX3_setWind_27 hlocks
  · replace h := oi_t c_3 h
    have h9 := Option.some.inj h
    subst h9
    exact vx_throw0 hx hb hl0 hown (by decide) (by decide) (hts _ (List.mem_of_getElem? (i := 1) rfl)) (hts _ (List.mem_of_getElem? (i := 2) rfl)) (vx_hat (fun w h9 => hts w (List.mem_cons_of_mem _ (List.mem_append_left _ (List.mem_append_right _ h9)))) (by decide +kernel) (xNB_1 hN.1 _)) (by decide +kernel) hN.2.1 hN.2.2.1 hS (hl.1.trans hml.symm) dX3_setWind_10 dX3_setWind_13 dX3_setWind_14 dX3_setWind_17 (fun z hz => (hN.2.2.2 z hz).elim) (Nat.le_of_ble_eq_true rfl) (Nat.le_of_ble_eq_true rfl) (Nat.le_of_ble_eq_true rfl) (Nat.le_of_ble_eq_true rfl) hlocks (fun t hvm hz hk => ⟨(), trivial, ⟨rfl, (show (1 : Nat) ≠ 0 by decide), zP_kept hP hk, hD⟩, zF_kept hS hz hk⟩) hS.2.2 (Nat.le_of_ble_eq_true rfl) (Nat.le_of_ble_eq_true rfl)
def f_X3_plan (n : Nat → Nat) (V : XV) (p1 : Int32) (p2 : Int32) : Option (Nat × Int32 × XV) := ob (f_X3_liftNumbered n V p1) (fun u_1 => oc (n 1) u_1 (some (3, 0, V)) (fun k_3 => ob (f_X3_craneNumbered n V p2) (fun u_5 => oc (n 0) u_5 (some (3, 0, V)) (fun k_7 => oi ((V.1 1 k_3 8) = 119) (oi ((V.1 1 k_3 6) = (-1)) (ob (f_X3_firstFit n V k_3 p2 (V.2.2.1 7)) (fun u_11 => oi (u_11 = (-1)) (some (4, 0, V)) (ob (f_X1_put n V k_3 p2 u_11) (fun u_14 => some (0, u_11, u_14))))) (some (2, 0, V))) (some (2, 0, V))))))
theorem hd_X3_plan : yX3_plan.cls = RX3 ∧ yX3_plan.cls ≠ "java/lang/invoke/MethodHandle" ∧ yX3_plan.cls ≠ "java/lang/invoke/VarHandle" ∧ (parseMethodDescriptor yX3_plan.desc).map (fun d => d.parameters.length) = some 2 := by decide +kernel
set_option maxHeartbeats 4000000 in
set_option maxRecDepth 100000 in
theorem c_X3_plan (l : Launch) (hl0 : l.stackTraces = false) (D : va_G) (cy : Nat → ClassId) (a : XA) (n : Nat → Nat) (V : XV) (sz : Nat) (p1 : Int32) (p2 : Int32) {res : Nat × Int32 × XV} (h : f_X3_plan n V p1 p2 = some res) : vx_Met l yX3_plan wsX3_plan ({ frames := 7, cells := 1, slots := 6, locals := 133 } : Room) (va_Pc [.ref (a.1 0), .int p1, .int p2] (zX sz (va_A (xW cy a n V) sz) (xI D cy a n V))) (va_Qi (fun r (_ : Unit) => res.1 = 0 ∧ r = res.2.1) (fun _ t => va_P D xcl (xW cy a n res.2.2) t.heap ∧ va_D (va_A (xW cy a n V) sz) (xW cy a n res.2.2)) (va_A (xW cy a n V) sz)) (vx_X (fun (_ : Unit) => True) (fun E _ t => E = xnm res.1 ∧ res.1 ≠ 0 ∧ va_P D xcl (xW cy a n res.2.2) t.heap ∧ va_D (va_A (xW cy a n V) sz) (xW cy a n res.2.2)) (va_A (xW cy a n V) sz)) 1 6 (va_A (xW cy a n V) sz) := by
  refine vx_ofW (cc := cX3_plan) (maxL := 5) (ret := (some .int)) (by decide) rfl ?_
  intro p e s m args below meth c s₁ B hml hex hv
  obtain ⟨rfl, hsz, hZ, hP, hK, hD0⟩ := hv
  have hx := B.exec
  have hb := B.bytes
  have hr := B.returns
  have hts := atoms_spec (ws := wsX3_plan) B.pre
  have hown : s.vm.findClass RX3 = some m.cls := findClass_of_methodNamed B.named
  have hlocks := B.notSynchronized
  subst hsz
  have hD := hD0.self (sz := s.heap.size)
  have hN : zN (va_A (xW cy a n V) s.heap.size) c s := ⟨hZ.1, hZ.2.1, hZ.2.2, hex⟩
  generalize hAe : va_A (xW cy a n V) s.heap.size = A at hD hN ⊢
  have hA : ∀ q : Nat, s.heap.size ≤ q → A q := fun q h => by rw [← hAe]; exact Or.inr h
  have hS : va_S A s.heap s.heap [] := va_S.rf
  have hl := lv_entry ([.ref (a.1 0), .int p1, .int p2]) (n := 5) (Nat.le_of_ble_eq_true rfl)
  rw [lg_entry_eq]
  generalize (lg_sl ([.ref (a.1 0), .int p1, .int p2]) ++ List.replicate (5 - (lg_sl ([.ref (a.1 0), .int p1, .int p2])).length) Slot.unset).toArray = ls at hl ⊢
  have hl : lv_has ls 5 [(0, .ref (a.1 0)), (1, .int p1), (2, .int p2)] := hl
  have hinX1 : ∀ w ∈ wsX10, w ∈ wsX3_plan := (fun _ h => (List.mem_cons_of_mem _ (List.mem_append_left _ (List.mem_append_left _ (List.mem_append_left _ (List.mem_append_left _ (List.mem_append_left _ (List.mem_append_left _ (List.mem_append_right _ h)))))))))
  have hinX3 : ∀ w ∈ wsX30, w ∈ wsX3_plan := (fun _ h => (List.mem_cons_of_mem _ (List.mem_append_left _ (List.mem_append_left _ (List.mem_append_left _ (List.mem_append_left _ (List.mem_append_left _ (List.mem_append_right _ h))))))))
  revert hP hS
  intro hP hS
  refine lv_aload_n hx hb dX3_plan_0 rfl (lv_at hl 0 rfl) ?_
  refine lv_iload_n hx hb dX3_plan_1 rfl (lv_at hl 1 rfl) ?_
  obtain ⟨u_1, hg_2, h⟩ := ob_some h
  rcases oc_some h with ⟨o_4, h⟩ | ⟨k_3, hk_3, o_4, h⟩
  · refine zcSqn (W.runV (As := [.int p1]) (rest := []) ⟨hx, hb, hml, hown, hts⟩ (c_X3_liftNumbered l D cy a n V p1 hg_2) (cwV 1 hts gX3_plan_X3_liftNumbered rfl rfl rfl hd_X3_liftNumbered ⟨Nat.le_of_ble_eq_true rfl, Nat.le_of_ble_eq_true rfl⟩) ⟨xI_blind, va_recv hK hP (ci := 3) (q0 := 0) rfl rfl, (xI_at hP hK hD)⟩ rfl rfl hl.1 rfl (lv_room (Nat.le_of_ble_eq_true rfl)) dX3_plan_2 ⟨Nat.le_of_ble_eq_true rfl, Nat.le_of_ble_eq_true rfl⟩) o_4 ?_
    refine lv_astore_nN (lv' := [(3, .null), (0, .ref (a.1 0)), (1, .int p1), (2, .int p2)]) hx hb dX3_plan_5 rfl hl (by decide) rfl (fun ls hl => ?_)
    refine lv_aload_nN hx hb dX3_plan_6 rfl (lv_at hl 0 rfl) ?_
    refine lv_ifnullN (tgt := 18) hx hb dX3_plan_7 (by decide) ?_
    have h9 := Option.some.inj h
    subst h9
    exact vx_throw0 hx hb hl0 hown (by decide) (by decide) (hts _ (List.mem_of_getElem? (i := 1) rfl)) (hts _ (List.mem_of_getElem? (i := 2) rfl)) (vx_hat (fun w h9 => hts w (List.mem_cons_of_mem _ (List.mem_append_left _ (List.mem_append_left _ (List.mem_append_left _ (List.mem_append_right _ h9)))))) (by decide +kernel) (xNB_3 hN.1 _)) (by decide +kernel) hN.2.1 hN.2.2.1 hS (hl.1.trans hml.symm) dX3_plan_18 dX3_plan_21 dX3_plan_22 dX3_plan_25 (fun z hz => (hN.2.2.2 z hz).elim) (Nat.le_of_ble_eq_true rfl) (Nat.le_of_ble_eq_true rfl) (Nat.le_of_ble_eq_true rfl) (Nat.le_of_ble_eq_true rfl) hlocks (fun t hvm hz hk => ⟨(), trivial, ⟨rfl, (show (3 : Nat) ≠ 0 by decide), zP_kept hP hk, hD⟩, zF_kept hS hz hk⟩) hS.2.2 (Nat.le_of_ble_eq_true rfl) (Nat.le_of_ble_eq_true rfl)
  · refine zcSqs (W.runV (As := [.int p1]) (rest := []) ⟨hx, hb, hml, hown, hts⟩ (c_X3_liftNumbered l D cy a n V p1 hg_2) (cwV 1 hts gX3_plan_X3_liftNumbered rfl rfl rfl hd_X3_liftNumbered ⟨Nat.le_of_ble_eq_true rfl, Nat.le_of_ble_eq_true rfl⟩) ⟨xI_blind, va_recv hK hP (ci := 3) (q0 := 0) rfl rfl, (xI_at hP hK hD)⟩ rfl rfl hl.1 rfl (lv_room (Nat.le_of_ble_eq_true rfl)) dX3_plan_2 ⟨Nat.le_of_ble_eq_true rfl, Nat.le_of_ble_eq_true rfl⟩) o_4 ?_
    refine lv_astore_n (lv' := [(3, .ref (a.2 1 k_3)), (0, .ref (a.1 0)), (1, .int p1), (2, .int p2)]) hx hb dX3_plan_5 rfl hl (by decide) rfl (fun ls hl => ?_)
    refine lv_aload_n hx hb dX3_plan_6 rfl (lv_at hl 0 rfl) ?_
    refine lv_ifnull hx hb dX3_plan_7 ?_
    refine lv_aload_n hx hb dX3_plan_10 rfl (lv_at hl 1 rfl) ?_
    refine lv_iload_n hx hb dX3_plan_11 rfl (lv_at hl 3 rfl) ?_
    obtain ⟨u_5, hg_6, h⟩ := ob_some h
    rcases oc_some h with ⟨o_8, h⟩ | ⟨k_7, hk_7, o_8, h⟩
    · refine zcSqn (W.runV (As := [.int p2]) (rest := []) ⟨hx, hb, hml, hown, hts⟩ (c_X3_craneNumbered l D cy a n V p2 hg_6) (cwV 1 hts gX3_plan_X3_craneNumbered rfl rfl rfl hd_X3_craneNumbered ⟨Nat.le_of_ble_eq_true rfl, Nat.le_of_ble_eq_true rfl⟩) ⟨xI_blind, va_recv hK hP (ci := 3) (q0 := 0) rfl rfl, (xI_at hP hK hD)⟩ rfl rfl hl.1 rfl (lv_room (Nat.le_of_ble_eq_true rfl)) dX3_plan_12 ⟨Nat.le_of_ble_eq_true rfl, Nat.le_of_ble_eq_true rfl⟩) o_8 ?_
      refine lv_ifnonnullN hx hb dX3_plan_15 ?_
      have h9 := Option.some.inj h
      subst h9
      exact vx_throw0 hx hb hl0 hown (by decide) (by decide) (hts _ (List.mem_of_getElem? (i := 1) rfl)) (hts _ (List.mem_of_getElem? (i := 2) rfl)) (vx_hat (fun w h9 => hts w (List.mem_cons_of_mem _ (List.mem_append_left _ (List.mem_append_left _ (List.mem_append_left _ (List.mem_append_right _ h9)))))) (by decide +kernel) (xNB_3 hN.1 _)) (by decide +kernel) hN.2.1 hN.2.2.1 hS (hl.1.trans hml.symm) dX3_plan_18 dX3_plan_21 dX3_plan_22 dX3_plan_25 (fun z hz => (hN.2.2.2 z hz).elim) (Nat.le_of_ble_eq_true rfl) (Nat.le_of_ble_eq_true rfl) (Nat.le_of_ble_eq_true rfl) (Nat.le_of_ble_eq_true rfl) hlocks (fun t hvm hz hk => ⟨(), trivial, ⟨rfl, (show (3 : Nat) ≠ 0 by decide), zP_kept hP hk, hD⟩, zF_kept hS hz hk⟩) hS.2.2 (Nat.le_of_ble_eq_true rfl) (Nat.le_of_ble_eq_true rfl)
    · refine zcSqs (W.runV (As := [.int p2]) (rest := []) ⟨hx, hb, hml, hown, hts⟩ (c_X3_craneNumbered l D cy a n V p2 hg_6) (cwV 1 hts gX3_plan_X3_craneNumbered rfl rfl rfl hd_X3_craneNumbered ⟨Nat.le_of_ble_eq_true rfl, Nat.le_of_ble_eq_true rfl⟩) ⟨xI_blind, va_recv hK hP (ci := 3) (q0 := 0) rfl rfl, (xI_at hP hK hD)⟩ rfl rfl hl.1 rfl (lv_room (Nat.le_of_ble_eq_true rfl)) dX3_plan_12 ⟨Nat.le_of_ble_eq_true rfl, Nat.le_of_ble_eq_true rfl⟩) o_8 ?_
      refine lv_ifnonnull (tgt := 26) hx hb dX3_plan_15 (by decide) ?_
      refine lv_aload_n hx hb dX3_plan_26 rfl (lv_at hl 0 rfl) ?_
      refine va_get (D := D) (ci := 1) (v := .int (V.1 1 k_3 8)) (C := RX1) (T := TX1) (N := 11) hx hb hts hinX1 hown hK hP _ (xpos_li hk_3) rfl 8 (by decide) (hts _ (List.mem_of_getElem? (i := 7) rfl)) (fun _ h9 => h9) rfl dX3_plan_27 ?_
      refine lv_bipush (v := 119) hx hb dX3_plan_30 (by decide) ?_
      refine lv_icmp_ne (tgt := 43) hx hb dX3_plan_32 (by decide) (fun c_9 => ?_) (fun c_9 => ?_)
      · replace h := oi_f c_9 h
        have h9 := Option.some.inj h
        subst h9
        exact vx_throw0 hx hb hl0 hown (by decide) (by decide) (hts _ (List.mem_of_getElem? (i := 3) rfl)) (hts _ (List.mem_of_getElem? (i := 4) rfl)) (vx_hat (fun w h9 => hts w (List.mem_cons_of_mem _ (List.mem_append_left _ (List.mem_append_left _ (List.mem_append_right _ h9))))) (by decide +kernel) (xNB_2 hN.1 _)) (by decide +kernel) hN.2.1 hN.2.2.1 hS (hl.1.trans hml.symm) dX3_plan_43 dX3_plan_46 dX3_plan_47 dX3_plan_50 (fun z hz => (hN.2.2.2 z hz).elim) (Nat.le_of_ble_eq_true rfl) (Nat.le_of_ble_eq_true rfl) (Nat.le_of_ble_eq_true rfl) (Nat.le_of_ble_eq_true rfl) hlocks (fun t hvm hz hk => ⟨(), trivial, ⟨rfl, (show (2 : Nat) ≠ 0 by decide), zP_kept hP hk, hD⟩, zF_kept hS hz hk⟩) hS.2.2 (Nat.le_of_ble_eq_true rfl) (Nat.le_of_ble_eq_true rfl)
      · replace h := oi_t c_9 h
        refine lv_aload_n hx hb dX3_plan_35 rfl (lv_at hl 0 rfl) ?_
        refine va_get (D := D) (ci := 1) (v := .int (V.1 1 k_3 6)) (C := RX1) (T := TX1) (N := 11) hx hb hts hinX1 hown hK hP _ (xpos_li hk_3) rfl 6 (by decide) (hts _ (List.mem_of_getElem? (i := 8) rfl)) (fun _ h9 => h9) rfl dX3_plan_36 ?_
        refine lv_iconst (v := (-1)) hx hb dX3_plan_39 (by decide) ?_
        refine lv_icmp_eq (tgt := 51) hx hb dX3_plan_40 (by decide) (fun c_10 => ?_) (fun c_10 => ?_)
        · replace h := oi_t c_10 h
          refine lv_aload_n hx hb dX3_plan_51 rfl (lv_at hl 1 rfl) ?_
          refine lv_aload_n hx hb dX3_plan_52 rfl (lv_at hl 0 rfl) ?_
          refine lv_iload_n hx hb dX3_plan_53 rfl (lv_at hl 3 rfl) ?_
          refine lv_aload_n hx hb dX3_plan_54 rfl (lv_at hl 1 rfl) ?_
          refine va_get (D := D) (ci := 3) (v := .int (V.2.2.1 7)) (C := RX3) (T := TX3) (N := 10) hx hb hts hinX3 hown hK hP 0 rfl rfl 7 (by decide) (hts _ (List.mem_of_getElem? (i := 9) rfl)) (fun _ h9 => h9) rfl dX3_plan_55 ?_
          obtain ⟨u_11, hg_12, h⟩ := ob_some h
          refine zcSi (W.runV (As := [.ref (a.2 1 k_3), .int p2, .int (V.2.2.1 7)]) (rest := []) ⟨hx, hb, hml, hown, hts⟩ (c_X3_firstFit l D cy a n V k_3 p2 (V.2.2.1 7) hk_3 hg_12) (cwV 3 hts gX3_plan_X3_firstFit rfl rfl rfl hd_X3_firstFit ⟨Nat.le_of_ble_eq_true rfl, Nat.le_of_ble_eq_true rfl⟩) ⟨xI_blind, va_recv hK hP (ci := 3) (q0 := 0) rfl rfl, (xI_at hP hK hD)⟩ rfl rfl hl.1 rfl (lv_room (Nat.le_of_ble_eq_true rfl)) dX3_plan_58 ⟨Nat.le_of_ble_eq_true rfl, Nat.le_of_ble_eq_true rfl⟩) ?_
          refine lv_istore (lv' := [(4, .int u_11), (3, .ref (a.2 1 k_3)), (0, .ref (a.1 0)), (1, .int p1), (2, .int p2)]) hx hb dX3_plan_61 hl (by decide) rfl (fun ls hl => ?_)
          refine lv_iload hx hb dX3_plan_63 (lv_at hl 0 rfl) ?_
          refine lv_iconst (v := (-1)) hx hb dX3_plan_65 (by decide) ?_
          refine lv_icmp_ne (tgt := 77) hx hb dX3_plan_66 (by decide) (fun c_13 => ?_) (fun c_13 => ?_)
          · replace h := oi_f c_13 h
            refine lv_aload_n hx hb dX3_plan_77 rfl (lv_at hl 1 rfl) ?_
            refine lv_iload_n hx hb dX3_plan_78 rfl (lv_at hl 4 rfl) ?_
            refine lv_iload hx hb dX3_plan_79 (lv_at hl 0 rfl) ?_
            obtain ⟨u_14, hg_15, h⟩ := ob_some h
            refine zcWv (va_runV (As := [.int p2, .int u_11]) (rest := []) ⟨hx, hb, hml, hown, hts⟩ (c_X1_put l D cy a n V _ k_3 p2 u_11 hk_3 hg_15) (cwV 2 hts gX3_plan_X1_put rfl rfl rfl hd_X1_put ⟨Nat.le_of_ble_eq_true rfl, Nat.le_of_ble_eq_true rfl⟩) ⟨(zJ_blind xI_blind), va_recv hK hP (ci := 1) rfl (xpos_li hk_3), (zJ_at (xI_at hP hK hD))⟩ rfl rfl hl.1 rfl (lv_room (Nat.le_of_ble_eq_true rfl)) dX3_plan_81 ⟨Nat.le_of_ble_eq_true rfl, Nat.le_of_ble_eq_true rfl⟩) hS (z_free hD hS hA) (fun H locs hP hD hS => ?_)
            refine lv_iload hx hb dX3_plan_84 (lv_at hl 0 rfl) ?_
            have h9 := Option.some.inj h
            subst h9
            refine vx_ret ?_
            refine W.widen (k := 1) (n := 6) (Nat.le_of_ble_eq_true rfl) (Nat.le_of_ble_eq_true rfl) ?_
            exact W.iret (v := u_11) hx hb hr (fun t ht hW => ⟨⟨u_11, (), rfl, ⟨rfl, rfl⟩, ⟨by rw [ht]; exact hP, hD⟩⟩, hS.F ht⟩) hS.2.2 dX3_plan_86 hlocks
          · replace h := oi_t c_13 h
            have h9 := Option.some.inj h
            subst h9
            exact vx_throw0 hx hb hl0 hown (by decide) (by decide) (hts _ (List.mem_of_getElem? (i := 5) rfl)) (hts _ (List.mem_of_getElem? (i := 6) rfl)) (vx_hat (fun w h9 => hts w (List.mem_cons_of_mem _ (List.mem_append_left _ (List.mem_append_right _ h9)))) (by decide +kernel) (xNB_4 hN.1 _)) (by decide +kernel) hN.2.1 hN.2.2.1 hS (hl.1.trans hml.symm) dX3_plan_69 dX3_plan_72 dX3_plan_73 dX3_plan_76 (fun z hz => (hN.2.2.2 z hz).elim) (Nat.le_of_ble_eq_true rfl) (Nat.le_of_ble_eq_true rfl) (Nat.le_of_ble_eq_true rfl) (Nat.le_of_ble_eq_true rfl) hlocks (fun t hvm hz hk => ⟨(), trivial, ⟨rfl, (show (4 : Nat) ≠ 0 by decide), zP_kept hP hk, hD⟩, zF_kept hS hz hk⟩) hS.2.2 (Nat.le_of_ble_eq_true rfl) (Nat.le_of_ble_eq_true rfl)
        · replace h := oi_f c_10 h
          have h9 := Option.some.inj h
          subst h9
          exact vx_throw0 hx hb hl0 hown (by decide) (by decide) (hts _ (List.mem_of_getElem? (i := 3) rfl)) (hts _ (List.mem_of_getElem? (i := 4) rfl)) (vx_hat (fun w h9 => hts w (List.mem_cons_of_mem _ (List.mem_append_left _ (List.mem_append_left _ (List.mem_append_right _ h9))))) (by decide +kernel) (xNB_2 hN.1 _)) (by decide +kernel) hN.2.1 hN.2.2.1 hS (hl.1.trans hml.symm) dX3_plan_43 dX3_plan_46 dX3_plan_47 dX3_plan_50 (fun z hz => (hN.2.2.2 z hz).elim) (Nat.le_of_ble_eq_true rfl) (Nat.le_of_ble_eq_true rfl) (Nat.le_of_ble_eq_true rfl) (Nat.le_of_ble_eq_true rfl) hlocks (fun t hvm hz hk => ⟨(), trivial, ⟨rfl, (show (2 : Nat) ≠ 0 by decide), zP_kept hP hk, hD⟩, zF_kept hS hz hk⟩) hS.2.2 (Nat.le_of_ble_eq_true rfl) (Nat.le_of_ble_eq_true rfl)
def f_X3_planAt (n : Nat → Nat) (V : XV) (p1 : Int32) (p2 : Int32) (p3 : Int32) : Option (Nat × Int32 × XV) := ob (f_X3_liftNumbered n V p1) (fun u_1 => oc (n 1) u_1 (some (3, 0, V)) (fun k_3 => ob (f_X3_craneNumbered n V p2) (fun u_5 => oc (n 0) u_5 (some (3, 0, V)) (fun k_7 => oi ((V.1 1 k_3 8) = 119) (oi ((V.1 1 k_3 6) = (-1)) (ob (f_X3_obstacle n V k_3 p2 p3) (fun u_11 => oi (u_11 = 45) (ob (f_X1_put n V k_3 p2 p3) (fun u_14 => ob (f_X1_end n u_14 k_3) (fun u_16 => some (0, u_16, u_14)))) (some (4, 0, V)))) (some (2, 0, V))) (some (2, 0, V))))))
theorem hd_X3_planAt : yX3_planAt.cls = RX3 ∧ yX3_planAt.cls ≠ "java/lang/invoke/MethodHandle" ∧ yX3_planAt.cls ≠ "java/lang/invoke/VarHandle" ∧ (parseMethodDescriptor yX3_planAt.desc).map (fun d => d.parameters.length) = some 3 := by decide +kernel
set_option maxHeartbeats 4000000 in
set_option maxRecDepth 100000 in
theorem c_X3_planAt (l : Launch) (hl0 : l.stackTraces = false) (D : va_G) (cy : Nat → ClassId) (a : XA) (n : Nat → Nat) (V : XV) (sz : Nat) (p1 : Int32) (p2 : Int32) (p3 : Int32) {res : Nat × Int32 × XV} (h : f_X3_planAt n V p1 p2 p3 = some res) : vx_Met l yX3_planAt wsX3_planAt ({ frames := 7, cells := 1, slots := 6, locals := 134 } : Room) (va_Pc [.ref (a.1 0), .int p1, .int p2, .int p3] (zX sz (va_A (xW cy a n V) sz) (xI D cy a n V))) (va_Qi (fun r (_ : Unit) => res.1 = 0 ∧ r = res.2.1) (fun _ t => va_P D xcl (xW cy a n res.2.2) t.heap ∧ va_D (va_A (xW cy a n V) sz) (xW cy a n res.2.2)) (va_A (xW cy a n V) sz)) (vx_X (fun (_ : Unit) => True) (fun E _ t => E = xnm res.1 ∧ res.1 ≠ 0 ∧ va_P D xcl (xW cy a n res.2.2) t.heap ∧ va_D (va_A (xW cy a n V) sz) (xW cy a n res.2.2)) (va_A (xW cy a n V) sz)) 1 6 (va_A (xW cy a n V) sz) := by
  refine vx_ofW (cc := cX3_planAt) (maxL := 5) (ret := (some .int)) (by decide) rfl ?_
  intro p e s m args below meth c s₁ B hml hex hv
  obtain ⟨rfl, hsz, hZ, hP, hK, hD0⟩ := hv
  have hx := B.exec
  have hb := B.bytes
  have hr := B.returns
  have hts := atoms_spec (ws := wsX3_planAt) B.pre
  have hown : s.vm.findClass RX3 = some m.cls := findClass_of_methodNamed B.named
  have hlocks := B.notSynchronized
  subst hsz
  have hD := hD0.self (sz := s.heap.size)
  have hN : zN (va_A (xW cy a n V) s.heap.size) c s := ⟨hZ.1, hZ.2.1, hZ.2.2, hex⟩
  generalize hAe : va_A (xW cy a n V) s.heap.size = A at hD hN ⊢
  have hA : ∀ q : Nat, s.heap.size ≤ q → A q := fun q h => by rw [← hAe]; exact Or.inr h
  have hS : va_S A s.heap s.heap [] := va_S.rf
  have hl := lv_entry ([.ref (a.1 0), .int p1, .int p2, .int p3]) (n := 5) (Nat.le_of_ble_eq_true rfl)
  rw [lg_entry_eq]
  generalize (lg_sl ([.ref (a.1 0), .int p1, .int p2, .int p3]) ++ List.replicate (5 - (lg_sl ([.ref (a.1 0), .int p1, .int p2, .int p3])).length) Slot.unset).toArray = ls at hl ⊢
  have hl : lv_has ls 5 [(0, .ref (a.1 0)), (1, .int p1), (2, .int p2), (3, .int p3)] := hl
  have hinX1 : ∀ w ∈ wsX10, w ∈ wsX3_planAt := (fun _ h => (List.mem_cons_of_mem _ (List.mem_append_left _ (List.mem_append_left _ (List.mem_append_left _ (List.mem_append_left _ (List.mem_append_left _ (List.mem_append_left _ (List.mem_append_right _ h)))))))))
  revert hP hS
  intro hP hS
  refine lv_aload_n hx hb dX3_planAt_0 rfl (lv_at hl 0 rfl) ?_
  refine lv_iload_n hx hb dX3_planAt_1 rfl (lv_at hl 1 rfl) ?_
  obtain ⟨u_1, hg_2, h⟩ := ob_some h
  rcases oc_some h with ⟨o_4, h⟩ | ⟨k_3, hk_3, o_4, h⟩
  · refine zcSqn (W.runV (As := [.int p1]) (rest := []) ⟨hx, hb, hml, hown, hts⟩ (c_X3_liftNumbered l D cy a n V p1 hg_2) (cwV 1 hts gX3_planAt_X3_liftNumbered rfl rfl rfl hd_X3_liftNumbered ⟨Nat.le_of_ble_eq_true rfl, Nat.le_of_ble_eq_true rfl⟩) ⟨xI_blind, va_recv hK hP (ci := 3) (q0 := 0) rfl rfl, (xI_at hP hK hD)⟩ rfl rfl hl.1 rfl (lv_room (Nat.le_of_ble_eq_true rfl)) dX3_planAt_2 ⟨Nat.le_of_ble_eq_true rfl, Nat.le_of_ble_eq_true rfl⟩) o_4 ?_
    refine lv_astoreN (lv' := [(4, .null), (0, .ref (a.1 0)), (1, .int p1), (2, .int p2), (3, .int p3)]) hx hb dX3_planAt_5 hl (by decide) rfl (fun ls hl => ?_)
    refine lv_aloadN hx hb dX3_planAt_7 (lv_at hl 0 rfl) ?_
    refine lv_ifnullN (tgt := 20) hx hb dX3_planAt_9 (by decide) ?_
    have h9 := Option.some.inj h
    subst h9
    exact vx_throw0 hx hb hl0 hown (by decide) (by decide) (hts _ (List.mem_of_getElem? (i := 1) rfl)) (hts _ (List.mem_of_getElem? (i := 2) rfl)) (vx_hat (fun w h9 => hts w (List.mem_cons_of_mem _ (List.mem_append_left _ (List.mem_append_left _ (List.mem_append_left _ (List.mem_append_right _ h9)))))) (by decide +kernel) (xNB_3 hN.1 _)) (by decide +kernel) hN.2.1 hN.2.2.1 hS (hl.1.trans hml.symm) dX3_planAt_20 dX3_planAt_23 dX3_planAt_24 dX3_planAt_27 (fun z hz => (hN.2.2.2 z hz).elim) (Nat.le_of_ble_eq_true rfl) (Nat.le_of_ble_eq_true rfl) (Nat.le_of_ble_eq_true rfl) (Nat.le_of_ble_eq_true rfl) hlocks (fun t hvm hz hk => ⟨(), trivial, ⟨rfl, (show (3 : Nat) ≠ 0 by decide), zP_kept hP hk, hD⟩, zF_kept hS hz hk⟩) hS.2.2 (Nat.le_of_ble_eq_true rfl) (Nat.le_of_ble_eq_true rfl)
  · refine zcSqs (W.runV (As := [.int p1]) (rest := []) ⟨hx, hb, hml, hown, hts⟩ (c_X3_liftNumbered l D cy a n V p1 hg_2) (cwV 1 hts gX3_planAt_X3_liftNumbered rfl rfl rfl hd_X3_liftNumbered ⟨Nat.le_of_ble_eq_true rfl, Nat.le_of_ble_eq_true rfl⟩) ⟨xI_blind, va_recv hK hP (ci := 3) (q0 := 0) rfl rfl, (xI_at hP hK hD)⟩ rfl rfl hl.1 rfl (lv_room (Nat.le_of_ble_eq_true rfl)) dX3_planAt_2 ⟨Nat.le_of_ble_eq_true rfl, Nat.le_of_ble_eq_true rfl⟩) o_4 ?_
    refine lv_astore (lv' := [(4, .ref (a.2 1 k_3)), (0, .ref (a.1 0)), (1, .int p1), (2, .int p2), (3, .int p3)]) hx hb dX3_planAt_5 hl (by decide) rfl (fun ls hl => ?_)
    refine lv_aload hx hb dX3_planAt_7 (lv_at hl 0 rfl) ?_
    refine lv_ifnull hx hb dX3_planAt_9 ?_
    refine lv_aload_n hx hb dX3_planAt_12 rfl (lv_at hl 1 rfl) ?_
    refine lv_iload_n hx hb dX3_planAt_13 rfl (lv_at hl 3 rfl) ?_
    obtain ⟨u_5, hg_6, h⟩ := ob_some h
    rcases oc_some h with ⟨o_8, h⟩ | ⟨k_7, hk_7, o_8, h⟩
    · refine zcSqn (W.runV (As := [.int p2]) (rest := []) ⟨hx, hb, hml, hown, hts⟩ (c_X3_craneNumbered l D cy a n V p2 hg_6) (cwV 1 hts gX3_planAt_X3_craneNumbered rfl rfl rfl hd_X3_craneNumbered ⟨Nat.le_of_ble_eq_true rfl, Nat.le_of_ble_eq_true rfl⟩) ⟨xI_blind, va_recv hK hP (ci := 3) (q0 := 0) rfl rfl, (xI_at hP hK hD)⟩ rfl rfl hl.1 rfl (lv_room (Nat.le_of_ble_eq_true rfl)) dX3_planAt_14 ⟨Nat.le_of_ble_eq_true rfl, Nat.le_of_ble_eq_true rfl⟩) o_8 ?_
      refine lv_ifnonnullN hx hb dX3_planAt_17 ?_
      have h9 := Option.some.inj h
      subst h9
      exact vx_throw0 hx hb hl0 hown (by decide) (by decide) (hts _ (List.mem_of_getElem? (i := 1) rfl)) (hts _ (List.mem_of_getElem? (i := 2) rfl)) (vx_hat (fun w h9 => hts w (List.mem_cons_of_mem _ (List.mem_append_left _ (List.mem_append_left _ (List.mem_append_left _ (List.mem_append_right _ h9)))))) (by decide +kernel) (xNB_3 hN.1 _)) (by decide +kernel) hN.2.1 hN.2.2.1 hS (hl.1.trans hml.symm) dX3_planAt_20 dX3_planAt_23 dX3_planAt_24 dX3_planAt_27 (fun z hz => (hN.2.2.2 z hz).elim) (Nat.le_of_ble_eq_true rfl) (Nat.le_of_ble_eq_true rfl) (Nat.le_of_ble_eq_true rfl) (Nat.le_of_ble_eq_true rfl) hlocks (fun t hvm hz hk => ⟨(), trivial, ⟨rfl, (show (3 : Nat) ≠ 0 by decide), zP_kept hP hk, hD⟩, zF_kept hS hz hk⟩) hS.2.2 (Nat.le_of_ble_eq_true rfl) (Nat.le_of_ble_eq_true rfl)
    · refine zcSqs (W.runV (As := [.int p2]) (rest := []) ⟨hx, hb, hml, hown, hts⟩ (c_X3_craneNumbered l D cy a n V p2 hg_6) (cwV 1 hts gX3_planAt_X3_craneNumbered rfl rfl rfl hd_X3_craneNumbered ⟨Nat.le_of_ble_eq_true rfl, Nat.le_of_ble_eq_true rfl⟩) ⟨xI_blind, va_recv hK hP (ci := 3) (q0 := 0) rfl rfl, (xI_at hP hK hD)⟩ rfl rfl hl.1 rfl (lv_room (Nat.le_of_ble_eq_true rfl)) dX3_planAt_14 ⟨Nat.le_of_ble_eq_true rfl, Nat.le_of_ble_eq_true rfl⟩) o_8 ?_
      refine lv_ifnonnull (tgt := 28) hx hb dX3_planAt_17 (by decide) ?_
      refine lv_aload hx hb dX3_planAt_28 (lv_at hl 0 rfl) ?_
      refine va_get (D := D) (ci := 1) (v := .int (V.1 1 k_3 8)) (C := RX1) (T := TX1) (N := 11) hx hb hts hinX1 hown hK hP _ (xpos_li hk_3) rfl 8 (by decide) (hts _ (List.mem_of_getElem? (i := 7) rfl)) (fun _ h9 => h9) rfl dX3_planAt_30 ?_
      refine lv_bipush (v := 119) hx hb dX3_planAt_33 (by decide) ?_
      refine lv_icmp_ne (tgt := 47) hx hb dX3_planAt_35 (by decide) (fun c_9 => ?_) (fun c_9 => ?_)
      · replace h := oi_f c_9 h
        have h9 := Option.some.inj h
        subst h9
        exact vx_throw0 hx hb hl0 hown (by decide) (by decide) (hts _ (List.mem_of_getElem? (i := 3) rfl)) (hts _ (List.mem_of_getElem? (i := 4) rfl)) (vx_hat (fun w h9 => hts w (List.mem_cons_of_mem _ (List.mem_append_left _ (List.mem_append_left _ (List.mem_append_right _ h9))))) (by decide +kernel) (xNB_2 hN.1 _)) (by decide +kernel) hN.2.1 hN.2.2.1 hS (hl.1.trans hml.symm) dX3_planAt_47 dX3_planAt_50 dX3_planAt_51 dX3_planAt_54 (fun z hz => (hN.2.2.2 z hz).elim) (Nat.le_of_ble_eq_true rfl) (Nat.le_of_ble_eq_true rfl) (Nat.le_of_ble_eq_true rfl) (Nat.le_of_ble_eq_true rfl) hlocks (fun t hvm hz hk => ⟨(), trivial, ⟨rfl, (show (2 : Nat) ≠ 0 by decide), zP_kept hP hk, hD⟩, zF_kept hS hz hk⟩) hS.2.2 (Nat.le_of_ble_eq_true rfl) (Nat.le_of_ble_eq_true rfl)
      · replace h := oi_t c_9 h
        refine lv_aload hx hb dX3_planAt_38 (lv_at hl 0 rfl) ?_
        refine va_get (D := D) (ci := 1) (v := .int (V.1 1 k_3 6)) (C := RX1) (T := TX1) (N := 11) hx hb hts hinX1 hown hK hP _ (xpos_li hk_3) rfl 6 (by decide) (hts _ (List.mem_of_getElem? (i := 8) rfl)) (fun _ h9 => h9) rfl dX3_planAt_40 ?_
        refine lv_iconst (v := (-1)) hx hb dX3_planAt_43 (by decide) ?_
        refine lv_icmp_eq (tgt := 55) hx hb dX3_planAt_44 (by decide) (fun c_10 => ?_) (fun c_10 => ?_)
        · replace h := oi_t c_10 h
          refine lv_aload_n hx hb dX3_planAt_55 rfl (lv_at hl 1 rfl) ?_
          refine lv_aload hx hb dX3_planAt_56 (lv_at hl 0 rfl) ?_
          refine lv_iload_n hx hb dX3_planAt_58 rfl (lv_at hl 3 rfl) ?_
          refine lv_iload_n hx hb dX3_planAt_59 rfl (lv_at hl 4 rfl) ?_
          obtain ⟨u_11, hg_12, h⟩ := ob_some h
          refine zcSi (W.runV (As := [.ref (a.2 1 k_3), .int p2, .int p3]) (rest := []) ⟨hx, hb, hml, hown, hts⟩ (c_X3_obstacle l D cy a n V k_3 p2 p3 hk_3 hg_12) (cwV 3 hts gX3_planAt_X3_obstacle rfl rfl rfl hd_X3_obstacle ⟨Nat.le_of_ble_eq_true rfl, Nat.le_of_ble_eq_true rfl⟩) ⟨xI_blind, va_recv hK hP (ci := 3) (q0 := 0) rfl rfl, (xI_at hP hK hD)⟩ rfl rfl hl.1 rfl (lv_room (Nat.le_of_ble_eq_true rfl)) dX3_planAt_60 ⟨Nat.le_of_ble_eq_true rfl, Nat.le_of_ble_eq_true rfl⟩) ?_
          refine lv_bipush (v := 45) hx hb dX3_planAt_63 (by decide) ?_
          refine lv_icmp_eq (tgt := 76) hx hb dX3_planAt_65 (by decide) (fun c_13 => ?_) (fun c_13 => ?_)
          · replace h := oi_t c_13 h
            refine lv_aload hx hb dX3_planAt_76 (lv_at hl 0 rfl) ?_
            refine lv_iload_n hx hb dX3_planAt_78 rfl (lv_at hl 3 rfl) ?_
            refine lv_iload_n hx hb dX3_planAt_79 rfl (lv_at hl 4 rfl) ?_
            obtain ⟨u_14, hg_15, h⟩ := ob_some h
            refine zcWv (va_runV (As := [.int p2, .int p3]) (rest := []) ⟨hx, hb, hml, hown, hts⟩ (c_X1_put l D cy a n V _ k_3 p2 p3 hk_3 hg_15) (cwV 2 hts gX3_planAt_X1_put rfl rfl rfl hd_X1_put ⟨Nat.le_of_ble_eq_true rfl, Nat.le_of_ble_eq_true rfl⟩) ⟨(zJ_blind xI_blind), va_recv hK hP (ci := 1) rfl (xpos_li hk_3), (zJ_at (xI_at hP hK hD))⟩ rfl rfl hl.1 rfl (lv_room (Nat.le_of_ble_eq_true rfl)) dX3_planAt_80 ⟨Nat.le_of_ble_eq_true rfl, Nat.le_of_ble_eq_true rfl⟩) hS (z_free hD hS hA) (fun H locs hP hD hS => ?_)
            refine lv_aload hx hb dX3_planAt_83 (lv_at hl 0 rfl) ?_
            obtain ⟨u_16, hg_17, h⟩ := ob_some h
            refine zcSi (W.runV (As := []) (rest := []) ⟨hx, hb, hml, hown, hts⟩ (c_X1_end l D cy a n u_14 k_3 hk_3 hg_17) (cwV 0 hts gX3_planAt_X1_end rfl rfl rfl hd_X1_end ⟨Nat.le_of_ble_eq_true rfl, Nat.le_of_ble_eq_true rfl⟩) ⟨xI_blind, va_recv hK hP (ci := 1) rfl (xpos_li hk_3), (xI_at hP hK hD)⟩ rfl rfl hl.1 rfl (lv_room (Nat.le_of_ble_eq_true rfl)) dX3_planAt_85 ⟨Nat.le_of_ble_eq_true rfl, Nat.le_of_ble_eq_true rfl⟩) ?_
            have h9 := Option.some.inj h
            subst h9
            refine vx_ret ?_
            refine W.widen (k := 1) (n := 6) (Nat.le_of_ble_eq_true rfl) (Nat.le_of_ble_eq_true rfl) ?_
            exact W.iret (v := u_16) hx hb hr (fun t ht hW => ⟨⟨u_16, (), rfl, ⟨rfl, rfl⟩, ⟨by rw [ht]; exact hP, hD⟩⟩, hS.F ht⟩) hS.2.2 dX3_planAt_88 hlocks
          · replace h := oi_f c_13 h
            have h9 := Option.some.inj h
            subst h9
            exact vx_throw0 hx hb hl0 hown (by decide) (by decide) (hts _ (List.mem_of_getElem? (i := 5) rfl)) (hts _ (List.mem_of_getElem? (i := 6) rfl)) (vx_hat (fun w h9 => hts w (List.mem_cons_of_mem _ (List.mem_append_left _ (List.mem_append_right _ h9)))) (by decide +kernel) (xNB_4 hN.1 _)) (by decide +kernel) hN.2.1 hN.2.2.1 hS (hl.1.trans hml.symm) dX3_planAt_68 dX3_planAt_71 dX3_planAt_72 dX3_planAt_75 (fun z hz => (hN.2.2.2 z hz).elim) (Nat.le_of_ble_eq_true rfl) (Nat.le_of_ble_eq_true rfl) (Nat.le_of_ble_eq_true rfl) (Nat.le_of_ble_eq_true rfl) hlocks (fun t hvm hz hk => ⟨(), trivial, ⟨rfl, (show (4 : Nat) ≠ 0 by decide), zP_kept hP hk, hD⟩, zF_kept hS hz hk⟩) hS.2.2 (Nat.le_of_ble_eq_true rfl) (Nat.le_of_ble_eq_true rfl)
        · replace h := oi_f c_10 h
          have h9 := Option.some.inj h
          subst h9
          exact vx_throw0 hx hb hl0 hown (by decide) (by decide) (hts _ (List.mem_of_getElem? (i := 3) rfl)) (hts _ (List.mem_of_getElem? (i := 4) rfl)) (vx_hat (fun w h9 => hts w (List.mem_cons_of_mem _ (List.mem_append_left _ (List.mem_append_left _ (List.mem_append_right _ h9))))) (by decide +kernel) (xNB_2 hN.1 _)) (by decide +kernel) hN.2.1 hN.2.2.1 hS (hl.1.trans hml.symm) dX3_planAt_47 dX3_planAt_50 dX3_planAt_51 dX3_planAt_54 (fun z hz => (hN.2.2.2 z hz).elim) (Nat.le_of_ble_eq_true rfl) (Nat.le_of_ble_eq_true rfl) (Nat.le_of_ble_eq_true rfl) (Nat.le_of_ble_eq_true rfl) hlocks (fun t hvm hz hk => ⟨(), trivial, ⟨rfl, (show (2 : Nat) ≠ 0 by decide), zP_kept hP hk, hD⟩, zF_kept hS hz hk⟩) hS.2.2 (Nat.le_of_ble_eq_true rfl) (Nat.le_of_ble_eq_true rfl)
def f_X3_planPour_68 (n : Nat → Nat) : XV → Nat → Int32 → Nat → Int32 → Option (Nat × Int32 × XV)
  | _, 0, _, _, _ => none
  | V, fu + 1, zx2, zx3, zx4 => oi ((V.1 2 zx3 1) ≤ zx4) (og (¬ ((0 : Int32) < 0 ∨ 8 ≤ ((0 : Int32)).toNatClampNeg)) (some (0, V.2.2.2 0 (0 : Int32).toNatClampNeg, V))) (oi (8 ≤ zx4) (og (¬ ((0 : Int32) < 0 ∨ 8 ≤ ((0 : Int32)).toNatClampNeg)) (some (0, V.2.2.2 0 (0 : Int32).toNatClampNeg, V))) (ob (f_X3_liftNumbered n V ((V.1 2 zx3 0) + zx4)) (fun u_19 => oc (n 1) u_19 (f_X3_planPour_68 n V fu zx2 zx3 (zx4 + 1)) (fun k_21 => og (¬ (zx4 < 0 ∨ 8 ≤ (zx4).toNatClampNeg)) (ob (f_X1_put n V k_21 zx2 (V.2.2.2 0 (zx4).toNatClampNeg)) (fun u_24 => f_X3_planPour_68 n u_24 fu zx2 zx3 (zx4 + 1)))))))
def f_X3_planPour (n : Nat → Nat) (V : XV) (p1 : Int32) (p2 : Int32) : Option (Nat × Int32 × XV) := ob (f_X3_pourNumbered n V p1) (fun u_1 => oc (n 2) u_1 (some (3, 0, V)) (fun k_3 => ob (f_X3_craneNumbered n V p2) (fun u_5 => oc (n 0) u_5 (some (3, 0, V)) (fun k_7 => ob (f_X3_countOfPour n V p1 119) (fun u_9 => oi ((V.1 2 k_3 1) ≤ u_9) (ob (f_X3_findRowStarts n V k_3 p2) (fun u_12 => oi (u_12.1 = 0) (some (4, 0, u_12.2)) (f_X3_planPour_68 n u_12.2 FU p2 k_3 0))) (some (2, 0, V)))))))
theorem hd_X3_planPour : yX3_planPour.cls = RX3 ∧ yX3_planPour.cls ≠ "java/lang/invoke/MethodHandle" ∧ yX3_planPour.cls ≠ "java/lang/invoke/VarHandle" ∧ (parseMethodDescriptor yX3_planPour.desc).map (fun d => d.parameters.length) = some 2 := by decide +kernel
set_option maxHeartbeats 4000000 in
set_option maxRecDepth 100000 in
theorem k_X3_planPour_68 {p : Program} {l : Launch} {e : Env} {s : State} {m : MethodId} {args : Array Value} {below : List Frame} {meth : Method} {c : Code} {D : va_G} {cy : Nat → ClassId} {a : XA} {n : Nat → Nat} {A : Nat → Prop} (hl0 : l.stackTraces = false) (hx : p.tables.exec = Jvm.exec) (hb : c.code = cX3_planPour) (hr : meth.sig.returnType = (some .int)) (hts : ∀ w ∈ wsX3_planPour, w.before args s = true) (hml : c.maxLocals = 6) (hown : s.vm.findClass RX3 = some m.cls) (hlocks : meth.locks = false) (hK : va_K D xcl (xty cy) s) (hA : ∀ q, s.heap.size ≤ q → A q) (hN : zN A c s) (res : Nat × Int32 × XV) : ∀ (fu : Nat) (zx2 : Int32) (zx3 : Nat) (zx4 : Int32) (V : XV) (H : Heap) (locs : List Loc) (hzx3 : zx3 < n 2) (ls : Array Slot), f_X3_planPour_68 n V fu zx2 zx3 zx4 = some res → va_P D xcl (xW cy a n V) H → va_D A (xW cy a n V) → va_S A s.heap H locs → lv_has ls 6 [(0, .ref (a.1 0)), (2, .int zx2), (3, .ref (a.2 2 zx3)), (4, .int zx4)] → W p l e ({ frames := 7, cells := 1, slots := 6, locals := 158 } : Room) s m args below meth c H locs 0 0 (vx_MQ below (va_Qi (fun r (_ : Unit) => res.1 = 0 ∧ r = res.2.1) (fun _ t => va_P D xcl (xW cy a n res.2.2) t.heap ∧ va_D A (xW cy a n res.2.2)) A) (vx_X (fun (_ : Unit) => True) (fun E _ t => E = xnm res.1 ∧ res.1 ≠ 0 ∧ va_P D xcl (xW cy a n res.2.2) t.heap ∧ va_D A (xW cy a n res.2.2)) A) args s 1 6 (A)) (F0 m 68 ls []) := by
  have hinX2 : ∀ w ∈ wsX20, w ∈ wsX3_planPour := (fun _ h => (List.mem_cons_of_mem _ (List.mem_append_left _ (List.mem_append_left _ (List.mem_append_left _ (List.mem_append_left _ (List.mem_append_left _ (List.mem_append_left _ (List.mem_append_left _ (List.mem_append_right _ h))))))))))
  have hinX3 : ∀ w ∈ wsX30, w ∈ wsX3_planPour := (fun _ h => (List.mem_cons_of_mem _ (List.mem_append_left _ (List.mem_append_left _ (List.mem_append_left _ (List.mem_append_left _ (List.mem_append_left _ (List.mem_append_left _ (List.mem_append_right _ h)))))))))
  intro fu
  induction fu with
  | zero =>
    intro zx2 zx3 zx4 V H locs hzx3 ls h hP hD hS hl
    cases h
  | succ fu ih =>
    intro zx2 zx3 zx4 V H locs hzx3 ls h hP hD hS hl
    refine lv_iload hx hb dX3_planPour_68 (lv_at hl 3 rfl) ?_
    refine lv_aload_n hx hb dX3_planPour_70 rfl (lv_at hl 2 rfl) ?_
    refine va_get (D := D) (ci := 2) (v := .int (V.1 2 zx3 1)) (C := RX2) (T := TX2) (N := 3) hx hb hts hinX2 hown hK hP _ (xpos_po hzx3) rfl 1 (by decide) (hts _ (List.mem_of_getElem? (i := 7) rfl)) (fun _ h9 => h9) rfl dX3_planPour_71 ?_
    refine lv_icmp_ge (tgt := 124) hx hb dX3_planPour_74 (by decide) (fun c_15 => ?_) (fun c_15 => ?_)
    · replace h := oi_t c_15 h
      refine lv_aload_n hx hb dX3_planPour_124 rfl (lv_at hl 0 rfl) ?_
      refine va_get (D := D) (ci := 3) (v := .ref (a.1 4)) (C := RX3) (T := TX3) (N := 10) hx hb hts hinX3 hown hK hP 0 rfl rfl 8 (by decide) (hts _ (List.mem_of_getElem? (i := 8) rfl)) (fun _ h9 => h9) rfl dX3_planPour_125 ?_
      refine lv_iconst (v := 0) hx hb dX3_planPour_128 (by decide) ?_
      obtain ⟨g_16, h⟩ := og_some h
      refine va_iald hx hb hK hP 4 0 rfl rfl g_16 dX3_planPour_129 ?_
      have h9 := Option.some.inj h
      subst h9
      refine vx_ret ?_
      refine W.widen (k := 1) (n := 6) (Nat.le_of_ble_eq_true rfl) (Nat.le_of_ble_eq_true rfl) ?_
      exact W.iret (v := V.2.2.2 0 (0 : Int32).toNatClampNeg) hx hb hr (fun t ht hW => ⟨⟨V.2.2.2 0 (0 : Int32).toNatClampNeg, (), rfl, ⟨rfl, rfl⟩, ⟨by rw [ht]; exact hP, hD⟩⟩, hS.F ht⟩) hS.2.2 dX3_planPour_130 hlocks
    · replace h := oi_f c_15 h
      refine lv_iload hx hb dX3_planPour_77 (lv_at hl 3 rfl) ?_
      refine lv_aload_n hx hb dX3_planPour_79 rfl (lv_at hl 0 rfl) ?_
      refine va_get (D := D) (ci := 3) (v := .ref (a.1 4)) (C := RX3) (T := TX3) (N := 10) hx hb hts hinX3 hown hK hP 0 rfl rfl 8 (by decide) (hts _ (List.mem_of_getElem? (i := 8) rfl)) (fun _ h9 => h9) rfl dX3_planPour_80 ?_
      refine va_alen (v := 8) hx hb hK hP 4 0 rfl rfl rfl dX3_planPour_83 ?_
      refine lv_icmp_ge (tgt := 124) hx hb dX3_planPour_84 (by decide) (fun c_17 => ?_) (fun c_17 => ?_)
      · replace h := oi_t c_17 h
        refine lv_aload_n hx hb dX3_planPour_124 rfl (lv_at hl 0 rfl) ?_
        refine va_get (D := D) (ci := 3) (v := .ref (a.1 4)) (C := RX3) (T := TX3) (N := 10) hx hb hts hinX3 hown hK hP 0 rfl rfl 8 (by decide) (hts _ (List.mem_of_getElem? (i := 8) rfl)) (fun _ h9 => h9) rfl dX3_planPour_125 ?_
        refine lv_iconst (v := 0) hx hb dX3_planPour_128 (by decide) ?_
        obtain ⟨g_18, h⟩ := og_some h
        refine va_iald hx hb hK hP 4 0 rfl rfl g_18 dX3_planPour_129 ?_
        have h9 := Option.some.inj h
        subst h9
        refine vx_ret ?_
        refine W.widen (k := 1) (n := 6) (Nat.le_of_ble_eq_true rfl) (Nat.le_of_ble_eq_true rfl) ?_
        exact W.iret (v := V.2.2.2 0 (0 : Int32).toNatClampNeg) hx hb hr (fun t ht hW => ⟨⟨V.2.2.2 0 (0 : Int32).toNatClampNeg, (), rfl, ⟨rfl, rfl⟩, ⟨by rw [ht]; exact hP, hD⟩⟩, hS.F ht⟩) hS.2.2 dX3_planPour_130 hlocks
      · replace h := oi_f c_17 h
        refine lv_aload_n hx hb dX3_planPour_87 rfl (lv_at hl 0 rfl) ?_
        refine lv_aload_n hx hb dX3_planPour_88 rfl (lv_at hl 2 rfl) ?_
        refine va_get (D := D) (ci := 2) (v := .int (V.1 2 zx3 0)) (C := RX2) (T := TX2) (N := 3) hx hb hts hinX2 hown hK hP _ (xpos_po hzx3) rfl 0 (by decide) (hts _ (List.mem_of_getElem? (i := 9) rfl)) (fun _ h9 => h9) rfl dX3_planPour_89 ?_
        refine lv_iload hx hb dX3_planPour_92 (lv_at hl 3 rfl) ?_
        refine lv_iadd hx hb dX3_planPour_94 ?_
        obtain ⟨u_19, hg_20, h⟩ := ob_some h
        rcases oc_some h with ⟨o_22, h⟩ | ⟨k_21, hk_21, o_22, h⟩
        · refine zcSqn (W.runV (As := [.int ((V.1 2 zx3 0) + zx4)]) (rest := []) ⟨hx, hb, hml, hown, hts⟩ (c_X3_liftNumbered l D cy a n V ((V.1 2 zx3 0) + zx4) hg_20) (cwV 1 hts gX3_planPour_X3_liftNumbered rfl rfl rfl hd_X3_liftNumbered ⟨Nat.le_of_ble_eq_true rfl, Nat.le_of_ble_eq_true rfl⟩) ⟨xI_blind, va_recv hK hP (ci := 3) (q0 := 0) rfl rfl, (xI_at hP hK hD)⟩ rfl rfl hl.1 rfl (lv_room (Nat.le_of_ble_eq_true rfl)) dX3_planPour_95 ⟨Nat.le_of_ble_eq_true rfl, Nat.le_of_ble_eq_true rfl⟩) o_22 ?_
          refine lv_astoreN (lv' := [(5, .null), (0, .ref (a.1 0)), (2, .int zx2), (3, .ref (a.2 2 zx3)), (4, .int zx4)]) hx hb dX3_planPour_98 hl (by decide) rfl (fun ls hl => ?_)
          refine lv_aloadN hx hb dX3_planPour_100 (lv_at hl 0 rfl) ?_
          refine lv_ifnullN (tgt := 118) hx hb dX3_planPour_102 (by decide) ?_
          refine lv_iinc (v := zx4 + 1) (lv' := [(4, .int (zx4 + 1)), (5, .null), (0, .ref (a.1 0)), (2, .int zx2), (3, .ref (a.2 2 zx3))]) hx hb dX3_planPour_118 hl (k := 4) rfl rfl (by decide) rfl (fun ls hl => ?_)
          refine lv_goto (tgt := 68) hx hb dX3_planPour_121 (by decide) ?_
          exact ih zx2 zx3 (zx4 + 1) _ _ _ hzx3 ls h hP hD hS (lv_sub hl [2, 3, 4, 0] rfl)
        · refine zcSqs (W.runV (As := [.int ((V.1 2 zx3 0) + zx4)]) (rest := []) ⟨hx, hb, hml, hown, hts⟩ (c_X3_liftNumbered l D cy a n V ((V.1 2 zx3 0) + zx4) hg_20) (cwV 1 hts gX3_planPour_X3_liftNumbered rfl rfl rfl hd_X3_liftNumbered ⟨Nat.le_of_ble_eq_true rfl, Nat.le_of_ble_eq_true rfl⟩) ⟨xI_blind, va_recv hK hP (ci := 3) (q0 := 0) rfl rfl, (xI_at hP hK hD)⟩ rfl rfl hl.1 rfl (lv_room (Nat.le_of_ble_eq_true rfl)) dX3_planPour_95 ⟨Nat.le_of_ble_eq_true rfl, Nat.le_of_ble_eq_true rfl⟩) o_22 ?_
          refine lv_astore (lv' := [(5, .ref (a.2 1 k_21)), (0, .ref (a.1 0)), (2, .int zx2), (3, .ref (a.2 2 zx3)), (4, .int zx4)]) hx hb dX3_planPour_98 hl (by decide) rfl (fun ls hl => ?_)
          refine lv_aload hx hb dX3_planPour_100 (lv_at hl 0 rfl) ?_
          refine lv_ifnull hx hb dX3_planPour_102 ?_
          refine lv_aload hx hb dX3_planPour_105 (lv_at hl 0 rfl) ?_
          refine lv_iload_n hx hb dX3_planPour_107 rfl (lv_at hl 2 rfl) ?_
          refine lv_aload_n hx hb dX3_planPour_108 rfl (lv_at hl 1 rfl) ?_
          refine va_get (D := D) (ci := 3) (v := .ref (a.1 4)) (C := RX3) (T := TX3) (N := 10) hx hb hts hinX3 hown hK hP 0 rfl rfl 8 (by decide) (hts _ (List.mem_of_getElem? (i := 8) rfl)) (fun _ h9 => h9) rfl dX3_planPour_109 ?_
          refine lv_iload hx hb dX3_planPour_112 (lv_at hl 4 rfl) ?_
          obtain ⟨g_23, h⟩ := og_some h
          refine va_iald hx hb hK hP 4 0 rfl rfl g_23 dX3_planPour_114 ?_
          obtain ⟨u_24, hg_25, h⟩ := ob_some h
          refine zcWv (va_runV (As := [.int zx2, .int (V.2.2.2 0 (zx4).toNatClampNeg)]) (rest := []) ⟨hx, hb, hml, hown, hts⟩ (c_X1_put l D cy a n V _ k_21 zx2 (V.2.2.2 0 (zx4).toNatClampNeg) hk_21 hg_25) (cwV 2 hts gX3_planPour_X1_put rfl rfl rfl hd_X1_put ⟨Nat.le_of_ble_eq_true rfl, Nat.le_of_ble_eq_true rfl⟩) ⟨(zJ_blind xI_blind), va_recv hK hP (ci := 1) rfl (xpos_li hk_21), (zJ_at (xI_at hP hK hD))⟩ rfl rfl hl.1 rfl (lv_room (Nat.le_of_ble_eq_true rfl)) dX3_planPour_115 ⟨Nat.le_of_ble_eq_true rfl, Nat.le_of_ble_eq_true rfl⟩) hS (z_free hD hS hA) (fun H locs hP hD hS => ?_)
          refine lv_iinc (v := zx4 + 1) (lv' := [(4, .int (zx4 + 1)), (5, .ref (a.2 1 k_21)), (0, .ref (a.1 0)), (2, .int zx2), (3, .ref (a.2 2 zx3))]) hx hb dX3_planPour_118 hl (k := 4) rfl rfl (by decide) rfl (fun ls hl => ?_)
          refine lv_goto (tgt := 68) hx hb dX3_planPour_121 (by decide) ?_
          exact ih zx2 zx3 (zx4 + 1) _ _ _ hzx3 ls h hP hD hS (lv_sub hl [2, 3, 4, 0] rfl)
set_option maxHeartbeats 4000000 in
set_option maxRecDepth 100000 in
theorem c_X3_planPour (l : Launch) (hl0 : l.stackTraces = false) (D : va_G) (cy : Nat → ClassId) (a : XA) (n : Nat → Nat) (V : XV) (sz : Nat) (p1 : Int32) (p2 : Int32) {res : Nat × Int32 × XV} (h : f_X3_planPour n V p1 p2 = some res) : vx_Met l yX3_planPour wsX3_planPour ({ frames := 7, cells := 1, slots := 6, locals := 158 } : Room) (va_Pc [.ref (a.1 0), .int p1, .int p2] (zX sz (va_A (xW cy a n V) sz) (xI D cy a n V))) (va_Qi (fun r (_ : Unit) => res.1 = 0 ∧ r = res.2.1) (fun _ t => va_P D xcl (xW cy a n res.2.2) t.heap ∧ va_D (va_A (xW cy a n V) sz) (xW cy a n res.2.2)) (va_A (xW cy a n V) sz)) (vx_X (fun (_ : Unit) => True) (fun E _ t => E = xnm res.1 ∧ res.1 ≠ 0 ∧ va_P D xcl (xW cy a n res.2.2) t.heap ∧ va_D (va_A (xW cy a n V) sz) (xW cy a n res.2.2)) (va_A (xW cy a n V) sz)) 1 6 (va_A (xW cy a n V) sz) := by
  refine vx_ofW (cc := cX3_planPour) (maxL := 6) (ret := (some .int)) (by decide) rfl ?_
  intro p e s m args below meth c s₁ B hml hex hv
  obtain ⟨rfl, hsz, hZ, hP, hK, hD0⟩ := hv
  have hx := B.exec
  have hb := B.bytes
  have hr := B.returns
  have hts := atoms_spec (ws := wsX3_planPour) B.pre
  have hown : s.vm.findClass RX3 = some m.cls := findClass_of_methodNamed B.named
  have hlocks := B.notSynchronized
  subst hsz
  have hD := hD0.self (sz := s.heap.size)
  have hN : zN (va_A (xW cy a n V) s.heap.size) c s := ⟨hZ.1, hZ.2.1, hZ.2.2, hex⟩
  generalize hAe : va_A (xW cy a n V) s.heap.size = A at hD hN ⊢
  have hA : ∀ q : Nat, s.heap.size ≤ q → A q := fun q h => by rw [← hAe]; exact Or.inr h
  have hS : va_S A s.heap s.heap [] := va_S.rf
  have hl := lv_entry ([.ref (a.1 0), .int p1, .int p2]) (n := 6) (Nat.le_of_ble_eq_true rfl)
  rw [lg_entry_eq]
  generalize (lg_sl ([.ref (a.1 0), .int p1, .int p2]) ++ List.replicate (6 - (lg_sl ([.ref (a.1 0), .int p1, .int p2])).length) Slot.unset).toArray = ls at hl ⊢
  have hl : lv_has ls 6 [(0, .ref (a.1 0)), (1, .int p1), (2, .int p2)] := hl
  have hinX2 : ∀ w ∈ wsX20, w ∈ wsX3_planPour := (fun _ h => (List.mem_cons_of_mem _ (List.mem_append_left _ (List.mem_append_left _ (List.mem_append_left _ (List.mem_append_left _ (List.mem_append_left _ (List.mem_append_left _ (List.mem_append_left _ (List.mem_append_right _ h))))))))))
  revert hP hS
  intro hP hS
  refine lv_aload_n hx hb dX3_planPour_0 rfl (lv_at hl 0 rfl) ?_
  refine lv_iload_n hx hb dX3_planPour_1 rfl (lv_at hl 1 rfl) ?_
  obtain ⟨u_1, hg_2, h⟩ := ob_some h
  rcases oc_some h with ⟨o_4, h⟩ | ⟨k_3, hk_3, o_4, h⟩
  · refine zcSqn (W.runV (As := [.int p1]) (rest := []) ⟨hx, hb, hml, hown, hts⟩ (c_X3_pourNumbered l D cy a n V p1 hg_2) (cwV 1 hts gX3_planPour_X3_pourNumbered rfl rfl rfl hd_X3_pourNumbered ⟨Nat.le_of_ble_eq_true rfl, Nat.le_of_ble_eq_true rfl⟩) ⟨xI_blind, va_recv hK hP (ci := 3) (q0 := 0) rfl rfl, (xI_at hP hK hD)⟩ rfl rfl hl.1 rfl (lv_room (Nat.le_of_ble_eq_true rfl)) dX3_planPour_2 ⟨Nat.le_of_ble_eq_true rfl, Nat.le_of_ble_eq_true rfl⟩) o_4 ?_
    refine lv_astore_nN (lv' := [(3, .null), (0, .ref (a.1 0)), (1, .int p1), (2, .int p2)]) hx hb dX3_planPour_5 rfl hl (by decide) rfl (fun ls hl => ?_)
    refine lv_aload_nN hx hb dX3_planPour_6 rfl (lv_at hl 0 rfl) ?_
    refine lv_ifnullN (tgt := 18) hx hb dX3_planPour_7 (by decide) ?_
    have h9 := Option.some.inj h
    subst h9
    exact vx_throw0 hx hb hl0 hown (by decide) (by decide) (hts _ (List.mem_of_getElem? (i := 1) rfl)) (hts _ (List.mem_of_getElem? (i := 2) rfl)) (vx_hat (fun w h9 => hts w (List.mem_cons_of_mem _ (List.mem_append_left _ (List.mem_append_left _ (List.mem_append_left _ (List.mem_append_right _ h9)))))) (by decide +kernel) (xNB_3 hN.1 _)) (by decide +kernel) hN.2.1 hN.2.2.1 hS (hl.1.trans hml.symm) dX3_planPour_18 dX3_planPour_21 dX3_planPour_22 dX3_planPour_25 (fun z hz => (hN.2.2.2 z hz).elim) (Nat.le_of_ble_eq_true rfl) (Nat.le_of_ble_eq_true rfl) (Nat.le_of_ble_eq_true rfl) (Nat.le_of_ble_eq_true rfl) hlocks (fun t hvm hz hk => ⟨(), trivial, ⟨rfl, (show (3 : Nat) ≠ 0 by decide), zP_kept hP hk, hD⟩, zF_kept hS hz hk⟩) hS.2.2 (Nat.le_of_ble_eq_true rfl) (Nat.le_of_ble_eq_true rfl)
  · refine zcSqs (W.runV (As := [.int p1]) (rest := []) ⟨hx, hb, hml, hown, hts⟩ (c_X3_pourNumbered l D cy a n V p1 hg_2) (cwV 1 hts gX3_planPour_X3_pourNumbered rfl rfl rfl hd_X3_pourNumbered ⟨Nat.le_of_ble_eq_true rfl, Nat.le_of_ble_eq_true rfl⟩) ⟨xI_blind, va_recv hK hP (ci := 3) (q0 := 0) rfl rfl, (xI_at hP hK hD)⟩ rfl rfl hl.1 rfl (lv_room (Nat.le_of_ble_eq_true rfl)) dX3_planPour_2 ⟨Nat.le_of_ble_eq_true rfl, Nat.le_of_ble_eq_true rfl⟩) o_4 ?_
    refine lv_astore_n (lv' := [(3, .ref (a.2 2 k_3)), (0, .ref (a.1 0)), (1, .int p1), (2, .int p2)]) hx hb dX3_planPour_5 rfl hl (by decide) rfl (fun ls hl => ?_)
    refine lv_aload_n hx hb dX3_planPour_6 rfl (lv_at hl 0 rfl) ?_
    refine lv_ifnull hx hb dX3_planPour_7 ?_
    refine lv_aload_n hx hb dX3_planPour_10 rfl (lv_at hl 1 rfl) ?_
    refine lv_iload_n hx hb dX3_planPour_11 rfl (lv_at hl 3 rfl) ?_
    obtain ⟨u_5, hg_6, h⟩ := ob_some h
    rcases oc_some h with ⟨o_8, h⟩ | ⟨k_7, hk_7, o_8, h⟩
    · refine zcSqn (W.runV (As := [.int p2]) (rest := []) ⟨hx, hb, hml, hown, hts⟩ (c_X3_craneNumbered l D cy a n V p2 hg_6) (cwV 1 hts gX3_planPour_X3_craneNumbered rfl rfl rfl hd_X3_craneNumbered ⟨Nat.le_of_ble_eq_true rfl, Nat.le_of_ble_eq_true rfl⟩) ⟨xI_blind, va_recv hK hP (ci := 3) (q0 := 0) rfl rfl, (xI_at hP hK hD)⟩ rfl rfl hl.1 rfl (lv_room (Nat.le_of_ble_eq_true rfl)) dX3_planPour_12 ⟨Nat.le_of_ble_eq_true rfl, Nat.le_of_ble_eq_true rfl⟩) o_8 ?_
      refine lv_ifnonnullN hx hb dX3_planPour_15 ?_
      have h9 := Option.some.inj h
      subst h9
      exact vx_throw0 hx hb hl0 hown (by decide) (by decide) (hts _ (List.mem_of_getElem? (i := 1) rfl)) (hts _ (List.mem_of_getElem? (i := 2) rfl)) (vx_hat (fun w h9 => hts w (List.mem_cons_of_mem _ (List.mem_append_left _ (List.mem_append_left _ (List.mem_append_left _ (List.mem_append_right _ h9)))))) (by decide +kernel) (xNB_3 hN.1 _)) (by decide +kernel) hN.2.1 hN.2.2.1 hS (hl.1.trans hml.symm) dX3_planPour_18 dX3_planPour_21 dX3_planPour_22 dX3_planPour_25 (fun z hz => (hN.2.2.2 z hz).elim) (Nat.le_of_ble_eq_true rfl) (Nat.le_of_ble_eq_true rfl) (Nat.le_of_ble_eq_true rfl) (Nat.le_of_ble_eq_true rfl) hlocks (fun t hvm hz hk => ⟨(), trivial, ⟨rfl, (show (3 : Nat) ≠ 0 by decide), zP_kept hP hk, hD⟩, zF_kept hS hz hk⟩) hS.2.2 (Nat.le_of_ble_eq_true rfl) (Nat.le_of_ble_eq_true rfl)
    · refine zcSqs (W.runV (As := [.int p2]) (rest := []) ⟨hx, hb, hml, hown, hts⟩ (c_X3_craneNumbered l D cy a n V p2 hg_6) (cwV 1 hts gX3_planPour_X3_craneNumbered rfl rfl rfl hd_X3_craneNumbered ⟨Nat.le_of_ble_eq_true rfl, Nat.le_of_ble_eq_true rfl⟩) ⟨xI_blind, va_recv hK hP (ci := 3) (q0 := 0) rfl rfl, (xI_at hP hK hD)⟩ rfl rfl hl.1 rfl (lv_room (Nat.le_of_ble_eq_true rfl)) dX3_planPour_12 ⟨Nat.le_of_ble_eq_true rfl, Nat.le_of_ble_eq_true rfl⟩) o_8 ?_
      refine lv_ifnonnull (tgt := 26) hx hb dX3_planPour_15 (by decide) ?_
      refine lv_aload_n hx hb dX3_planPour_26 rfl (lv_at hl 1 rfl) ?_
      refine lv_iload_n hx hb dX3_planPour_27 rfl (lv_at hl 2 rfl) ?_
      refine lv_bipush (v := 119) hx hb dX3_planPour_28 (by decide) ?_
      obtain ⟨u_9, hg_10, h⟩ := ob_some h
      refine zcSi (W.runV (As := [.int p1, .int 119]) (rest := []) ⟨hx, hb, hml, hown, hts⟩ (c_X3_countOfPour l D cy a n V p1 119 hg_10) (cwV 2 hts gX3_planPour_X3_countOfPour rfl rfl rfl hd_X3_countOfPour ⟨Nat.le_of_ble_eq_true rfl, Nat.le_of_ble_eq_true rfl⟩) ⟨xI_blind, va_recv hK hP (ci := 3) (q0 := 0) rfl rfl, (xI_at hP hK hD)⟩ rfl rfl hl.1 rfl (lv_room (Nat.le_of_ble_eq_true rfl)) dX3_planPour_30 ⟨Nat.le_of_ble_eq_true rfl, Nat.le_of_ble_eq_true rfl⟩) ?_
      refine lv_aload_n hx hb dX3_planPour_33 rfl (lv_at hl 0 rfl) ?_
      refine va_get (D := D) (ci := 2) (v := .int (V.1 2 k_3 1)) (C := RX2) (T := TX2) (N := 3) hx hb hts hinX2 hown hK hP _ (xpos_po hk_3) rfl 1 (by decide) (hts _ (List.mem_of_getElem? (i := 7) rfl)) (fun _ h9 => h9) rfl dX3_planPour_34 ?_
      refine lv_icmp_ge (tgt := 48) hx hb dX3_planPour_37 (by decide) (fun c_11 => ?_) (fun c_11 => ?_)
      · replace h := oi_t c_11 h
        refine lv_aload_n hx hb dX3_planPour_48 rfl (lv_at hl 1 rfl) ?_
        refine lv_aload_n hx hb dX3_planPour_49 rfl (lv_at hl 0 rfl) ?_
        refine lv_iload_n hx hb dX3_planPour_50 rfl (lv_at hl 3 rfl) ?_
        obtain ⟨u_12, hg_13, h⟩ := ob_some h
        refine zcWi (va_runV (As := [.ref (a.2 2 k_3), .int p2]) (rest := []) ⟨hx, hb, hml, hown, hts⟩ (c_X3_findRowStarts l D cy a n V _ k_3 p2 hk_3 hg_13) (cwV 2 hts gX3_planPour_X3_findRowStarts rfl rfl rfl hd_X3_findRowStarts ⟨Nat.le_of_ble_eq_true rfl, Nat.le_of_ble_eq_true rfl⟩) ⟨(zJ_blind xI_blind), va_recv hK hP (ci := 3) (q0 := 0) rfl rfl, (zJ_at (xI_at hP hK hD))⟩ rfl rfl hl.1 rfl (lv_room (Nat.le_of_ble_eq_true rfl)) dX3_planPour_51 ⟨Nat.le_of_ble_eq_true rfl, Nat.le_of_ble_eq_true rfl⟩) hS (z_free hD hS hA) (fun H locs hP hD hS => ?_)
        refine lv_if_ne (tgt := 65) hx hb dX3_planPour_54 (by decide) (fun c_14 => ?_) (fun c_14 => ?_)
        · replace h := oi_f c_14 h
          refine lv_iconst (v := 0) hx hb dX3_planPour_65 (by decide) ?_
          refine lv_istore (lv' := [(4, .int 0), (3, .ref (a.2 2 k_3)), (0, .ref (a.1 0)), (1, .int p1), (2, .int p2)]) hx hb dX3_planPour_66 hl (by decide) rfl (fun ls hl => ?_)
          exact k_X3_planPour_68 hl0 hx hb hr hts hml hown hlocks hK hA hN _ _ p2 k_3 0 _ _ _ hk_3 ls h hP hD hS (lv_sub hl [2, 4, 1, 0] rfl)
        · replace h := oi_t c_14 h
          have h9 := Option.some.inj h
          subst h9
          exact vx_throw0 hx hb hl0 hown (by decide) (by decide) (hts _ (List.mem_of_getElem? (i := 5) rfl)) (hts _ (List.mem_of_getElem? (i := 6) rfl)) (vx_hat (fun w h9 => hts w (List.mem_cons_of_mem _ (List.mem_append_left _ (List.mem_append_right _ h9)))) (by decide +kernel) (xNB_4 hN.1 _)) (by decide +kernel) hN.2.1 hN.2.2.1 hS (hl.1.trans hml.symm) dX3_planPour_57 dX3_planPour_60 dX3_planPour_61 dX3_planPour_64 (fun z hz => (hN.2.2.2 z hz).elim) (Nat.le_of_ble_eq_true rfl) (Nat.le_of_ble_eq_true rfl) (Nat.le_of_ble_eq_true rfl) (Nat.le_of_ble_eq_true rfl) hlocks (fun t hvm hz hk => ⟨(), trivial, ⟨rfl, (show (4 : Nat) ≠ 0 by decide), zP_kept hP hk, hD⟩, zF_kept hS hz hk⟩) hS.2.2 (Nat.le_of_ble_eq_true rfl) (Nat.le_of_ble_eq_true rfl)
      · replace h := oi_f c_11 h
        have h9 := Option.some.inj h
        subst h9
        exact vx_throw0 hx hb hl0 hown (by decide) (by decide) (hts _ (List.mem_of_getElem? (i := 3) rfl)) (hts _ (List.mem_of_getElem? (i := 4) rfl)) (vx_hat (fun w h9 => hts w (List.mem_cons_of_mem _ (List.mem_append_left _ (List.mem_append_left _ (List.mem_append_right _ h9))))) (by decide +kernel) (xNB_2 hN.1 _)) (by decide +kernel) hN.2.1 hN.2.2.1 hS (hl.1.trans hml.symm) dX3_planPour_40 dX3_planPour_43 dX3_planPour_44 dX3_planPour_47 (fun z hz => (hN.2.2.2 z hz).elim) (Nat.le_of_ble_eq_true rfl) (Nat.le_of_ble_eq_true rfl) (Nat.le_of_ble_eq_true rfl) (Nat.le_of_ble_eq_true rfl) hlocks (fun t hvm hz hk => ⟨(), trivial, ⟨rfl, (show (2 : Nat) ≠ 0 by decide), zP_kept hP hk, hD⟩, zF_kept hS hz hk⟩) hS.2.2 (Nat.le_of_ble_eq_true rfl) (Nat.le_of_ble_eq_true rfl)
def f_X3_unplan_65 (n : Nat → Nat) : XV → Nat → Nat → Int32 → Int32 → Int32 → Option (Nat × Int32 × XV)
  | _, 0, _, _, _, _ => none
  | V, fu + 1, zx2, zx3, zx5, zx6 => oi (zx5 ≤ zx6) (some (0, zx3, V)) (og (¬ (zx6 < 0 ∨ 40 ≤ (zx6).toNatClampNeg)) (oc (n 1) (xref n 1 zx6) (f_X3_unplan_65 n V fu zx2 zx3 zx5 (zx6 + 1)) (fun k_9 => oi ((V.1 1 k_9 6) = (V.1 1 zx2 6)) (oi ((V.1 1 k_9 8) = 112) (ob (f_X1_takeBack n V k_9) (fun u_13 => f_X3_unplan_65 n u_13 fu zx2 (zx3 + 1) zx5 (zx6 + 1))) (f_X3_unplan_65 n V fu zx2 zx3 zx5 (zx6 + 1))) (f_X3_unplan_65 n V fu zx2 zx3 zx5 (zx6 + 1)))))
def f_X3_unplan (n : Nat → Nat) (V : XV) (p1 : Int32) : Option (Nat × Int32 × XV) := ob (f_X3_liftNumbered n V p1) (fun u_1 => oc (n 1) u_1 (some (3, 0, V)) (fun k_3 => oi ((V.1 1 k_3 8) = 112) (oi ((V.1 1 k_3 6) = (-1)) (ob (f_X1_takeBack n V k_3) (fun u_15 => some (0, 1, u_15))) (f_X3_unplan_65 n V FU k_3 0 40 0)) (some (2, 0, V))))
theorem hd_X3_unplan : yX3_unplan.cls = RX3 ∧ yX3_unplan.cls ≠ "java/lang/invoke/MethodHandle" ∧ yX3_unplan.cls ≠ "java/lang/invoke/VarHandle" ∧ (parseMethodDescriptor yX3_unplan.desc).map (fun d => d.parameters.length) = some 1 := by decide +kernel
set_option maxHeartbeats 4000000 in
set_option maxRecDepth 100000 in
theorem k_X3_unplan_65 {p : Program} {l : Launch} {e : Env} {s : State} {m : MethodId} {args : Array Value} {below : List Frame} {meth : Method} {c : Code} {D : va_G} {cy : Nat → ClassId} {a : XA} {n : Nat → Nat} {A : Nat → Prop} (hl0 : l.stackTraces = false) (hx : p.tables.exec = Jvm.exec) (hb : c.code = cX3_unplan) (hr : meth.sig.returnType = (some .int)) (hts : ∀ w ∈ wsX3_unplan, w.before args s = true) (hml : c.maxLocals = 8) (hown : s.vm.findClass RX3 = some m.cls) (hlocks : meth.locks = false) (hK : va_K D xcl (xty cy) s) (hA : ∀ q, s.heap.size ≤ q → A q) (hN : zN A c s) (res : Nat × Int32 × XV) : ∀ (fu : Nat) (zx2 : Nat) (zx3 : Int32) (zx5 : Int32) (zx6 : Int32) (V : XV) (H : Heap) (locs : List Loc) (hzx2 : zx2 < n 1) (ls : Array Slot), f_X3_unplan_65 n V fu zx2 zx3 zx5 zx6 = some res → va_P D xcl (xW cy a n V) H → va_D A (xW cy a n V) → va_S A s.heap H locs → lv_has ls 8 [(2, .ref (a.2 1 zx2)), (3, .int zx3), (4, .ref (a.1 2)), (5, .int zx5), (6, .int zx6)] → W p l e ({ frames := 7, cells := 1, slots := 6, locals := 120 } : Room) s m args below meth c H locs 0 0 (vx_MQ below (va_Qi (fun r (_ : Unit) => res.1 = 0 ∧ r = res.2.1) (fun _ t => va_P D xcl (xW cy a n res.2.2) t.heap ∧ va_D A (xW cy a n res.2.2)) A) (vx_X (fun (_ : Unit) => True) (fun E _ t => E = xnm res.1 ∧ res.1 ≠ 0 ∧ va_P D xcl (xW cy a n res.2.2) t.heap ∧ va_D A (xW cy a n res.2.2)) A) args s 1 6 (A)) (F0 m 65 ls []) := by
  have hinX1 : ∀ w ∈ wsX10, w ∈ wsX3_unplan := (fun _ h => (List.mem_cons_of_mem _ (List.mem_append_left _ (List.mem_append_left _ (List.mem_append_left _ (List.mem_append_right _ h))))))
  intro fu
  induction fu with
  | zero =>
    intro zx2 zx3 zx5 zx6 V H locs hzx2 ls h hP hD hS hl
    cases h
  | succ fu ih =>
    intro zx2 zx3 zx5 zx6 V H locs hzx2 ls h hP hD hS hl
    refine lv_iload hx hb dX3_unplan_65 (lv_at hl 4 rfl) ?_
    refine lv_iload hx hb dX3_unplan_67 (lv_at hl 3 rfl) ?_
    refine lv_icmp_ge (tgt := 120) hx hb dX3_unplan_69 (by decide) (fun c_7 => ?_) (fun c_7 => ?_)
    · replace h := oi_t c_7 h
      refine lv_iload_n hx hb dX3_unplan_120 rfl (lv_at hl 1 rfl) ?_
      have h9 := Option.some.inj h
      subst h9
      refine vx_ret ?_
      refine W.widen (k := 1) (n := 6) (Nat.le_of_ble_eq_true rfl) (Nat.le_of_ble_eq_true rfl) ?_
      exact W.iret (v := zx3) hx hb hr (fun t ht hW => ⟨⟨zx3, (), rfl, ⟨rfl, rfl⟩, ⟨by rw [ht]; exact hP, hD⟩⟩, hS.F ht⟩) hS.2.2 dX3_unplan_121 hlocks
    · replace h := oi_f c_7 h
      refine lv_aload hx hb dX3_unplan_72 (lv_at hl 2 rfl) ?_
      refine lv_iload hx hb dX3_unplan_74 (lv_at hl 4 rfl) ?_
      obtain ⟨g_8, h⟩ := og_some h
      rcases oc_some h with ⟨o_10, h⟩ | ⟨k_9, hk_9, o_10, h⟩
      · refine zaldn hx hb hK hP 2 5 rfl rfl g_8 o_10 dX3_unplan_76 ?_
        refine lv_astoreN (lv' := [(7, .null), (2, .ref (a.2 1 zx2)), (3, .int zx3), (4, .ref (a.1 2)), (5, .int zx5), (6, .int zx6)]) hx hb dX3_unplan_77 hl (by decide) rfl (fun ls hl => ?_)
        refine lv_aloadN hx hb dX3_unplan_79 (lv_at hl 0 rfl) ?_
        refine lv_ifnullN (tgt := 114) hx hb dX3_unplan_81 (by decide) ?_
        refine lv_iinc (v := zx6 + 1) (lv' := [(6, .int (zx6 + 1)), (7, .null), (2, .ref (a.2 1 zx2)), (3, .int zx3), (4, .ref (a.1 2)), (5, .int zx5)]) hx hb dX3_unplan_114 hl (k := 5) rfl rfl (by decide) rfl (fun ls hl => ?_)
        refine lv_goto (tgt := 65) hx hb dX3_unplan_117 (by decide) ?_
        exact ih zx2 zx3 zx5 (zx6 + 1) _ _ _ hzx2 ls h hP hD hS (lv_sub hl [2, 3, 4, 5, 0] rfl)
      · refine zalds hx hb hK hP 2 5 rfl rfl g_8 o_10 dX3_unplan_76 ?_
        refine lv_astore (lv' := [(7, .ref (a.2 1 k_9)), (2, .ref (a.2 1 zx2)), (3, .int zx3), (4, .ref (a.1 2)), (5, .int zx5), (6, .int zx6)]) hx hb dX3_unplan_77 hl (by decide) rfl (fun ls hl => ?_)
        refine lv_aload hx hb dX3_unplan_79 (lv_at hl 0 rfl) ?_
        refine lv_ifnull hx hb dX3_unplan_81 ?_
        refine lv_aload hx hb dX3_unplan_84 (lv_at hl 0 rfl) ?_
        refine va_get (D := D) (ci := 1) (v := .int (V.1 1 k_9 6)) (C := RX1) (T := TX1) (N := 11) hx hb hts hinX1 hown hK hP _ (xpos_li hk_9) rfl 6 (by decide) (hts _ (List.mem_of_getElem? (i := 6) rfl)) (fun _ h9 => h9) rfl dX3_unplan_86 ?_
        refine lv_aload_n hx hb dX3_unplan_89 rfl (lv_at hl 1 rfl) ?_
        refine va_get (D := D) (ci := 1) (v := .int (V.1 1 zx2 6)) (C := RX1) (T := TX1) (N := 11) hx hb hts hinX1 hown hK hP _ (xpos_li hzx2) rfl 6 (by decide) (hts _ (List.mem_of_getElem? (i := 6) rfl)) (fun _ h9 => h9) rfl dX3_unplan_90 ?_
        refine lv_icmp_ne (tgt := 114) hx hb dX3_unplan_93 (by decide) (fun c_11 => ?_) (fun c_11 => ?_)
        · replace h := oi_f c_11 h
          refine lv_iinc (v := zx6 + 1) (lv' := [(6, .int (zx6 + 1)), (7, .ref (a.2 1 k_9)), (2, .ref (a.2 1 zx2)), (3, .int zx3), (4, .ref (a.1 2)), (5, .int zx5)]) hx hb dX3_unplan_114 hl (k := 5) rfl rfl (by decide) rfl (fun ls hl => ?_)
          refine lv_goto (tgt := 65) hx hb dX3_unplan_117 (by decide) ?_
          exact ih zx2 zx3 zx5 (zx6 + 1) _ _ _ hzx2 ls h hP hD hS (lv_sub hl [2, 3, 4, 5, 0] rfl)
        · replace h := oi_t c_11 h
          refine lv_aload hx hb dX3_unplan_96 (lv_at hl 0 rfl) ?_
          refine va_get (D := D) (ci := 1) (v := .int (V.1 1 k_9 8)) (C := RX1) (T := TX1) (N := 11) hx hb hts hinX1 hown hK hP _ (xpos_li hk_9) rfl 8 (by decide) (hts _ (List.mem_of_getElem? (i := 5) rfl)) (fun _ h9 => h9) rfl dX3_unplan_98 ?_
          refine lv_bipush (v := 112) hx hb dX3_unplan_101 (by decide) ?_
          refine lv_icmp_ne (tgt := 114) hx hb dX3_unplan_103 (by decide) (fun c_12 => ?_) (fun c_12 => ?_)
          · replace h := oi_f c_12 h
            refine lv_iinc (v := zx6 + 1) (lv' := [(6, .int (zx6 + 1)), (7, .ref (a.2 1 k_9)), (2, .ref (a.2 1 zx2)), (3, .int zx3), (4, .ref (a.1 2)), (5, .int zx5)]) hx hb dX3_unplan_114 hl (k := 5) rfl rfl (by decide) rfl (fun ls hl => ?_)
            refine lv_goto (tgt := 65) hx hb dX3_unplan_117 (by decide) ?_
            exact ih zx2 zx3 zx5 (zx6 + 1) _ _ _ hzx2 ls h hP hD hS (lv_sub hl [2, 3, 4, 5, 0] rfl)
          · replace h := oi_t c_12 h
            refine lv_aload hx hb dX3_unplan_106 (lv_at hl 0 rfl) ?_
            obtain ⟨u_13, hg_14, h⟩ := ob_some h
            refine zcWv (va_runV (As := []) (rest := []) ⟨hx, hb, hml, hown, hts⟩ (c_X1_takeBack l D cy a n V _ k_9 hk_9 hg_14) (cwV 0 hts gX3_unplan_X1_takeBack rfl rfl rfl hd_X1_takeBack ⟨Nat.le_of_ble_eq_true rfl, Nat.le_of_ble_eq_true rfl⟩) ⟨(zJ_blind xI_blind), va_recv hK hP (ci := 1) rfl (xpos_li hk_9), (zJ_at (xI_at hP hK hD))⟩ rfl rfl hl.1 rfl (lv_room (Nat.le_of_ble_eq_true rfl)) dX3_unplan_108 ⟨Nat.le_of_ble_eq_true rfl, Nat.le_of_ble_eq_true rfl⟩) hS (z_free hD hS hA) (fun H locs hP hD hS => ?_)
            refine lv_iinc (v := zx3 + 1) (lv' := [(3, .int (zx3 + 1)), (7, .ref (a.2 1 k_9)), (2, .ref (a.2 1 zx2)), (4, .ref (a.1 2)), (5, .int zx5), (6, .int zx6)]) hx hb dX3_unplan_111 hl (k := 2) rfl rfl (by decide) rfl (fun ls hl => ?_)
            refine lv_iinc (v := zx6 + 1) (lv' := [(6, .int (zx6 + 1)), (3, .int (zx3 + 1)), (7, .ref (a.2 1 k_9)), (2, .ref (a.2 1 zx2)), (4, .ref (a.1 2)), (5, .int zx5)]) hx hb dX3_unplan_114 hl (k := 5) rfl rfl (by decide) rfl (fun ls hl => ?_)
            refine lv_goto (tgt := 65) hx hb dX3_unplan_117 (by decide) ?_
            exact ih zx2 (zx3 + 1) zx5 (zx6 + 1) _ _ _ hzx2 ls h hP hD hS (lv_sub hl [3, 1, 4, 5, 0] rfl)
set_option maxHeartbeats 4000000 in
set_option maxRecDepth 100000 in
theorem c_X3_unplan (l : Launch) (hl0 : l.stackTraces = false) (D : va_G) (cy : Nat → ClassId) (a : XA) (n : Nat → Nat) (V : XV) (sz : Nat) (p1 : Int32) {res : Nat × Int32 × XV} (h : f_X3_unplan n V p1 = some res) : vx_Met l yX3_unplan wsX3_unplan ({ frames := 7, cells := 1, slots := 6, locals := 120 } : Room) (va_Pc [.ref (a.1 0), .int p1] (zX sz (va_A (xW cy a n V) sz) (xI D cy a n V))) (va_Qi (fun r (_ : Unit) => res.1 = 0 ∧ r = res.2.1) (fun _ t => va_P D xcl (xW cy a n res.2.2) t.heap ∧ va_D (va_A (xW cy a n V) sz) (xW cy a n res.2.2)) (va_A (xW cy a n V) sz)) (vx_X (fun (_ : Unit) => True) (fun E _ t => E = xnm res.1 ∧ res.1 ≠ 0 ∧ va_P D xcl (xW cy a n res.2.2) t.heap ∧ va_D (va_A (xW cy a n V) sz) (xW cy a n res.2.2)) (va_A (xW cy a n V) sz)) 1 6 (va_A (xW cy a n V) sz) := by
  refine vx_ofW (cc := cX3_unplan) (maxL := 8) (ret := (some .int)) (by decide) rfl ?_
  intro p e s m args below meth c s₁ B hml hex hv
  obtain ⟨rfl, hsz, hZ, hP, hK, hD0⟩ := hv
  have hx := B.exec
  have hb := B.bytes
  have hr := B.returns
  have hts := atoms_spec (ws := wsX3_unplan) B.pre
  have hown : s.vm.findClass RX3 = some m.cls := findClass_of_methodNamed B.named
  have hlocks := B.notSynchronized
  subst hsz
  have hD := hD0.self (sz := s.heap.size)
  have hN : zN (va_A (xW cy a n V) s.heap.size) c s := ⟨hZ.1, hZ.2.1, hZ.2.2, hex⟩
  generalize hAe : va_A (xW cy a n V) s.heap.size = A at hD hN ⊢
  have hA : ∀ q : Nat, s.heap.size ≤ q → A q := fun q h => by rw [← hAe]; exact Or.inr h
  have hS : va_S A s.heap s.heap [] := va_S.rf
  have hl := lv_entry ([.ref (a.1 0), .int p1]) (n := 8) (Nat.le_of_ble_eq_true rfl)
  rw [lg_entry_eq]
  generalize (lg_sl ([.ref (a.1 0), .int p1]) ++ List.replicate (8 - (lg_sl ([.ref (a.1 0), .int p1])).length) Slot.unset).toArray = ls at hl ⊢
  have hl : lv_has ls 8 [(0, .ref (a.1 0)), (1, .int p1)] := hl
  have hinX1 : ∀ w ∈ wsX10, w ∈ wsX3_unplan := (fun _ h => (List.mem_cons_of_mem _ (List.mem_append_left _ (List.mem_append_left _ (List.mem_append_left _ (List.mem_append_right _ h))))))
  have hinX3 : ∀ w ∈ wsX30, w ∈ wsX3_unplan := (fun _ h => (List.mem_cons_of_mem _ (List.mem_append_left _ (List.mem_append_left _ (List.mem_append_right _ h)))))
  revert hP hS
  intro hP hS
  refine lv_aload_n hx hb dX3_unplan_0 rfl (lv_at hl 0 rfl) ?_
  refine lv_iload_n hx hb dX3_unplan_1 rfl (lv_at hl 1 rfl) ?_
  obtain ⟨u_1, hg_2, h⟩ := ob_some h
  rcases oc_some h with ⟨o_4, h⟩ | ⟨k_3, hk_3, o_4, h⟩
  · refine zcSqn (W.runV (As := [.int p1]) (rest := []) ⟨hx, hb, hml, hown, hts⟩ (c_X3_liftNumbered l D cy a n V p1 hg_2) (cwV 1 hts gX3_unplan_X3_liftNumbered rfl rfl rfl hd_X3_liftNumbered ⟨Nat.le_of_ble_eq_true rfl, Nat.le_of_ble_eq_true rfl⟩) ⟨xI_blind, va_recv hK hP (ci := 3) (q0 := 0) rfl rfl, (xI_at hP hK hD)⟩ rfl rfl hl.1 rfl (lv_room (Nat.le_of_ble_eq_true rfl)) dX3_unplan_2 ⟨Nat.le_of_ble_eq_true rfl, Nat.le_of_ble_eq_true rfl⟩) o_4 ?_
    refine lv_astore_nN (lv' := [(2, .null), (0, .ref (a.1 0)), (1, .int p1)]) hx hb dX3_unplan_5 rfl hl (by decide) rfl (fun ls hl => ?_)
    refine lv_aload_nN hx hb dX3_unplan_6 rfl (lv_at hl 0 rfl) ?_
    refine lv_ifnonnullN hx hb dX3_unplan_7 ?_
    have h9 := Option.some.inj h
    subst h9
    exact vx_throw0 hx hb hl0 hown (by decide) (by decide) (hts _ (List.mem_of_getElem? (i := 1) rfl)) (hts _ (List.mem_of_getElem? (i := 2) rfl)) (vx_hat (fun w h9 => hts w (List.mem_cons_of_mem _ (List.mem_append_left _ (List.mem_append_right _ h9)))) (by decide +kernel) (xNB_3 hN.1 _)) (by decide +kernel) hN.2.1 hN.2.2.1 hS (hl.1.trans hml.symm) dX3_unplan_10 dX3_unplan_13 dX3_unplan_14 dX3_unplan_17 (fun z hz => (hN.2.2.2 z hz).elim) (Nat.le_of_ble_eq_true rfl) (Nat.le_of_ble_eq_true rfl) (Nat.le_of_ble_eq_true rfl) (Nat.le_of_ble_eq_true rfl) hlocks (fun t hvm hz hk => ⟨(), trivial, ⟨rfl, (show (3 : Nat) ≠ 0 by decide), zP_kept hP hk, hD⟩, zF_kept hS hz hk⟩) hS.2.2 (Nat.le_of_ble_eq_true rfl) (Nat.le_of_ble_eq_true rfl)
  · refine zcSqs (W.runV (As := [.int p1]) (rest := []) ⟨hx, hb, hml, hown, hts⟩ (c_X3_liftNumbered l D cy a n V p1 hg_2) (cwV 1 hts gX3_unplan_X3_liftNumbered rfl rfl rfl hd_X3_liftNumbered ⟨Nat.le_of_ble_eq_true rfl, Nat.le_of_ble_eq_true rfl⟩) ⟨xI_blind, va_recv hK hP (ci := 3) (q0 := 0) rfl rfl, (xI_at hP hK hD)⟩ rfl rfl hl.1 rfl (lv_room (Nat.le_of_ble_eq_true rfl)) dX3_unplan_2 ⟨Nat.le_of_ble_eq_true rfl, Nat.le_of_ble_eq_true rfl⟩) o_4 ?_
    refine lv_astore_n (lv' := [(2, .ref (a.2 1 k_3)), (0, .ref (a.1 0)), (1, .int p1)]) hx hb dX3_unplan_5 rfl hl (by decide) rfl (fun ls hl => ?_)
    refine lv_aload_n hx hb dX3_unplan_6 rfl (lv_at hl 0 rfl) ?_
    refine lv_ifnonnull (tgt := 18) hx hb dX3_unplan_7 (by decide) ?_
    refine lv_aload_n hx hb dX3_unplan_18 rfl (lv_at hl 0 rfl) ?_
    refine va_get (D := D) (ci := 1) (v := .int (V.1 1 k_3 8)) (C := RX1) (T := TX1) (N := 11) hx hb hts hinX1 hown hK hP _ (xpos_li hk_3) rfl 8 (by decide) (hts _ (List.mem_of_getElem? (i := 5) rfl)) (fun _ h9 => h9) rfl dX3_unplan_19 ?_
    refine lv_bipush (v := 112) hx hb dX3_unplan_22 (by decide) ?_
    refine lv_icmp_eq (tgt := 35) hx hb dX3_unplan_24 (by decide) (fun c_5 => ?_) (fun c_5 => ?_)
    · replace h := oi_t c_5 h
      refine lv_aload_n hx hb dX3_unplan_35 rfl (lv_at hl 0 rfl) ?_
      refine va_get (D := D) (ci := 1) (v := .int (V.1 1 k_3 6)) (C := RX1) (T := TX1) (N := 11) hx hb hts hinX1 hown hK hP _ (xpos_li hk_3) rfl 6 (by decide) (hts _ (List.mem_of_getElem? (i := 6) rfl)) (fun _ h9 => h9) rfl dX3_unplan_36 ?_
      refine lv_iconst (v := (-1)) hx hb dX3_unplan_39 (by decide) ?_
      refine lv_icmp_ne (tgt := 49) hx hb dX3_unplan_40 (by decide) (fun c_6 => ?_) (fun c_6 => ?_)
      · replace h := oi_f c_6 h
        refine lv_iconst (v := 0) hx hb dX3_unplan_49 (by decide) ?_
        refine lv_istore_n (lv' := [(3, .int 0), (2, .ref (a.2 1 k_3)), (0, .ref (a.1 0)), (1, .int p1)]) hx hb dX3_unplan_50 rfl hl (by decide) rfl (fun ls hl => ?_)
        refine lv_aload_n hx hb dX3_unplan_51 rfl (lv_at hl 2 rfl) ?_
        refine va_get (D := D) (ci := 3) (v := .ref (a.1 2)) (C := RX3) (T := TX3) (N := 10) hx hb hts hinX3 hown hK hP 0 rfl rfl 1 (by decide) (hts _ (List.mem_of_getElem? (i := 7) rfl)) (fun _ h9 => h9) rfl dX3_unplan_52 ?_
        refine lv_astore (lv' := [(4, .ref (a.1 2)), (3, .int 0), (2, .ref (a.2 1 k_3)), (0, .ref (a.1 0)), (1, .int p1)]) hx hb dX3_unplan_55 hl (by decide) rfl (fun ls hl => ?_)
        refine lv_aload hx hb dX3_unplan_57 (lv_at hl 0 rfl) ?_
        refine va_alen (v := 40) hx hb hK hP 2 5 rfl rfl rfl dX3_unplan_59 ?_
        refine lv_istore (lv' := [(5, .int 40), (4, .ref (a.1 2)), (3, .int 0), (2, .ref (a.2 1 k_3)), (0, .ref (a.1 0)), (1, .int p1)]) hx hb dX3_unplan_60 hl (by decide) rfl (fun ls hl => ?_)
        refine lv_iconst (v := 0) hx hb dX3_unplan_62 (by decide) ?_
        refine lv_istore (lv' := [(6, .int 0), (5, .int 40), (4, .ref (a.1 2)), (3, .int 0), (2, .ref (a.2 1 k_3)), (0, .ref (a.1 0)), (1, .int p1)]) hx hb dX3_unplan_63 hl (by decide) rfl (fun ls hl => ?_)
        exact k_X3_unplan_65 hl0 hx hb hr hts hml hown hlocks hK hA hN _ _ k_3 0 40 0 _ _ _ hk_3 ls h hP hD hS (lv_sub hl [4, 3, 2, 1, 0] rfl)
      · replace h := oi_t c_6 h
        refine lv_aload_n hx hb dX3_unplan_43 rfl (lv_at hl 0 rfl) ?_
        obtain ⟨u_15, hg_16, h⟩ := ob_some h
        refine zcWv (va_runV (As := []) (rest := []) ⟨hx, hb, hml, hown, hts⟩ (c_X1_takeBack l D cy a n V _ k_3 hk_3 hg_16) (cwV 0 hts gX3_unplan_X1_takeBack rfl rfl rfl hd_X1_takeBack ⟨Nat.le_of_ble_eq_true rfl, Nat.le_of_ble_eq_true rfl⟩) ⟨(zJ_blind xI_blind), va_recv hK hP (ci := 1) rfl (xpos_li hk_3), (zJ_at (xI_at hP hK hD))⟩ rfl rfl hl.1 rfl (lv_room (Nat.le_of_ble_eq_true rfl)) dX3_unplan_44 ⟨Nat.le_of_ble_eq_true rfl, Nat.le_of_ble_eq_true rfl⟩) hS (z_free hD hS hA) (fun H locs hP hD hS => ?_)
        refine lv_iconst (v := 1) hx hb dX3_unplan_47 (by decide) ?_
        have h9 := Option.some.inj h
        subst h9
        refine vx_ret ?_
        refine W.widen (k := 1) (n := 6) (Nat.le_of_ble_eq_true rfl) (Nat.le_of_ble_eq_true rfl) ?_
        exact W.iret (v := 1) hx hb hr (fun t ht hW => ⟨⟨1, (), rfl, ⟨rfl, rfl⟩, ⟨by rw [ht]; exact hP, hD⟩⟩, hS.F ht⟩) hS.2.2 dX3_unplan_48 hlocks
    · replace h := oi_f c_5 h
      have h9 := Option.some.inj h
      subst h9
      exact vx_throw0 hx hb hl0 hown (by decide) (by decide) (hts _ (List.mem_of_getElem? (i := 3) rfl)) (hts _ (List.mem_of_getElem? (i := 4) rfl)) (vx_hat (fun w h9 => hts w (List.mem_cons_of_mem _ (List.mem_append_right _ h9))) (by decide +kernel) (xNB_2 hN.1 _)) (by decide +kernel) hN.2.1 hN.2.2.1 hS (hl.1.trans hml.symm) dX3_unplan_27 dX3_unplan_30 dX3_unplan_31 dX3_unplan_34 (fun z hz => (hN.2.2.2 z hz).elim) (Nat.le_of_ble_eq_true rfl) (Nat.le_of_ble_eq_true rfl) (Nat.le_of_ble_eq_true rfl) (Nat.le_of_ble_eq_true rfl) hlocks (fun t hvm hz hk => ⟨(), trivial, ⟨rfl, (show (2 : Nat) ≠ 0 by decide), zP_kept hP hk, hD⟩, zF_kept hS hz hk⟩) hS.2.2 (Nat.le_of_ble_eq_true rfl) (Nat.le_of_ble_eq_true rfl)
def f_X3_pass_63 (n : Nat → Nat) : XV → Nat → Int32 → Int32 → Int32 → Option (Nat × Int32 × XV)
  | _, 0, _, _, _ => none
  | V, fu + 1, zx2, zx4, zx5 => oi (zx4 ≤ zx5) (some (0, zx2, V)) (og (¬ (zx5 < 0 ∨ 40 ≤ (zx5).toNatClampNeg)) (oc (n 1) (xref n 1 zx5) (f_X3_pass_63 n V fu zx2 zx4 (zx5 + 1)) (fun k_9 => oi ((V.1 1 k_9 8) = 112) (ob (f_X1_end n V k_9) (fun u_12 => oi ((V.2.2.1 7) < u_12) (oi ((V.2.2.1 7) ≤ (V.1 1 k_9 10)) (f_X3_pass_63 n V fu zx2 zx4 (zx5 + 1)) (ob (some (xput V 1 k_9 8 117)) (fun V_16 => f_X3_pass_63 n V_16 fu zx2 zx4 (zx5 + 1)))) (ob (some (xput V 1 k_9 8 100)) (fun V_18 => f_X3_pass_63 n V_18 fu (zx2 + 1) zx4 (zx5 + 1))))) (oi ((V.1 1 k_9 8) = 117) (ob (f_X1_end n V k_9) (fun u_21 => oi ((V.2.2.1 7) < u_21) (oi ((V.2.2.1 7) ≤ (V.1 1 k_9 10)) (f_X3_pass_63 n V fu zx2 zx4 (zx5 + 1)) (ob (some (xput V 1 k_9 8 117)) (fun V_25 => f_X3_pass_63 n V_25 fu zx2 zx4 (zx5 + 1)))) (ob (some (xput V 1 k_9 8 100)) (fun V_27 => f_X3_pass_63 n V_27 fu (zx2 + 1) zx4 (zx5 + 1))))) (f_X3_pass_63 n V fu zx2 zx4 (zx5 + 1))))))
def f_X3_pass (n : Nat → Nat) (V : XV) (p1 : Int32) : Option (Nat × Int32 × XV) := ob (f_X3_isFrom 1 p1 240) (fun u_1 => oi (u_1 = 0) (some (1, 0, V)) (oi (((V.2.2.1 7) + p1) ≤ 1440) (ob (some (xsc V 7 ((V.2.2.1 7) + p1))) (fun V_5 => f_X3_pass_63 n V_5 FU 0 40 0)) (some (2, 0, V))))
theorem hd_X3_pass : yX3_pass.cls = RX3 ∧ yX3_pass.cls ≠ "java/lang/invoke/MethodHandle" ∧ yX3_pass.cls ≠ "java/lang/invoke/VarHandle" ∧ (parseMethodDescriptor yX3_pass.desc).map (fun d => d.parameters.length) = some 1 := by decide +kernel
set_option maxHeartbeats 4000000 in
set_option maxRecDepth 100000 in
theorem k_X3_pass_63 {p : Program} {l : Launch} {e : Env} {s : State} {m : MethodId} {args : Array Value} {below : List Frame} {meth : Method} {c : Code} {D : va_G} {cy : Nat → ClassId} {a : XA} {n : Nat → Nat} {A : Nat → Prop} (hl0 : l.stackTraces = false) (hx : p.tables.exec = Jvm.exec) (hb : c.code = cX3_pass) (hr : meth.sig.returnType = (some .int)) (hts : ∀ w ∈ wsX3_pass, w.before args s = true) (hml : c.maxLocals = 7) (hown : s.vm.findClass RX3 = some m.cls) (hlocks : meth.locks = false) (hK : va_K D xcl (xty cy) s) (hA : ∀ q, s.heap.size ≤ q → A q) (hN : zN A c s) (res : Nat × Int32 × XV) : ∀ (fu : Nat) (zx2 : Int32) (zx4 : Int32) (zx5 : Int32) (V : XV) (H : Heap) (locs : List Loc)  (ls : Array Slot), f_X3_pass_63 n V fu zx2 zx4 zx5 = some res → va_P D xcl (xW cy a n V) H → va_D A (xW cy a n V) → va_S A s.heap H locs → lv_has ls 7 [(0, .ref (a.1 0)), (2, .int zx2), (3, .ref (a.1 2)), (4, .int zx4), (5, .int zx5)] → W p l e ({ frames := 7, cells := 1, slots := 6, locals := 120 } : Room) s m args below meth c H locs 0 0 (vx_MQ below (va_Qi (fun r (_ : Unit) => res.1 = 0 ∧ r = res.2.1) (fun _ t => va_P D xcl (xW cy a n res.2.2) t.heap ∧ va_D A (xW cy a n res.2.2)) A) (vx_X (fun (_ : Unit) => True) (fun E _ t => E = xnm res.1 ∧ res.1 ≠ 0 ∧ va_P D xcl (xW cy a n res.2.2) t.heap ∧ va_D A (xW cy a n res.2.2)) A) args s 1 6 (A)) (F0 m 63 ls []) := by
  have hinX1 : ∀ w ∈ wsX10, w ∈ wsX3_pass := (fun _ h => (List.mem_cons_of_mem _ (List.mem_append_left _ (List.mem_append_left _ (List.mem_append_right _ h)))))
  have hinX3 : ∀ w ∈ wsX30, w ∈ wsX3_pass := (fun _ h => (List.mem_cons_of_mem _ (List.mem_append_left _ (List.mem_append_left _ (List.mem_append_left _ (List.mem_append_right _ h))))))
  intro fu
  induction fu with
  | zero =>
    intro zx2 zx4 zx5 V H locs  ls h hP hD hS hl
    cases h
  | succ fu ih =>
    intro zx2 zx4 zx5 V H locs  ls h hP hD hS hl
    refine lv_iload hx hb dX3_pass_63 (lv_at hl 4 rfl) ?_
    refine lv_iload hx hb dX3_pass_65 (lv_at hl 3 rfl) ?_
    refine lv_icmp_ge (tgt := 151) hx hb dX3_pass_67 (by decide) (fun c_7 => ?_) (fun c_7 => ?_)
    · replace h := oi_t c_7 h
      refine lv_iload_n hx hb dX3_pass_151 rfl (lv_at hl 1 rfl) ?_
      have h9 := Option.some.inj h
      subst h9
      refine vx_ret ?_
      refine W.widen (k := 1) (n := 6) (Nat.le_of_ble_eq_true rfl) (Nat.le_of_ble_eq_true rfl) ?_
      exact W.iret (v := zx2) hx hb hr (fun t ht hW => ⟨⟨zx2, (), rfl, ⟨rfl, rfl⟩, ⟨by rw [ht]; exact hP, hD⟩⟩, hS.F ht⟩) hS.2.2 dX3_pass_152 hlocks
    · replace h := oi_f c_7 h
      refine lv_aload_n hx hb dX3_pass_70 rfl (lv_at hl 2 rfl) ?_
      refine lv_iload hx hb dX3_pass_71 (lv_at hl 4 rfl) ?_
      obtain ⟨g_8, h⟩ := og_some h
      rcases oc_some h with ⟨o_10, h⟩ | ⟨k_9, hk_9, o_10, h⟩
      · refine zaldn hx hb hK hP 2 5 rfl rfl g_8 o_10 dX3_pass_73 ?_
        refine lv_astoreN (lv' := [(6, .null), (0, .ref (a.1 0)), (2, .int zx2), (3, .ref (a.1 2)), (4, .int zx4), (5, .int zx5)]) hx hb dX3_pass_74 hl (by decide) rfl (fun ls hl => ?_)
        refine lv_aloadN hx hb dX3_pass_76 (lv_at hl 0 rfl) ?_
        refine lv_ifnullN (tgt := 145) hx hb dX3_pass_78 (by decide) ?_
        refine lv_iinc (v := zx5 + 1) (lv' := [(5, .int (zx5 + 1)), (6, .null), (0, .ref (a.1 0)), (2, .int zx2), (3, .ref (a.1 2)), (4, .int zx4)]) hx hb dX3_pass_145 hl (k := 5) rfl rfl (by decide) rfl (fun ls hl => ?_)
        refine lv_goto (tgt := 63) hx hb dX3_pass_148 (by decide) ?_
        exact ih zx2 zx4 (zx5 + 1) _ _ _  ls h hP hD hS (lv_sub hl [2, 3, 4, 5, 0] rfl)
      · refine zalds hx hb hK hP 2 5 rfl rfl g_8 o_10 dX3_pass_73 ?_
        refine lv_astore (lv' := [(6, .ref (a.2 1 k_9)), (0, .ref (a.1 0)), (2, .int zx2), (3, .ref (a.1 2)), (4, .int zx4), (5, .int zx5)]) hx hb dX3_pass_74 hl (by decide) rfl (fun ls hl => ?_)
        refine lv_aload hx hb dX3_pass_76 (lv_at hl 0 rfl) ?_
        refine lv_ifnull hx hb dX3_pass_78 ?_
        refine lv_aload hx hb dX3_pass_81 (lv_at hl 0 rfl) ?_
        refine va_get (D := D) (ci := 1) (v := .int (V.1 1 k_9 8)) (C := RX1) (T := TX1) (N := 11) hx hb hts hinX1 hown hK hP _ (xpos_li hk_9) rfl 8 (by decide) (hts _ (List.mem_of_getElem? (i := 7) rfl)) (fun _ h9 => h9) rfl dX3_pass_83 ?_
        refine lv_bipush (v := 112) hx hb dX3_pass_86 (by decide) ?_
        refine lv_icmp_eq (tgt := 101) hx hb dX3_pass_88 (by decide) (fun c_11 => ?_) (fun c_11 => ?_)
        · replace h := oi_t c_11 h
          refine lv_aload hx hb dX3_pass_101 (lv_at hl 0 rfl) ?_
          obtain ⟨u_12, hg_13, h⟩ := ob_some h
          refine zcSi (W.runV (As := []) (rest := []) ⟨hx, hb, hml, hown, hts⟩ (c_X1_end l D cy a n V k_9 hk_9 hg_13) (cwV 0 hts gX3_pass_X1_end rfl rfl rfl hd_X1_end ⟨Nat.le_of_ble_eq_true rfl, Nat.le_of_ble_eq_true rfl⟩) ⟨xI_blind, va_recv hK hP (ci := 1) rfl (xpos_li hk_9), (xI_at hP hK hD)⟩ rfl rfl hl.1 rfl (lv_room (Nat.le_of_ble_eq_true rfl)) dX3_pass_103 ⟨Nat.le_of_ble_eq_true rfl, Nat.le_of_ble_eq_true rfl⟩) ?_
          refine lv_aload_n hx hb dX3_pass_106 rfl (lv_at hl 1 rfl) ?_
          refine va_get (D := D) (ci := 3) (v := .int (V.2.2.1 7)) (C := RX3) (T := TX3) (N := 10) hx hb hts hinX3 hown hK hP 0 rfl rfl 7 (by decide) (hts _ (List.mem_of_getElem? (i := 5) rfl)) (fun _ h9 => h9) rfl dX3_pass_107 ?_
          refine lv_icmp_gt (tgt := 126) hx hb dX3_pass_110 (by decide) (fun c_14 => ?_) (fun c_14 => ?_)
          · replace h := oi_t c_14 h
            refine lv_aload hx hb dX3_pass_126 (lv_at hl 0 rfl) ?_
            refine va_get (D := D) (ci := 1) (v := .int (V.1 1 k_9 10)) (C := RX1) (T := TX1) (N := 11) hx hb hts hinX1 hown hK hP _ (xpos_li hk_9) rfl 10 (by decide) (hts _ (List.mem_of_getElem? (i := 8) rfl)) (fun _ h9 => h9) rfl dX3_pass_128 ?_
            refine lv_aload_n hx hb dX3_pass_131 rfl (lv_at hl 1 rfl) ?_
            refine va_get (D := D) (ci := 3) (v := .int (V.2.2.1 7)) (C := RX3) (T := TX3) (N := 10) hx hb hts hinX3 hown hK hP 0 rfl rfl 7 (by decide) (hts _ (List.mem_of_getElem? (i := 5) rfl)) (fun _ h9 => h9) rfl dX3_pass_132 ?_
            refine lv_icmp_ge (tgt := 145) hx hb dX3_pass_135 (by decide) (fun c_15 => ?_) (fun c_15 => ?_)
            · replace h := oi_t c_15 h
              refine lv_iinc (v := zx5 + 1) (lv' := [(5, .int (zx5 + 1)), (6, .ref (a.2 1 k_9)), (0, .ref (a.1 0)), (2, .int zx2), (3, .ref (a.1 2)), (4, .int zx4)]) hx hb dX3_pass_145 hl (k := 5) rfl rfl (by decide) rfl (fun ls hl => ?_)
              refine lv_goto (tgt := 63) hx hb dX3_pass_148 (by decide) ?_
              exact ih zx2 zx4 (zx5 + 1) _ _ _  ls h hP hD hS (lv_sub hl [2, 3, 4, 5, 0] rfl)
            · replace h := oi_f c_15 h
              refine lv_aload hx hb dX3_pass_138 (lv_at hl 0 rfl) ?_
              refine lv_bipush (v := 117) hx hb dX3_pass_140 (by decide) ?_
              refine va_put (D := D) (ci := 1) (v := .int 117) (ty := .char) (C := RX1) (T := TX1) (N := 11) hx hb hts hinX1 tyX1 tyX1_ok nmX1 hown hK hP hD hS _ (xpos_li hk_9) rfl 8 (by decide) (hts _ (List.mem_of_getElem? (i := 7) rfl)) (fun _ h9 => h9) rfl (by decide +kernel) (by decide) (by decide) (Nat.le_of_ble_eq_true rfl) dX3_pass_142 (fun H locs hP hD hS => ?_)
              rw [xset_li 8 (by decide) hk_9 _] at hP hD
              obtain ⟨V_16, eV_17, h⟩ := ob_some h
              rw [Option.some.inj eV_17] at hP hD
              refine lv_iinc (v := zx5 + 1) (lv' := [(5, .int (zx5 + 1)), (6, .ref (a.2 1 k_9)), (0, .ref (a.1 0)), (2, .int zx2), (3, .ref (a.1 2)), (4, .int zx4)]) hx hb dX3_pass_145 hl (k := 5) rfl rfl (by decide) rfl (fun ls hl => ?_)
              refine lv_goto (tgt := 63) hx hb dX3_pass_148 (by decide) ?_
              exact ih zx2 zx4 (zx5 + 1) _ _ _  ls h hP hD hS (lv_sub hl [2, 3, 4, 5, 0] rfl)
          · replace h := oi_f c_14 h
            refine lv_aload hx hb dX3_pass_113 (lv_at hl 0 rfl) ?_
            refine lv_bipush (v := 100) hx hb dX3_pass_115 (by decide) ?_
            refine va_put (D := D) (ci := 1) (v := .int 100) (ty := .char) (C := RX1) (T := TX1) (N := 11) hx hb hts hinX1 tyX1 tyX1_ok nmX1 hown hK hP hD hS _ (xpos_li hk_9) rfl 8 (by decide) (hts _ (List.mem_of_getElem? (i := 7) rfl)) (fun _ h9 => h9) rfl (by decide +kernel) (by decide) (by decide) (Nat.le_of_ble_eq_true rfl) dX3_pass_117 (fun H locs hP hD hS => ?_)
            rw [xset_li 8 (by decide) hk_9 _] at hP hD
            obtain ⟨V_18, eV_19, h⟩ := ob_some h
            rw [Option.some.inj eV_19] at hP hD
            refine lv_iinc (v := zx2 + 1) (lv' := [(2, .int (zx2 + 1)), (6, .ref (a.2 1 k_9)), (0, .ref (a.1 0)), (3, .ref (a.1 2)), (4, .int zx4), (5, .int zx5)]) hx hb dX3_pass_120 hl (k := 2) rfl rfl (by decide) rfl (fun ls hl => ?_)
            refine lv_goto (tgt := 145) hx hb dX3_pass_123 (by decide) ?_
            refine lv_iinc (v := zx5 + 1) (lv' := [(5, .int (zx5 + 1)), (2, .int (zx2 + 1)), (6, .ref (a.2 1 k_9)), (0, .ref (a.1 0)), (3, .ref (a.1 2)), (4, .int zx4)]) hx hb dX3_pass_145 hl (k := 5) rfl rfl (by decide) rfl (fun ls hl => ?_)
            refine lv_goto (tgt := 63) hx hb dX3_pass_148 (by decide) ?_
            exact ih (zx2 + 1) zx4 (zx5 + 1) _ _ _  ls h hP hD hS (lv_sub hl [3, 1, 4, 5, 0] rfl)
        · replace h := oi_f c_11 h
          refine lv_aload hx hb dX3_pass_91 (lv_at hl 0 rfl) ?_
          refine va_get (D := D) (ci := 1) (v := .int (V.1 1 k_9 8)) (C := RX1) (T := TX1) (N := 11) hx hb hts hinX1 hown hK hP _ (xpos_li hk_9) rfl 8 (by decide) (hts _ (List.mem_of_getElem? (i := 7) rfl)) (fun _ h9 => h9) rfl dX3_pass_93 ?_
          refine lv_bipush (v := 117) hx hb dX3_pass_96 (by decide) ?_
          refine lv_icmp_ne (tgt := 145) hx hb dX3_pass_98 (by decide) (fun c_20 => ?_) (fun c_20 => ?_)
          · replace h := oi_f c_20 h
            refine lv_iinc (v := zx5 + 1) (lv' := [(5, .int (zx5 + 1)), (6, .ref (a.2 1 k_9)), (0, .ref (a.1 0)), (2, .int zx2), (3, .ref (a.1 2)), (4, .int zx4)]) hx hb dX3_pass_145 hl (k := 5) rfl rfl (by decide) rfl (fun ls hl => ?_)
            refine lv_goto (tgt := 63) hx hb dX3_pass_148 (by decide) ?_
            exact ih zx2 zx4 (zx5 + 1) _ _ _  ls h hP hD hS (lv_sub hl [2, 3, 4, 5, 0] rfl)
          · replace h := oi_t c_20 h
            refine lv_aload hx hb dX3_pass_101 (lv_at hl 0 rfl) ?_
            obtain ⟨u_21, hg_22, h⟩ := ob_some h
            refine zcSi (W.runV (As := []) (rest := []) ⟨hx, hb, hml, hown, hts⟩ (c_X1_end l D cy a n V k_9 hk_9 hg_22) (cwV 0 hts gX3_pass_X1_end rfl rfl rfl hd_X1_end ⟨Nat.le_of_ble_eq_true rfl, Nat.le_of_ble_eq_true rfl⟩) ⟨xI_blind, va_recv hK hP (ci := 1) rfl (xpos_li hk_9), (xI_at hP hK hD)⟩ rfl rfl hl.1 rfl (lv_room (Nat.le_of_ble_eq_true rfl)) dX3_pass_103 ⟨Nat.le_of_ble_eq_true rfl, Nat.le_of_ble_eq_true rfl⟩) ?_
            refine lv_aload_n hx hb dX3_pass_106 rfl (lv_at hl 1 rfl) ?_
            refine va_get (D := D) (ci := 3) (v := .int (V.2.2.1 7)) (C := RX3) (T := TX3) (N := 10) hx hb hts hinX3 hown hK hP 0 rfl rfl 7 (by decide) (hts _ (List.mem_of_getElem? (i := 5) rfl)) (fun _ h9 => h9) rfl dX3_pass_107 ?_
            refine lv_icmp_gt (tgt := 126) hx hb dX3_pass_110 (by decide) (fun c_23 => ?_) (fun c_23 => ?_)
            · replace h := oi_t c_23 h
              refine lv_aload hx hb dX3_pass_126 (lv_at hl 0 rfl) ?_
              refine va_get (D := D) (ci := 1) (v := .int (V.1 1 k_9 10)) (C := RX1) (T := TX1) (N := 11) hx hb hts hinX1 hown hK hP _ (xpos_li hk_9) rfl 10 (by decide) (hts _ (List.mem_of_getElem? (i := 8) rfl)) (fun _ h9 => h9) rfl dX3_pass_128 ?_
              refine lv_aload_n hx hb dX3_pass_131 rfl (lv_at hl 1 rfl) ?_
              refine va_get (D := D) (ci := 3) (v := .int (V.2.2.1 7)) (C := RX3) (T := TX3) (N := 10) hx hb hts hinX3 hown hK hP 0 rfl rfl 7 (by decide) (hts _ (List.mem_of_getElem? (i := 5) rfl)) (fun _ h9 => h9) rfl dX3_pass_132 ?_
              refine lv_icmp_ge (tgt := 145) hx hb dX3_pass_135 (by decide) (fun c_24 => ?_) (fun c_24 => ?_)
              · replace h := oi_t c_24 h
                refine lv_iinc (v := zx5 + 1) (lv' := [(5, .int (zx5 + 1)), (6, .ref (a.2 1 k_9)), (0, .ref (a.1 0)), (2, .int zx2), (3, .ref (a.1 2)), (4, .int zx4)]) hx hb dX3_pass_145 hl (k := 5) rfl rfl (by decide) rfl (fun ls hl => ?_)
                refine lv_goto (tgt := 63) hx hb dX3_pass_148 (by decide) ?_
                exact ih zx2 zx4 (zx5 + 1) _ _ _  ls h hP hD hS (lv_sub hl [2, 3, 4, 5, 0] rfl)
              · replace h := oi_f c_24 h
                refine lv_aload hx hb dX3_pass_138 (lv_at hl 0 rfl) ?_
                refine lv_bipush (v := 117) hx hb dX3_pass_140 (by decide) ?_
                refine va_put (D := D) (ci := 1) (v := .int 117) (ty := .char) (C := RX1) (T := TX1) (N := 11) hx hb hts hinX1 tyX1 tyX1_ok nmX1 hown hK hP hD hS _ (xpos_li hk_9) rfl 8 (by decide) (hts _ (List.mem_of_getElem? (i := 7) rfl)) (fun _ h9 => h9) rfl (by decide +kernel) (by decide) (by decide) (Nat.le_of_ble_eq_true rfl) dX3_pass_142 (fun H locs hP hD hS => ?_)
                rw [xset_li 8 (by decide) hk_9 _] at hP hD
                obtain ⟨V_25, eV_26, h⟩ := ob_some h
                rw [Option.some.inj eV_26] at hP hD
                refine lv_iinc (v := zx5 + 1) (lv' := [(5, .int (zx5 + 1)), (6, .ref (a.2 1 k_9)), (0, .ref (a.1 0)), (2, .int zx2), (3, .ref (a.1 2)), (4, .int zx4)]) hx hb dX3_pass_145 hl (k := 5) rfl rfl (by decide) rfl (fun ls hl => ?_)
                refine lv_goto (tgt := 63) hx hb dX3_pass_148 (by decide) ?_
                exact ih zx2 zx4 (zx5 + 1) _ _ _  ls h hP hD hS (lv_sub hl [2, 3, 4, 5, 0] rfl)
            · replace h := oi_f c_23 h
              refine lv_aload hx hb dX3_pass_113 (lv_at hl 0 rfl) ?_
              refine lv_bipush (v := 100) hx hb dX3_pass_115 (by decide) ?_
              refine va_put (D := D) (ci := 1) (v := .int 100) (ty := .char) (C := RX1) (T := TX1) (N := 11) hx hb hts hinX1 tyX1 tyX1_ok nmX1 hown hK hP hD hS _ (xpos_li hk_9) rfl 8 (by decide) (hts _ (List.mem_of_getElem? (i := 7) rfl)) (fun _ h9 => h9) rfl (by decide +kernel) (by decide) (by decide) (Nat.le_of_ble_eq_true rfl) dX3_pass_117 (fun H locs hP hD hS => ?_)
              rw [xset_li 8 (by decide) hk_9 _] at hP hD
              obtain ⟨V_27, eV_28, h⟩ := ob_some h
              rw [Option.some.inj eV_28] at hP hD
              refine lv_iinc (v := zx2 + 1) (lv' := [(2, .int (zx2 + 1)), (6, .ref (a.2 1 k_9)), (0, .ref (a.1 0)), (3, .ref (a.1 2)), (4, .int zx4), (5, .int zx5)]) hx hb dX3_pass_120 hl (k := 2) rfl rfl (by decide) rfl (fun ls hl => ?_)
              refine lv_goto (tgt := 145) hx hb dX3_pass_123 (by decide) ?_
              refine lv_iinc (v := zx5 + 1) (lv' := [(5, .int (zx5 + 1)), (2, .int (zx2 + 1)), (6, .ref (a.2 1 k_9)), (0, .ref (a.1 0)), (3, .ref (a.1 2)), (4, .int zx4)]) hx hb dX3_pass_145 hl (k := 5) rfl rfl (by decide) rfl (fun ls hl => ?_)
              refine lv_goto (tgt := 63) hx hb dX3_pass_148 (by decide) ?_
              exact ih (zx2 + 1) zx4 (zx5 + 1) _ _ _  ls h hP hD hS (lv_sub hl [3, 1, 4, 5, 0] rfl)
set_option maxHeartbeats 4000000 in
set_option maxRecDepth 100000 in
theorem c_X3_pass (l : Launch) (hl0 : l.stackTraces = false) (D : va_G) (cy : Nat → ClassId) (a : XA) (n : Nat → Nat) (V : XV) (sz : Nat) (p1 : Int32) {res : Nat × Int32 × XV} (h : f_X3_pass n V p1 = some res) : vx_Met l yX3_pass wsX3_pass ({ frames := 7, cells := 1, slots := 6, locals := 120 } : Room) (va_Pc [.ref (a.1 0), .int p1] (zX sz (va_A (xW cy a n V) sz) (xI D cy a n V))) (va_Qi (fun r (_ : Unit) => res.1 = 0 ∧ r = res.2.1) (fun _ t => va_P D xcl (xW cy a n res.2.2) t.heap ∧ va_D (va_A (xW cy a n V) sz) (xW cy a n res.2.2)) (va_A (xW cy a n V) sz)) (vx_X (fun (_ : Unit) => True) (fun E _ t => E = xnm res.1 ∧ res.1 ≠ 0 ∧ va_P D xcl (xW cy a n res.2.2) t.heap ∧ va_D (va_A (xW cy a n V) sz) (xW cy a n res.2.2)) (va_A (xW cy a n V) sz)) 1 6 (va_A (xW cy a n V) sz) := by
  refine vx_ofW (cc := cX3_pass) (maxL := 7) (ret := (some .int)) (by decide) rfl ?_
  intro p e s m args below meth c s₁ B hml hex hv
  obtain ⟨rfl, hsz, hZ, hP, hK, hD0⟩ := hv
  have hx := B.exec
  have hb := B.bytes
  have hr := B.returns
  have hts := atoms_spec (ws := wsX3_pass) B.pre
  have hown : s.vm.findClass RX3 = some m.cls := findClass_of_methodNamed B.named
  have hlocks := B.notSynchronized
  subst hsz
  have hD := hD0.self (sz := s.heap.size)
  have hN : zN (va_A (xW cy a n V) s.heap.size) c s := ⟨hZ.1, hZ.2.1, hZ.2.2, hex⟩
  generalize hAe : va_A (xW cy a n V) s.heap.size = A at hD hN ⊢
  have hA : ∀ q : Nat, s.heap.size ≤ q → A q := fun q h => by rw [← hAe]; exact Or.inr h
  have hS : va_S A s.heap s.heap [] := va_S.rf
  have hl := lv_entry ([.ref (a.1 0), .int p1]) (n := 7) (Nat.le_of_ble_eq_true rfl)
  rw [lg_entry_eq]
  generalize (lg_sl ([.ref (a.1 0), .int p1]) ++ List.replicate (7 - (lg_sl ([.ref (a.1 0), .int p1])).length) Slot.unset).toArray = ls at hl ⊢
  have hl : lv_has ls 7 [(0, .ref (a.1 0)), (1, .int p1)] := hl
  have hinX3 : ∀ w ∈ wsX30, w ∈ wsX3_pass := (fun _ h => (List.mem_cons_of_mem _ (List.mem_append_left _ (List.mem_append_left _ (List.mem_append_left _ (List.mem_append_right _ h))))))
  revert hP hS
  intro hP hS
  refine lv_iconst (v := 1) hx hb dX3_pass_0 (by decide) ?_
  refine lv_iload_n hx hb dX3_pass_1 rfl (lv_at hl 1 rfl) ?_
  refine lv_sipush (v := 240) hx hb dX3_pass_2 (by decide) ?_
  obtain ⟨u_1, hg_2, h⟩ := ob_some h
  refine zcSi (W.runS (As := [.int 1, .int p1, .int 240]) (rest := []) ⟨hx, hb, hml, hown, hts⟩ (c_X3_isFrom l 1 p1 240 hg_2) (va_cwS 3 hts gX3_pass_X3_isFrom rfl rfl rfl hd_X3_isFrom ⟨Nat.le_of_ble_eq_true rfl, Nat.le_of_ble_eq_true rfl⟩) ⟨zT_blind, zT_at⟩ rfl rfl hl.1 rfl (lv_room (Nat.le_of_ble_eq_true rfl)) dX3_pass_5 ⟨Nat.le_of_ble_eq_true rfl, Nat.le_of_ble_eq_true rfl⟩) ?_
  refine lv_if_ne (tgt := 19) hx hb dX3_pass_8 (by decide) (fun c_3 => ?_) (fun c_3 => ?_)
  · replace h := oi_f c_3 h
    refine lv_aload_n hx hb dX3_pass_19 rfl (lv_at hl 0 rfl) ?_
    refine va_get (D := D) (ci := 3) (v := .int (V.2.2.1 7)) (C := RX3) (T := TX3) (N := 10) hx hb hts hinX3 hown hK hP 0 rfl rfl 7 (by decide) (hts _ (List.mem_of_getElem? (i := 5) rfl)) (fun _ h9 => h9) rfl dX3_pass_20 ?_
    refine lv_iload_n hx hb dX3_pass_23 rfl (lv_at hl 1 rfl) ?_
    refine lv_iadd hx hb dX3_pass_24 ?_
    refine lv_sipush (v := 1440) hx hb dX3_pass_25 (by decide) ?_
    refine lv_icmp_le (tgt := 39) hx hb dX3_pass_28 (by decide) (fun c_4 => ?_) (fun c_4 => ?_)
    · replace h := oi_t c_4 h
      refine lv_aload_n hx hb dX3_pass_39 rfl (lv_at hl 0 rfl) ?_
      refine lv_dup hx hb dX3_pass_40 rfl ?_
      refine va_get (D := D) (ci := 3) (v := .int (V.2.2.1 7)) (C := RX3) (T := TX3) (N := 10) hx hb hts hinX3 hown hK hP 0 rfl rfl 7 (by decide) (hts _ (List.mem_of_getElem? (i := 5) rfl)) (fun _ h9 => h9) rfl dX3_pass_41 ?_
      refine lv_iload_n hx hb dX3_pass_44 rfl (lv_at hl 1 rfl) ?_
      refine lv_iadd hx hb dX3_pass_45 ?_
      refine va_put (D := D) (ci := 3) (v := .int ((V.2.2.1 7) + p1)) (ty := .int) (C := RX3) (T := TX3) (N := 10) hx hb hts hinX3 tyX3 tyX3_ok nmX3 hown hK hP hD hS 0 rfl rfl 7 (by decide) (hts _ (List.mem_of_getElem? (i := 5) rfl)) (fun _ h9 => h9) rfl (by decide +kernel) rfl rfl (Nat.le_of_ble_eq_true rfl) dX3_pass_46 (fun H locs hP hD hS => ?_)
      replace hP : va_P D xcl (xW cy a n (xsc V 7 ((V.2.2.1 7) + p1))) H := hP
      replace hD : va_D A (xW cy a n (xsc V 7 ((V.2.2.1 7) + p1))) := hD
      obtain ⟨V_5, eV_6, h⟩ := ob_some h
      rw [Option.some.inj eV_6] at hP hD
      refine lv_iconst (v := 0) hx hb dX3_pass_49 (by decide) ?_
      refine lv_istore_n (lv' := [(2, .int 0), (0, .ref (a.1 0)), (1, .int p1)]) hx hb dX3_pass_50 rfl hl (by decide) rfl (fun ls hl => ?_)
      refine lv_aload_n hx hb dX3_pass_51 rfl (lv_at hl 1 rfl) ?_
      refine va_get (D := D) (ci := 3) (v := .ref (a.1 2)) (C := RX3) (T := TX3) (N := 10) hx hb hts hinX3 hown hK hP 0 rfl rfl 1 (by decide) (hts _ (List.mem_of_getElem? (i := 6) rfl)) (fun _ h9 => h9) rfl dX3_pass_52 ?_
      refine lv_astore_n (lv' := [(3, .ref (a.1 2)), (2, .int 0), (0, .ref (a.1 0)), (1, .int p1)]) hx hb dX3_pass_55 rfl hl (by decide) rfl (fun ls hl => ?_)
      refine lv_aload_n hx hb dX3_pass_56 rfl (lv_at hl 0 rfl) ?_
      refine va_alen (v := 40) hx hb hK hP 2 5 rfl rfl rfl dX3_pass_57 ?_
      refine lv_istore (lv' := [(4, .int 40), (3, .ref (a.1 2)), (2, .int 0), (0, .ref (a.1 0)), (1, .int p1)]) hx hb dX3_pass_58 hl (by decide) rfl (fun ls hl => ?_)
      refine lv_iconst (v := 0) hx hb dX3_pass_60 (by decide) ?_
      refine lv_istore (lv' := [(5, .int 0), (4, .int 40), (3, .ref (a.1 2)), (2, .int 0), (0, .ref (a.1 0)), (1, .int p1)]) hx hb dX3_pass_61 hl (by decide) rfl (fun ls hl => ?_)
      exact k_X3_pass_63 hl0 hx hb hr hts hml hown hlocks hK hA hN _ _ 0 40 0 _ _ _  ls h hP hD hS (lv_sub hl [4, 3, 2, 1, 0] rfl)
    · replace h := oi_f c_4 h
      have h9 := Option.some.inj h
      subst h9
      exact vx_throw0 hx hb hl0 hown (by decide) (by decide) (hts _ (List.mem_of_getElem? (i := 3) rfl)) (hts _ (List.mem_of_getElem? (i := 4) rfl)) (vx_hat (fun w h9 => hts w (List.mem_cons_of_mem _ (List.mem_append_right _ h9))) (by decide +kernel) (xNB_2 hN.1 _)) (by decide +kernel) hN.2.1 hN.2.2.1 hS (hl.1.trans hml.symm) dX3_pass_31 dX3_pass_34 dX3_pass_35 dX3_pass_38 (fun z hz => (hN.2.2.2 z hz).elim) (Nat.le_of_ble_eq_true rfl) (Nat.le_of_ble_eq_true rfl) (Nat.le_of_ble_eq_true rfl) (Nat.le_of_ble_eq_true rfl) hlocks (fun t hvm hz hk => ⟨(), trivial, ⟨rfl, (show (2 : Nat) ≠ 0 by decide), zP_kept hP hk, hD⟩, zF_kept hS hz hk⟩) hS.2.2 (Nat.le_of_ble_eq_true rfl) (Nat.le_of_ble_eq_true rfl)
  · replace h := oi_t c_3 h
    have h9 := Option.some.inj h
    subst h9
    exact vx_throw0 hx hb hl0 hown (by decide) (by decide) (hts _ (List.mem_of_getElem? (i := 1) rfl)) (hts _ (List.mem_of_getElem? (i := 2) rfl)) (vx_hat (fun w h9 => hts w (List.mem_cons_of_mem _ (List.mem_append_left _ (List.mem_append_right _ h9)))) (by decide +kernel) (xNB_1 hN.1 _)) (by decide +kernel) hN.2.1 hN.2.2.1 hS (hl.1.trans hml.symm) dX3_pass_11 dX3_pass_14 dX3_pass_15 dX3_pass_18 (fun z hz => (hN.2.2.2 z hz).elim) (Nat.le_of_ble_eq_true rfl) (Nat.le_of_ble_eq_true rfl) (Nat.le_of_ble_eq_true rfl) (Nat.le_of_ble_eq_true rfl) hlocks (fun t hvm hz hk => ⟨(), trivial, ⟨rfl, (show (1 : Nat) ≠ 0 by decide), zP_kept hP hk, hD⟩, zF_kept hS hz hk⟩) hS.2.2 (Nat.le_of_ble_eq_true rfl) (Nat.le_of_ble_eq_true rfl)
def f_X3_limit (n : Nat → Nat) (V : XV) (p1 : Int32) (p2 : Int32) (p3 : Int32) : Option (Nat × Int32) := ob (f_X3_craneNumbered n V p1) (fun u_1 => oc (n 0) u_1 (some (3, 0)) (fun k_3 => ob (f_X3_isPlace p2 p3) (fun u_5 => oi (u_5 = 0) (some (1, 0)) (ob (f_X0_reaches n V k_3 p2 p3) (fun u_8 => oi (u_8 = 0) (some (0, 0)) (ob (f_X0_strengthAt n V k_3 p2 p3 (V.2.2.1 6)) (fun u_11 => some (0, u_11))))))))
theorem hd_X3_limit : yX3_limit.cls = RX3 ∧ yX3_limit.cls ≠ "java/lang/invoke/MethodHandle" ∧ yX3_limit.cls ≠ "java/lang/invoke/VarHandle" ∧ (parseMethodDescriptor yX3_limit.desc).map (fun d => d.parameters.length) = some 3 := by decide +kernel
set_option maxHeartbeats 4000000 in
set_option maxRecDepth 100000 in
theorem c_X3_limit (l : Launch) (hl0 : l.stackTraces = false) (D : va_G) (cy : Nat → ClassId) (a : XA) (n : Nat → Nat) (V : XV) (sz : Nat) (p1 : Int32) (p2 : Int32) (p3 : Int32) {res : Nat × Int32} (h : f_X3_limit n V p1 p2 p3 = some res) : vx_Met l yX3_limit wsX3_limit ({ frames := 7, cells := 1, slots := 6, locals := 120 } : Room) (va_Pc [.ref (a.1 0), .int p1, .int p2, .int p3] (zX sz (va_A (xW cy a n V) sz) (xI D cy a n V))) (va_Qi (fun r (_ : Unit) => res.1 = 0 ∧ r = res.2) (fun _ t => va_P D xcl (xW cy a n V) t.heap ∧ va_D (va_A (xW cy a n V) sz) (xW cy a n V)) (va_A (xW cy a n V) sz)) (vx_X (fun (_ : Unit) => True) (fun E _ t => E = xnm res.1 ∧ res.1 ≠ 0 ∧ va_P D xcl (xW cy a n V) t.heap ∧ va_D (va_A (xW cy a n V) sz) (xW cy a n V)) (va_A (xW cy a n V) sz)) 1 6 (va_A (xW cy a n V) sz) := by
  refine vx_ofW (cc := cX3_limit) (maxL := 5) (ret := (some .int)) (by decide) rfl ?_
  intro p e s m args below meth c s₁ B hml hex hv
  obtain ⟨rfl, hsz, hZ, hP, hK, hD0⟩ := hv
  have hx := B.exec
  have hb := B.bytes
  have hr := B.returns
  have hts := atoms_spec (ws := wsX3_limit) B.pre
  have hown : s.vm.findClass RX3 = some m.cls := findClass_of_methodNamed B.named
  have hlocks := B.notSynchronized
  subst hsz
  have hD := hD0.self (sz := s.heap.size)
  have hN : zN (va_A (xW cy a n V) s.heap.size) c s := ⟨hZ.1, hZ.2.1, hZ.2.2, hex⟩
  generalize hAe : va_A (xW cy a n V) s.heap.size = A at hD hN ⊢
  have hA : ∀ q : Nat, s.heap.size ≤ q → A q := fun q h => by rw [← hAe]; exact Or.inr h
  have hl := lv_entry ([.ref (a.1 0), .int p1, .int p2, .int p3]) (n := 5) (Nat.le_of_ble_eq_true rfl)
  rw [lg_entry_eq]
  generalize (lg_sl ([.ref (a.1 0), .int p1, .int p2, .int p3]) ++ List.replicate (5 - (lg_sl ([.ref (a.1 0), .int p1, .int p2, .int p3])).length) Slot.unset).toArray = ls at hl ⊢
  have hl : lv_has ls 5 [(0, .ref (a.1 0)), (1, .int p1), (2, .int p2), (3, .int p3)] := hl
  have hinX3 : ∀ w ∈ wsX30, w ∈ wsX3_limit := (fun _ h => (List.mem_cons_of_mem _ (List.mem_append_left _ (List.mem_append_left _ (List.mem_append_left _ (List.mem_append_left _ (List.mem_append_right _ h)))))))
  refine lv_aload_n hx hb dX3_limit_0 rfl (lv_at hl 0 rfl) ?_
  refine lv_iload_n hx hb dX3_limit_1 rfl (lv_at hl 1 rfl) ?_
  obtain ⟨u_1, hg_2, h⟩ := ob_some h
  rcases oc_some h with ⟨o_4, h⟩ | ⟨k_3, hk_3, o_4, h⟩
  · refine zcSqn (W.runV (As := [.int p1]) (rest := []) ⟨hx, hb, hml, hown, hts⟩ (c_X3_craneNumbered l D cy a n V p1 hg_2) (cwV 1 hts gX3_limit_X3_craneNumbered rfl rfl rfl hd_X3_craneNumbered ⟨Nat.le_of_ble_eq_true rfl, Nat.le_of_ble_eq_true rfl⟩) ⟨xI_blind, va_recv hK hP (ci := 3) (q0 := 0) rfl rfl, (xI_at hP hK hD)⟩ rfl rfl hl.1 rfl (lv_room (Nat.le_of_ble_eq_true rfl)) dX3_limit_2 ⟨Nat.le_of_ble_eq_true rfl, Nat.le_of_ble_eq_true rfl⟩) o_4 ?_
    refine lv_astoreN (lv' := [(4, .null), (0, .ref (a.1 0)), (1, .int p1), (2, .int p2), (3, .int p3)]) hx hb dX3_limit_5 hl (by decide) rfl (fun ls hl => ?_)
    refine lv_aloadN hx hb dX3_limit_7 (lv_at hl 0 rfl) ?_
    refine lv_ifnonnullN hx hb dX3_limit_9 ?_
    have h9 := Option.some.inj h
    subst h9
    exact vx_throw0 hx hb hl0 hown (by decide) (by decide) (hts _ (List.mem_of_getElem? (i := 1) rfl)) (hts _ (List.mem_of_getElem? (i := 2) rfl)) (vx_hat (fun w h9 => hts w (List.mem_cons_of_mem _ (List.mem_append_left _ (List.mem_append_left _ (List.mem_append_right _ h9))))) (by decide +kernel) (xNB_3 hN.1 _)) (by decide +kernel) hN.2.1 hN.2.2.1 va_S.rf (hl.1.trans hml.symm) dX3_limit_12 dX3_limit_15 dX3_limit_16 dX3_limit_19 (fun z hz => (hN.2.2.2 z hz).elim) (Nat.le_of_ble_eq_true rfl) (Nat.le_of_ble_eq_true rfl) (Nat.le_of_ble_eq_true rfl) (Nat.le_of_ble_eq_true rfl) hlocks (fun t hvm hz hk => ⟨(), trivial, ⟨rfl, (show (3 : Nat) ≠ 0 by decide), zP_kept hP hk, hD⟩, zF_kept va_S.rf hz hk⟩) (fun _ hq => absurd hq List.not_mem_nil) (Nat.le_of_ble_eq_true rfl) (Nat.le_of_ble_eq_true rfl)
  · refine zcSqs (W.runV (As := [.int p1]) (rest := []) ⟨hx, hb, hml, hown, hts⟩ (c_X3_craneNumbered l D cy a n V p1 hg_2) (cwV 1 hts gX3_limit_X3_craneNumbered rfl rfl rfl hd_X3_craneNumbered ⟨Nat.le_of_ble_eq_true rfl, Nat.le_of_ble_eq_true rfl⟩) ⟨xI_blind, va_recv hK hP (ci := 3) (q0 := 0) rfl rfl, (xI_at hP hK hD)⟩ rfl rfl hl.1 rfl (lv_room (Nat.le_of_ble_eq_true rfl)) dX3_limit_2 ⟨Nat.le_of_ble_eq_true rfl, Nat.le_of_ble_eq_true rfl⟩) o_4 ?_
    refine lv_astore (lv' := [(4, .ref (a.2 0 k_3)), (0, .ref (a.1 0)), (1, .int p1), (2, .int p2), (3, .int p3)]) hx hb dX3_limit_5 hl (by decide) rfl (fun ls hl => ?_)
    refine lv_aload hx hb dX3_limit_7 (lv_at hl 0 rfl) ?_
    refine lv_ifnonnull (tgt := 20) hx hb dX3_limit_9 (by decide) ?_
    refine lv_iload_n hx hb dX3_limit_20 rfl (lv_at hl 3 rfl) ?_
    refine lv_iload_n hx hb dX3_limit_21 rfl (lv_at hl 4 rfl) ?_
    obtain ⟨u_5, hg_6, h⟩ := ob_some h
    refine zcSi (W.runS (As := [.int p2, .int p3]) (rest := []) ⟨hx, hb, hml, hown, hts⟩ (c_X3_isPlace l p2 p3 hg_6) (va_cwS 2 hts gX3_limit_X3_isPlace rfl rfl rfl hd_X3_isPlace ⟨Nat.le_of_ble_eq_true rfl, Nat.le_of_ble_eq_true rfl⟩) ⟨zT_blind, zT_at⟩ rfl rfl hl.1 rfl (lv_room (Nat.le_of_ble_eq_true rfl)) dX3_limit_22 ⟨Nat.le_of_ble_eq_true rfl, Nat.le_of_ble_eq_true rfl⟩) ?_
    refine lv_if_ne (tgt := 36) hx hb dX3_limit_25 (by decide) (fun c_7 => ?_) (fun c_7 => ?_)
    · replace h := oi_f c_7 h
      refine lv_aload hx hb dX3_limit_36 (lv_at hl 0 rfl) ?_
      refine lv_iload_n hx hb dX3_limit_38 rfl (lv_at hl 3 rfl) ?_
      refine lv_iload_n hx hb dX3_limit_39 rfl (lv_at hl 4 rfl) ?_
      obtain ⟨u_8, hg_9, h⟩ := ob_some h
      refine zcSi (W.runV (As := [.int p2, .int p3]) (rest := []) ⟨hx, hb, hml, hown, hts⟩ (c_X0_reaches l D cy a n V k_3 p2 p3 hk_3 hg_9) (cwV 2 hts gX3_limit_X0_reaches rfl rfl rfl hd_X0_reaches ⟨Nat.le_of_ble_eq_true rfl, Nat.le_of_ble_eq_true rfl⟩) ⟨xI_blind, va_recv hK hP (ci := 0) rfl (xpos_cr hk_3), (xI_at hP hK hD)⟩ rfl rfl hl.1 rfl (lv_room (Nat.le_of_ble_eq_true rfl)) dX3_limit_40 ⟨Nat.le_of_ble_eq_true rfl, Nat.le_of_ble_eq_true rfl⟩) ?_
      refine lv_if_eq (tgt := 60) hx hb dX3_limit_43 (by decide) (fun c_10 => ?_) (fun c_10 => ?_)
      · replace h := oi_t c_10 h
        refine lv_iconst (v := 0) hx hb dX3_limit_60 (by decide) ?_
        have h9 := Option.some.inj h
        subst h9
        refine vx_ret ?_
        refine W.widen (k := 1) (n := 6) (Nat.le_of_ble_eq_true rfl) (Nat.le_of_ble_eq_true rfl) ?_
        exact W.iret (v := 0) hx hb hr (fun t ht hW => ⟨⟨0, (), rfl, ⟨rfl, rfl⟩, ⟨by rw [ht]; exact hP, hD⟩⟩, va_S.rf.F ht⟩) (fun _ hq => absurd hq List.not_mem_nil) dX3_limit_61 hlocks
      · replace h := oi_f c_10 h
        refine lv_aload hx hb dX3_limit_46 (lv_at hl 0 rfl) ?_
        refine lv_iload_n hx hb dX3_limit_48 rfl (lv_at hl 3 rfl) ?_
        refine lv_iload_n hx hb dX3_limit_49 rfl (lv_at hl 4 rfl) ?_
        refine lv_aload_n hx hb dX3_limit_50 rfl (lv_at hl 1 rfl) ?_
        refine va_get (D := D) (ci := 3) (v := .int (V.2.2.1 6)) (C := RX3) (T := TX3) (N := 10) hx hb hts hinX3 hown hK hP 0 rfl rfl 6 (by decide) (hts _ (List.mem_of_getElem? (i := 5) rfl)) (fun _ h9 => h9) rfl dX3_limit_51 ?_
        obtain ⟨u_11, hg_12, h⟩ := ob_some h
        refine zcSi (W.runV (As := [.int p2, .int p3, .int (V.2.2.1 6)]) (rest := []) ⟨hx, hb, hml, hown, hts⟩ (c_X0_strengthAt l D cy a n V k_3 p2 p3 (V.2.2.1 6) hk_3 hg_12) (cwV 3 hts gX3_limit_X0_strengthAt rfl rfl rfl hd_X0_strengthAt ⟨Nat.le_of_ble_eq_true rfl, Nat.le_of_ble_eq_true rfl⟩) ⟨xI_blind, va_recv hK hP (ci := 0) rfl (xpos_cr hk_3), (xI_at hP hK hD)⟩ rfl rfl hl.1 rfl (lv_room (Nat.le_of_ble_eq_true rfl)) dX3_limit_54 ⟨Nat.le_of_ble_eq_true rfl, Nat.le_of_ble_eq_true rfl⟩) ?_
        refine lv_goto (tgt := 61) hx hb dX3_limit_57 (by decide) ?_
        have h9 := Option.some.inj h
        subst h9
        refine vx_ret ?_
        refine W.widen (k := 1) (n := 6) (Nat.le_of_ble_eq_true rfl) (Nat.le_of_ble_eq_true rfl) ?_
        exact W.iret (v := u_11) hx hb hr (fun t ht hW => ⟨⟨u_11, (), rfl, ⟨rfl, rfl⟩, ⟨by rw [ht]; exact hP, hD⟩⟩, va_S.rf.F ht⟩) (fun _ hq => absurd hq List.not_mem_nil) dX3_limit_61 hlocks
    · replace h := oi_t c_7 h
      have h9 := Option.some.inj h
      subst h9
      exact vx_throw0 hx hb hl0 hown (by decide) (by decide) (hts _ (List.mem_of_getElem? (i := 3) rfl)) (hts _ (List.mem_of_getElem? (i := 4) rfl)) (vx_hat (fun w h9 => hts w (List.mem_cons_of_mem _ (List.mem_append_left _ (List.mem_append_right _ h9)))) (by decide +kernel) (xNB_1 hN.1 _)) (by decide +kernel) hN.2.1 hN.2.2.1 va_S.rf (hl.1.trans hml.symm) dX3_limit_28 dX3_limit_31 dX3_limit_32 dX3_limit_35 (fun z hz => (hN.2.2.2 z hz).elim) (Nat.le_of_ble_eq_true rfl) (Nat.le_of_ble_eq_true rfl) (Nat.le_of_ble_eq_true rfl) (Nat.le_of_ble_eq_true rfl) hlocks (fun t hvm hz hk => ⟨(), trivial, ⟨rfl, (show (1 : Nat) ≠ 0 by decide), zP_kept hP hk, hD⟩, zF_kept va_S.rf hz hk⟩) (fun _ hq => absurd hq List.not_mem_nil) (Nat.le_of_ble_eq_true rfl) (Nat.le_of_ble_eq_true rfl)
def f_X3_overlap (n : Nat → Nat) (V : XV) (p1 : Int32) (p2 : Int32) : Option (Nat × Int32) := ob (f_X3_craneNumbered n V p1) (fun u_1 => oc (n 0) u_1 (ob (f_X3_craneNumbered n V p2) (fun u_5 => oc (n 0) u_5 (some (3, 0)) (fun k_7 => some (3, 0)))) (fun k_3 => ob (f_X3_craneNumbered n V p2) (fun u_9 => oc (n 0) u_9 (some (3, 0)) (fun k_11 => ob (f_X3_countCommonPlaces n V k_3 k_11) (fun u_13 => oi (u_13 ≤ 0) (some (0, 0)) (some (0, 1)))))))
theorem hd_X3_overlap : yX3_overlap.cls = RX3 ∧ yX3_overlap.cls ≠ "java/lang/invoke/MethodHandle" ∧ yX3_overlap.cls ≠ "java/lang/invoke/VarHandle" ∧ (parseMethodDescriptor yX3_overlap.desc).map (fun d => d.parameters.length) = some 2 := by decide +kernel
set_option maxHeartbeats 4000000 in
set_option maxRecDepth 100000 in
theorem c_X3_overlap (l : Launch) (hl0 : l.stackTraces = false) (D : va_G) (cy : Nat → ClassId) (a : XA) (n : Nat → Nat) (V : XV) (sz : Nat) (p1 : Int32) (p2 : Int32) {res : Nat × Int32} (h : f_X3_overlap n V p1 p2 = some res) : vx_Met l yX3_overlap wsX3_overlap ({ frames := 7, cells := 1, slots := 6, locals := 120 } : Room) (va_Pc [.ref (a.1 0), .int p1, .int p2] (zX sz (va_A (xW cy a n V) sz) (xI D cy a n V))) (va_Qi (fun r (_ : Unit) => res.1 = 0 ∧ r = res.2) (fun _ t => va_P D xcl (xW cy a n V) t.heap ∧ va_D (va_A (xW cy a n V) sz) (xW cy a n V)) (va_A (xW cy a n V) sz)) (vx_X (fun (_ : Unit) => True) (fun E _ t => E = xnm res.1 ∧ res.1 ≠ 0 ∧ va_P D xcl (xW cy a n V) t.heap ∧ va_D (va_A (xW cy a n V) sz) (xW cy a n V)) (va_A (xW cy a n V) sz)) 1 6 (va_A (xW cy a n V) sz) := by
  refine vx_ofW (cc := cX3_overlap) (maxL := 5) (ret := (some .boolean)) (by decide) rfl ?_
  intro p e s m args below meth c s₁ B hml hex hv
  obtain ⟨rfl, hsz, hZ, hP, hK, hD0⟩ := hv
  have hx := B.exec
  have hb := B.bytes
  have hr := B.returns
  have hts := atoms_spec (ws := wsX3_overlap) B.pre
  have hown : s.vm.findClass RX3 = some m.cls := findClass_of_methodNamed B.named
  have hlocks := B.notSynchronized
  subst hsz
  have hD := hD0.self (sz := s.heap.size)
  have hN : zN (va_A (xW cy a n V) s.heap.size) c s := ⟨hZ.1, hZ.2.1, hZ.2.2, hex⟩
  generalize hAe : va_A (xW cy a n V) s.heap.size = A at hD hN ⊢
  have hA : ∀ q : Nat, s.heap.size ≤ q → A q := fun q h => by rw [← hAe]; exact Or.inr h
  have hl := lv_entry ([.ref (a.1 0), .int p1, .int p2]) (n := 5) (Nat.le_of_ble_eq_true rfl)
  rw [lg_entry_eq]
  generalize (lg_sl ([.ref (a.1 0), .int p1, .int p2]) ++ List.replicate (5 - (lg_sl ([.ref (a.1 0), .int p1, .int p2])).length) Slot.unset).toArray = ls at hl ⊢
  have hl : lv_has ls 5 [(0, .ref (a.1 0)), (1, .int p1), (2, .int p2)] := hl
  refine lv_aload_n hx hb dX3_overlap_0 rfl (lv_at hl 0 rfl) ?_
  refine lv_iload_n hx hb dX3_overlap_1 rfl (lv_at hl 1 rfl) ?_
  obtain ⟨u_1, hg_2, h⟩ := ob_some h
  rcases oc_some h with ⟨o_4, h⟩ | ⟨k_3, hk_3, o_4, h⟩
  · refine zcSqn (W.runV (As := [.int p1]) (rest := []) ⟨hx, hb, hml, hown, hts⟩ (c_X3_craneNumbered l D cy a n V p1 hg_2) (cwV 1 hts gX3_overlap_X3_craneNumbered rfl rfl rfl hd_X3_craneNumbered ⟨Nat.le_of_ble_eq_true rfl, Nat.le_of_ble_eq_true rfl⟩) ⟨xI_blind, va_recv hK hP (ci := 3) (q0 := 0) rfl rfl, (xI_at hP hK hD)⟩ rfl rfl hl.1 rfl (lv_room (Nat.le_of_ble_eq_true rfl)) dX3_overlap_2 ⟨Nat.le_of_ble_eq_true rfl, Nat.le_of_ble_eq_true rfl⟩) o_4 ?_
    refine lv_astore_nN (lv' := [(3, .null), (0, .ref (a.1 0)), (1, .int p1), (2, .int p2)]) hx hb dX3_overlap_5 rfl hl (by decide) rfl (fun ls hl => ?_)
    refine lv_aload_n hx hb dX3_overlap_6 rfl (lv_at hl 1 rfl) ?_
    refine lv_iload_n hx hb dX3_overlap_7 rfl (lv_at hl 3 rfl) ?_
    obtain ⟨u_5, hg_6, h⟩ := ob_some h
    rcases oc_some h with ⟨o_8, h⟩ | ⟨k_7, hk_7, o_8, h⟩
    · refine zcSqn (W.runV (As := [.int p2]) (rest := []) ⟨hx, hb, hml, hown, hts⟩ (c_X3_craneNumbered l D cy a n V p2 hg_6) (cwV 1 hts gX3_overlap_X3_craneNumbered rfl rfl rfl hd_X3_craneNumbered ⟨Nat.le_of_ble_eq_true rfl, Nat.le_of_ble_eq_true rfl⟩) ⟨xI_blind, va_recv hK hP (ci := 3) (q0 := 0) rfl rfl, (xI_at hP hK hD)⟩ rfl rfl hl.1 rfl (lv_room (Nat.le_of_ble_eq_true rfl)) dX3_overlap_8 ⟨Nat.le_of_ble_eq_true rfl, Nat.le_of_ble_eq_true rfl⟩) o_8 ?_
      refine lv_astoreN (lv' := [(4, .null), (3, .null), (0, .ref (a.1 0)), (1, .int p1), (2, .int p2)]) hx hb dX3_overlap_11 hl (by decide) rfl (fun ls hl => ?_)
      refine lv_aload_nN hx hb dX3_overlap_13 rfl (lv_at hl 1 rfl) ?_
      refine lv_ifnullN (tgt := 22) hx hb dX3_overlap_14 (by decide) ?_
      have h9 := Option.some.inj h
      subst h9
      exact vx_throw0 hx hb hl0 hown (by decide) (by decide) (hts _ (List.mem_of_getElem? (i := 1) rfl)) (hts _ (List.mem_of_getElem? (i := 2) rfl)) (vx_hat (fun w h9 => hts w (List.mem_cons_of_mem _ (List.mem_append_right _ h9))) (by decide +kernel) (xNB_3 hN.1 _)) (by decide +kernel) hN.2.1 hN.2.2.1 va_S.rf (hl.1.trans hml.symm) dX3_overlap_22 dX3_overlap_25 dX3_overlap_26 dX3_overlap_29 (fun z hz => (hN.2.2.2 z hz).elim) (Nat.le_of_ble_eq_true rfl) (Nat.le_of_ble_eq_true rfl) (Nat.le_of_ble_eq_true rfl) (Nat.le_of_ble_eq_true rfl) hlocks (fun t hvm hz hk => ⟨(), trivial, ⟨rfl, (show (3 : Nat) ≠ 0 by decide), zP_kept hP hk, hD⟩, zF_kept va_S.rf hz hk⟩) (fun _ hq => absurd hq List.not_mem_nil) (Nat.le_of_ble_eq_true rfl) (Nat.le_of_ble_eq_true rfl)
    · refine zcSqs (W.runV (As := [.int p2]) (rest := []) ⟨hx, hb, hml, hown, hts⟩ (c_X3_craneNumbered l D cy a n V p2 hg_6) (cwV 1 hts gX3_overlap_X3_craneNumbered rfl rfl rfl hd_X3_craneNumbered ⟨Nat.le_of_ble_eq_true rfl, Nat.le_of_ble_eq_true rfl⟩) ⟨xI_blind, va_recv hK hP (ci := 3) (q0 := 0) rfl rfl, (xI_at hP hK hD)⟩ rfl rfl hl.1 rfl (lv_room (Nat.le_of_ble_eq_true rfl)) dX3_overlap_8 ⟨Nat.le_of_ble_eq_true rfl, Nat.le_of_ble_eq_true rfl⟩) o_8 ?_
      refine lv_astore (lv' := [(4, .ref (a.2 0 k_7)), (3, .null), (0, .ref (a.1 0)), (1, .int p1), (2, .int p2)]) hx hb dX3_overlap_11 hl (by decide) rfl (fun ls hl => ?_)
      refine lv_aload_nN hx hb dX3_overlap_13 rfl (lv_at hl 1 rfl) ?_
      refine lv_ifnullN (tgt := 22) hx hb dX3_overlap_14 (by decide) ?_
      have h9 := Option.some.inj h
      subst h9
      exact vx_throw0 hx hb hl0 hown (by decide) (by decide) (hts _ (List.mem_of_getElem? (i := 1) rfl)) (hts _ (List.mem_of_getElem? (i := 2) rfl)) (vx_hat (fun w h9 => hts w (List.mem_cons_of_mem _ (List.mem_append_right _ h9))) (by decide +kernel) (xNB_3 hN.1 _)) (by decide +kernel) hN.2.1 hN.2.2.1 va_S.rf (hl.1.trans hml.symm) dX3_overlap_22 dX3_overlap_25 dX3_overlap_26 dX3_overlap_29 (fun z hz => (hN.2.2.2 z hz).elim) (Nat.le_of_ble_eq_true rfl) (Nat.le_of_ble_eq_true rfl) (Nat.le_of_ble_eq_true rfl) (Nat.le_of_ble_eq_true rfl) hlocks (fun t hvm hz hk => ⟨(), trivial, ⟨rfl, (show (3 : Nat) ≠ 0 by decide), zP_kept hP hk, hD⟩, zF_kept va_S.rf hz hk⟩) (fun _ hq => absurd hq List.not_mem_nil) (Nat.le_of_ble_eq_true rfl) (Nat.le_of_ble_eq_true rfl)
  · refine zcSqs (W.runV (As := [.int p1]) (rest := []) ⟨hx, hb, hml, hown, hts⟩ (c_X3_craneNumbered l D cy a n V p1 hg_2) (cwV 1 hts gX3_overlap_X3_craneNumbered rfl rfl rfl hd_X3_craneNumbered ⟨Nat.le_of_ble_eq_true rfl, Nat.le_of_ble_eq_true rfl⟩) ⟨xI_blind, va_recv hK hP (ci := 3) (q0 := 0) rfl rfl, (xI_at hP hK hD)⟩ rfl rfl hl.1 rfl (lv_room (Nat.le_of_ble_eq_true rfl)) dX3_overlap_2 ⟨Nat.le_of_ble_eq_true rfl, Nat.le_of_ble_eq_true rfl⟩) o_4 ?_
    refine lv_astore_n (lv' := [(3, .ref (a.2 0 k_3)), (0, .ref (a.1 0)), (1, .int p1), (2, .int p2)]) hx hb dX3_overlap_5 rfl hl (by decide) rfl (fun ls hl => ?_)
    refine lv_aload_n hx hb dX3_overlap_6 rfl (lv_at hl 1 rfl) ?_
    refine lv_iload_n hx hb dX3_overlap_7 rfl (lv_at hl 3 rfl) ?_
    obtain ⟨u_9, hg_10, h⟩ := ob_some h
    rcases oc_some h with ⟨o_12, h⟩ | ⟨k_11, hk_11, o_12, h⟩
    · refine zcSqn (W.runV (As := [.int p2]) (rest := []) ⟨hx, hb, hml, hown, hts⟩ (c_X3_craneNumbered l D cy a n V p2 hg_10) (cwV 1 hts gX3_overlap_X3_craneNumbered rfl rfl rfl hd_X3_craneNumbered ⟨Nat.le_of_ble_eq_true rfl, Nat.le_of_ble_eq_true rfl⟩) ⟨xI_blind, va_recv hK hP (ci := 3) (q0 := 0) rfl rfl, (xI_at hP hK hD)⟩ rfl rfl hl.1 rfl (lv_room (Nat.le_of_ble_eq_true rfl)) dX3_overlap_8 ⟨Nat.le_of_ble_eq_true rfl, Nat.le_of_ble_eq_true rfl⟩) o_12 ?_
      refine lv_astoreN (lv' := [(4, .null), (3, .ref (a.2 0 k_3)), (0, .ref (a.1 0)), (1, .int p1), (2, .int p2)]) hx hb dX3_overlap_11 hl (by decide) rfl (fun ls hl => ?_)
      refine lv_aload_n hx hb dX3_overlap_13 rfl (lv_at hl 1 rfl) ?_
      refine lv_ifnull hx hb dX3_overlap_14 ?_
      refine lv_aloadN hx hb dX3_overlap_17 (lv_at hl 0 rfl) ?_
      refine lv_ifnonnullN hx hb dX3_overlap_19 ?_
      have h9 := Option.some.inj h
      subst h9
      exact vx_throw0 hx hb hl0 hown (by decide) (by decide) (hts _ (List.mem_of_getElem? (i := 1) rfl)) (hts _ (List.mem_of_getElem? (i := 2) rfl)) (vx_hat (fun w h9 => hts w (List.mem_cons_of_mem _ (List.mem_append_right _ h9))) (by decide +kernel) (xNB_3 hN.1 _)) (by decide +kernel) hN.2.1 hN.2.2.1 va_S.rf (hl.1.trans hml.symm) dX3_overlap_22 dX3_overlap_25 dX3_overlap_26 dX3_overlap_29 (fun z hz => (hN.2.2.2 z hz).elim) (Nat.le_of_ble_eq_true rfl) (Nat.le_of_ble_eq_true rfl) (Nat.le_of_ble_eq_true rfl) (Nat.le_of_ble_eq_true rfl) hlocks (fun t hvm hz hk => ⟨(), trivial, ⟨rfl, (show (3 : Nat) ≠ 0 by decide), zP_kept hP hk, hD⟩, zF_kept va_S.rf hz hk⟩) (fun _ hq => absurd hq List.not_mem_nil) (Nat.le_of_ble_eq_true rfl) (Nat.le_of_ble_eq_true rfl)
    · refine zcSqs (W.runV (As := [.int p2]) (rest := []) ⟨hx, hb, hml, hown, hts⟩ (c_X3_craneNumbered l D cy a n V p2 hg_10) (cwV 1 hts gX3_overlap_X3_craneNumbered rfl rfl rfl hd_X3_craneNumbered ⟨Nat.le_of_ble_eq_true rfl, Nat.le_of_ble_eq_true rfl⟩) ⟨xI_blind, va_recv hK hP (ci := 3) (q0 := 0) rfl rfl, (xI_at hP hK hD)⟩ rfl rfl hl.1 rfl (lv_room (Nat.le_of_ble_eq_true rfl)) dX3_overlap_8 ⟨Nat.le_of_ble_eq_true rfl, Nat.le_of_ble_eq_true rfl⟩) o_12 ?_
      refine lv_astore (lv' := [(4, .ref (a.2 0 k_11)), (3, .ref (a.2 0 k_3)), (0, .ref (a.1 0)), (1, .int p1), (2, .int p2)]) hx hb dX3_overlap_11 hl (by decide) rfl (fun ls hl => ?_)
      refine lv_aload_n hx hb dX3_overlap_13 rfl (lv_at hl 1 rfl) ?_
      refine lv_ifnull hx hb dX3_overlap_14 ?_
      refine lv_aload hx hb dX3_overlap_17 (lv_at hl 0 rfl) ?_
      refine lv_ifnonnull (tgt := 30) hx hb dX3_overlap_19 (by decide) ?_
      refine lv_aload_n hx hb dX3_overlap_30 rfl (lv_at hl 1 rfl) ?_
      refine lv_aload hx hb dX3_overlap_31 (lv_at hl 0 rfl) ?_
      obtain ⟨u_13, hg_14, h⟩ := ob_some h
      refine zcSi (W.runS (As := [.ref (a.2 0 k_3), .ref (a.2 0 k_11)]) (rest := []) ⟨hx, hb, hml, hown, hts⟩ (c_X3_countCommonPlaces l D cy a n V k_3 k_11 hk_3 hk_11 hg_14) (va_cwS 2 hts gX3_overlap_X3_countCommonPlaces rfl rfl rfl hd_X3_countCommonPlaces ⟨Nat.le_of_ble_eq_true rfl, Nat.le_of_ble_eq_true rfl⟩) ⟨xI_blind, (xI_at hP hK hD)⟩ rfl rfl hl.1 rfl (lv_room (Nat.le_of_ble_eq_true rfl)) dX3_overlap_33 ⟨Nat.le_of_ble_eq_true rfl, Nat.le_of_ble_eq_true rfl⟩) ?_
      refine lv_if_le (tgt := 43) hx hb dX3_overlap_36 (by decide) (fun c_15 => ?_) (fun c_15 => ?_)
      · replace h := oi_t c_15 h
        refine lv_iconst (v := 0) hx hb dX3_overlap_43 (by decide) ?_
        have h9 := Option.some.inj h
        subst h9
        refine vx_ret ?_
        refine W.widen (k := 1) (n := 6) (Nat.le_of_ble_eq_true rfl) (Nat.le_of_ble_eq_true rfl) ?_
        exact W.zret (v := 0) hx hb hr (by decide) (fun t ht hW => ⟨⟨0, (), rfl, ⟨rfl, rfl⟩, ⟨by rw [ht]; exact hP, hD⟩⟩, va_S.rf.F ht⟩) (fun _ hq => absurd hq List.not_mem_nil) dX3_overlap_44 hlocks
      · replace h := oi_f c_15 h
        refine lv_iconst (v := 1) hx hb dX3_overlap_39 (by decide) ?_
        refine lv_goto (tgt := 44) hx hb dX3_overlap_40 (by decide) ?_
        have h9 := Option.some.inj h
        subst h9
        refine vx_ret ?_
        refine W.widen (k := 1) (n := 6) (Nat.le_of_ble_eq_true rfl) (Nat.le_of_ble_eq_true rfl) ?_
        exact W.zret (v := 1) hx hb hr (by decide) (fun t ht hW => ⟨⟨1, (), rfl, ⟨rfl, rfl⟩, ⟨by rw [ht]; exact hP, hD⟩⟩, va_S.rf.F ht⟩) (fun _ hq => absurd hq List.not_mem_nil) dX3_overlap_44 hlocks
def f_X3_bothReach (n : Nat → Nat) (V : XV) (p1 : Int32) (p2 : Int32) : Option (Nat × Int32) := ob (f_X3_craneNumbered n V p1) (fun u_1 => oc (n 0) u_1 (ob (f_X3_craneNumbered n V p2) (fun u_5 => oc (n 0) u_5 (some (3, 0)) (fun k_7 => some (3, 0)))) (fun k_3 => ob (f_X3_craneNumbered n V p2) (fun u_9 => oc (n 0) u_9 (some (3, 0)) (fun k_11 => ob (f_X3_countCommonPlaces n V k_3 k_11) (fun u_13 => some (0, u_13))))))
theorem hd_X3_bothReach : yX3_bothReach.cls = RX3 ∧ yX3_bothReach.cls ≠ "java/lang/invoke/MethodHandle" ∧ yX3_bothReach.cls ≠ "java/lang/invoke/VarHandle" ∧ (parseMethodDescriptor yX3_bothReach.desc).map (fun d => d.parameters.length) = some 2 := by decide +kernel
set_option maxHeartbeats 4000000 in
set_option maxRecDepth 100000 in
theorem c_X3_bothReach (l : Launch) (hl0 : l.stackTraces = false) (D : va_G) (cy : Nat → ClassId) (a : XA) (n : Nat → Nat) (V : XV) (sz : Nat) (p1 : Int32) (p2 : Int32) {res : Nat × Int32} (h : f_X3_bothReach n V p1 p2 = some res) : vx_Met l yX3_bothReach wsX3_bothReach ({ frames := 7, cells := 1, slots := 6, locals := 120 } : Room) (va_Pc [.ref (a.1 0), .int p1, .int p2] (zX sz (va_A (xW cy a n V) sz) (xI D cy a n V))) (va_Qi (fun r (_ : Unit) => res.1 = 0 ∧ r = res.2) (fun _ t => va_P D xcl (xW cy a n V) t.heap ∧ va_D (va_A (xW cy a n V) sz) (xW cy a n V)) (va_A (xW cy a n V) sz)) (vx_X (fun (_ : Unit) => True) (fun E _ t => E = xnm res.1 ∧ res.1 ≠ 0 ∧ va_P D xcl (xW cy a n V) t.heap ∧ va_D (va_A (xW cy a n V) sz) (xW cy a n V)) (va_A (xW cy a n V) sz)) 1 6 (va_A (xW cy a n V) sz) := by
  refine vx_ofW (cc := cX3_bothReach) (maxL := 5) (ret := (some .int)) (by decide) rfl ?_
  intro p e s m args below meth c s₁ B hml hex hv
  obtain ⟨rfl, hsz, hZ, hP, hK, hD0⟩ := hv
  have hx := B.exec
  have hb := B.bytes
  have hr := B.returns
  have hts := atoms_spec (ws := wsX3_bothReach) B.pre
  have hown : s.vm.findClass RX3 = some m.cls := findClass_of_methodNamed B.named
  have hlocks := B.notSynchronized
  subst hsz
  have hD := hD0.self (sz := s.heap.size)
  have hN : zN (va_A (xW cy a n V) s.heap.size) c s := ⟨hZ.1, hZ.2.1, hZ.2.2, hex⟩
  generalize hAe : va_A (xW cy a n V) s.heap.size = A at hD hN ⊢
  have hA : ∀ q : Nat, s.heap.size ≤ q → A q := fun q h => by rw [← hAe]; exact Or.inr h
  have hl := lv_entry ([.ref (a.1 0), .int p1, .int p2]) (n := 5) (Nat.le_of_ble_eq_true rfl)
  rw [lg_entry_eq]
  generalize (lg_sl ([.ref (a.1 0), .int p1, .int p2]) ++ List.replicate (5 - (lg_sl ([.ref (a.1 0), .int p1, .int p2])).length) Slot.unset).toArray = ls at hl ⊢
  have hl : lv_has ls 5 [(0, .ref (a.1 0)), (1, .int p1), (2, .int p2)] := hl
  refine lv_aload_n hx hb dX3_bothReach_0 rfl (lv_at hl 0 rfl) ?_
  refine lv_iload_n hx hb dX3_bothReach_1 rfl (lv_at hl 1 rfl) ?_
  obtain ⟨u_1, hg_2, h⟩ := ob_some h
  rcases oc_some h with ⟨o_4, h⟩ | ⟨k_3, hk_3, o_4, h⟩
  · refine zcSqn (W.runV (As := [.int p1]) (rest := []) ⟨hx, hb, hml, hown, hts⟩ (c_X3_craneNumbered l D cy a n V p1 hg_2) (cwV 1 hts gX3_bothReach_X3_craneNumbered rfl rfl rfl hd_X3_craneNumbered ⟨Nat.le_of_ble_eq_true rfl, Nat.le_of_ble_eq_true rfl⟩) ⟨xI_blind, va_recv hK hP (ci := 3) (q0 := 0) rfl rfl, (xI_at hP hK hD)⟩ rfl rfl hl.1 rfl (lv_room (Nat.le_of_ble_eq_true rfl)) dX3_bothReach_2 ⟨Nat.le_of_ble_eq_true rfl, Nat.le_of_ble_eq_true rfl⟩) o_4 ?_
    refine lv_astore_nN (lv' := [(3, .null), (0, .ref (a.1 0)), (1, .int p1), (2, .int p2)]) hx hb dX3_bothReach_5 rfl hl (by decide) rfl (fun ls hl => ?_)
    refine lv_aload_n hx hb dX3_bothReach_6 rfl (lv_at hl 1 rfl) ?_
    refine lv_iload_n hx hb dX3_bothReach_7 rfl (lv_at hl 3 rfl) ?_
    obtain ⟨u_5, hg_6, h⟩ := ob_some h
    rcases oc_some h with ⟨o_8, h⟩ | ⟨k_7, hk_7, o_8, h⟩
    · refine zcSqn (W.runV (As := [.int p2]) (rest := []) ⟨hx, hb, hml, hown, hts⟩ (c_X3_craneNumbered l D cy a n V p2 hg_6) (cwV 1 hts gX3_bothReach_X3_craneNumbered rfl rfl rfl hd_X3_craneNumbered ⟨Nat.le_of_ble_eq_true rfl, Nat.le_of_ble_eq_true rfl⟩) ⟨xI_blind, va_recv hK hP (ci := 3) (q0 := 0) rfl rfl, (xI_at hP hK hD)⟩ rfl rfl hl.1 rfl (lv_room (Nat.le_of_ble_eq_true rfl)) dX3_bothReach_8 ⟨Nat.le_of_ble_eq_true rfl, Nat.le_of_ble_eq_true rfl⟩) o_8 ?_
      refine lv_astoreN (lv' := [(4, .null), (3, .null), (0, .ref (a.1 0)), (1, .int p1), (2, .int p2)]) hx hb dX3_bothReach_11 hl (by decide) rfl (fun ls hl => ?_)
      refine lv_aload_nN hx hb dX3_bothReach_13 rfl (lv_at hl 1 rfl) ?_
      refine lv_ifnullN (tgt := 22) hx hb dX3_bothReach_14 (by decide) ?_
      have h9 := Option.some.inj h
      subst h9
      exact vx_throw0 hx hb hl0 hown (by decide) (by decide) (hts _ (List.mem_of_getElem? (i := 1) rfl)) (hts _ (List.mem_of_getElem? (i := 2) rfl)) (vx_hat (fun w h9 => hts w (List.mem_cons_of_mem _ (List.mem_append_right _ h9))) (by decide +kernel) (xNB_3 hN.1 _)) (by decide +kernel) hN.2.1 hN.2.2.1 va_S.rf (hl.1.trans hml.symm) dX3_bothReach_22 dX3_bothReach_25 dX3_bothReach_26 dX3_bothReach_29 (fun z hz => (hN.2.2.2 z hz).elim) (Nat.le_of_ble_eq_true rfl) (Nat.le_of_ble_eq_true rfl) (Nat.le_of_ble_eq_true rfl) (Nat.le_of_ble_eq_true rfl) hlocks (fun t hvm hz hk => ⟨(), trivial, ⟨rfl, (show (3 : Nat) ≠ 0 by decide), zP_kept hP hk, hD⟩, zF_kept va_S.rf hz hk⟩) (fun _ hq => absurd hq List.not_mem_nil) (Nat.le_of_ble_eq_true rfl) (Nat.le_of_ble_eq_true rfl)
    · refine zcSqs (W.runV (As := [.int p2]) (rest := []) ⟨hx, hb, hml, hown, hts⟩ (c_X3_craneNumbered l D cy a n V p2 hg_6) (cwV 1 hts gX3_bothReach_X3_craneNumbered rfl rfl rfl hd_X3_craneNumbered ⟨Nat.le_of_ble_eq_true rfl, Nat.le_of_ble_eq_true rfl⟩) ⟨xI_blind, va_recv hK hP (ci := 3) (q0 := 0) rfl rfl, (xI_at hP hK hD)⟩ rfl rfl hl.1 rfl (lv_room (Nat.le_of_ble_eq_true rfl)) dX3_bothReach_8 ⟨Nat.le_of_ble_eq_true rfl, Nat.le_of_ble_eq_true rfl⟩) o_8 ?_
      refine lv_astore (lv' := [(4, .ref (a.2 0 k_7)), (3, .null), (0, .ref (a.1 0)), (1, .int p1), (2, .int p2)]) hx hb dX3_bothReach_11 hl (by decide) rfl (fun ls hl => ?_)
      refine lv_aload_nN hx hb dX3_bothReach_13 rfl (lv_at hl 1 rfl) ?_
      refine lv_ifnullN (tgt := 22) hx hb dX3_bothReach_14 (by decide) ?_
      have h9 := Option.some.inj h
      subst h9
      exact vx_throw0 hx hb hl0 hown (by decide) (by decide) (hts _ (List.mem_of_getElem? (i := 1) rfl)) (hts _ (List.mem_of_getElem? (i := 2) rfl)) (vx_hat (fun w h9 => hts w (List.mem_cons_of_mem _ (List.mem_append_right _ h9))) (by decide +kernel) (xNB_3 hN.1 _)) (by decide +kernel) hN.2.1 hN.2.2.1 va_S.rf (hl.1.trans hml.symm) dX3_bothReach_22 dX3_bothReach_25 dX3_bothReach_26 dX3_bothReach_29 (fun z hz => (hN.2.2.2 z hz).elim) (Nat.le_of_ble_eq_true rfl) (Nat.le_of_ble_eq_true rfl) (Nat.le_of_ble_eq_true rfl) (Nat.le_of_ble_eq_true rfl) hlocks (fun t hvm hz hk => ⟨(), trivial, ⟨rfl, (show (3 : Nat) ≠ 0 by decide), zP_kept hP hk, hD⟩, zF_kept va_S.rf hz hk⟩) (fun _ hq => absurd hq List.not_mem_nil) (Nat.le_of_ble_eq_true rfl) (Nat.le_of_ble_eq_true rfl)
  · refine zcSqs (W.runV (As := [.int p1]) (rest := []) ⟨hx, hb, hml, hown, hts⟩ (c_X3_craneNumbered l D cy a n V p1 hg_2) (cwV 1 hts gX3_bothReach_X3_craneNumbered rfl rfl rfl hd_X3_craneNumbered ⟨Nat.le_of_ble_eq_true rfl, Nat.le_of_ble_eq_true rfl⟩) ⟨xI_blind, va_recv hK hP (ci := 3) (q0 := 0) rfl rfl, (xI_at hP hK hD)⟩ rfl rfl hl.1 rfl (lv_room (Nat.le_of_ble_eq_true rfl)) dX3_bothReach_2 ⟨Nat.le_of_ble_eq_true rfl, Nat.le_of_ble_eq_true rfl⟩) o_4 ?_
    refine lv_astore_n (lv' := [(3, .ref (a.2 0 k_3)), (0, .ref (a.1 0)), (1, .int p1), (2, .int p2)]) hx hb dX3_bothReach_5 rfl hl (by decide) rfl (fun ls hl => ?_)
    refine lv_aload_n hx hb dX3_bothReach_6 rfl (lv_at hl 1 rfl) ?_
    refine lv_iload_n hx hb dX3_bothReach_7 rfl (lv_at hl 3 rfl) ?_
    obtain ⟨u_9, hg_10, h⟩ := ob_some h
    rcases oc_some h with ⟨o_12, h⟩ | ⟨k_11, hk_11, o_12, h⟩
    · refine zcSqn (W.runV (As := [.int p2]) (rest := []) ⟨hx, hb, hml, hown, hts⟩ (c_X3_craneNumbered l D cy a n V p2 hg_10) (cwV 1 hts gX3_bothReach_X3_craneNumbered rfl rfl rfl hd_X3_craneNumbered ⟨Nat.le_of_ble_eq_true rfl, Nat.le_of_ble_eq_true rfl⟩) ⟨xI_blind, va_recv hK hP (ci := 3) (q0 := 0) rfl rfl, (xI_at hP hK hD)⟩ rfl rfl hl.1 rfl (lv_room (Nat.le_of_ble_eq_true rfl)) dX3_bothReach_8 ⟨Nat.le_of_ble_eq_true rfl, Nat.le_of_ble_eq_true rfl⟩) o_12 ?_
      refine lv_astoreN (lv' := [(4, .null), (3, .ref (a.2 0 k_3)), (0, .ref (a.1 0)), (1, .int p1), (2, .int p2)]) hx hb dX3_bothReach_11 hl (by decide) rfl (fun ls hl => ?_)
      refine lv_aload_n hx hb dX3_bothReach_13 rfl (lv_at hl 1 rfl) ?_
      refine lv_ifnull hx hb dX3_bothReach_14 ?_
      refine lv_aloadN hx hb dX3_bothReach_17 (lv_at hl 0 rfl) ?_
      refine lv_ifnonnullN hx hb dX3_bothReach_19 ?_
      have h9 := Option.some.inj h
      subst h9
      exact vx_throw0 hx hb hl0 hown (by decide) (by decide) (hts _ (List.mem_of_getElem? (i := 1) rfl)) (hts _ (List.mem_of_getElem? (i := 2) rfl)) (vx_hat (fun w h9 => hts w (List.mem_cons_of_mem _ (List.mem_append_right _ h9))) (by decide +kernel) (xNB_3 hN.1 _)) (by decide +kernel) hN.2.1 hN.2.2.1 va_S.rf (hl.1.trans hml.symm) dX3_bothReach_22 dX3_bothReach_25 dX3_bothReach_26 dX3_bothReach_29 (fun z hz => (hN.2.2.2 z hz).elim) (Nat.le_of_ble_eq_true rfl) (Nat.le_of_ble_eq_true rfl) (Nat.le_of_ble_eq_true rfl) (Nat.le_of_ble_eq_true rfl) hlocks (fun t hvm hz hk => ⟨(), trivial, ⟨rfl, (show (3 : Nat) ≠ 0 by decide), zP_kept hP hk, hD⟩, zF_kept va_S.rf hz hk⟩) (fun _ hq => absurd hq List.not_mem_nil) (Nat.le_of_ble_eq_true rfl) (Nat.le_of_ble_eq_true rfl)
    · refine zcSqs (W.runV (As := [.int p2]) (rest := []) ⟨hx, hb, hml, hown, hts⟩ (c_X3_craneNumbered l D cy a n V p2 hg_10) (cwV 1 hts gX3_bothReach_X3_craneNumbered rfl rfl rfl hd_X3_craneNumbered ⟨Nat.le_of_ble_eq_true rfl, Nat.le_of_ble_eq_true rfl⟩) ⟨xI_blind, va_recv hK hP (ci := 3) (q0 := 0) rfl rfl, (xI_at hP hK hD)⟩ rfl rfl hl.1 rfl (lv_room (Nat.le_of_ble_eq_true rfl)) dX3_bothReach_8 ⟨Nat.le_of_ble_eq_true rfl, Nat.le_of_ble_eq_true rfl⟩) o_12 ?_
      refine lv_astore (lv' := [(4, .ref (a.2 0 k_11)), (3, .ref (a.2 0 k_3)), (0, .ref (a.1 0)), (1, .int p1), (2, .int p2)]) hx hb dX3_bothReach_11 hl (by decide) rfl (fun ls hl => ?_)
      refine lv_aload_n hx hb dX3_bothReach_13 rfl (lv_at hl 1 rfl) ?_
      refine lv_ifnull hx hb dX3_bothReach_14 ?_
      refine lv_aload hx hb dX3_bothReach_17 (lv_at hl 0 rfl) ?_
      refine lv_ifnonnull (tgt := 30) hx hb dX3_bothReach_19 (by decide) ?_
      refine lv_aload_n hx hb dX3_bothReach_30 rfl (lv_at hl 1 rfl) ?_
      refine lv_aload hx hb dX3_bothReach_31 (lv_at hl 0 rfl) ?_
      obtain ⟨u_13, hg_14, h⟩ := ob_some h
      refine zcSi (W.runS (As := [.ref (a.2 0 k_3), .ref (a.2 0 k_11)]) (rest := []) ⟨hx, hb, hml, hown, hts⟩ (c_X3_countCommonPlaces l D cy a n V k_3 k_11 hk_3 hk_11 hg_14) (va_cwS 2 hts gX3_bothReach_X3_countCommonPlaces rfl rfl rfl hd_X3_countCommonPlaces ⟨Nat.le_of_ble_eq_true rfl, Nat.le_of_ble_eq_true rfl⟩) ⟨xI_blind, (xI_at hP hK hD)⟩ rfl rfl hl.1 rfl (lv_room (Nat.le_of_ble_eq_true rfl)) dX3_bothReach_33 ⟨Nat.le_of_ble_eq_true rfl, Nat.le_of_ble_eq_true rfl⟩) ?_
      have h9 := Option.some.inj h
      subst h9
      refine vx_ret ?_
      refine W.widen (k := 1) (n := 6) (Nat.le_of_ble_eq_true rfl) (Nat.le_of_ble_eq_true rfl) ?_
      exact W.iret (v := u_13) hx hb hr (fun t ht hW => ⟨⟨u_13, (), rfl, ⟨rfl, rfl⟩, ⟨by rw [ht]; exact hP, hD⟩⟩, va_S.rf.F ht⟩) (fun _ hq => absurd hq List.not_mem_nil) dX3_bothReach_36 hlocks
def f_X3_reason (n : Nat → Nat) (V : XV) (p1 : Int32) (p2 : Int32) (p3 : Int32) : Option (Nat × Int32) := ob (f_X3_liftNumbered n V p1) (fun u_1 => oc (n 1) u_1 (some (3, 0)) (fun k_3 => ob (f_X3_craneNumbered n V p2) (fun u_5 => oc (n 0) u_5 (some (3, 0)) (fun k_7 => ob (f_X3_obstacle n V k_3 p2 p3) (fun u_9 => og (u_9.toUInt32.toUInt16.toUInt32.toInt32 = u_9) (some (0, u_9)))))))
theorem hd_X3_reason : yX3_reason.cls = RX3 ∧ yX3_reason.cls ≠ "java/lang/invoke/MethodHandle" ∧ yX3_reason.cls ≠ "java/lang/invoke/VarHandle" ∧ (parseMethodDescriptor yX3_reason.desc).map (fun d => d.parameters.length) = some 3 := by decide +kernel
set_option maxHeartbeats 4000000 in
set_option maxRecDepth 100000 in
theorem c_X3_reason (l : Launch) (hl0 : l.stackTraces = false) (D : va_G) (cy : Nat → ClassId) (a : XA) (n : Nat → Nat) (V : XV) (sz : Nat) (p1 : Int32) (p2 : Int32) (p3 : Int32) {res : Nat × Int32} (h : f_X3_reason n V p1 p2 p3 = some res) : vx_Met l yX3_reason wsX3_reason ({ frames := 7, cells := 1, slots := 6, locals := 134 } : Room) (va_Pc [.ref (a.1 0), .int p1, .int p2, .int p3] (zX sz (va_A (xW cy a n V) sz) (xI D cy a n V))) (va_Qi (fun r (_ : Unit) => res.1 = 0 ∧ r = res.2) (fun _ t => va_P D xcl (xW cy a n V) t.heap ∧ va_D (va_A (xW cy a n V) sz) (xW cy a n V)) (va_A (xW cy a n V) sz)) (vx_X (fun (_ : Unit) => True) (fun E _ t => E = xnm res.1 ∧ res.1 ≠ 0 ∧ va_P D xcl (xW cy a n V) t.heap ∧ va_D (va_A (xW cy a n V) sz) (xW cy a n V)) (va_A (xW cy a n V) sz)) 1 6 (va_A (xW cy a n V) sz) := by
  refine vx_ofW (cc := cX3_reason) (maxL := 5) (ret := (some .char)) (by decide) rfl ?_
  intro p e s m args below meth c s₁ B hml hex hv
  obtain ⟨rfl, hsz, hZ, hP, hK, hD0⟩ := hv
  have hx := B.exec
  have hb := B.bytes
  have hr := B.returns
  have hts := atoms_spec (ws := wsX3_reason) B.pre
  have hown : s.vm.findClass RX3 = some m.cls := findClass_of_methodNamed B.named
  have hlocks := B.notSynchronized
  subst hsz
  have hD := hD0.self (sz := s.heap.size)
  have hN : zN (va_A (xW cy a n V) s.heap.size) c s := ⟨hZ.1, hZ.2.1, hZ.2.2, hex⟩
  generalize hAe : va_A (xW cy a n V) s.heap.size = A at hD hN ⊢
  have hA : ∀ q : Nat, s.heap.size ≤ q → A q := fun q h => by rw [← hAe]; exact Or.inr h
  have hl := lv_entry ([.ref (a.1 0), .int p1, .int p2, .int p3]) (n := 5) (Nat.le_of_ble_eq_true rfl)
  rw [lg_entry_eq]
  generalize (lg_sl ([.ref (a.1 0), .int p1, .int p2, .int p3]) ++ List.replicate (5 - (lg_sl ([.ref (a.1 0), .int p1, .int p2, .int p3])).length) Slot.unset).toArray = ls at hl ⊢
  have hl : lv_has ls 5 [(0, .ref (a.1 0)), (1, .int p1), (2, .int p2), (3, .int p3)] := hl
  refine lv_aload_n hx hb dX3_reason_0 rfl (lv_at hl 0 rfl) ?_
  refine lv_iload_n hx hb dX3_reason_1 rfl (lv_at hl 1 rfl) ?_
  obtain ⟨u_1, hg_2, h⟩ := ob_some h
  rcases oc_some h with ⟨o_4, h⟩ | ⟨k_3, hk_3, o_4, h⟩
  · refine zcSqn (W.runV (As := [.int p1]) (rest := []) ⟨hx, hb, hml, hown, hts⟩ (c_X3_liftNumbered l D cy a n V p1 hg_2) (cwV 1 hts gX3_reason_X3_liftNumbered rfl rfl rfl hd_X3_liftNumbered ⟨Nat.le_of_ble_eq_true rfl, Nat.le_of_ble_eq_true rfl⟩) ⟨xI_blind, va_recv hK hP (ci := 3) (q0 := 0) rfl rfl, (xI_at hP hK hD)⟩ rfl rfl hl.1 rfl (lv_room (Nat.le_of_ble_eq_true rfl)) dX3_reason_2 ⟨Nat.le_of_ble_eq_true rfl, Nat.le_of_ble_eq_true rfl⟩) o_4 ?_
    refine lv_astoreN (lv' := [(4, .null), (0, .ref (a.1 0)), (1, .int p1), (2, .int p2), (3, .int p3)]) hx hb dX3_reason_5 hl (by decide) rfl (fun ls hl => ?_)
    refine lv_aloadN hx hb dX3_reason_7 (lv_at hl 0 rfl) ?_
    refine lv_ifnullN (tgt := 20) hx hb dX3_reason_9 (by decide) ?_
    have h9 := Option.some.inj h
    subst h9
    exact vx_throw0 hx hb hl0 hown (by decide) (by decide) (hts _ (List.mem_of_getElem? (i := 1) rfl)) (hts _ (List.mem_of_getElem? (i := 2) rfl)) (vx_hat (fun w h9 => hts w (List.mem_cons_of_mem _ (List.mem_append_left _ (List.mem_append_right _ h9)))) (by decide +kernel) (xNB_3 hN.1 _)) (by decide +kernel) hN.2.1 hN.2.2.1 va_S.rf (hl.1.trans hml.symm) dX3_reason_20 dX3_reason_23 dX3_reason_24 dX3_reason_27 (fun z hz => (hN.2.2.2 z hz).elim) (Nat.le_of_ble_eq_true rfl) (Nat.le_of_ble_eq_true rfl) (Nat.le_of_ble_eq_true rfl) (Nat.le_of_ble_eq_true rfl) hlocks (fun t hvm hz hk => ⟨(), trivial, ⟨rfl, (show (3 : Nat) ≠ 0 by decide), zP_kept hP hk, hD⟩, zF_kept va_S.rf hz hk⟩) (fun _ hq => absurd hq List.not_mem_nil) (Nat.le_of_ble_eq_true rfl) (Nat.le_of_ble_eq_true rfl)
  · refine zcSqs (W.runV (As := [.int p1]) (rest := []) ⟨hx, hb, hml, hown, hts⟩ (c_X3_liftNumbered l D cy a n V p1 hg_2) (cwV 1 hts gX3_reason_X3_liftNumbered rfl rfl rfl hd_X3_liftNumbered ⟨Nat.le_of_ble_eq_true rfl, Nat.le_of_ble_eq_true rfl⟩) ⟨xI_blind, va_recv hK hP (ci := 3) (q0 := 0) rfl rfl, (xI_at hP hK hD)⟩ rfl rfl hl.1 rfl (lv_room (Nat.le_of_ble_eq_true rfl)) dX3_reason_2 ⟨Nat.le_of_ble_eq_true rfl, Nat.le_of_ble_eq_true rfl⟩) o_4 ?_
    refine lv_astore (lv' := [(4, .ref (a.2 1 k_3)), (0, .ref (a.1 0)), (1, .int p1), (2, .int p2), (3, .int p3)]) hx hb dX3_reason_5 hl (by decide) rfl (fun ls hl => ?_)
    refine lv_aload hx hb dX3_reason_7 (lv_at hl 0 rfl) ?_
    refine lv_ifnull hx hb dX3_reason_9 ?_
    refine lv_aload_n hx hb dX3_reason_12 rfl (lv_at hl 1 rfl) ?_
    refine lv_iload_n hx hb dX3_reason_13 rfl (lv_at hl 3 rfl) ?_
    obtain ⟨u_5, hg_6, h⟩ := ob_some h
    rcases oc_some h with ⟨o_8, h⟩ | ⟨k_7, hk_7, o_8, h⟩
    · refine zcSqn (W.runV (As := [.int p2]) (rest := []) ⟨hx, hb, hml, hown, hts⟩ (c_X3_craneNumbered l D cy a n V p2 hg_6) (cwV 1 hts gX3_reason_X3_craneNumbered rfl rfl rfl hd_X3_craneNumbered ⟨Nat.le_of_ble_eq_true rfl, Nat.le_of_ble_eq_true rfl⟩) ⟨xI_blind, va_recv hK hP (ci := 3) (q0 := 0) rfl rfl, (xI_at hP hK hD)⟩ rfl rfl hl.1 rfl (lv_room (Nat.le_of_ble_eq_true rfl)) dX3_reason_14 ⟨Nat.le_of_ble_eq_true rfl, Nat.le_of_ble_eq_true rfl⟩) o_8 ?_
      refine lv_ifnonnullN hx hb dX3_reason_17 ?_
      have h9 := Option.some.inj h
      subst h9
      exact vx_throw0 hx hb hl0 hown (by decide) (by decide) (hts _ (List.mem_of_getElem? (i := 1) rfl)) (hts _ (List.mem_of_getElem? (i := 2) rfl)) (vx_hat (fun w h9 => hts w (List.mem_cons_of_mem _ (List.mem_append_left _ (List.mem_append_right _ h9)))) (by decide +kernel) (xNB_3 hN.1 _)) (by decide +kernel) hN.2.1 hN.2.2.1 va_S.rf (hl.1.trans hml.symm) dX3_reason_20 dX3_reason_23 dX3_reason_24 dX3_reason_27 (fun z hz => (hN.2.2.2 z hz).elim) (Nat.le_of_ble_eq_true rfl) (Nat.le_of_ble_eq_true rfl) (Nat.le_of_ble_eq_true rfl) (Nat.le_of_ble_eq_true rfl) hlocks (fun t hvm hz hk => ⟨(), trivial, ⟨rfl, (show (3 : Nat) ≠ 0 by decide), zP_kept hP hk, hD⟩, zF_kept va_S.rf hz hk⟩) (fun _ hq => absurd hq List.not_mem_nil) (Nat.le_of_ble_eq_true rfl) (Nat.le_of_ble_eq_true rfl)
    · refine zcSqs (W.runV (As := [.int p2]) (rest := []) ⟨hx, hb, hml, hown, hts⟩ (c_X3_craneNumbered l D cy a n V p2 hg_6) (cwV 1 hts gX3_reason_X3_craneNumbered rfl rfl rfl hd_X3_craneNumbered ⟨Nat.le_of_ble_eq_true rfl, Nat.le_of_ble_eq_true rfl⟩) ⟨xI_blind, va_recv hK hP (ci := 3) (q0 := 0) rfl rfl, (xI_at hP hK hD)⟩ rfl rfl hl.1 rfl (lv_room (Nat.le_of_ble_eq_true rfl)) dX3_reason_14 ⟨Nat.le_of_ble_eq_true rfl, Nat.le_of_ble_eq_true rfl⟩) o_8 ?_
      refine lv_ifnonnull (tgt := 28) hx hb dX3_reason_17 (by decide) ?_
      refine lv_aload_n hx hb dX3_reason_28 rfl (lv_at hl 1 rfl) ?_
      refine lv_aload hx hb dX3_reason_29 (lv_at hl 0 rfl) ?_
      refine lv_iload_n hx hb dX3_reason_31 rfl (lv_at hl 3 rfl) ?_
      refine lv_iload_n hx hb dX3_reason_32 rfl (lv_at hl 4 rfl) ?_
      obtain ⟨u_9, hg_10, h⟩ := ob_some h
      refine zcSi (W.runV (As := [.ref (a.2 1 k_3), .int p2, .int p3]) (rest := []) ⟨hx, hb, hml, hown, hts⟩ (c_X3_obstacle l D cy a n V k_3 p2 p3 hk_3 hg_10) (cwV 3 hts gX3_reason_X3_obstacle rfl rfl rfl hd_X3_obstacle ⟨Nat.le_of_ble_eq_true rfl, Nat.le_of_ble_eq_true rfl⟩) ⟨xI_blind, va_recv hK hP (ci := 3) (q0 := 0) rfl rfl, (xI_at hP hK hD)⟩ rfl rfl hl.1 rfl (lv_room (Nat.le_of_ble_eq_true rfl)) dX3_reason_33 ⟨Nat.le_of_ble_eq_true rfl, Nat.le_of_ble_eq_true rfl⟩) ?_
      obtain ⟨g_11, h⟩ := og_some h
      have h9 := Option.some.inj h
      subst h9
      refine vx_ret ?_
      refine W.widen (k := 1) (n := 6) (Nat.le_of_ble_eq_true rfl) (Nat.le_of_ble_eq_true rfl) ?_
      exact W.zret (v := u_9) hx hb hr (congrArg Value.int g_11) (fun t ht hW => ⟨⟨u_9, (), rfl, ⟨rfl, rfl⟩, ⟨by rw [ht]; exact hP, hD⟩⟩, va_S.rf.F ht⟩) (fun _ hq => absurd hq List.not_mem_nil) dX3_reason_36 hlocks
def f_X3_earliest (n : Nat → Nat) (V : XV) (p1 : Int32) (p2 : Int32) : Option (Nat × Int32) := ob (f_X3_liftNumbered n V p1) (fun u_1 => oc (n 1) u_1 (some (3, 0)) (fun k_3 => ob (f_X3_craneNumbered n V p2) (fun u_5 => oc (n 0) u_5 (some (3, 0)) (fun k_7 => ob (f_X3_firstFit n V k_3 p2 (V.2.2.1 7)) (fun u_9 => oi (u_9 = (-1)) (some (4, 0)) (some (0, u_9)))))))
theorem hd_X3_earliest : yX3_earliest.cls = RX3 ∧ yX3_earliest.cls ≠ "java/lang/invoke/MethodHandle" ∧ yX3_earliest.cls ≠ "java/lang/invoke/VarHandle" ∧ (parseMethodDescriptor yX3_earliest.desc).map (fun d => d.parameters.length) = some 2 := by decide +kernel
set_option maxHeartbeats 4000000 in
set_option maxRecDepth 100000 in
theorem c_X3_earliest (l : Launch) (hl0 : l.stackTraces = false) (D : va_G) (cy : Nat → ClassId) (a : XA) (n : Nat → Nat) (V : XV) (sz : Nat) (p1 : Int32) (p2 : Int32) {res : Nat × Int32} (h : f_X3_earliest n V p1 p2 = some res) : vx_Met l yX3_earliest wsX3_earliest ({ frames := 7, cells := 1, slots := 6, locals := 133 } : Room) (va_Pc [.ref (a.1 0), .int p1, .int p2] (zX sz (va_A (xW cy a n V) sz) (xI D cy a n V))) (va_Qi (fun r (_ : Unit) => res.1 = 0 ∧ r = res.2) (fun _ t => va_P D xcl (xW cy a n V) t.heap ∧ va_D (va_A (xW cy a n V) sz) (xW cy a n V)) (va_A (xW cy a n V) sz)) (vx_X (fun (_ : Unit) => True) (fun E _ t => E = xnm res.1 ∧ res.1 ≠ 0 ∧ va_P D xcl (xW cy a n V) t.heap ∧ va_D (va_A (xW cy a n V) sz) (xW cy a n V)) (va_A (xW cy a n V) sz)) 1 6 (va_A (xW cy a n V) sz) := by
  refine vx_ofW (cc := cX3_earliest) (maxL := 5) (ret := (some .int)) (by decide) rfl ?_
  intro p e s m args below meth c s₁ B hml hex hv
  obtain ⟨rfl, hsz, hZ, hP, hK, hD0⟩ := hv
  have hx := B.exec
  have hb := B.bytes
  have hr := B.returns
  have hts := atoms_spec (ws := wsX3_earliest) B.pre
  have hown : s.vm.findClass RX3 = some m.cls := findClass_of_methodNamed B.named
  have hlocks := B.notSynchronized
  subst hsz
  have hD := hD0.self (sz := s.heap.size)
  have hN : zN (va_A (xW cy a n V) s.heap.size) c s := ⟨hZ.1, hZ.2.1, hZ.2.2, hex⟩
  generalize hAe : va_A (xW cy a n V) s.heap.size = A at hD hN ⊢
  have hA : ∀ q : Nat, s.heap.size ≤ q → A q := fun q h => by rw [← hAe]; exact Or.inr h
  have hl := lv_entry ([.ref (a.1 0), .int p1, .int p2]) (n := 5) (Nat.le_of_ble_eq_true rfl)
  rw [lg_entry_eq]
  generalize (lg_sl ([.ref (a.1 0), .int p1, .int p2]) ++ List.replicate (5 - (lg_sl ([.ref (a.1 0), .int p1, .int p2])).length) Slot.unset).toArray = ls at hl ⊢
  have hl : lv_has ls 5 [(0, .ref (a.1 0)), (1, .int p1), (2, .int p2)] := hl
  have hinX3 : ∀ w ∈ wsX30, w ∈ wsX3_earliest := (fun _ h => (List.mem_cons_of_mem _ (List.mem_append_left _ (List.mem_append_left _ (List.mem_append_left _ (List.mem_append_left _ (List.mem_append_left _ (List.mem_append_right _ h))))))))
  refine lv_aload_n hx hb dX3_earliest_0 rfl (lv_at hl 0 rfl) ?_
  refine lv_iload_n hx hb dX3_earliest_1 rfl (lv_at hl 1 rfl) ?_
  obtain ⟨u_1, hg_2, h⟩ := ob_some h
  rcases oc_some h with ⟨o_4, h⟩ | ⟨k_3, hk_3, o_4, h⟩
  · refine zcSqn (W.runV (As := [.int p1]) (rest := []) ⟨hx, hb, hml, hown, hts⟩ (c_X3_liftNumbered l D cy a n V p1 hg_2) (cwV 1 hts gX3_earliest_X3_liftNumbered rfl rfl rfl hd_X3_liftNumbered ⟨Nat.le_of_ble_eq_true rfl, Nat.le_of_ble_eq_true rfl⟩) ⟨xI_blind, va_recv hK hP (ci := 3) (q0 := 0) rfl rfl, (xI_at hP hK hD)⟩ rfl rfl hl.1 rfl (lv_room (Nat.le_of_ble_eq_true rfl)) dX3_earliest_2 ⟨Nat.le_of_ble_eq_true rfl, Nat.le_of_ble_eq_true rfl⟩) o_4 ?_
    refine lv_astore_nN (lv' := [(3, .null), (0, .ref (a.1 0)), (1, .int p1), (2, .int p2)]) hx hb dX3_earliest_5 rfl hl (by decide) rfl (fun ls hl => ?_)
    refine lv_aload_nN hx hb dX3_earliest_6 rfl (lv_at hl 0 rfl) ?_
    refine lv_ifnullN (tgt := 18) hx hb dX3_earliest_7 (by decide) ?_
    have h9 := Option.some.inj h
    subst h9
    exact vx_throw0 hx hb hl0 hown (by decide) (by decide) (hts _ (List.mem_of_getElem? (i := 1) rfl)) (hts _ (List.mem_of_getElem? (i := 2) rfl)) (vx_hat (fun w h9 => hts w (List.mem_cons_of_mem _ (List.mem_append_left _ (List.mem_append_left _ (List.mem_append_right _ h9))))) (by decide +kernel) (xNB_3 hN.1 _)) (by decide +kernel) hN.2.1 hN.2.2.1 va_S.rf (hl.1.trans hml.symm) dX3_earliest_18 dX3_earliest_21 dX3_earliest_22 dX3_earliest_25 (fun z hz => (hN.2.2.2 z hz).elim) (Nat.le_of_ble_eq_true rfl) (Nat.le_of_ble_eq_true rfl) (Nat.le_of_ble_eq_true rfl) (Nat.le_of_ble_eq_true rfl) hlocks (fun t hvm hz hk => ⟨(), trivial, ⟨rfl, (show (3 : Nat) ≠ 0 by decide), zP_kept hP hk, hD⟩, zF_kept va_S.rf hz hk⟩) (fun _ hq => absurd hq List.not_mem_nil) (Nat.le_of_ble_eq_true rfl) (Nat.le_of_ble_eq_true rfl)
  · refine zcSqs (W.runV (As := [.int p1]) (rest := []) ⟨hx, hb, hml, hown, hts⟩ (c_X3_liftNumbered l D cy a n V p1 hg_2) (cwV 1 hts gX3_earliest_X3_liftNumbered rfl rfl rfl hd_X3_liftNumbered ⟨Nat.le_of_ble_eq_true rfl, Nat.le_of_ble_eq_true rfl⟩) ⟨xI_blind, va_recv hK hP (ci := 3) (q0 := 0) rfl rfl, (xI_at hP hK hD)⟩ rfl rfl hl.1 rfl (lv_room (Nat.le_of_ble_eq_true rfl)) dX3_earliest_2 ⟨Nat.le_of_ble_eq_true rfl, Nat.le_of_ble_eq_true rfl⟩) o_4 ?_
    refine lv_astore_n (lv' := [(3, .ref (a.2 1 k_3)), (0, .ref (a.1 0)), (1, .int p1), (2, .int p2)]) hx hb dX3_earliest_5 rfl hl (by decide) rfl (fun ls hl => ?_)
    refine lv_aload_n hx hb dX3_earliest_6 rfl (lv_at hl 0 rfl) ?_
    refine lv_ifnull hx hb dX3_earliest_7 ?_
    refine lv_aload_n hx hb dX3_earliest_10 rfl (lv_at hl 1 rfl) ?_
    refine lv_iload_n hx hb dX3_earliest_11 rfl (lv_at hl 3 rfl) ?_
    obtain ⟨u_5, hg_6, h⟩ := ob_some h
    rcases oc_some h with ⟨o_8, h⟩ | ⟨k_7, hk_7, o_8, h⟩
    · refine zcSqn (W.runV (As := [.int p2]) (rest := []) ⟨hx, hb, hml, hown, hts⟩ (c_X3_craneNumbered l D cy a n V p2 hg_6) (cwV 1 hts gX3_earliest_X3_craneNumbered rfl rfl rfl hd_X3_craneNumbered ⟨Nat.le_of_ble_eq_true rfl, Nat.le_of_ble_eq_true rfl⟩) ⟨xI_blind, va_recv hK hP (ci := 3) (q0 := 0) rfl rfl, (xI_at hP hK hD)⟩ rfl rfl hl.1 rfl (lv_room (Nat.le_of_ble_eq_true rfl)) dX3_earliest_12 ⟨Nat.le_of_ble_eq_true rfl, Nat.le_of_ble_eq_true rfl⟩) o_8 ?_
      refine lv_ifnonnullN hx hb dX3_earliest_15 ?_
      have h9 := Option.some.inj h
      subst h9
      exact vx_throw0 hx hb hl0 hown (by decide) (by decide) (hts _ (List.mem_of_getElem? (i := 1) rfl)) (hts _ (List.mem_of_getElem? (i := 2) rfl)) (vx_hat (fun w h9 => hts w (List.mem_cons_of_mem _ (List.mem_append_left _ (List.mem_append_left _ (List.mem_append_right _ h9))))) (by decide +kernel) (xNB_3 hN.1 _)) (by decide +kernel) hN.2.1 hN.2.2.1 va_S.rf (hl.1.trans hml.symm) dX3_earliest_18 dX3_earliest_21 dX3_earliest_22 dX3_earliest_25 (fun z hz => (hN.2.2.2 z hz).elim) (Nat.le_of_ble_eq_true rfl) (Nat.le_of_ble_eq_true rfl) (Nat.le_of_ble_eq_true rfl) (Nat.le_of_ble_eq_true rfl) hlocks (fun t hvm hz hk => ⟨(), trivial, ⟨rfl, (show (3 : Nat) ≠ 0 by decide), zP_kept hP hk, hD⟩, zF_kept va_S.rf hz hk⟩) (fun _ hq => absurd hq List.not_mem_nil) (Nat.le_of_ble_eq_true rfl) (Nat.le_of_ble_eq_true rfl)
    · refine zcSqs (W.runV (As := [.int p2]) (rest := []) ⟨hx, hb, hml, hown, hts⟩ (c_X3_craneNumbered l D cy a n V p2 hg_6) (cwV 1 hts gX3_earliest_X3_craneNumbered rfl rfl rfl hd_X3_craneNumbered ⟨Nat.le_of_ble_eq_true rfl, Nat.le_of_ble_eq_true rfl⟩) ⟨xI_blind, va_recv hK hP (ci := 3) (q0 := 0) rfl rfl, (xI_at hP hK hD)⟩ rfl rfl hl.1 rfl (lv_room (Nat.le_of_ble_eq_true rfl)) dX3_earliest_12 ⟨Nat.le_of_ble_eq_true rfl, Nat.le_of_ble_eq_true rfl⟩) o_8 ?_
      refine lv_ifnonnull (tgt := 26) hx hb dX3_earliest_15 (by decide) ?_
      refine lv_aload_n hx hb dX3_earliest_26 rfl (lv_at hl 1 rfl) ?_
      refine lv_aload_n hx hb dX3_earliest_27 rfl (lv_at hl 0 rfl) ?_
      refine lv_iload_n hx hb dX3_earliest_28 rfl (lv_at hl 3 rfl) ?_
      refine lv_aload_n hx hb dX3_earliest_29 rfl (lv_at hl 1 rfl) ?_
      refine va_get (D := D) (ci := 3) (v := .int (V.2.2.1 7)) (C := RX3) (T := TX3) (N := 10) hx hb hts hinX3 hown hK hP 0 rfl rfl 7 (by decide) (hts _ (List.mem_of_getElem? (i := 5) rfl)) (fun _ h9 => h9) rfl dX3_earliest_30 ?_
      obtain ⟨u_9, hg_10, h⟩ := ob_some h
      refine zcSi (W.runV (As := [.ref (a.2 1 k_3), .int p2, .int (V.2.2.1 7)]) (rest := []) ⟨hx, hb, hml, hown, hts⟩ (c_X3_firstFit l D cy a n V k_3 p2 (V.2.2.1 7) hk_3 hg_10) (cwV 3 hts gX3_earliest_X3_firstFit rfl rfl rfl hd_X3_firstFit ⟨Nat.le_of_ble_eq_true rfl, Nat.le_of_ble_eq_true rfl⟩) ⟨xI_blind, va_recv hK hP (ci := 3) (q0 := 0) rfl rfl, (xI_at hP hK hD)⟩ rfl rfl hl.1 rfl (lv_room (Nat.le_of_ble_eq_true rfl)) dX3_earliest_33 ⟨Nat.le_of_ble_eq_true rfl, Nat.le_of_ble_eq_true rfl⟩) ?_
      refine lv_istore (lv' := [(4, .int u_9), (3, .ref (a.2 1 k_3)), (0, .ref (a.1 0)), (1, .int p1), (2, .int p2)]) hx hb dX3_earliest_36 hl (by decide) rfl (fun ls hl => ?_)
      refine lv_iload hx hb dX3_earliest_38 (lv_at hl 0 rfl) ?_
      refine lv_iconst (v := (-1)) hx hb dX3_earliest_40 (by decide) ?_
      refine lv_icmp_ne (tgt := 52) hx hb dX3_earliest_41 (by decide) (fun c_11 => ?_) (fun c_11 => ?_)
      · replace h := oi_f c_11 h
        refine lv_iload hx hb dX3_earliest_52 (lv_at hl 0 rfl) ?_
        have h9 := Option.some.inj h
        subst h9
        refine vx_ret ?_
        refine W.widen (k := 1) (n := 6) (Nat.le_of_ble_eq_true rfl) (Nat.le_of_ble_eq_true rfl) ?_
        exact W.iret (v := u_9) hx hb hr (fun t ht hW => ⟨⟨u_9, (), rfl, ⟨rfl, rfl⟩, ⟨by rw [ht]; exact hP, hD⟩⟩, va_S.rf.F ht⟩) (fun _ hq => absurd hq List.not_mem_nil) dX3_earliest_54 hlocks
      · replace h := oi_t c_11 h
        have h9 := Option.some.inj h
        subst h9
        exact vx_throw0 hx hb hl0 hown (by decide) (by decide) (hts _ (List.mem_of_getElem? (i := 3) rfl)) (hts _ (List.mem_of_getElem? (i := 4) rfl)) (vx_hat (fun w h9 => hts w (List.mem_cons_of_mem _ (List.mem_append_left _ (List.mem_append_right _ h9)))) (by decide +kernel) (xNB_4 hN.1 _)) (by decide +kernel) hN.2.1 hN.2.2.1 va_S.rf (hl.1.trans hml.symm) dX3_earliest_44 dX3_earliest_47 dX3_earliest_48 dX3_earliest_51 (fun z hz => (hN.2.2.2 z hz).elim) (Nat.le_of_ble_eq_true rfl) (Nat.le_of_ble_eq_true rfl) (Nat.le_of_ble_eq_true rfl) (Nat.le_of_ble_eq_true rfl) hlocks (fun t hvm hz hk => ⟨(), trivial, ⟨rfl, (show (4 : Nat) ≠ 0 by decide), zP_kept hP hk, hD⟩, zF_kept va_S.rf hz hk⟩) (fun _ hq => absurd hq List.not_mem_nil) (Nat.le_of_ble_eq_true rfl) (Nat.le_of_ble_eq_true rfl)
def f_X3_earliestByMinutes_50 (n : Nat → Nat) : XV → Nat → Int32 → Nat → Int32 → Int32 → Option (Nat × Int32)
  | _, 0, _, _, _, _ => none
  | V, fu + 1, zx2, zx3, zx4, zx5 => oi (zx4 = 0) (some (4, 0)) (oi (1440 ≤ zx5) (some (4, 0)) (ob (f_X3_passingObstacle n V zx3 zx2 zx5) (fun u_14 => oi (u_14 = 45) (some (0, zx5)) (f_X3_earliestByMinutes_50 n V fu zx2 zx3 zx4 (zx5 + 1)))))
def f_X3_earliestByMinutes (n : Nat → Nat) (V : XV) (p1 : Int32) (p2 : Int32) : Option (Nat × Int32) := ob (f_X3_liftNumbered n V p1) (fun u_1 => oc (n 1) u_1 (some (3, 0)) (fun k_3 => ob (f_X3_craneNumbered n V p2) (fun u_5 => oc (n 0) u_5 (some (3, 0)) (fun k_7 => ob (f_X3_lastingObstacle n V k_3 p2) (fun u_9 => oi (u_9 = 45) (f_X3_earliestByMinutes_50 n V FU p2 k_3 1 (V.2.2.1 7)) (f_X3_earliestByMinutes_50 n V FU p2 k_3 0 (V.2.2.1 7)))))))
theorem hd_X3_earliestByMinutes : yX3_earliestByMinutes.cls = RX3 ∧ yX3_earliestByMinutes.cls ≠ "java/lang/invoke/MethodHandle" ∧ yX3_earliestByMinutes.cls ≠ "java/lang/invoke/VarHandle" ∧ (parseMethodDescriptor yX3_earliestByMinutes.desc).map (fun d => d.parameters.length) = some 2 := by decide +kernel
set_option maxHeartbeats 4000000 in
set_option maxRecDepth 100000 in
theorem k_X3_earliestByMinutes_50 {p : Program} {l : Launch} {e : Env} {s : State} {m : MethodId} {args : Array Value} {below : List Frame} {meth : Method} {c : Code} {D : va_G} {cy : Nat → ClassId} {a : XA} {n : Nat → Nat} {V : XV} {A : Nat → Prop} (hl0 : l.stackTraces = false) (hx : p.tables.exec = Jvm.exec) (hb : c.code = cX3_earliestByMinutes) (hr : meth.sig.returnType = (some .int)) (hts : ∀ w ∈ wsX3_earliestByMinutes, w.before args s = true) (hml : c.maxLocals = 6) (hown : s.vm.findClass RX3 = some m.cls) (hlocks : meth.locks = false) (hK : va_K D xcl (xty cy) s) (hP : va_P D xcl (xW cy a n V) s.heap) (hD : va_D A (xW cy a n V)) (hN : zN A c s) (res : Nat × Int32) : ∀ (fu : Nat) (zx2 : Int32) (zx3 : Nat) (zx4 : Int32) (zx5 : Int32) (hzx3 : zx3 < n 1) (ls : Array Slot), f_X3_earliestByMinutes_50 n V fu zx2 zx3 zx4 zx5 = some res → lv_has ls 6 [(0, .ref (a.1 0)), (2, .int zx2), (3, .ref (a.2 1 zx3)), (4, .int zx4), (5, .int zx5)] → W p l e ({ frames := 7, cells := 1, slots := 6, locals := 120 } : Room) s m args below meth c s.heap [] 0 0 (vx_MQ below (va_Qi (fun r (_ : Unit) => res.1 = 0 ∧ r = res.2) (fun _ t => va_P D xcl (xW cy a n V) t.heap ∧ va_D A (xW cy a n V)) A) (vx_X (fun (_ : Unit) => True) (fun E _ t => E = xnm res.1 ∧ res.1 ≠ 0 ∧ va_P D xcl (xW cy a n V) t.heap ∧ va_D A (xW cy a n V)) A) args s 1 6 (A)) (F0 m 50 ls []) := by
  intro fu
  induction fu with
  | zero =>
    intro zx2 zx3 zx4 zx5 hzx3 ls h hl
    cases h
  | succ fu ih =>
    intro zx2 zx3 zx4 zx5 hzx3 ls h hl
    refine lv_iload hx hb dX3_earliestByMinutes_50 (lv_at hl 3 rfl) ?_
    refine lv_if_eq (tgt := 85) hx hb dX3_earliestByMinutes_52 (by decide) (fun c_12 => ?_) (fun c_12 => ?_)
    · replace h := oi_t c_12 h
      have h9 := Option.some.inj h
      subst h9
      exact vx_throw0 hx hb hl0 hown (by decide) (by decide) (hts _ (List.mem_of_getElem? (i := 3) rfl)) (hts _ (List.mem_of_getElem? (i := 4) rfl)) (vx_hat (fun w h9 => hts w (List.mem_cons_of_mem _ (List.mem_append_left _ (List.mem_append_right _ h9)))) (by decide +kernel) (xNB_4 hN.1 _)) (by decide +kernel) hN.2.1 hN.2.2.1 va_S.rf (hl.1.trans hml.symm) dX3_earliestByMinutes_85 dX3_earliestByMinutes_88 dX3_earliestByMinutes_89 dX3_earliestByMinutes_92 (fun z hz => (hN.2.2.2 z hz).elim) (Nat.le_of_ble_eq_true rfl) (Nat.le_of_ble_eq_true rfl) (Nat.le_of_ble_eq_true rfl) (Nat.le_of_ble_eq_true rfl) hlocks (fun t hvm hz hk => ⟨(), trivial, ⟨rfl, (show (4 : Nat) ≠ 0 by decide), zP_kept hP hk, hD⟩, zF_kept va_S.rf hz hk⟩) (fun _ hq => absurd hq List.not_mem_nil) (Nat.le_of_ble_eq_true rfl) (Nat.le_of_ble_eq_true rfl)
    · replace h := oi_f c_12 h
      refine lv_iload hx hb dX3_earliestByMinutes_55 (lv_at hl 4 rfl) ?_
      refine lv_sipush (v := 1440) hx hb dX3_earliestByMinutes_57 (by decide) ?_
      refine lv_icmp_ge (tgt := 85) hx hb dX3_earliestByMinutes_60 (by decide) (fun c_13 => ?_) (fun c_13 => ?_)
      · replace h := oi_t c_13 h
        have h9 := Option.some.inj h
        subst h9
        exact vx_throw0 hx hb hl0 hown (by decide) (by decide) (hts _ (List.mem_of_getElem? (i := 3) rfl)) (hts _ (List.mem_of_getElem? (i := 4) rfl)) (vx_hat (fun w h9 => hts w (List.mem_cons_of_mem _ (List.mem_append_left _ (List.mem_append_right _ h9)))) (by decide +kernel) (xNB_4 hN.1 _)) (by decide +kernel) hN.2.1 hN.2.2.1 va_S.rf (hl.1.trans hml.symm) dX3_earliestByMinutes_85 dX3_earliestByMinutes_88 dX3_earliestByMinutes_89 dX3_earliestByMinutes_92 (fun z hz => (hN.2.2.2 z hz).elim) (Nat.le_of_ble_eq_true rfl) (Nat.le_of_ble_eq_true rfl) (Nat.le_of_ble_eq_true rfl) (Nat.le_of_ble_eq_true rfl) hlocks (fun t hvm hz hk => ⟨(), trivial, ⟨rfl, (show (4 : Nat) ≠ 0 by decide), zP_kept hP hk, hD⟩, zF_kept va_S.rf hz hk⟩) (fun _ hq => absurd hq List.not_mem_nil) (Nat.le_of_ble_eq_true rfl) (Nat.le_of_ble_eq_true rfl)
      · replace h := oi_f c_13 h
        refine lv_aload_n hx hb dX3_earliestByMinutes_63 rfl (lv_at hl 0 rfl) ?_
        refine lv_aload_n hx hb dX3_earliestByMinutes_64 rfl (lv_at hl 2 rfl) ?_
        refine lv_iload_n hx hb dX3_earliestByMinutes_65 rfl (lv_at hl 1 rfl) ?_
        refine lv_iload hx hb dX3_earliestByMinutes_66 (lv_at hl 4 rfl) ?_
        obtain ⟨u_14, hg_15, h⟩ := ob_some h
        refine zcSi (W.runV (As := [.ref (a.2 1 zx3), .int zx2, .int zx5]) (rest := []) ⟨hx, hb, hml, hown, hts⟩ (c_X3_passingObstacle l D cy a n V zx3 zx2 zx5 hzx3 hg_15) (cwV 3 hts gX3_earliestByMinutes_X3_passingObstacle rfl rfl rfl hd_X3_passingObstacle ⟨Nat.le_of_ble_eq_true rfl, Nat.le_of_ble_eq_true rfl⟩) ⟨xI_blind, va_recv hK hP (ci := 3) (q0 := 0) rfl rfl, (xI_at hP hK hD)⟩ rfl rfl hl.1 rfl (lv_room (Nat.le_of_ble_eq_true rfl)) dX3_earliestByMinutes_68 ⟨Nat.le_of_ble_eq_true rfl, Nat.le_of_ble_eq_true rfl⟩) ?_
        refine lv_bipush (v := 45) hx hb dX3_earliestByMinutes_71 (by decide) ?_
        refine lv_icmp_ne (tgt := 79) hx hb dX3_earliestByMinutes_73 (by decide) (fun c_16 => ?_) (fun c_16 => ?_)
        · replace h := oi_f c_16 h
          refine lv_iinc (v := zx5 + 1) (lv' := [(5, .int (zx5 + 1)), (0, .ref (a.1 0)), (2, .int zx2), (3, .ref (a.2 1 zx3)), (4, .int zx4)]) hx hb dX3_earliestByMinutes_79 hl (k := 4) rfl rfl (by decide) rfl (fun ls hl => ?_)
          refine lv_goto (tgt := 50) hx hb dX3_earliestByMinutes_82 (by decide) ?_
          exact ih zx2 zx3 zx4 (zx5 + 1) hzx3 ls h (lv_sub hl [1, 2, 3, 4, 0] rfl)
        · replace h := oi_t c_16 h
          refine lv_iload hx hb dX3_earliestByMinutes_76 (lv_at hl 4 rfl) ?_
          have h9 := Option.some.inj h
          subst h9
          refine vx_ret ?_
          refine W.widen (k := 1) (n := 6) (Nat.le_of_ble_eq_true rfl) (Nat.le_of_ble_eq_true rfl) ?_
          exact W.iret (v := zx5) hx hb hr (fun t ht hW => ⟨⟨zx5, (), rfl, ⟨rfl, rfl⟩, ⟨by rw [ht]; exact hP, hD⟩⟩, va_S.rf.F ht⟩) (fun _ hq => absurd hq List.not_mem_nil) dX3_earliestByMinutes_78 hlocks
set_option maxHeartbeats 4000000 in
set_option maxRecDepth 100000 in
theorem c_X3_earliestByMinutes (l : Launch) (hl0 : l.stackTraces = false) (D : va_G) (cy : Nat → ClassId) (a : XA) (n : Nat → Nat) (V : XV) (sz : Nat) (p1 : Int32) (p2 : Int32) {res : Nat × Int32} (h : f_X3_earliestByMinutes n V p1 p2 = some res) : vx_Met l yX3_earliestByMinutes wsX3_earliestByMinutes ({ frames := 7, cells := 1, slots := 6, locals := 120 } : Room) (va_Pc [.ref (a.1 0), .int p1, .int p2] (zX sz (va_A (xW cy a n V) sz) (xI D cy a n V))) (va_Qi (fun r (_ : Unit) => res.1 = 0 ∧ r = res.2) (fun _ t => va_P D xcl (xW cy a n V) t.heap ∧ va_D (va_A (xW cy a n V) sz) (xW cy a n V)) (va_A (xW cy a n V) sz)) (vx_X (fun (_ : Unit) => True) (fun E _ t => E = xnm res.1 ∧ res.1 ≠ 0 ∧ va_P D xcl (xW cy a n V) t.heap ∧ va_D (va_A (xW cy a n V) sz) (xW cy a n V)) (va_A (xW cy a n V) sz)) 1 6 (va_A (xW cy a n V) sz) := by
  refine vx_ofW (cc := cX3_earliestByMinutes) (maxL := 6) (ret := (some .int)) (by decide) rfl ?_
  intro p e s m args below meth c s₁ B hml hex hv
  obtain ⟨rfl, hsz, hZ, hP, hK, hD0⟩ := hv
  have hx := B.exec
  have hb := B.bytes
  have hr := B.returns
  have hts := atoms_spec (ws := wsX3_earliestByMinutes) B.pre
  have hown : s.vm.findClass RX3 = some m.cls := findClass_of_methodNamed B.named
  have hlocks := B.notSynchronized
  subst hsz
  have hD := hD0.self (sz := s.heap.size)
  have hN : zN (va_A (xW cy a n V) s.heap.size) c s := ⟨hZ.1, hZ.2.1, hZ.2.2, hex⟩
  generalize hAe : va_A (xW cy a n V) s.heap.size = A at hD hN ⊢
  have hA : ∀ q : Nat, s.heap.size ≤ q → A q := fun q h => by rw [← hAe]; exact Or.inr h
  have hl := lv_entry ([.ref (a.1 0), .int p1, .int p2]) (n := 6) (Nat.le_of_ble_eq_true rfl)
  rw [lg_entry_eq]
  generalize (lg_sl ([.ref (a.1 0), .int p1, .int p2]) ++ List.replicate (6 - (lg_sl ([.ref (a.1 0), .int p1, .int p2])).length) Slot.unset).toArray = ls at hl ⊢
  have hl : lv_has ls 6 [(0, .ref (a.1 0)), (1, .int p1), (2, .int p2)] := hl
  have hinX3 : ∀ w ∈ wsX30, w ∈ wsX3_earliestByMinutes := (fun _ h => (List.mem_cons_of_mem _ (List.mem_append_left _ (List.mem_append_left _ (List.mem_append_left _ (List.mem_append_left _ (List.mem_append_left _ (List.mem_append_right _ h))))))))
  refine lv_aload_n hx hb dX3_earliestByMinutes_0 rfl (lv_at hl 0 rfl) ?_
  refine lv_iload_n hx hb dX3_earliestByMinutes_1 rfl (lv_at hl 1 rfl) ?_
  obtain ⟨u_1, hg_2, h⟩ := ob_some h
  rcases oc_some h with ⟨o_4, h⟩ | ⟨k_3, hk_3, o_4, h⟩
  · refine zcSqn (W.runV (As := [.int p1]) (rest := []) ⟨hx, hb, hml, hown, hts⟩ (c_X3_liftNumbered l D cy a n V p1 hg_2) (cwV 1 hts gX3_earliestByMinutes_X3_liftNumbered rfl rfl rfl hd_X3_liftNumbered ⟨Nat.le_of_ble_eq_true rfl, Nat.le_of_ble_eq_true rfl⟩) ⟨xI_blind, va_recv hK hP (ci := 3) (q0 := 0) rfl rfl, (xI_at hP hK hD)⟩ rfl rfl hl.1 rfl (lv_room (Nat.le_of_ble_eq_true rfl)) dX3_earliestByMinutes_2 ⟨Nat.le_of_ble_eq_true rfl, Nat.le_of_ble_eq_true rfl⟩) o_4 ?_
    refine lv_astore_nN (lv' := [(3, .null), (0, .ref (a.1 0)), (1, .int p1), (2, .int p2)]) hx hb dX3_earliestByMinutes_5 rfl hl (by decide) rfl (fun ls hl => ?_)
    refine lv_aload_nN hx hb dX3_earliestByMinutes_6 rfl (lv_at hl 0 rfl) ?_
    refine lv_ifnullN (tgt := 18) hx hb dX3_earliestByMinutes_7 (by decide) ?_
    have h9 := Option.some.inj h
    subst h9
    exact vx_throw0 hx hb hl0 hown (by decide) (by decide) (hts _ (List.mem_of_getElem? (i := 1) rfl)) (hts _ (List.mem_of_getElem? (i := 2) rfl)) (vx_hat (fun w h9 => hts w (List.mem_cons_of_mem _ (List.mem_append_left _ (List.mem_append_left _ (List.mem_append_right _ h9))))) (by decide +kernel) (xNB_3 hN.1 _)) (by decide +kernel) hN.2.1 hN.2.2.1 va_S.rf (hl.1.trans hml.symm) dX3_earliestByMinutes_18 dX3_earliestByMinutes_21 dX3_earliestByMinutes_22 dX3_earliestByMinutes_25 (fun z hz => (hN.2.2.2 z hz).elim) (Nat.le_of_ble_eq_true rfl) (Nat.le_of_ble_eq_true rfl) (Nat.le_of_ble_eq_true rfl) (Nat.le_of_ble_eq_true rfl) hlocks (fun t hvm hz hk => ⟨(), trivial, ⟨rfl, (show (3 : Nat) ≠ 0 by decide), zP_kept hP hk, hD⟩, zF_kept va_S.rf hz hk⟩) (fun _ hq => absurd hq List.not_mem_nil) (Nat.le_of_ble_eq_true rfl) (Nat.le_of_ble_eq_true rfl)
  · refine zcSqs (W.runV (As := [.int p1]) (rest := []) ⟨hx, hb, hml, hown, hts⟩ (c_X3_liftNumbered l D cy a n V p1 hg_2) (cwV 1 hts gX3_earliestByMinutes_X3_liftNumbered rfl rfl rfl hd_X3_liftNumbered ⟨Nat.le_of_ble_eq_true rfl, Nat.le_of_ble_eq_true rfl⟩) ⟨xI_blind, va_recv hK hP (ci := 3) (q0 := 0) rfl rfl, (xI_at hP hK hD)⟩ rfl rfl hl.1 rfl (lv_room (Nat.le_of_ble_eq_true rfl)) dX3_earliestByMinutes_2 ⟨Nat.le_of_ble_eq_true rfl, Nat.le_of_ble_eq_true rfl⟩) o_4 ?_
    refine lv_astore_n (lv' := [(3, .ref (a.2 1 k_3)), (0, .ref (a.1 0)), (1, .int p1), (2, .int p2)]) hx hb dX3_earliestByMinutes_5 rfl hl (by decide) rfl (fun ls hl => ?_)
    refine lv_aload_n hx hb dX3_earliestByMinutes_6 rfl (lv_at hl 0 rfl) ?_
    refine lv_ifnull hx hb dX3_earliestByMinutes_7 ?_
    refine lv_aload_n hx hb dX3_earliestByMinutes_10 rfl (lv_at hl 1 rfl) ?_
    refine lv_iload_n hx hb dX3_earliestByMinutes_11 rfl (lv_at hl 3 rfl) ?_
    obtain ⟨u_5, hg_6, h⟩ := ob_some h
    rcases oc_some h with ⟨o_8, h⟩ | ⟨k_7, hk_7, o_8, h⟩
    · refine zcSqn (W.runV (As := [.int p2]) (rest := []) ⟨hx, hb, hml, hown, hts⟩ (c_X3_craneNumbered l D cy a n V p2 hg_6) (cwV 1 hts gX3_earliestByMinutes_X3_craneNumbered rfl rfl rfl hd_X3_craneNumbered ⟨Nat.le_of_ble_eq_true rfl, Nat.le_of_ble_eq_true rfl⟩) ⟨xI_blind, va_recv hK hP (ci := 3) (q0 := 0) rfl rfl, (xI_at hP hK hD)⟩ rfl rfl hl.1 rfl (lv_room (Nat.le_of_ble_eq_true rfl)) dX3_earliestByMinutes_12 ⟨Nat.le_of_ble_eq_true rfl, Nat.le_of_ble_eq_true rfl⟩) o_8 ?_
      refine lv_ifnonnullN hx hb dX3_earliestByMinutes_15 ?_
      have h9 := Option.some.inj h
      subst h9
      exact vx_throw0 hx hb hl0 hown (by decide) (by decide) (hts _ (List.mem_of_getElem? (i := 1) rfl)) (hts _ (List.mem_of_getElem? (i := 2) rfl)) (vx_hat (fun w h9 => hts w (List.mem_cons_of_mem _ (List.mem_append_left _ (List.mem_append_left _ (List.mem_append_right _ h9))))) (by decide +kernel) (xNB_3 hN.1 _)) (by decide +kernel) hN.2.1 hN.2.2.1 va_S.rf (hl.1.trans hml.symm) dX3_earliestByMinutes_18 dX3_earliestByMinutes_21 dX3_earliestByMinutes_22 dX3_earliestByMinutes_25 (fun z hz => (hN.2.2.2 z hz).elim) (Nat.le_of_ble_eq_true rfl) (Nat.le_of_ble_eq_true rfl) (Nat.le_of_ble_eq_true rfl) (Nat.le_of_ble_eq_true rfl) hlocks (fun t hvm hz hk => ⟨(), trivial, ⟨rfl, (show (3 : Nat) ≠ 0 by decide), zP_kept hP hk, hD⟩, zF_kept va_S.rf hz hk⟩) (fun _ hq => absurd hq List.not_mem_nil) (Nat.le_of_ble_eq_true rfl) (Nat.le_of_ble_eq_true rfl)
    · refine zcSqs (W.runV (As := [.int p2]) (rest := []) ⟨hx, hb, hml, hown, hts⟩ (c_X3_craneNumbered l D cy a n V p2 hg_6) (cwV 1 hts gX3_earliestByMinutes_X3_craneNumbered rfl rfl rfl hd_X3_craneNumbered ⟨Nat.le_of_ble_eq_true rfl, Nat.le_of_ble_eq_true rfl⟩) ⟨xI_blind, va_recv hK hP (ci := 3) (q0 := 0) rfl rfl, (xI_at hP hK hD)⟩ rfl rfl hl.1 rfl (lv_room (Nat.le_of_ble_eq_true rfl)) dX3_earliestByMinutes_12 ⟨Nat.le_of_ble_eq_true rfl, Nat.le_of_ble_eq_true rfl⟩) o_8 ?_
      refine lv_ifnonnull (tgt := 26) hx hb dX3_earliestByMinutes_15 (by decide) ?_
      refine lv_aload_n hx hb dX3_earliestByMinutes_26 rfl (lv_at hl 1 rfl) ?_
      refine lv_aload_n hx hb dX3_earliestByMinutes_27 rfl (lv_at hl 0 rfl) ?_
      refine lv_iload_n hx hb dX3_earliestByMinutes_28 rfl (lv_at hl 3 rfl) ?_
      obtain ⟨u_9, hg_10, h⟩ := ob_some h
      refine zcSi (W.runV (As := [.ref (a.2 1 k_3), .int p2]) (rest := []) ⟨hx, hb, hml, hown, hts⟩ (c_X3_lastingObstacle l D cy a n V k_3 p2 hk_3 hg_10) (cwV 2 hts gX3_earliestByMinutes_X3_lastingObstacle rfl rfl rfl hd_X3_lastingObstacle ⟨Nat.le_of_ble_eq_true rfl, Nat.le_of_ble_eq_true rfl⟩) ⟨xI_blind, va_recv hK hP (ci := 3) (q0 := 0) rfl rfl, (xI_at hP hK hD)⟩ rfl rfl hl.1 rfl (lv_room (Nat.le_of_ble_eq_true rfl)) dX3_earliestByMinutes_29 ⟨Nat.le_of_ble_eq_true rfl, Nat.le_of_ble_eq_true rfl⟩) ?_
      refine lv_bipush (v := 45) hx hb dX3_earliestByMinutes_32 (by decide) ?_
      refine lv_icmp_ne (tgt := 41) hx hb dX3_earliestByMinutes_34 (by decide) (fun c_11 => ?_) (fun c_11 => ?_)
      · replace h := oi_f c_11 h
        refine lv_iconst (v := 0) hx hb dX3_earliestByMinutes_41 (by decide) ?_
        refine lv_istore (lv' := [(4, .int 0), (3, .ref (a.2 1 k_3)), (0, .ref (a.1 0)), (1, .int p1), (2, .int p2)]) hx hb dX3_earliestByMinutes_42 hl (by decide) rfl (fun ls hl => ?_)
        refine lv_aload_n hx hb dX3_earliestByMinutes_44 rfl (lv_at hl 2 rfl) ?_
        refine va_get (D := D) (ci := 3) (v := .int (V.2.2.1 7)) (C := RX3) (T := TX3) (N := 10) hx hb hts hinX3 hown hK hP 0 rfl rfl 7 (by decide) (hts _ (List.mem_of_getElem? (i := 5) rfl)) (fun _ h9 => h9) rfl dX3_earliestByMinutes_45 ?_
        refine lv_istore (lv' := [(5, .int (V.2.2.1 7)), (4, .int 0), (3, .ref (a.2 1 k_3)), (0, .ref (a.1 0)), (1, .int p1), (2, .int p2)]) hx hb dX3_earliestByMinutes_48 hl (by decide) rfl (fun ls hl => ?_)
        exact k_X3_earliestByMinutes_50 hl0 hx hb hr hts hml hown hlocks hK hP hD hN _ _ p2 k_3 0 (V.2.2.1 7) hk_3 ls h (lv_sub hl [3, 5, 2, 1, 0] rfl)
      · replace h := oi_t c_11 h
        refine lv_iconst (v := 1) hx hb dX3_earliestByMinutes_37 (by decide) ?_
        refine lv_goto (tgt := 42) hx hb dX3_earliestByMinutes_38 (by decide) ?_
        refine lv_istore (lv' := [(4, .int 1), (3, .ref (a.2 1 k_3)), (0, .ref (a.1 0)), (1, .int p1), (2, .int p2)]) hx hb dX3_earliestByMinutes_42 hl (by decide) rfl (fun ls hl => ?_)
        refine lv_aload_n hx hb dX3_earliestByMinutes_44 rfl (lv_at hl 2 rfl) ?_
        refine va_get (D := D) (ci := 3) (v := .int (V.2.2.1 7)) (C := RX3) (T := TX3) (N := 10) hx hb hts hinX3 hown hK hP 0 rfl rfl 7 (by decide) (hts _ (List.mem_of_getElem? (i := 5) rfl)) (fun _ h9 => h9) rfl dX3_earliestByMinutes_45 ?_
        refine lv_istore (lv' := [(5, .int (V.2.2.1 7)), (4, .int 1), (3, .ref (a.2 1 k_3)), (0, .ref (a.1 0)), (1, .int p1), (2, .int p2)]) hx hb dX3_earliestByMinutes_48 hl (by decide) rfl (fun ls hl => ?_)
        exact k_X3_earliestByMinutes_50 hl0 hx hb hr hts hml hown hlocks hK hP hD hN _ _ p2 k_3 1 (V.2.2.1 7) hk_3 ls h (lv_sub hl [3, 5, 2, 1, 0] rfl)
def f_X3_stateOf (n : Nat → Nat) (V : XV) (p1 : Int32) : Option (Nat × Int32) := ob (f_X3_liftNumbered n V p1) (fun u_1 => oc (n 1) u_1 (some (3, 0)) (fun k_3 => og ((V.1 1 k_3 8).toUInt32.toUInt16.toUInt32.toInt32 = V.1 1 k_3 8) (some (0, V.1 1 k_3 8))))
theorem hd_X3_stateOf : yX3_stateOf.cls = RX3 ∧ yX3_stateOf.cls ≠ "java/lang/invoke/MethodHandle" ∧ yX3_stateOf.cls ≠ "java/lang/invoke/VarHandle" ∧ (parseMethodDescriptor yX3_stateOf.desc).map (fun d => d.parameters.length) = some 1 := by decide +kernel
set_option maxHeartbeats 4000000 in
set_option maxRecDepth 100000 in
theorem c_X3_stateOf (l : Launch) (hl0 : l.stackTraces = false) (D : va_G) (cy : Nat → ClassId) (a : XA) (n : Nat → Nat) (V : XV) (sz : Nat) (p1 : Int32) {res : Nat × Int32} (h : f_X3_stateOf n V p1 = some res) : vx_Met l yX3_stateOf wsX3_stateOf ({ frames := 7, cells := 1, slots := 6, locals := 120 } : Room) (va_Pc [.ref (a.1 0), .int p1] (zX sz (va_A (xW cy a n V) sz) (xI D cy a n V))) (va_Qi (fun r (_ : Unit) => res.1 = 0 ∧ r = res.2) (fun _ t => va_P D xcl (xW cy a n V) t.heap ∧ va_D (va_A (xW cy a n V) sz) (xW cy a n V)) (va_A (xW cy a n V) sz)) (vx_X (fun (_ : Unit) => True) (fun E _ t => E = xnm res.1 ∧ res.1 ≠ 0 ∧ va_P D xcl (xW cy a n V) t.heap ∧ va_D (va_A (xW cy a n V) sz) (xW cy a n V)) (va_A (xW cy a n V) sz)) 1 6 (va_A (xW cy a n V) sz) := by
  refine vx_ofW (cc := cX3_stateOf) (maxL := 3) (ret := (some .char)) (by decide) rfl ?_
  intro p e s m args below meth c s₁ B hml hex hv
  obtain ⟨rfl, hsz, hZ, hP, hK, hD0⟩ := hv
  have hx := B.exec
  have hb := B.bytes
  have hr := B.returns
  have hts := atoms_spec (ws := wsX3_stateOf) B.pre
  have hown : s.vm.findClass RX3 = some m.cls := findClass_of_methodNamed B.named
  have hlocks := B.notSynchronized
  subst hsz
  have hD := hD0.self (sz := s.heap.size)
  have hN : zN (va_A (xW cy a n V) s.heap.size) c s := ⟨hZ.1, hZ.2.1, hZ.2.2, hex⟩
  generalize hAe : va_A (xW cy a n V) s.heap.size = A at hD hN ⊢
  have hA : ∀ q : Nat, s.heap.size ≤ q → A q := fun q h => by rw [← hAe]; exact Or.inr h
  have hl := lv_entry ([.ref (a.1 0), .int p1]) (n := 3) (Nat.le_of_ble_eq_true rfl)
  rw [lg_entry_eq]
  generalize (lg_sl ([.ref (a.1 0), .int p1]) ++ List.replicate (3 - (lg_sl ([.ref (a.1 0), .int p1])).length) Slot.unset).toArray = ls at hl ⊢
  have hl : lv_has ls 3 [(0, .ref (a.1 0)), (1, .int p1)] := hl
  have hinX1 : ∀ w ∈ wsX10, w ∈ wsX3_stateOf := (fun _ h => (List.mem_cons_of_mem _ (List.mem_append_left _ (List.mem_append_left _ (List.mem_append_right _ h)))))
  refine lv_aload_n hx hb dX3_stateOf_0 rfl (lv_at hl 0 rfl) ?_
  refine lv_iload_n hx hb dX3_stateOf_1 rfl (lv_at hl 1 rfl) ?_
  obtain ⟨u_1, hg_2, h⟩ := ob_some h
  rcases oc_some h with ⟨o_4, h⟩ | ⟨k_3, hk_3, o_4, h⟩
  · refine zcSqn (W.runV (As := [.int p1]) (rest := []) ⟨hx, hb, hml, hown, hts⟩ (c_X3_liftNumbered l D cy a n V p1 hg_2) (cwV 1 hts gX3_stateOf_X3_liftNumbered rfl rfl rfl hd_X3_liftNumbered ⟨Nat.le_of_ble_eq_true rfl, Nat.le_of_ble_eq_true rfl⟩) ⟨xI_blind, va_recv hK hP (ci := 3) (q0 := 0) rfl rfl, (xI_at hP hK hD)⟩ rfl rfl hl.1 rfl (lv_room (Nat.le_of_ble_eq_true rfl)) dX3_stateOf_2 ⟨Nat.le_of_ble_eq_true rfl, Nat.le_of_ble_eq_true rfl⟩) o_4 ?_
    refine lv_astore_nN (lv' := [(2, .null), (0, .ref (a.1 0)), (1, .int p1)]) hx hb dX3_stateOf_5 rfl hl (by decide) rfl (fun ls hl => ?_)
    refine lv_aload_nN hx hb dX3_stateOf_6 rfl (lv_at hl 0 rfl) ?_
    refine lv_ifnonnullN hx hb dX3_stateOf_7 ?_
    have h9 := Option.some.inj h
    subst h9
    exact vx_throw0 hx hb hl0 hown (by decide) (by decide) (hts _ (List.mem_of_getElem? (i := 1) rfl)) (hts _ (List.mem_of_getElem? (i := 2) rfl)) (vx_hat (fun w h9 => hts w (List.mem_cons_of_mem _ (List.mem_append_right _ h9))) (by decide +kernel) (xNB_3 hN.1 _)) (by decide +kernel) hN.2.1 hN.2.2.1 va_S.rf (hl.1.trans hml.symm) dX3_stateOf_10 dX3_stateOf_13 dX3_stateOf_14 dX3_stateOf_17 (fun z hz => (hN.2.2.2 z hz).elim) (Nat.le_of_ble_eq_true rfl) (Nat.le_of_ble_eq_true rfl) (Nat.le_of_ble_eq_true rfl) (Nat.le_of_ble_eq_true rfl) hlocks (fun t hvm hz hk => ⟨(), trivial, ⟨rfl, (show (3 : Nat) ≠ 0 by decide), zP_kept hP hk, hD⟩, zF_kept va_S.rf hz hk⟩) (fun _ hq => absurd hq List.not_mem_nil) (Nat.le_of_ble_eq_true rfl) (Nat.le_of_ble_eq_true rfl)
  · refine zcSqs (W.runV (As := [.int p1]) (rest := []) ⟨hx, hb, hml, hown, hts⟩ (c_X3_liftNumbered l D cy a n V p1 hg_2) (cwV 1 hts gX3_stateOf_X3_liftNumbered rfl rfl rfl hd_X3_liftNumbered ⟨Nat.le_of_ble_eq_true rfl, Nat.le_of_ble_eq_true rfl⟩) ⟨xI_blind, va_recv hK hP (ci := 3) (q0 := 0) rfl rfl, (xI_at hP hK hD)⟩ rfl rfl hl.1 rfl (lv_room (Nat.le_of_ble_eq_true rfl)) dX3_stateOf_2 ⟨Nat.le_of_ble_eq_true rfl, Nat.le_of_ble_eq_true rfl⟩) o_4 ?_
    refine lv_astore_n (lv' := [(2, .ref (a.2 1 k_3)), (0, .ref (a.1 0)), (1, .int p1)]) hx hb dX3_stateOf_5 rfl hl (by decide) rfl (fun ls hl => ?_)
    refine lv_aload_n hx hb dX3_stateOf_6 rfl (lv_at hl 0 rfl) ?_
    refine lv_ifnonnull (tgt := 18) hx hb dX3_stateOf_7 (by decide) ?_
    refine lv_aload_n hx hb dX3_stateOf_18 rfl (lv_at hl 0 rfl) ?_
    refine va_get (D := D) (ci := 1) (v := .int (V.1 1 k_3 8)) (C := RX1) (T := TX1) (N := 11) hx hb hts hinX1 hown hK hP _ (xpos_li hk_3) rfl 8 (by decide) (hts _ (List.mem_of_getElem? (i := 3) rfl)) (fun _ h9 => h9) rfl dX3_stateOf_19 ?_
    obtain ⟨g_5, h⟩ := og_some h
    have h9 := Option.some.inj h
    subst h9
    refine vx_ret ?_
    refine W.widen (k := 1) (n := 6) (Nat.le_of_ble_eq_true rfl) (Nat.le_of_ble_eq_true rfl) ?_
    exact W.zret (v := V.1 1 k_3 8) hx hb hr (congrArg Value.int g_5) (fun t ht hW => ⟨⟨V.1 1 k_3 8, (), rfl, ⟨rfl, rfl⟩, ⟨by rw [ht]; exact hP, hD⟩⟩, va_S.rf.F ht⟩) (fun _ hq => absurd hq List.not_mem_nil) dX3_stateOf_22 hlocks
def f_X3_startOf (n : Nat → Nat) (V : XV) (p1 : Int32) : Option (Nat × Int32) := ob (f_X3_liftNumbered n V p1) (fun u_1 => oc (n 1) u_1 (some (3, 0)) (fun k_3 => ob (f_X1_hasCrane n V k_3) (fun u_5 => oi (u_5 = 0) (some (2, 0)) (some (0, V.1 1 k_3 10)))))
theorem hd_X3_startOf : yX3_startOf.cls = RX3 ∧ yX3_startOf.cls ≠ "java/lang/invoke/MethodHandle" ∧ yX3_startOf.cls ≠ "java/lang/invoke/VarHandle" ∧ (parseMethodDescriptor yX3_startOf.desc).map (fun d => d.parameters.length) = some 1 := by decide +kernel
set_option maxHeartbeats 4000000 in
set_option maxRecDepth 100000 in
theorem c_X3_startOf (l : Launch) (hl0 : l.stackTraces = false) (D : va_G) (cy : Nat → ClassId) (a : XA) (n : Nat → Nat) (V : XV) (sz : Nat) (p1 : Int32) {res : Nat × Int32} (h : f_X3_startOf n V p1 = some res) : vx_Met l yX3_startOf wsX3_startOf ({ frames := 7, cells := 1, slots := 6, locals := 120 } : Room) (va_Pc [.ref (a.1 0), .int p1] (zX sz (va_A (xW cy a n V) sz) (xI D cy a n V))) (va_Qi (fun r (_ : Unit) => res.1 = 0 ∧ r = res.2) (fun _ t => va_P D xcl (xW cy a n V) t.heap ∧ va_D (va_A (xW cy a n V) sz) (xW cy a n V)) (va_A (xW cy a n V) sz)) (vx_X (fun (_ : Unit) => True) (fun E _ t => E = xnm res.1 ∧ res.1 ≠ 0 ∧ va_P D xcl (xW cy a n V) t.heap ∧ va_D (va_A (xW cy a n V) sz) (xW cy a n V)) (va_A (xW cy a n V) sz)) 1 6 (va_A (xW cy a n V) sz) := by
  refine vx_ofW (cc := cX3_startOf) (maxL := 3) (ret := (some .int)) (by decide) rfl ?_
  intro p e s m args below meth c s₁ B hml hex hv
  obtain ⟨rfl, hsz, hZ, hP, hK, hD0⟩ := hv
  have hx := B.exec
  have hb := B.bytes
  have hr := B.returns
  have hts := atoms_spec (ws := wsX3_startOf) B.pre
  have hown : s.vm.findClass RX3 = some m.cls := findClass_of_methodNamed B.named
  have hlocks := B.notSynchronized
  subst hsz
  have hD := hD0.self (sz := s.heap.size)
  have hN : zN (va_A (xW cy a n V) s.heap.size) c s := ⟨hZ.1, hZ.2.1, hZ.2.2, hex⟩
  generalize hAe : va_A (xW cy a n V) s.heap.size = A at hD hN ⊢
  have hA : ∀ q : Nat, s.heap.size ≤ q → A q := fun q h => by rw [← hAe]; exact Or.inr h
  have hl := lv_entry ([.ref (a.1 0), .int p1]) (n := 3) (Nat.le_of_ble_eq_true rfl)
  rw [lg_entry_eq]
  generalize (lg_sl ([.ref (a.1 0), .int p1]) ++ List.replicate (3 - (lg_sl ([.ref (a.1 0), .int p1])).length) Slot.unset).toArray = ls at hl ⊢
  have hl : lv_has ls 3 [(0, .ref (a.1 0)), (1, .int p1)] := hl
  have hinX1 : ∀ w ∈ wsX10, w ∈ wsX3_startOf := (fun _ h => (List.mem_cons_of_mem _ (List.mem_append_left _ (List.mem_append_left _ (List.mem_append_left _ (List.mem_append_right _ h))))))
  refine lv_aload_n hx hb dX3_startOf_0 rfl (lv_at hl 0 rfl) ?_
  refine lv_iload_n hx hb dX3_startOf_1 rfl (lv_at hl 1 rfl) ?_
  obtain ⟨u_1, hg_2, h⟩ := ob_some h
  rcases oc_some h with ⟨o_4, h⟩ | ⟨k_3, hk_3, o_4, h⟩
  · refine zcSqn (W.runV (As := [.int p1]) (rest := []) ⟨hx, hb, hml, hown, hts⟩ (c_X3_liftNumbered l D cy a n V p1 hg_2) (cwV 1 hts gX3_startOf_X3_liftNumbered rfl rfl rfl hd_X3_liftNumbered ⟨Nat.le_of_ble_eq_true rfl, Nat.le_of_ble_eq_true rfl⟩) ⟨xI_blind, va_recv hK hP (ci := 3) (q0 := 0) rfl rfl, (xI_at hP hK hD)⟩ rfl rfl hl.1 rfl (lv_room (Nat.le_of_ble_eq_true rfl)) dX3_startOf_2 ⟨Nat.le_of_ble_eq_true rfl, Nat.le_of_ble_eq_true rfl⟩) o_4 ?_
    refine lv_astore_nN (lv' := [(2, .null), (0, .ref (a.1 0)), (1, .int p1)]) hx hb dX3_startOf_5 rfl hl (by decide) rfl (fun ls hl => ?_)
    refine lv_aload_nN hx hb dX3_startOf_6 rfl (lv_at hl 0 rfl) ?_
    refine lv_ifnonnullN hx hb dX3_startOf_7 ?_
    have h9 := Option.some.inj h
    subst h9
    exact vx_throw0 hx hb hl0 hown (by decide) (by decide) (hts _ (List.mem_of_getElem? (i := 1) rfl)) (hts _ (List.mem_of_getElem? (i := 2) rfl)) (vx_hat (fun w h9 => hts w (List.mem_cons_of_mem _ (List.mem_append_left _ (List.mem_append_right _ h9)))) (by decide +kernel) (xNB_3 hN.1 _)) (by decide +kernel) hN.2.1 hN.2.2.1 va_S.rf (hl.1.trans hml.symm) dX3_startOf_10 dX3_startOf_13 dX3_startOf_14 dX3_startOf_17 (fun z hz => (hN.2.2.2 z hz).elim) (Nat.le_of_ble_eq_true rfl) (Nat.le_of_ble_eq_true rfl) (Nat.le_of_ble_eq_true rfl) (Nat.le_of_ble_eq_true rfl) hlocks (fun t hvm hz hk => ⟨(), trivial, ⟨rfl, (show (3 : Nat) ≠ 0 by decide), zP_kept hP hk, hD⟩, zF_kept va_S.rf hz hk⟩) (fun _ hq => absurd hq List.not_mem_nil) (Nat.le_of_ble_eq_true rfl) (Nat.le_of_ble_eq_true rfl)
  · refine zcSqs (W.runV (As := [.int p1]) (rest := []) ⟨hx, hb, hml, hown, hts⟩ (c_X3_liftNumbered l D cy a n V p1 hg_2) (cwV 1 hts gX3_startOf_X3_liftNumbered rfl rfl rfl hd_X3_liftNumbered ⟨Nat.le_of_ble_eq_true rfl, Nat.le_of_ble_eq_true rfl⟩) ⟨xI_blind, va_recv hK hP (ci := 3) (q0 := 0) rfl rfl, (xI_at hP hK hD)⟩ rfl rfl hl.1 rfl (lv_room (Nat.le_of_ble_eq_true rfl)) dX3_startOf_2 ⟨Nat.le_of_ble_eq_true rfl, Nat.le_of_ble_eq_true rfl⟩) o_4 ?_
    refine lv_astore_n (lv' := [(2, .ref (a.2 1 k_3)), (0, .ref (a.1 0)), (1, .int p1)]) hx hb dX3_startOf_5 rfl hl (by decide) rfl (fun ls hl => ?_)
    refine lv_aload_n hx hb dX3_startOf_6 rfl (lv_at hl 0 rfl) ?_
    refine lv_ifnonnull (tgt := 18) hx hb dX3_startOf_7 (by decide) ?_
    refine lv_aload_n hx hb dX3_startOf_18 rfl (lv_at hl 0 rfl) ?_
    obtain ⟨u_5, hg_6, h⟩ := ob_some h
    refine zcSi (W.runV (As := []) (rest := []) ⟨hx, hb, hml, hown, hts⟩ (c_X1_hasCrane l D cy a n V k_3 hk_3 hg_6) (cwV 0 hts gX3_startOf_X1_hasCrane rfl rfl rfl hd_X1_hasCrane ⟨Nat.le_of_ble_eq_true rfl, Nat.le_of_ble_eq_true rfl⟩) ⟨xI_blind, va_recv hK hP (ci := 1) rfl (xpos_li hk_3), (xI_at hP hK hD)⟩ rfl rfl hl.1 rfl (lv_room (Nat.le_of_ble_eq_true rfl)) dX3_startOf_19 ⟨Nat.le_of_ble_eq_true rfl, Nat.le_of_ble_eq_true rfl⟩) ?_
    refine lv_if_ne (tgt := 33) hx hb dX3_startOf_22 (by decide) (fun c_7 => ?_) (fun c_7 => ?_)
    · replace h := oi_f c_7 h
      refine lv_aload_n hx hb dX3_startOf_33 rfl (lv_at hl 0 rfl) ?_
      refine va_get (D := D) (ci := 1) (v := .int (V.1 1 k_3 10)) (C := RX1) (T := TX1) (N := 11) hx hb hts hinX1 hown hK hP _ (xpos_li hk_3) rfl 10 (by decide) (hts _ (List.mem_of_getElem? (i := 5) rfl)) (fun _ h9 => h9) rfl dX3_startOf_34 ?_
      have h9 := Option.some.inj h
      subst h9
      refine vx_ret ?_
      refine W.widen (k := 1) (n := 6) (Nat.le_of_ble_eq_true rfl) (Nat.le_of_ble_eq_true rfl) ?_
      exact W.iret (v := V.1 1 k_3 10) hx hb hr (fun t ht hW => ⟨⟨V.1 1 k_3 10, (), rfl, ⟨rfl, rfl⟩, ⟨by rw [ht]; exact hP, hD⟩⟩, va_S.rf.F ht⟩) (fun _ hq => absurd hq List.not_mem_nil) dX3_startOf_37 hlocks
    · replace h := oi_t c_7 h
      have h9 := Option.some.inj h
      subst h9
      exact vx_throw0 hx hb hl0 hown (by decide) (by decide) (hts _ (List.mem_of_getElem? (i := 3) rfl)) (hts _ (List.mem_of_getElem? (i := 4) rfl)) (vx_hat (fun w h9 => hts w (List.mem_cons_of_mem _ (List.mem_append_right _ h9))) (by decide +kernel) (xNB_2 hN.1 _)) (by decide +kernel) hN.2.1 hN.2.2.1 va_S.rf (hl.1.trans hml.symm) dX3_startOf_25 dX3_startOf_28 dX3_startOf_29 dX3_startOf_32 (fun z hz => (hN.2.2.2 z hz).elim) (Nat.le_of_ble_eq_true rfl) (Nat.le_of_ble_eq_true rfl) (Nat.le_of_ble_eq_true rfl) (Nat.le_of_ble_eq_true rfl) hlocks (fun t hvm hz hk => ⟨(), trivial, ⟨rfl, (show (2 : Nat) ≠ 0 by decide), zP_kept hP hk, hD⟩, zF_kept va_S.rf hz hk⟩) (fun _ hq => absurd hq List.not_mem_nil) (Nat.le_of_ble_eq_true rfl) (Nat.le_of_ble_eq_true rfl)
def f_X3_craneOf (n : Nat → Nat) (V : XV) (p1 : Int32) : Option (Nat × Int32) := ob (f_X3_liftNumbered n V p1) (fun u_1 => oc (n 1) u_1 (some (3, 0)) (fun k_3 => ob (f_X1_hasCrane n V k_3) (fun u_5 => oi (u_5 = 0) (some (2, 0)) (some (0, V.1 1 k_3 9)))))
theorem hd_X3_craneOf : yX3_craneOf.cls = RX3 ∧ yX3_craneOf.cls ≠ "java/lang/invoke/MethodHandle" ∧ yX3_craneOf.cls ≠ "java/lang/invoke/VarHandle" ∧ (parseMethodDescriptor yX3_craneOf.desc).map (fun d => d.parameters.length) = some 1 := by decide +kernel
set_option maxHeartbeats 4000000 in
set_option maxRecDepth 100000 in
theorem c_X3_craneOf (l : Launch) (hl0 : l.stackTraces = false) (D : va_G) (cy : Nat → ClassId) (a : XA) (n : Nat → Nat) (V : XV) (sz : Nat) (p1 : Int32) {res : Nat × Int32} (h : f_X3_craneOf n V p1 = some res) : vx_Met l yX3_craneOf wsX3_craneOf ({ frames := 7, cells := 1, slots := 6, locals := 120 } : Room) (va_Pc [.ref (a.1 0), .int p1] (zX sz (va_A (xW cy a n V) sz) (xI D cy a n V))) (va_Qi (fun r (_ : Unit) => res.1 = 0 ∧ r = res.2) (fun _ t => va_P D xcl (xW cy a n V) t.heap ∧ va_D (va_A (xW cy a n V) sz) (xW cy a n V)) (va_A (xW cy a n V) sz)) (vx_X (fun (_ : Unit) => True) (fun E _ t => E = xnm res.1 ∧ res.1 ≠ 0 ∧ va_P D xcl (xW cy a n V) t.heap ∧ va_D (va_A (xW cy a n V) sz) (xW cy a n V)) (va_A (xW cy a n V) sz)) 1 6 (va_A (xW cy a n V) sz) := by
  refine vx_ofW (cc := cX3_craneOf) (maxL := 3) (ret := (some .int)) (by decide) rfl ?_
  intro p e s m args below meth c s₁ B hml hex hv
  obtain ⟨rfl, hsz, hZ, hP, hK, hD0⟩ := hv
  have hx := B.exec
  have hb := B.bytes
  have hr := B.returns
  have hts := atoms_spec (ws := wsX3_craneOf) B.pre
  have hown : s.vm.findClass RX3 = some m.cls := findClass_of_methodNamed B.named
  have hlocks := B.notSynchronized
  subst hsz
  have hD := hD0.self (sz := s.heap.size)
  have hN : zN (va_A (xW cy a n V) s.heap.size) c s := ⟨hZ.1, hZ.2.1, hZ.2.2, hex⟩
  generalize hAe : va_A (xW cy a n V) s.heap.size = A at hD hN ⊢
  have hA : ∀ q : Nat, s.heap.size ≤ q → A q := fun q h => by rw [← hAe]; exact Or.inr h
  have hl := lv_entry ([.ref (a.1 0), .int p1]) (n := 3) (Nat.le_of_ble_eq_true rfl)
  rw [lg_entry_eq]
  generalize (lg_sl ([.ref (a.1 0), .int p1]) ++ List.replicate (3 - (lg_sl ([.ref (a.1 0), .int p1])).length) Slot.unset).toArray = ls at hl ⊢
  have hl : lv_has ls 3 [(0, .ref (a.1 0)), (1, .int p1)] := hl
  have hinX1 : ∀ w ∈ wsX10, w ∈ wsX3_craneOf := (fun _ h => (List.mem_cons_of_mem _ (List.mem_append_left _ (List.mem_append_left _ (List.mem_append_left _ (List.mem_append_right _ h))))))
  refine lv_aload_n hx hb dX3_craneOf_0 rfl (lv_at hl 0 rfl) ?_
  refine lv_iload_n hx hb dX3_craneOf_1 rfl (lv_at hl 1 rfl) ?_
  obtain ⟨u_1, hg_2, h⟩ := ob_some h
  rcases oc_some h with ⟨o_4, h⟩ | ⟨k_3, hk_3, o_4, h⟩
  · refine zcSqn (W.runV (As := [.int p1]) (rest := []) ⟨hx, hb, hml, hown, hts⟩ (c_X3_liftNumbered l D cy a n V p1 hg_2) (cwV 1 hts gX3_craneOf_X3_liftNumbered rfl rfl rfl hd_X3_liftNumbered ⟨Nat.le_of_ble_eq_true rfl, Nat.le_of_ble_eq_true rfl⟩) ⟨xI_blind, va_recv hK hP (ci := 3) (q0 := 0) rfl rfl, (xI_at hP hK hD)⟩ rfl rfl hl.1 rfl (lv_room (Nat.le_of_ble_eq_true rfl)) dX3_craneOf_2 ⟨Nat.le_of_ble_eq_true rfl, Nat.le_of_ble_eq_true rfl⟩) o_4 ?_
    refine lv_astore_nN (lv' := [(2, .null), (0, .ref (a.1 0)), (1, .int p1)]) hx hb dX3_craneOf_5 rfl hl (by decide) rfl (fun ls hl => ?_)
    refine lv_aload_nN hx hb dX3_craneOf_6 rfl (lv_at hl 0 rfl) ?_
    refine lv_ifnonnullN hx hb dX3_craneOf_7 ?_
    have h9 := Option.some.inj h
    subst h9
    exact vx_throw0 hx hb hl0 hown (by decide) (by decide) (hts _ (List.mem_of_getElem? (i := 1) rfl)) (hts _ (List.mem_of_getElem? (i := 2) rfl)) (vx_hat (fun w h9 => hts w (List.mem_cons_of_mem _ (List.mem_append_left _ (List.mem_append_right _ h9)))) (by decide +kernel) (xNB_3 hN.1 _)) (by decide +kernel) hN.2.1 hN.2.2.1 va_S.rf (hl.1.trans hml.symm) dX3_craneOf_10 dX3_craneOf_13 dX3_craneOf_14 dX3_craneOf_17 (fun z hz => (hN.2.2.2 z hz).elim) (Nat.le_of_ble_eq_true rfl) (Nat.le_of_ble_eq_true rfl) (Nat.le_of_ble_eq_true rfl) (Nat.le_of_ble_eq_true rfl) hlocks (fun t hvm hz hk => ⟨(), trivial, ⟨rfl, (show (3 : Nat) ≠ 0 by decide), zP_kept hP hk, hD⟩, zF_kept va_S.rf hz hk⟩) (fun _ hq => absurd hq List.not_mem_nil) (Nat.le_of_ble_eq_true rfl) (Nat.le_of_ble_eq_true rfl)
  · refine zcSqs (W.runV (As := [.int p1]) (rest := []) ⟨hx, hb, hml, hown, hts⟩ (c_X3_liftNumbered l D cy a n V p1 hg_2) (cwV 1 hts gX3_craneOf_X3_liftNumbered rfl rfl rfl hd_X3_liftNumbered ⟨Nat.le_of_ble_eq_true rfl, Nat.le_of_ble_eq_true rfl⟩) ⟨xI_blind, va_recv hK hP (ci := 3) (q0 := 0) rfl rfl, (xI_at hP hK hD)⟩ rfl rfl hl.1 rfl (lv_room (Nat.le_of_ble_eq_true rfl)) dX3_craneOf_2 ⟨Nat.le_of_ble_eq_true rfl, Nat.le_of_ble_eq_true rfl⟩) o_4 ?_
    refine lv_astore_n (lv' := [(2, .ref (a.2 1 k_3)), (0, .ref (a.1 0)), (1, .int p1)]) hx hb dX3_craneOf_5 rfl hl (by decide) rfl (fun ls hl => ?_)
    refine lv_aload_n hx hb dX3_craneOf_6 rfl (lv_at hl 0 rfl) ?_
    refine lv_ifnonnull (tgt := 18) hx hb dX3_craneOf_7 (by decide) ?_
    refine lv_aload_n hx hb dX3_craneOf_18 rfl (lv_at hl 0 rfl) ?_
    obtain ⟨u_5, hg_6, h⟩ := ob_some h
    refine zcSi (W.runV (As := []) (rest := []) ⟨hx, hb, hml, hown, hts⟩ (c_X1_hasCrane l D cy a n V k_3 hk_3 hg_6) (cwV 0 hts gX3_craneOf_X1_hasCrane rfl rfl rfl hd_X1_hasCrane ⟨Nat.le_of_ble_eq_true rfl, Nat.le_of_ble_eq_true rfl⟩) ⟨xI_blind, va_recv hK hP (ci := 1) rfl (xpos_li hk_3), (xI_at hP hK hD)⟩ rfl rfl hl.1 rfl (lv_room (Nat.le_of_ble_eq_true rfl)) dX3_craneOf_19 ⟨Nat.le_of_ble_eq_true rfl, Nat.le_of_ble_eq_true rfl⟩) ?_
    refine lv_if_ne (tgt := 33) hx hb dX3_craneOf_22 (by decide) (fun c_7 => ?_) (fun c_7 => ?_)
    · replace h := oi_f c_7 h
      refine lv_aload_n hx hb dX3_craneOf_33 rfl (lv_at hl 0 rfl) ?_
      refine va_get (D := D) (ci := 1) (v := .int (V.1 1 k_3 9)) (C := RX1) (T := TX1) (N := 11) hx hb hts hinX1 hown hK hP _ (xpos_li hk_3) rfl 9 (by decide) (hts _ (List.mem_of_getElem? (i := 5) rfl)) (fun _ h9 => h9) rfl dX3_craneOf_34 ?_
      have h9 := Option.some.inj h
      subst h9
      refine vx_ret ?_
      refine W.widen (k := 1) (n := 6) (Nat.le_of_ble_eq_true rfl) (Nat.le_of_ble_eq_true rfl) ?_
      exact W.iret (v := V.1 1 k_3 9) hx hb hr (fun t ht hW => ⟨⟨V.1 1 k_3 9, (), rfl, ⟨rfl, rfl⟩, ⟨by rw [ht]; exact hP, hD⟩⟩, va_S.rf.F ht⟩) (fun _ hq => absurd hq List.not_mem_nil) dX3_craneOf_37 hlocks
    · replace h := oi_t c_7 h
      have h9 := Option.some.inj h
      subst h9
      exact vx_throw0 hx hb hl0 hown (by decide) (by decide) (hts _ (List.mem_of_getElem? (i := 3) rfl)) (hts _ (List.mem_of_getElem? (i := 4) rfl)) (vx_hat (fun w h9 => hts w (List.mem_cons_of_mem _ (List.mem_append_right _ h9))) (by decide +kernel) (xNB_2 hN.1 _)) (by decide +kernel) hN.2.1 hN.2.2.1 va_S.rf (hl.1.trans hml.symm) dX3_craneOf_25 dX3_craneOf_28 dX3_craneOf_29 dX3_craneOf_32 (fun z hz => (hN.2.2.2 z hz).elim) (Nat.le_of_ble_eq_true rfl) (Nat.le_of_ble_eq_true rfl) (Nat.le_of_ble_eq_true rfl) (Nat.le_of_ble_eq_true rfl) hlocks (fun t hvm hz hk => ⟨(), trivial, ⟨rfl, (show (2 : Nat) ≠ 0 by decide), zP_kept hP hk, hD⟩, zF_kept va_S.rf hz hk⟩) (fun _ hq => absurd hq List.not_mem_nil) (Nat.le_of_ble_eq_true rfl) (Nat.le_of_ble_eq_true rfl)
