def f_X0_squareTo (n : Nat → Nat) (V : XV) (k0 : Nat) (p1 : Int32) (p2 : Int32) : Option (Int32) := some (((p1 - (V.1 0 k0 0)) * (p1 - (V.1 0 k0 0))) + ((p2 - (V.1 0 k0 1)) * (p2 - (V.1 0 k0 1))))
theorem hd_X0_squareTo : yX0_squareTo.cls = RX0 ∧ yX0_squareTo.cls ≠ "java/lang/invoke/MethodHandle" ∧ yX0_squareTo.cls ≠ "java/lang/invoke/VarHandle" ∧ (parseMethodDescriptor yX0_squareTo.desc).map (fun d => d.parameters.length) = some 2 := by decide +kernel
set_option maxHeartbeats 4000000 in
set_option maxRecDepth 100000 in
theorem c_X0_squareTo (l : Launch) (D : va_G) (cy : Nat → ClassId) (a : XA) (n : Nat → Nat) (V : XV) (k0 : Nat) (p1 : Int32) (p2 : Int32) (hk0 : k0 < n 0) {res : Int32} (h : f_X0_squareTo n V k0 p1 p2 = some res) : Met l yX0_squareTo wsX0_squareTo ({ frames := 0, cells := 0, slots := 0, locals := 0 } : Room) (va_Pc [.ref (a.2 0 k0), .int p1, .int p2] (xI D cy a n V)) (vp_Si (fun r => r = res)) 0 0 (fun _ => False) := by
  refine Met.ofW (cc := cX0_squareTo) (maxL := 5) (ret := (some .int)) (by decide) rfl ?_
  intro p e s m args below meth c s₁ B hml hv
  obtain ⟨rfl, hP, hK, hD⟩ := hv
  have hx := B.exec
  have hb := B.bytes
  have hr := B.returns
  have hts := atoms_spec (ws := wsX0_squareTo) B.pre
  have hown : s.vm.findClass RX0 = some m.cls := findClass_of_methodNamed B.named
  have hlocks := B.notSynchronized
  have hl := lv_entry ([.ref (a.2 0 k0), .int p1, .int p2]) (n := 5) (Nat.le_of_ble_eq_true rfl)
  rw [lg_entry_eq]
  generalize (lg_sl ([.ref (a.2 0 k0), .int p1, .int p2]) ++ List.replicate (5 - (lg_sl ([.ref (a.2 0 k0), .int p1, .int p2])).length) Slot.unset).toArray = ls at hl ⊢
  have hl : lv_has ls 5 [(0, .ref (a.2 0 k0)), (1, .int p1), (2, .int p2)] := hl
  have hinX0 : ∀ w ∈ wsX00, w ∈ wsX0_squareTo := (fun _ h => (List.mem_cons_of_mem _ (List.mem_append_right _ h)))
  refine lv_iload_n hx hb dX0_squareTo_0 rfl (lv_at hl 1 rfl) ?_
  refine lv_aload_n hx hb dX0_squareTo_1 rfl (lv_at hl 0 rfl) ?_
  refine va_get (D := D) (ci := 0) (v := .int (V.1 0 k0 0)) (C := RX0) (T := TX0) (N := 6) hx hb hts hinX0 hown hK hP _ (xpos_cr hk0) rfl 0 (by decide) (hts _ (List.mem_of_getElem? (i := 1) rfl)) (fun _ h9 => h9) rfl dX0_squareTo_2 ?_
  refine lv_isub hx hb dX0_squareTo_5 ?_
  refine lv_istore_n (lv' := [(3, .int (p1 - (V.1 0 k0 0))), (0, .ref (a.2 0 k0)), (1, .int p1), (2, .int p2)]) hx hb dX0_squareTo_6 rfl hl (by decide) rfl (fun ls hl => ?_)
  refine lv_iload_n hx hb dX0_squareTo_7 rfl (lv_at hl 3 rfl) ?_
  refine lv_aload_n hx hb dX0_squareTo_8 rfl (lv_at hl 1 rfl) ?_
  refine va_get (D := D) (ci := 0) (v := .int (V.1 0 k0 1)) (C := RX0) (T := TX0) (N := 6) hx hb hts hinX0 hown hK hP _ (xpos_cr hk0) rfl 1 (by decide) (hts _ (List.mem_of_getElem? (i := 2) rfl)) (fun _ h9 => h9) rfl dX0_squareTo_9 ?_
  refine lv_isub hx hb dX0_squareTo_12 ?_
  refine lv_istore (lv' := [(4, .int (p2 - (V.1 0 k0 1))), (3, .int (p1 - (V.1 0 k0 0))), (0, .ref (a.2 0 k0)), (1, .int p1), (2, .int p2)]) hx hb dX0_squareTo_13 hl (by decide) rfl (fun ls hl => ?_)
  refine lv_iload_n hx hb dX0_squareTo_15 rfl (lv_at hl 1 rfl) ?_
  refine lv_iload_n hx hb dX0_squareTo_16 rfl (lv_at hl 1 rfl) ?_
  refine lv_imul hx hb dX0_squareTo_17 ?_
  refine lv_iload hx hb dX0_squareTo_18 (lv_at hl 0 rfl) ?_
  refine lv_iload hx hb dX0_squareTo_20 (lv_at hl 0 rfl) ?_
  refine lv_imul hx hb dX0_squareTo_22 ?_
  refine lv_iadd hx hb dX0_squareTo_23 ?_
  have h9 := Option.some.inj h
  exact W.iret (v := ((p1 - (V.1 0 k0 0)) * (p1 - (V.1 0 k0 0))) + ((p2 - (V.1 0 k0 1)) * (p2 - (V.1 0 k0 1)))) hx hb hr (fun t ht hW => ⟨((p1 - (V.1 0 k0 0)) * (p1 - (V.1 0 k0 0))) + ((p2 - (V.1 0 k0 1)) * (p2 - (V.1 0 k0 1))), rfl, h9, ht⟩) (fun _ hq => absurd hq List.not_mem_nil) dX0_squareTo_24 hlocks
def f_X0_reaches (n : Nat → Nat) (V : XV) (k0 : Nat) (p1 : Int32) (p2 : Int32) : Option (Int32) := ob (f_X0_squareTo n V k0 p1 p2) (fun u_1 => oi (((V.1 0 k0 2) * (V.1 0 k0 2)) < u_1) (some 0) (some 1))
theorem hd_X0_reaches : yX0_reaches.cls = RX0 ∧ yX0_reaches.cls ≠ "java/lang/invoke/MethodHandle" ∧ yX0_reaches.cls ≠ "java/lang/invoke/VarHandle" ∧ (parseMethodDescriptor yX0_reaches.desc).map (fun d => d.parameters.length) = some 2 := by decide +kernel
set_option maxHeartbeats 4000000 in
set_option maxRecDepth 100000 in
theorem c_X0_reaches (l : Launch) (D : va_G) (cy : Nat → ClassId) (a : XA) (n : Nat → Nat) (V : XV) (k0 : Nat) (p1 : Int32) (p2 : Int32) (hk0 : k0 < n 0) {res : Int32} (h : f_X0_reaches n V k0 p1 p2 = some res) : Met l yX0_reaches wsX0_reaches ({ frames := 1, cells := 0, slots := 0, locals := 24 } : Room) (va_Pc [.ref (a.2 0 k0), .int p1, .int p2] (xI D cy a n V)) (vp_Si (fun r => r = res)) 0 0 (fun _ => False) := by
  refine Met.ofW (cc := cX0_reaches) (maxL := 3) (ret := (some .boolean)) (by decide) rfl ?_
  intro p e s m args below meth c s₁ B hml hv
  obtain ⟨rfl, hP, hK, hD⟩ := hv
  have hx := B.exec
  have hb := B.bytes
  have hr := B.returns
  have hts := atoms_spec (ws := wsX0_reaches) B.pre
  have hown : s.vm.findClass RX0 = some m.cls := findClass_of_methodNamed B.named
  have hlocks := B.notSynchronized
  have hl := lv_entry ([.ref (a.2 0 k0), .int p1, .int p2]) (n := 3) (Nat.le_of_ble_eq_true rfl)
  rw [lg_entry_eq]
  generalize (lg_sl ([.ref (a.2 0 k0), .int p1, .int p2]) ++ List.replicate (3 - (lg_sl ([.ref (a.2 0 k0), .int p1, .int p2])).length) Slot.unset).toArray = ls at hl ⊢
  have hl : lv_has ls 3 [(0, .ref (a.2 0 k0)), (1, .int p1), (2, .int p2)] := hl
  have hinX0 : ∀ w ∈ wsX00, w ∈ wsX0_reaches := (fun _ h => (List.mem_cons_of_mem _ (List.mem_append_right _ h)))
  refine lv_aload_n hx hb dX0_reaches_0 rfl (lv_at hl 0 rfl) ?_
  refine lv_iload_n hx hb dX0_reaches_1 rfl (lv_at hl 1 rfl) ?_
  refine lv_iload_n hx hb dX0_reaches_2 rfl (lv_at hl 2 rfl) ?_
  obtain ⟨u_1, hg_2, h⟩ := ob_some h
  refine zcSi (W.runV (As := [.int p1, .int p2]) (rest := []) ⟨hx, hb, hml, hown, hts⟩ (c_X0_squareTo l D cy a n V k0 p1 p2 hk0 hg_2) (cwV 2 hts gX0_reaches_X0_squareTo rfl rfl rfl hd_X0_squareTo ⟨Nat.le_of_ble_eq_true rfl, Nat.le_of_ble_eq_true rfl⟩) ⟨xI_blind, va_recv hK hP (ci := 0) rfl (xpos_cr hk0), (xI_at hP hK hD)⟩ rfl rfl hl.1 rfl (lv_room (Nat.le_of_ble_eq_true rfl)) dX0_reaches_3 ⟨Nat.le_of_ble_eq_true rfl, Nat.le_of_ble_eq_true rfl⟩) ?_
  refine lv_aload_n hx hb dX0_reaches_6 rfl (lv_at hl 0 rfl) ?_
  refine va_get (D := D) (ci := 0) (v := .int (V.1 0 k0 2)) (C := RX0) (T := TX0) (N := 6) hx hb hts hinX0 hown hK hP _ (xpos_cr hk0) rfl 2 (by decide) (hts _ (List.mem_of_getElem? (i := 1) rfl)) (fun _ h9 => h9) rfl dX0_reaches_7 ?_
  refine lv_aload_n hx hb dX0_reaches_10 rfl (lv_at hl 0 rfl) ?_
  refine va_get (D := D) (ci := 0) (v := .int (V.1 0 k0 2)) (C := RX0) (T := TX0) (N := 6) hx hb hts hinX0 hown hK hP _ (xpos_cr hk0) rfl 2 (by decide) (hts _ (List.mem_of_getElem? (i := 1) rfl)) (fun _ h9 => h9) rfl dX0_reaches_11 ?_
  refine lv_imul hx hb dX0_reaches_14 ?_
  refine lv_icmp_gt (tgt := 22) hx hb dX0_reaches_15 (by decide) (fun c_3 => ?_) (fun c_3 => ?_)
  · replace h := oi_t c_3 h
    refine lv_iconst (v := 0) hx hb dX0_reaches_22 (by decide) ?_
    have h9 := Option.some.inj h
    exact W.zret (v := 0) hx hb hr (by decide) (fun t ht hW => ⟨0, rfl, h9, ht⟩) (fun _ hq => absurd hq List.not_mem_nil) dX0_reaches_23 hlocks
  · replace h := oi_f c_3 h
    refine lv_iconst (v := 1) hx hb dX0_reaches_18 (by decide) ?_
    refine lv_goto (tgt := 23) hx hb dX0_reaches_19 (by decide) ?_
    have h9 := Option.some.inj h
    exact W.zret (v := 1) hx hb hr (by decide) (fun t ht hW => ⟨1, rfl, h9, ht⟩) (fun _ hq => absurd hq List.not_mem_nil) dX0_reaches_23 hlocks
def f_X0_reachesEnds (n : Nat → Nat) (V : XV) (k0 : Nat) (p1 : Nat) : Option (Int32) := ob (f_X0_reaches n V k0 (V.1 1 p1 0) (V.1 1 p1 1)) (fun u_1 => oi (u_1 = 0) (some 0) (ob (f_X0_reaches n V k0 (V.1 1 p1 2) (V.1 1 p1 3)) (fun u_4 => oi (u_4 = 0) (some 0) (some 1))))
theorem hd_X0_reachesEnds : yX0_reachesEnds.cls = RX0 ∧ yX0_reachesEnds.cls ≠ "java/lang/invoke/MethodHandle" ∧ yX0_reachesEnds.cls ≠ "java/lang/invoke/VarHandle" ∧ (parseMethodDescriptor yX0_reachesEnds.desc).map (fun d => d.parameters.length) = some 1 := by decide +kernel
set_option maxHeartbeats 4000000 in
set_option maxRecDepth 100000 in
theorem c_X0_reachesEnds (l : Launch) (D : va_G) (cy : Nat → ClassId) (a : XA) (n : Nat → Nat) (V : XV) (k0 : Nat) (p1 : Nat) (hk0 : k0 < n 0) (hp1 : p1 < n 1) {res : Int32} (h : f_X0_reachesEnds n V k0 p1 = some res) : Met l yX0_reachesEnds wsX0_reachesEnds ({ frames := 2, cells := 0, slots := 0, locals := 46 } : Room) (va_Pc [.ref (a.2 0 k0), .ref (a.2 1 p1)] (xI D cy a n V)) (vp_Si (fun r => r = res)) 0 0 (fun _ => False) := by
  refine Met.ofW (cc := cX0_reachesEnds) (maxL := 2) (ret := (some .boolean)) (by decide) rfl ?_
  intro p e s m args below meth c s₁ B hml hv
  obtain ⟨rfl, hP, hK, hD⟩ := hv
  have hx := B.exec
  have hb := B.bytes
  have hr := B.returns
  have hts := atoms_spec (ws := wsX0_reachesEnds) B.pre
  have hown : s.vm.findClass RX0 = some m.cls := findClass_of_methodNamed B.named
  have hlocks := B.notSynchronized
  have hl := lv_entry ([.ref (a.2 0 k0), .ref (a.2 1 p1)]) (n := 2) (Nat.le_of_ble_eq_true rfl)
  rw [lg_entry_eq]
  generalize (lg_sl ([.ref (a.2 0 k0), .ref (a.2 1 p1)]) ++ List.replicate (2 - (lg_sl ([.ref (a.2 0 k0), .ref (a.2 1 p1)])).length) Slot.unset).toArray = ls at hl ⊢
  have hl : lv_has ls 2 [(0, .ref (a.2 0 k0)), (1, .ref (a.2 1 p1))] := hl
  have hinX1 : ∀ w ∈ wsX10, w ∈ wsX0_reachesEnds := (fun _ h => (List.mem_cons_of_mem _ (List.mem_append_left _ (List.mem_append_right _ h))))
  refine lv_aload_n hx hb dX0_reachesEnds_0 rfl (lv_at hl 0 rfl) ?_
  refine lv_aload_n hx hb dX0_reachesEnds_1 rfl (lv_at hl 1 rfl) ?_
  refine va_get (D := D) (ci := 1) (v := .int (V.1 1 p1 0)) (C := RX1) (T := TX1) (N := 11) hx hb hts hinX1 hown hK hP _ (xpos_li hp1) rfl 0 (by decide) (hts _ (List.mem_of_getElem? (i := 1) rfl)) (fun _ h9 => h9) rfl dX0_reachesEnds_2 ?_
  refine lv_aload_n hx hb dX0_reachesEnds_5 rfl (lv_at hl 1 rfl) ?_
  refine va_get (D := D) (ci := 1) (v := .int (V.1 1 p1 1)) (C := RX1) (T := TX1) (N := 11) hx hb hts hinX1 hown hK hP _ (xpos_li hp1) rfl 1 (by decide) (hts _ (List.mem_of_getElem? (i := 2) rfl)) (fun _ h9 => h9) rfl dX0_reachesEnds_6 ?_
  obtain ⟨u_1, hg_2, h⟩ := ob_some h
  refine zcSi (W.runV (As := [.int (V.1 1 p1 0), .int (V.1 1 p1 1)]) (rest := []) ⟨hx, hb, hml, hown, hts⟩ (c_X0_reaches l D cy a n V k0 (V.1 1 p1 0) (V.1 1 p1 1) hk0 hg_2) (cwV 2 hts gX0_reachesEnds_X0_reaches rfl rfl rfl hd_X0_reaches ⟨Nat.le_of_ble_eq_true rfl, Nat.le_of_ble_eq_true rfl⟩) ⟨xI_blind, va_recv hK hP (ci := 0) rfl (xpos_cr hk0), (xI_at hP hK hD)⟩ rfl rfl hl.1 rfl (lv_room (Nat.le_of_ble_eq_true rfl)) dX0_reachesEnds_9 ⟨Nat.le_of_ble_eq_true rfl, Nat.le_of_ble_eq_true rfl⟩) ?_
  refine lv_if_eq (tgt := 34) hx hb dX0_reachesEnds_12 (by decide) (fun c_3 => ?_) (fun c_3 => ?_)
  · replace h := oi_t c_3 h
    refine lv_iconst (v := 0) hx hb dX0_reachesEnds_34 (by decide) ?_
    have h9 := Option.some.inj h
    exact W.zret (v := 0) hx hb hr (by decide) (fun t ht hW => ⟨0, rfl, h9, ht⟩) (fun _ hq => absurd hq List.not_mem_nil) dX0_reachesEnds_35 hlocks
  · replace h := oi_f c_3 h
    refine lv_aload_n hx hb dX0_reachesEnds_15 rfl (lv_at hl 0 rfl) ?_
    refine lv_aload_n hx hb dX0_reachesEnds_16 rfl (lv_at hl 1 rfl) ?_
    refine va_get (D := D) (ci := 1) (v := .int (V.1 1 p1 2)) (C := RX1) (T := TX1) (N := 11) hx hb hts hinX1 hown hK hP _ (xpos_li hp1) rfl 2 (by decide) (hts _ (List.mem_of_getElem? (i := 3) rfl)) (fun _ h9 => h9) rfl dX0_reachesEnds_17 ?_
    refine lv_aload_n hx hb dX0_reachesEnds_20 rfl (lv_at hl 1 rfl) ?_
    refine va_get (D := D) (ci := 1) (v := .int (V.1 1 p1 3)) (C := RX1) (T := TX1) (N := 11) hx hb hts hinX1 hown hK hP _ (xpos_li hp1) rfl 3 (by decide) (hts _ (List.mem_of_getElem? (i := 4) rfl)) (fun _ h9 => h9) rfl dX0_reachesEnds_21 ?_
    obtain ⟨u_4, hg_5, h⟩ := ob_some h
    refine zcSi (W.runV (As := [.int (V.1 1 p1 2), .int (V.1 1 p1 3)]) (rest := []) ⟨hx, hb, hml, hown, hts⟩ (c_X0_reaches l D cy a n V k0 (V.1 1 p1 2) (V.1 1 p1 3) hk0 hg_5) (cwV 2 hts gX0_reachesEnds_X0_reaches rfl rfl rfl hd_X0_reaches ⟨Nat.le_of_ble_eq_true rfl, Nat.le_of_ble_eq_true rfl⟩) ⟨xI_blind, va_recv hK hP (ci := 0) rfl (xpos_cr hk0), (xI_at hP hK hD)⟩ rfl rfl hl.1 rfl (lv_room (Nat.le_of_ble_eq_true rfl)) dX0_reachesEnds_24 ⟨Nat.le_of_ble_eq_true rfl, Nat.le_of_ble_eq_true rfl⟩) ?_
    refine lv_if_eq (tgt := 34) hx hb dX0_reachesEnds_27 (by decide) (fun c_6 => ?_) (fun c_6 => ?_)
    · replace h := oi_t c_6 h
      refine lv_iconst (v := 0) hx hb dX0_reachesEnds_34 (by decide) ?_
      have h9 := Option.some.inj h
      exact W.zret (v := 0) hx hb hr (by decide) (fun t ht hW => ⟨0, rfl, h9, ht⟩) (fun _ hq => absurd hq List.not_mem_nil) dX0_reachesEnds_35 hlocks
    · replace h := oi_f c_6 h
      refine lv_iconst (v := 1) hx hb dX0_reachesEnds_30 (by decide) ?_
      refine lv_goto (tgt := 35) hx hb dX0_reachesEnds_31 (by decide) ?_
      have h9 := Option.some.inj h
      exact W.zret (v := 1) hx hb hr (by decide) (fun t ht hW => ⟨1, rfl, h9, ht⟩) (fun _ hq => absurd hq List.not_mem_nil) dX0_reachesEnds_35 hlocks
def f_X0_strengthAt_19 (n : Nat → Nat) : XV → Nat → Nat → Int32 → Int32 → Int32 → Option (Int32)
  | _, 0, _, _, _, _ => none
  | V, fu + 1, zx0, zx3, zx4, zx5 => oi (56 ≤ zx5) (og (¬ zx5 = 0) (ob (some (((if ((V.1 0 zx0 4) / zx5) < (V.1 0 zx0 3) then ((V.1 0 zx0 4) / zx5) else (V.1 0 zx0 3)) * (100 - (3 * zx3))) / 100)) (fun x_6 => some x_6))) (oi (zx4 ≤ (zx5 * zx5)) (og (¬ zx5 = 0) (ob (some (((if ((V.1 0 zx0 4) / zx5) < (V.1 0 zx0 3) then ((V.1 0 zx0 4) / zx5) else (V.1 0 zx0 3)) * (100 - (3 * zx3))) / 100)) (fun x_10 => some x_10))) (f_X0_strengthAt_19 n V fu zx0 zx3 zx4 (zx5 + 1)))
def f_X0_strengthAt (n : Nat → Nat) (V : XV) (k0 : Nat) (p1 : Int32) (p2 : Int32) (p3 : Int32) : Option (Int32) := oi (p3 ≤ 20) (ob (f_X0_squareTo n V k0 p1 p2) (fun u_2 => f_X0_strengthAt_19 n V FU k0 p3 u_2 1)) (some 0)
theorem hd_X0_strengthAt : yX0_strengthAt.cls = RX0 ∧ yX0_strengthAt.cls ≠ "java/lang/invoke/MethodHandle" ∧ yX0_strengthAt.cls ≠ "java/lang/invoke/VarHandle" ∧ (parseMethodDescriptor yX0_strengthAt.desc).map (fun d => d.parameters.length) = some 3 := by decide +kernel
set_option maxHeartbeats 4000000 in
set_option maxRecDepth 100000 in
theorem k_X0_strengthAt_19 {p : Program} {l : Launch} {e : Env} {s : State} {m : MethodId} {args : Array Value} {below : List Frame} {meth : Method} {c : Code} {D : va_G} {cy : Nat → ClassId} {a : XA} {n : Nat → Nat} {V : XV} (hx : p.tables.exec = Jvm.exec) (hb : c.code = cX0_strengthAt) (hr : meth.sig.returnType = (some .int)) (hts : ∀ w ∈ wsX0_strengthAt, w.before args s = true) (hml : c.maxLocals = 6) (hown : s.vm.findClass RX0 = some m.cls) (hlocks : meth.locks = false) (hK : va_K D xcl (xty cy) s) (hP : va_P D xcl (xW cy a n V) s.heap) (hD : va_D (fun _ => True) (xW cy a n V)) (res : Int32) : ∀ (fu : Nat) (zx0 : Nat) (zx3 : Int32) (zx4 : Int32) (zx5 : Int32) (hzx0 : zx0 < n 0) (ls : Array Slot), f_X0_strengthAt_19 n V fu zx0 zx3 zx4 zx5 = some res → lv_has ls 6 [(0, .ref (a.2 0 zx0)), (3, .int zx3), (4, .int zx4), (5, .int zx5)] → W p l e ({ frames := 1, cells := 0, slots := 0, locals := 40 } : Room) s m args below meth c s.heap [] 0 0 (MQ below (vp_Si (fun r => r = res)) args s 0 0 (fun _ => False)) (F0 m 19 ls []) := by
  have hinX0 : ∀ w ∈ wsX00, w ∈ wsX0_strengthAt := (fun _ h => (List.mem_cons_of_mem _ (List.mem_append_left _ (List.mem_append_right _ h))))
  intro fu
  induction fu with
  | zero =>
    intro zx0 zx3 zx4 zx5 hzx0 ls h hl
    cases h
  | succ fu ih =>
    intro zx0 zx3 zx4 zx5 hzx0 ls h hl
    refine lv_iload hx hb dX0_strengthAt_19 (lv_at hl 3 rfl) ?_
    refine lv_bipush (v := 56) hx hb dX0_strengthAt_21 (by decide) ?_
    refine lv_icmp_ge (tgt := 42) hx hb dX0_strengthAt_23 (by decide) (fun c_4 => ?_) (fun c_4 => ?_)
    · replace h := oi_t c_4 h
      refine lv_aload_n hx hb dX0_strengthAt_42 rfl (lv_at hl 0 rfl) ?_
      refine va_get (D := D) (ci := 0) (v := .int (V.1 0 zx0 3)) (C := RX0) (T := TX0) (N := 6) hx hb hts hinX0 hown hK hP _ (xpos_cr hzx0) rfl 3 (by decide) (hts _ (List.mem_of_getElem? (i := 1) rfl)) (fun _ h9 => h9) rfl dX0_strengthAt_43 ?_
      refine lv_aload_n hx hb dX0_strengthAt_46 rfl (lv_at hl 0 rfl) ?_
      refine va_get (D := D) (ci := 0) (v := .int (V.1 0 zx0 4)) (C := RX0) (T := TX0) (N := 6) hx hb hts hinX0 hown hK hP _ (xpos_cr hzx0) rfl 4 (by decide) (hts _ (List.mem_of_getElem? (i := 2) rfl)) (fun _ h9 => h9) rfl dX0_strengthAt_47 ?_
      refine lv_iload hx hb dX0_strengthAt_50 (lv_at hl 3 rfl) ?_
      obtain ⟨g_5, h⟩ := og_some h
      refine lv_idiv hx hb dX0_strengthAt_52 g_5 ?_
      refine va_mmin hx hb (hml.trans hl.1.symm) hown (hts _ (List.mem_of_getElem? (i := 3) rfl)) (hts _ (List.mem_of_getElem? (i := 4) rfl)) (hts _ (List.mem_of_getElem? (i := 5) rfl)) (hts _ (List.mem_of_getElem? (i := 6) rfl)) (Nat.le_of_ble_eq_true rfl) (Nat.le_of_ble_eq_true rfl) (Nat.le_of_ble_eq_true rfl) (Nat.le_of_ble_eq_true rfl) dX0_strengthAt_53 ?_
      refine lv_bipush (v := 100) hx hb dX0_strengthAt_56 (by decide) ?_
      refine lv_iconst (v := 3) hx hb dX0_strengthAt_58 (by decide) ?_
      refine lv_iload_n hx hb dX0_strengthAt_59 rfl (lv_at hl 1 rfl) ?_
      refine lv_imul hx hb dX0_strengthAt_60 ?_
      refine lv_isub hx hb dX0_strengthAt_61 ?_
      refine lv_imul hx hb dX0_strengthAt_62 ?_
      refine lv_bipush (v := 100) hx hb dX0_strengthAt_63 (by decide) ?_
      refine lv_idiv hx hb dX0_strengthAt_65 (by decide) ?_
      obtain ⟨x_6, ex_7, h⟩ := ob_some h
      refine W.eq (g2 := F0 m 66 ls [.int x_6]) (by rw [← Option.some.inj ex_7]) ?_
      have h9 := Option.some.inj h
      exact W.iret (v := x_6) hx hb hr (fun t ht hW => ⟨x_6, rfl, h9, ht⟩) (fun _ hq => absurd hq List.not_mem_nil) dX0_strengthAt_66 hlocks
    · replace h := oi_f c_4 h
      refine lv_iload hx hb dX0_strengthAt_26 (lv_at hl 3 rfl) ?_
      refine lv_iload hx hb dX0_strengthAt_28 (lv_at hl 3 rfl) ?_
      refine lv_imul hx hb dX0_strengthAt_30 ?_
      refine lv_iload hx hb dX0_strengthAt_31 (lv_at hl 2 rfl) ?_
      refine lv_icmp_ge (tgt := 42) hx hb dX0_strengthAt_33 (by decide) (fun c_8 => ?_) (fun c_8 => ?_)
      · replace h := oi_t c_8 h
        refine lv_aload_n hx hb dX0_strengthAt_42 rfl (lv_at hl 0 rfl) ?_
        refine va_get (D := D) (ci := 0) (v := .int (V.1 0 zx0 3)) (C := RX0) (T := TX0) (N := 6) hx hb hts hinX0 hown hK hP _ (xpos_cr hzx0) rfl 3 (by decide) (hts _ (List.mem_of_getElem? (i := 1) rfl)) (fun _ h9 => h9) rfl dX0_strengthAt_43 ?_
        refine lv_aload_n hx hb dX0_strengthAt_46 rfl (lv_at hl 0 rfl) ?_
        refine va_get (D := D) (ci := 0) (v := .int (V.1 0 zx0 4)) (C := RX0) (T := TX0) (N := 6) hx hb hts hinX0 hown hK hP _ (xpos_cr hzx0) rfl 4 (by decide) (hts _ (List.mem_of_getElem? (i := 2) rfl)) (fun _ h9 => h9) rfl dX0_strengthAt_47 ?_
        refine lv_iload hx hb dX0_strengthAt_50 (lv_at hl 3 rfl) ?_
        obtain ⟨g_9, h⟩ := og_some h
        refine lv_idiv hx hb dX0_strengthAt_52 g_9 ?_
        refine va_mmin hx hb (hml.trans hl.1.symm) hown (hts _ (List.mem_of_getElem? (i := 3) rfl)) (hts _ (List.mem_of_getElem? (i := 4) rfl)) (hts _ (List.mem_of_getElem? (i := 5) rfl)) (hts _ (List.mem_of_getElem? (i := 6) rfl)) (Nat.le_of_ble_eq_true rfl) (Nat.le_of_ble_eq_true rfl) (Nat.le_of_ble_eq_true rfl) (Nat.le_of_ble_eq_true rfl) dX0_strengthAt_53 ?_
        refine lv_bipush (v := 100) hx hb dX0_strengthAt_56 (by decide) ?_
        refine lv_iconst (v := 3) hx hb dX0_strengthAt_58 (by decide) ?_
        refine lv_iload_n hx hb dX0_strengthAt_59 rfl (lv_at hl 1 rfl) ?_
        refine lv_imul hx hb dX0_strengthAt_60 ?_
        refine lv_isub hx hb dX0_strengthAt_61 ?_
        refine lv_imul hx hb dX0_strengthAt_62 ?_
        refine lv_bipush (v := 100) hx hb dX0_strengthAt_63 (by decide) ?_
        refine lv_idiv hx hb dX0_strengthAt_65 (by decide) ?_
        obtain ⟨x_10, ex_11, h⟩ := ob_some h
        refine W.eq (g2 := F0 m 66 ls [.int x_10]) (by rw [← Option.some.inj ex_11]) ?_
        have h9 := Option.some.inj h
        exact W.iret (v := x_10) hx hb hr (fun t ht hW => ⟨x_10, rfl, h9, ht⟩) (fun _ hq => absurd hq List.not_mem_nil) dX0_strengthAt_66 hlocks
      · replace h := oi_f c_8 h
        refine lv_iinc (v := zx5 + 1) (lv' := [(5, .int (zx5 + 1)), (0, .ref (a.2 0 zx0)), (3, .int zx3), (4, .int zx4)]) hx hb dX0_strengthAt_36 hl (k := 3) rfl rfl (by decide) rfl (fun ls hl => ?_)
        refine lv_goto (tgt := 19) hx hb dX0_strengthAt_39 (by decide) ?_
        exact ih zx0 zx3 zx4 (zx5 + 1) hzx0 ls h (lv_sub hl [1, 2, 3, 0] rfl)
set_option maxHeartbeats 4000000 in
set_option maxRecDepth 100000 in
theorem c_X0_strengthAt (l : Launch) (D : va_G) (cy : Nat → ClassId) (a : XA) (n : Nat → Nat) (V : XV) (k0 : Nat) (p1 : Int32) (p2 : Int32) (p3 : Int32) (hk0 : k0 < n 0) {res : Int32} (h : f_X0_strengthAt n V k0 p1 p2 p3 = some res) : Met l yX0_strengthAt wsX0_strengthAt ({ frames := 1, cells := 0, slots := 0, locals := 40 } : Room) (va_Pc [.ref (a.2 0 k0), .int p1, .int p2, .int p3] (xI D cy a n V)) (vp_Si (fun r => r = res)) 0 0 (fun _ => False) := by
  refine Met.ofW (cc := cX0_strengthAt) (maxL := 6) (ret := (some .int)) (by decide) rfl ?_
  intro p e s m args below meth c s₁ B hml hv
  obtain ⟨rfl, hP, hK, hD⟩ := hv
  have hx := B.exec
  have hb := B.bytes
  have hr := B.returns
  have hts := atoms_spec (ws := wsX0_strengthAt) B.pre
  have hown : s.vm.findClass RX0 = some m.cls := findClass_of_methodNamed B.named
  have hlocks := B.notSynchronized
  have hl := lv_entry ([.ref (a.2 0 k0), .int p1, .int p2, .int p3]) (n := 6) (Nat.le_of_ble_eq_true rfl)
  rw [lg_entry_eq]
  generalize (lg_sl ([.ref (a.2 0 k0), .int p1, .int p2, .int p3]) ++ List.replicate (6 - (lg_sl ([.ref (a.2 0 k0), .int p1, .int p2, .int p3])).length) Slot.unset).toArray = ls at hl ⊢
  have hl : lv_has ls 6 [(0, .ref (a.2 0 k0)), (1, .int p1), (2, .int p2), (3, .int p3)] := hl
  refine lv_iload_n hx hb dX0_strengthAt_0 rfl (lv_at hl 3 rfl) ?_
  refine lv_bipush (v := 20) hx hb dX0_strengthAt_1 (by decide) ?_
  refine lv_icmp_le (tgt := 8) hx hb dX0_strengthAt_3 (by decide) (fun c_1 => ?_) (fun c_1 => ?_)
  · replace h := oi_t c_1 h
    refine lv_aload_n hx hb dX0_strengthAt_8 rfl (lv_at hl 0 rfl) ?_
    refine lv_iload_n hx hb dX0_strengthAt_9 rfl (lv_at hl 1 rfl) ?_
    refine lv_iload_n hx hb dX0_strengthAt_10 rfl (lv_at hl 2 rfl) ?_
    obtain ⟨u_2, hg_3, h⟩ := ob_some h
    refine zcSi (W.runV (As := [.int p1, .int p2]) (rest := []) ⟨hx, hb, hml, hown, hts⟩ (c_X0_squareTo l D cy a n V k0 p1 p2 hk0 hg_3) (cwV 2 hts gX0_strengthAt_X0_squareTo rfl rfl rfl hd_X0_squareTo ⟨Nat.le_of_ble_eq_true rfl, Nat.le_of_ble_eq_true rfl⟩) ⟨xI_blind, va_recv hK hP (ci := 0) rfl (xpos_cr hk0), (xI_at hP hK hD)⟩ rfl rfl hl.1 rfl (lv_room (Nat.le_of_ble_eq_true rfl)) dX0_strengthAt_11 ⟨Nat.le_of_ble_eq_true rfl, Nat.le_of_ble_eq_true rfl⟩) ?_
    refine lv_istore (lv' := [(4, .int u_2), (0, .ref (a.2 0 k0)), (1, .int p1), (2, .int p2), (3, .int p3)]) hx hb dX0_strengthAt_14 hl (by decide) rfl (fun ls hl => ?_)
    refine lv_iconst (v := 1) hx hb dX0_strengthAt_16 (by decide) ?_
    refine lv_istore (lv' := [(5, .int 1), (4, .int u_2), (0, .ref (a.2 0 k0)), (1, .int p1), (2, .int p2), (3, .int p3)]) hx hb dX0_strengthAt_17 hl (by decide) rfl (fun ls hl => ?_)
    exact k_X0_strengthAt_19 hx hb hr hts hml hown hlocks hK hP hD _ _ k0 p3 u_2 1 hk0 ls h (lv_sub hl [2, 5, 1, 0] rfl)
  · replace h := oi_f c_1 h
    refine lv_iconst (v := 0) hx hb dX0_strengthAt_6 (by decide) ?_
    have h9 := Option.some.inj h
    exact W.iret (v := 0) hx hb hr (fun t ht hW => ⟨0, rfl, h9, ht⟩) (fun _ hq => absurd hq List.not_mem_nil) dX0_strengthAt_7 hlocks
def f_X0_bearsAtEnds (n : Nat → Nat) (V : XV) (k0 : Nat) (p1 : Nat) (p2 : Int32) : Option (Int32) := ob (f_X0_strengthAt n V k0 (V.1 1 p1 0) (V.1 1 p1 1) p2) (fun u_1 => oi (u_1 < (V.1 1 p1 4)) (some 0) (ob (f_X0_strengthAt n V k0 (V.1 1 p1 2) (V.1 1 p1 3) p2) (fun u_4 => oi (u_4 < (V.1 1 p1 4)) (some 0) (some 1))))
theorem hd_X0_bearsAtEnds : yX0_bearsAtEnds.cls = RX0 ∧ yX0_bearsAtEnds.cls ≠ "java/lang/invoke/MethodHandle" ∧ yX0_bearsAtEnds.cls ≠ "java/lang/invoke/VarHandle" ∧ (parseMethodDescriptor yX0_bearsAtEnds.desc).map (fun d => d.parameters.length) = some 2 := by decide +kernel
set_option maxHeartbeats 4000000 in
set_option maxRecDepth 100000 in
theorem c_X0_bearsAtEnds (l : Launch) (D : va_G) (cy : Nat → ClassId) (a : XA) (n : Nat → Nat) (V : XV) (k0 : Nat) (p1 : Nat) (p2 : Int32) (hk0 : k0 < n 0) (hp1 : p1 < n 1) {res : Int32} (h : f_X0_bearsAtEnds n V k0 p1 p2 = some res) : Met l yX0_bearsAtEnds wsX0_bearsAtEnds ({ frames := 2, cells := 0, slots := 0, locals := 65 } : Room) (va_Pc [.ref (a.2 0 k0), .ref (a.2 1 p1), .int p2] (xI D cy a n V)) (vp_Si (fun r => r = res)) 0 0 (fun _ => False) := by
  refine Met.ofW (cc := cX0_bearsAtEnds) (maxL := 3) (ret := (some .boolean)) (by decide) rfl ?_
  intro p e s m args below meth c s₁ B hml hv
  obtain ⟨rfl, hP, hK, hD⟩ := hv
  have hx := B.exec
  have hb := B.bytes
  have hr := B.returns
  have hts := atoms_spec (ws := wsX0_bearsAtEnds) B.pre
  have hown : s.vm.findClass RX0 = some m.cls := findClass_of_methodNamed B.named
  have hlocks := B.notSynchronized
  have hl := lv_entry ([.ref (a.2 0 k0), .ref (a.2 1 p1), .int p2]) (n := 3) (Nat.le_of_ble_eq_true rfl)
  rw [lg_entry_eq]
  generalize (lg_sl ([.ref (a.2 0 k0), .ref (a.2 1 p1), .int p2]) ++ List.replicate (3 - (lg_sl ([.ref (a.2 0 k0), .ref (a.2 1 p1), .int p2])).length) Slot.unset).toArray = ls at hl ⊢
  have hl : lv_has ls 3 [(0, .ref (a.2 0 k0)), (1, .ref (a.2 1 p1)), (2, .int p2)] := hl
  have hinX1 : ∀ w ∈ wsX10, w ∈ wsX0_bearsAtEnds := (fun _ h => (List.mem_cons_of_mem _ (List.mem_append_left _ (List.mem_append_left _ (List.mem_append_right _ h)))))
  refine lv_aload_n hx hb dX0_bearsAtEnds_0 rfl (lv_at hl 1 rfl) ?_
  refine va_get (D := D) (ci := 1) (v := .int (V.1 1 p1 4)) (C := RX1) (T := TX1) (N := 11) hx hb hts hinX1 hown hK hP _ (xpos_li hp1) rfl 4 (by decide) (hts _ (List.mem_of_getElem? (i := 1) rfl)) (fun _ h9 => h9) rfl dX0_bearsAtEnds_1 ?_
  refine lv_aload_n hx hb dX0_bearsAtEnds_4 rfl (lv_at hl 0 rfl) ?_
  refine lv_aload_n hx hb dX0_bearsAtEnds_5 rfl (lv_at hl 1 rfl) ?_
  refine va_get (D := D) (ci := 1) (v := .int (V.1 1 p1 0)) (C := RX1) (T := TX1) (N := 11) hx hb hts hinX1 hown hK hP _ (xpos_li hp1) rfl 0 (by decide) (hts _ (List.mem_of_getElem? (i := 2) rfl)) (fun _ h9 => h9) rfl dX0_bearsAtEnds_6 ?_
  refine lv_aload_n hx hb dX0_bearsAtEnds_9 rfl (lv_at hl 1 rfl) ?_
  refine va_get (D := D) (ci := 1) (v := .int (V.1 1 p1 1)) (C := RX1) (T := TX1) (N := 11) hx hb hts hinX1 hown hK hP _ (xpos_li hp1) rfl 1 (by decide) (hts _ (List.mem_of_getElem? (i := 3) rfl)) (fun _ h9 => h9) rfl dX0_bearsAtEnds_10 ?_
  refine lv_iload_n hx hb dX0_bearsAtEnds_13 rfl (lv_at hl 2 rfl) ?_
  obtain ⟨u_1, hg_2, h⟩ := ob_some h
  refine zcSi (W.runV (As := [.int (V.1 1 p1 0), .int (V.1 1 p1 1), .int p2]) (rest := [.int (V.1 1 p1 4)]) ⟨hx, hb, hml, hown, hts⟩ (c_X0_strengthAt l D cy a n V k0 (V.1 1 p1 0) (V.1 1 p1 1) p2 hk0 hg_2) (cwV 3 hts gX0_bearsAtEnds_X0_strengthAt rfl rfl rfl hd_X0_strengthAt ⟨Nat.le_of_ble_eq_true rfl, Nat.le_of_ble_eq_true rfl⟩) ⟨xI_blind, va_recv hK hP (ci := 0) rfl (xpos_cr hk0), (xI_at hP hK hD)⟩ rfl rfl hl.1 rfl (lv_room (Nat.le_of_ble_eq_true rfl)) dX0_bearsAtEnds_14 ⟨Nat.le_of_ble_eq_true rfl, Nat.le_of_ble_eq_true rfl⟩) ?_
  refine lv_icmp_gt (tgt := 44) hx hb dX0_bearsAtEnds_17 (by decide) (fun c_3 => ?_) (fun c_3 => ?_)
  · replace h := oi_t c_3 h
    refine lv_iconst (v := 0) hx hb dX0_bearsAtEnds_44 (by decide) ?_
    have h9 := Option.some.inj h
    exact W.zret (v := 0) hx hb hr (by decide) (fun t ht hW => ⟨0, rfl, h9, ht⟩) (fun _ hq => absurd hq List.not_mem_nil) dX0_bearsAtEnds_45 hlocks
  · replace h := oi_f c_3 h
    refine lv_aload_n hx hb dX0_bearsAtEnds_20 rfl (lv_at hl 1 rfl) ?_
    refine va_get (D := D) (ci := 1) (v := .int (V.1 1 p1 4)) (C := RX1) (T := TX1) (N := 11) hx hb hts hinX1 hown hK hP _ (xpos_li hp1) rfl 4 (by decide) (hts _ (List.mem_of_getElem? (i := 1) rfl)) (fun _ h9 => h9) rfl dX0_bearsAtEnds_21 ?_
    refine lv_aload_n hx hb dX0_bearsAtEnds_24 rfl (lv_at hl 0 rfl) ?_
    refine lv_aload_n hx hb dX0_bearsAtEnds_25 rfl (lv_at hl 1 rfl) ?_
    refine va_get (D := D) (ci := 1) (v := .int (V.1 1 p1 2)) (C := RX1) (T := TX1) (N := 11) hx hb hts hinX1 hown hK hP _ (xpos_li hp1) rfl 2 (by decide) (hts _ (List.mem_of_getElem? (i := 4) rfl)) (fun _ h9 => h9) rfl dX0_bearsAtEnds_26 ?_
    refine lv_aload_n hx hb dX0_bearsAtEnds_29 rfl (lv_at hl 1 rfl) ?_
    refine va_get (D := D) (ci := 1) (v := .int (V.1 1 p1 3)) (C := RX1) (T := TX1) (N := 11) hx hb hts hinX1 hown hK hP _ (xpos_li hp1) rfl 3 (by decide) (hts _ (List.mem_of_getElem? (i := 5) rfl)) (fun _ h9 => h9) rfl dX0_bearsAtEnds_30 ?_
    refine lv_iload_n hx hb dX0_bearsAtEnds_33 rfl (lv_at hl 2 rfl) ?_
    obtain ⟨u_4, hg_5, h⟩ := ob_some h
    refine zcSi (W.runV (As := [.int (V.1 1 p1 2), .int (V.1 1 p1 3), .int p2]) (rest := [.int (V.1 1 p1 4)]) ⟨hx, hb, hml, hown, hts⟩ (c_X0_strengthAt l D cy a n V k0 (V.1 1 p1 2) (V.1 1 p1 3) p2 hk0 hg_5) (cwV 3 hts gX0_bearsAtEnds_X0_strengthAt rfl rfl rfl hd_X0_strengthAt ⟨Nat.le_of_ble_eq_true rfl, Nat.le_of_ble_eq_true rfl⟩) ⟨xI_blind, va_recv hK hP (ci := 0) rfl (xpos_cr hk0), (xI_at hP hK hD)⟩ rfl rfl hl.1 rfl (lv_room (Nat.le_of_ble_eq_true rfl)) dX0_bearsAtEnds_34 ⟨Nat.le_of_ble_eq_true rfl, Nat.le_of_ble_eq_true rfl⟩) ?_
    refine lv_icmp_gt (tgt := 44) hx hb dX0_bearsAtEnds_37 (by decide) (fun c_6 => ?_) (fun c_6 => ?_)
    · replace h := oi_t c_6 h
      refine lv_iconst (v := 0) hx hb dX0_bearsAtEnds_44 (by decide) ?_
      have h9 := Option.some.inj h
      exact W.zret (v := 0) hx hb hr (by decide) (fun t ht hW => ⟨0, rfl, h9, ht⟩) (fun _ hq => absurd hq List.not_mem_nil) dX0_bearsAtEnds_45 hlocks
    · replace h := oi_f c_6 h
      refine lv_iconst (v := 1) hx hb dX0_bearsAtEnds_40 (by decide) ?_
      refine lv_goto (tgt := 45) hx hb dX0_bearsAtEnds_41 (by decide) ?_
      have h9 := Option.some.inj h
      exact W.zret (v := 1) hx hb hr (by decide) (fun t ht hW => ⟨1, rfl, h9, ht⟩) (fun _ hq => absurd hq List.not_mem_nil) dX0_bearsAtEnds_45 hlocks
def f_X0_hasHour (n : Nat → Nat) (V : XV) (k0 : Nat) (p1 : Int32) : Option (Int32) := oi ((((V.1 0 k0 5) >>> (p1 &&& 31)) &&& 1) = 1) (some 1) (some 0)
theorem hd_X0_hasHour : yX0_hasHour.cls = RX0 ∧ yX0_hasHour.cls ≠ "java/lang/invoke/MethodHandle" ∧ yX0_hasHour.cls ≠ "java/lang/invoke/VarHandle" ∧ (parseMethodDescriptor yX0_hasHour.desc).map (fun d => d.parameters.length) = some 1 := by decide +kernel
set_option maxHeartbeats 4000000 in
set_option maxRecDepth 100000 in
theorem c_X0_hasHour (l : Launch) (D : va_G) (cy : Nat → ClassId) (a : XA) (n : Nat → Nat) (V : XV) (k0 : Nat) (p1 : Int32) (hk0 : k0 < n 0) {res : Int32} (h : f_X0_hasHour n V k0 p1 = some res) : Met l yX0_hasHour wsX0_hasHour ({ frames := 0, cells := 0, slots := 0, locals := 0 } : Room) (va_Pc [.ref (a.2 0 k0), .int p1] (xI D cy a n V)) (vp_Si (fun r => r = res)) 0 0 (fun _ => False) := by
  refine Met.ofW (cc := cX0_hasHour) (maxL := 2) (ret := (some .boolean)) (by decide) rfl ?_
  intro p e s m args below meth c s₁ B hml hv
  obtain ⟨rfl, hP, hK, hD⟩ := hv
  have hx := B.exec
  have hb := B.bytes
  have hr := B.returns
  have hts := atoms_spec (ws := wsX0_hasHour) B.pre
  have hown : s.vm.findClass RX0 = some m.cls := findClass_of_methodNamed B.named
  have hlocks := B.notSynchronized
  have hl := lv_entry ([.ref (a.2 0 k0), .int p1]) (n := 2) (Nat.le_of_ble_eq_true rfl)
  rw [lg_entry_eq]
  generalize (lg_sl ([.ref (a.2 0 k0), .int p1]) ++ List.replicate (2 - (lg_sl ([.ref (a.2 0 k0), .int p1])).length) Slot.unset).toArray = ls at hl ⊢
  have hl : lv_has ls 2 [(0, .ref (a.2 0 k0)), (1, .int p1)] := hl
  have hinX0 : ∀ w ∈ wsX00, w ∈ wsX0_hasHour := (fun _ h => (List.mem_cons_of_mem _ (List.mem_append_right _ h)))
  refine lv_aload_n hx hb dX0_hasHour_0 rfl (lv_at hl 0 rfl) ?_
  refine va_get (D := D) (ci := 0) (v := .int (V.1 0 k0 5)) (C := RX0) (T := TX0) (N := 6) hx hb hts hinX0 hown hK hP _ (xpos_cr hk0) rfl 5 (by decide) (hts _ (List.mem_of_getElem? (i := 1) rfl)) (fun _ h9 => h9) rfl dX0_hasHour_1 ?_
  refine lv_iload_n hx hb dX0_hasHour_4 rfl (lv_at hl 1 rfl) ?_
  refine lv_ishr hx hb dX0_hasHour_5 ?_
  refine lv_iconst (v := 1) hx hb dX0_hasHour_6 (by decide) ?_
  refine lv_iand hx hb dX0_hasHour_7 ?_
  refine lv_iconst (v := 1) hx hb dX0_hasHour_8 (by decide) ?_
  refine lv_icmp_ne (tgt := 16) hx hb dX0_hasHour_9 (by decide) (fun c_1 => ?_) (fun c_1 => ?_)
  · replace h := oi_f c_1 h
    refine lv_iconst (v := 0) hx hb dX0_hasHour_16 (by decide) ?_
    have h9 := Option.some.inj h
    exact W.zret (v := 0) hx hb hr (by decide) (fun t ht hW => ⟨0, rfl, h9, ht⟩) (fun _ hq => absurd hq List.not_mem_nil) dX0_hasHour_17 hlocks
  · replace h := oi_t c_1 h
    refine lv_iconst (v := 1) hx hb dX0_hasHour_12 (by decide) ?_
    refine lv_goto (tgt := 17) hx hb dX0_hasHour_13 (by decide) ?_
    have h9 := Option.some.inj h
    exact W.zret (v := 1) hx hb hr (by decide) (fun t ht hW => ⟨1, rfl, h9, ht⟩) (fun _ hq => absurd hq List.not_mem_nil) dX0_hasHour_17 hlocks
def f_X0_lastClosedHour_7 (n : Nat → Nat) : XV → Nat → Nat → Int32 → Int32 → Option (Int32)
  | _, 0, _, _, _ => none
  | V, fu + 1, zx0, zx1, zx3 => oi (zx3 < (zx1 / 60)) (some (-1)) (ob (f_X0_hasHour n V zx0 zx3) (fun u_2 => oi (u_2 = 0) (some zx3) (f_X0_lastClosedHour_7 n V fu zx0 zx1 (zx3 + (-1)))))
def f_X0_lastClosedHour (n : Nat → Nat) (V : XV) (k0 : Nat) (p1 : Int32) (p2 : Int32) : Option (Int32) := f_X0_lastClosedHour_7 n V FU k0 p1 ((p2 - 1) / 60)
theorem hd_X0_lastClosedHour : yX0_lastClosedHour.cls = RX0 ∧ yX0_lastClosedHour.cls ≠ "java/lang/invoke/MethodHandle" ∧ yX0_lastClosedHour.cls ≠ "java/lang/invoke/VarHandle" ∧ (parseMethodDescriptor yX0_lastClosedHour.desc).map (fun d => d.parameters.length) = some 2 := by decide +kernel
set_option maxHeartbeats 4000000 in
set_option maxRecDepth 100000 in
theorem k_X0_lastClosedHour_7 {p : Program} {l : Launch} {e : Env} {s : State} {m : MethodId} {args : Array Value} {below : List Frame} {meth : Method} {c : Code} {D : va_G} {cy : Nat → ClassId} {a : XA} {n : Nat → Nat} {V : XV} (hx : p.tables.exec = Jvm.exec) (hb : c.code = cX0_lastClosedHour) (hr : meth.sig.returnType = (some .int)) (hts : ∀ w ∈ wsX0_lastClosedHour, w.before args s = true) (hml : c.maxLocals = 4) (hown : s.vm.findClass RX0 = some m.cls) (hlocks : meth.locks = false) (hK : va_K D xcl (xty cy) s) (hP : va_P D xcl (xW cy a n V) s.heap) (hD : va_D (fun _ => True) (xW cy a n V)) (res : Int32) : ∀ (fu : Nat) (zx0 : Nat) (zx1 : Int32) (zx3 : Int32) (hzx0 : zx0 < n 0) (ls : Array Slot), f_X0_lastClosedHour_7 n V fu zx0 zx1 zx3 = some res → lv_has ls 4 [(0, .ref (a.2 0 zx0)), (1, .int zx1), (3, .int zx3)] → W p l e ({ frames := 1, cells := 0, slots := 0, locals := 21 } : Room) s m args below meth c s.heap [] 0 0 (MQ below (vp_Si (fun r => r = res)) args s 0 0 (fun _ => False)) (F0 m 7 ls []) := by
  intro fu
  induction fu with
  | zero =>
    intro zx0 zx1 zx3 hzx0 ls h hl
    cases h
  | succ fu ih =>
    intro zx0 zx1 zx3 hzx0 ls h hl
    refine lv_iload_n hx hb dX0_lastClosedHour_7 rfl (lv_at hl 2 rfl) ?_
    refine lv_iload_n hx hb dX0_lastClosedHour_8 rfl (lv_at hl 1 rfl) ?_
    refine lv_bipush (v := 60) hx hb dX0_lastClosedHour_9 (by decide) ?_
    refine lv_idiv hx hb dX0_lastClosedHour_11 (by decide) ?_
    refine lv_icmp_lt (tgt := 31) hx hb dX0_lastClosedHour_12 (by decide) (fun c_1 => ?_) (fun c_1 => ?_)
    · replace h := oi_t c_1 h
      refine lv_iconst (v := (-1)) hx hb dX0_lastClosedHour_31 (by decide) ?_
      have h9 := Option.some.inj h
      exact W.iret (v := (-1)) hx hb hr (fun t ht hW => ⟨(-1), rfl, h9, ht⟩) (fun _ hq => absurd hq List.not_mem_nil) dX0_lastClosedHour_32 hlocks
    · replace h := oi_f c_1 h
      refine lv_aload_n hx hb dX0_lastClosedHour_15 rfl (lv_at hl 0 rfl) ?_
      refine lv_iload_n hx hb dX0_lastClosedHour_16 rfl (lv_at hl 2 rfl) ?_
      obtain ⟨u_2, hg_3, h⟩ := ob_some h
      refine zcSi (W.runV (As := [.int zx3]) (rest := []) ⟨hx, hb, hml, hown, hts⟩ (c_X0_hasHour l D cy a n V zx0 zx3 hzx0 hg_3) (cwV 1 hts gX0_lastClosedHour_X0_hasHour rfl rfl rfl hd_X0_hasHour ⟨Nat.le_of_ble_eq_true rfl, Nat.le_of_ble_eq_true rfl⟩) ⟨xI_blind, va_recv hK hP (ci := 0) rfl (xpos_cr hzx0), (xI_at hP hK hD)⟩ rfl rfl hl.1 rfl (lv_room (Nat.le_of_ble_eq_true rfl)) dX0_lastClosedHour_17 ⟨Nat.le_of_ble_eq_true rfl, Nat.le_of_ble_eq_true rfl⟩) ?_
      refine lv_if_ne (tgt := 25) hx hb dX0_lastClosedHour_20 (by decide) (fun c_4 => ?_) (fun c_4 => ?_)
      · replace h := oi_f c_4 h
        refine lv_iinc (v := zx3 + (-1)) (lv' := [(3, .int (zx3 + (-1))), (0, .ref (a.2 0 zx0)), (1, .int zx1)]) hx hb dX0_lastClosedHour_25 hl (k := 2) rfl rfl (by decide) rfl (fun ls hl => ?_)
        refine lv_goto (tgt := 7) hx hb dX0_lastClosedHour_28 (by decide) ?_
        exact ih zx0 zx1 (zx3 + (-1)) hzx0 ls h (lv_sub hl [1, 2, 0] rfl)
      · replace h := oi_t c_4 h
        refine lv_iload_n hx hb dX0_lastClosedHour_23 rfl (lv_at hl 2 rfl) ?_
        have h9 := Option.some.inj h
        exact W.iret (v := zx3) hx hb hr (fun t ht hW => ⟨zx3, rfl, h9, ht⟩) (fun _ hq => absurd hq List.not_mem_nil) dX0_lastClosedHour_24 hlocks
set_option maxHeartbeats 4000000 in
set_option maxRecDepth 100000 in
theorem c_X0_lastClosedHour (l : Launch) (D : va_G) (cy : Nat → ClassId) (a : XA) (n : Nat → Nat) (V : XV) (k0 : Nat) (p1 : Int32) (p2 : Int32) (hk0 : k0 < n 0) {res : Int32} (h : f_X0_lastClosedHour n V k0 p1 p2 = some res) : Met l yX0_lastClosedHour wsX0_lastClosedHour ({ frames := 1, cells := 0, slots := 0, locals := 21 } : Room) (va_Pc [.ref (a.2 0 k0), .int p1, .int p2] (xI D cy a n V)) (vp_Si (fun r => r = res)) 0 0 (fun _ => False) := by
  refine Met.ofW (cc := cX0_lastClosedHour) (maxL := 4) (ret := (some .int)) (by decide) rfl ?_
  intro p e s m args below meth c s₁ B hml hv
  obtain ⟨rfl, hP, hK, hD⟩ := hv
  have hx := B.exec
  have hb := B.bytes
  have hr := B.returns
  have hts := atoms_spec (ws := wsX0_lastClosedHour) B.pre
  have hown : s.vm.findClass RX0 = some m.cls := findClass_of_methodNamed B.named
  have hlocks := B.notSynchronized
  have hl := lv_entry ([.ref (a.2 0 k0), .int p1, .int p2]) (n := 4) (Nat.le_of_ble_eq_true rfl)
  rw [lg_entry_eq]
  generalize (lg_sl ([.ref (a.2 0 k0), .int p1, .int p2]) ++ List.replicate (4 - (lg_sl ([.ref (a.2 0 k0), .int p1, .int p2])).length) Slot.unset).toArray = ls at hl ⊢
  have hl : lv_has ls 4 [(0, .ref (a.2 0 k0)), (1, .int p1), (2, .int p2)] := hl
  refine lv_iload_n hx hb dX0_lastClosedHour_0 rfl (lv_at hl 2 rfl) ?_
  refine lv_iconst (v := 1) hx hb dX0_lastClosedHour_1 (by decide) ?_
  refine lv_isub hx hb dX0_lastClosedHour_2 ?_
  refine lv_bipush (v := 60) hx hb dX0_lastClosedHour_3 (by decide) ?_
  refine lv_idiv hx hb dX0_lastClosedHour_5 (by decide) ?_
  refine lv_istore_n (lv' := [(3, .int ((p2 - 1) / 60)), (0, .ref (a.2 0 k0)), (1, .int p1), (2, .int p2)]) hx hb dX0_lastClosedHour_6 rfl hl (by decide) rfl (fun ls hl => ?_)
  exact k_X0_lastClosedHour_7 hx hb hr hts hml hown hlocks hK hP hD _ _ k0 p1 ((p2 - 1) / 60) hk0 ls h (lv_sub hl [1, 2, 0] rfl)
def f_J6_bitCount_0f7a4 (p1 : Int32) : Option (Int32) := ob (some (((p1 - (((p1.toUInt32 >>> (Int32.toUInt32 1 &&& Int32.toUInt32 31)).toInt32) &&& 1431655765)).toUInt32 >>> (Int32.toUInt32 2 &&& Int32.toUInt32 31)).toInt32)) (fun x_1 => ob (some (((p1 - (((p1.toUInt32 >>> (Int32.toUInt32 1 &&& Int32.toUInt32 31)).toInt32) &&& 1431655765)) &&& 858993459) + (x_1 &&& 858993459))) (fun x_3 => ob (some ((((x_3 + ((x_3.toUInt32 >>> (Int32.toUInt32 4 &&& Int32.toUInt32 31)).toInt32)) &&& 252645135).toUInt32 >>> (Int32.toUInt32 8 &&& Int32.toUInt32 31)).toInt32)) (fun x_5 => ob (some (((((x_3 + ((x_3.toUInt32 >>> (Int32.toUInt32 4 &&& Int32.toUInt32 31)).toInt32)) &&& 252645135) + x_5).toUInt32 >>> (Int32.toUInt32 16 &&& Int32.toUInt32 31)).toInt32)) (fun x_7 => ob (some (((((x_3 + ((x_3.toUInt32 >>> (Int32.toUInt32 4 &&& Int32.toUInt32 31)).toInt32)) &&& 252645135) + x_5) + x_7) &&& 63)) (fun x_9 => some x_9)))))
theorem hd_J6_bitCount_0f7a4 : yJ6_bitCount_0f7a4.cls ≠ "java/lang/invoke/MethodHandle" ∧ yJ6_bitCount_0f7a4.cls ≠ "java/lang/invoke/VarHandle" ∧ (parseMethodDescriptor yJ6_bitCount_0f7a4.desc).map (fun d => d.parameters.length) = some 1 := by decide +kernel
set_option maxHeartbeats 4000000 in
set_option maxRecDepth 100000 in
theorem c_J6_bitCount_0f7a4 (l : Launch) (p1 : Int32) {res : Int32} (h : f_J6_bitCount_0f7a4 p1 = some res) : Met l yJ6_bitCount_0f7a4 wsJ6_bitCount_0f7a4 ({ frames := 0, cells := 0, slots := 0, locals := 0 } : Room) (va_Pc [.int p1] zT) (vp_Si (fun r => r = res)) 0 0 (fun _ => False) := by
  refine Met.ofW (cc := cJ6_bitCount_0f7a4) (maxL := 1) (ret := (some .int)) (by decide) rfl ?_
  intro p e s m args below meth c s₁ B hml hv
  obtain ⟨rfl, -⟩ := hv
  have hx := B.exec
  have hb := B.bytes
  have hr := B.returns
  have hts := atoms_spec (ws := wsJ6_bitCount_0f7a4) B.pre
  have hown : s.vm.findClass RJ6 = some m.cls := findClass_of_methodNamed B.named
  have hlocks := B.notSynchronized
  have hl := lv_entry ([.int p1]) (n := 1) (Nat.le_of_ble_eq_true rfl)
  rw [lg_entry_eq]
  generalize (lg_sl ([.int p1]) ++ List.replicate (1 - (lg_sl ([.int p1])).length) Slot.unset).toArray = ls at hl ⊢
  have hl : lv_has ls 1 [(0, .int p1)] := hl
  refine lv_iload_n hx hb dJ6_bitCount_0f7a4_0 rfl (lv_at hl 0 rfl) ?_
  refine lv_iload_n hx hb dJ6_bitCount_0f7a4_1 rfl (lv_at hl 0 rfl) ?_
  refine lv_iconst (v := 1) hx hb dJ6_bitCount_0f7a4_2 (by decide) ?_
  refine lv_iushr (v := (p1.toUInt32 >>> (Int32.toUInt32 1 &&& Int32.toUInt32 31)).toInt32) hx hb dJ6_bitCount_0f7a4_3 rfl ?_
  refine lv_ldcw hx hb hown (hts _ (List.mem_of_getElem? (i := 1) rfl)) dJ6_bitCount_0f7a4_4 ?_
  refine lv_iand hx hb dJ6_bitCount_0f7a4_7 ?_
  refine lv_isub hx hb dJ6_bitCount_0f7a4_8 ?_
  refine lv_istore_n (lv' := [(0, .int (p1 - (((p1.toUInt32 >>> (Int32.toUInt32 1 &&& Int32.toUInt32 31)).toInt32) &&& 1431655765)))]) hx hb dJ6_bitCount_0f7a4_9 rfl hl (by decide) rfl (fun ls hl => ?_)
  refine lv_iload_n hx hb dJ6_bitCount_0f7a4_10 rfl (lv_at hl 0 rfl) ?_
  refine lv_ldcw hx hb hown (hts _ (List.mem_of_getElem? (i := 2) rfl)) dJ6_bitCount_0f7a4_11 ?_
  refine lv_iand hx hb dJ6_bitCount_0f7a4_14 ?_
  refine lv_iload_n hx hb dJ6_bitCount_0f7a4_15 rfl (lv_at hl 0 rfl) ?_
  refine lv_iconst (v := 2) hx hb dJ6_bitCount_0f7a4_16 (by decide) ?_
  refine lv_iushr (v := ((p1 - (((p1.toUInt32 >>> (Int32.toUInt32 1 &&& Int32.toUInt32 31)).toInt32) &&& 1431655765)).toUInt32 >>> (Int32.toUInt32 2 &&& Int32.toUInt32 31)).toInt32) hx hb dJ6_bitCount_0f7a4_17 rfl ?_
  obtain ⟨x_1, ex_2, h⟩ := ob_some h
  refine W.eq (g2 := F0 m 18 ls [.int x_1, .int ((p1 - (((p1.toUInt32 >>> (Int32.toUInt32 1 &&& Int32.toUInt32 31)).toInt32) &&& 1431655765)) &&& 858993459)]) (by rw [← Option.some.inj ex_2]) ?_
  refine lv_ldcw hx hb hown (hts _ (List.mem_of_getElem? (i := 2) rfl)) dJ6_bitCount_0f7a4_18 ?_
  refine lv_iand hx hb dJ6_bitCount_0f7a4_21 ?_
  refine lv_iadd hx hb dJ6_bitCount_0f7a4_22 ?_
  obtain ⟨x_3, ex_4, h⟩ := ob_some h
  refine W.eq (g2 := F0 m 23 ls [.int x_3]) (by rw [← Option.some.inj ex_4]) ?_
  refine lv_istore_n (lv' := [(0, .int x_3)]) hx hb dJ6_bitCount_0f7a4_23 rfl hl (by decide) rfl (fun ls hl => ?_)
  refine lv_iload_n hx hb dJ6_bitCount_0f7a4_24 rfl (lv_at hl 0 rfl) ?_
  refine lv_iload_n hx hb dJ6_bitCount_0f7a4_25 rfl (lv_at hl 0 rfl) ?_
  refine lv_iconst (v := 4) hx hb dJ6_bitCount_0f7a4_26 (by decide) ?_
  refine lv_iushr (v := (x_3.toUInt32 >>> (Int32.toUInt32 4 &&& Int32.toUInt32 31)).toInt32) hx hb dJ6_bitCount_0f7a4_27 rfl ?_
  refine lv_iadd hx hb dJ6_bitCount_0f7a4_28 ?_
  refine lv_ldcw hx hb hown (hts _ (List.mem_of_getElem? (i := 3) rfl)) dJ6_bitCount_0f7a4_29 ?_
  refine lv_iand hx hb dJ6_bitCount_0f7a4_32 ?_
  refine lv_istore_n (lv' := [(0, .int ((x_3 + ((x_3.toUInt32 >>> (Int32.toUInt32 4 &&& Int32.toUInt32 31)).toInt32)) &&& 252645135))]) hx hb dJ6_bitCount_0f7a4_33 rfl hl (by decide) rfl (fun ls hl => ?_)
  refine lv_iload_n hx hb dJ6_bitCount_0f7a4_34 rfl (lv_at hl 0 rfl) ?_
  refine lv_iload_n hx hb dJ6_bitCount_0f7a4_35 rfl (lv_at hl 0 rfl) ?_
  refine lv_bipush (v := 8) hx hb dJ6_bitCount_0f7a4_36 (by decide) ?_
  refine lv_iushr (v := (((x_3 + ((x_3.toUInt32 >>> (Int32.toUInt32 4 &&& Int32.toUInt32 31)).toInt32)) &&& 252645135).toUInt32 >>> (Int32.toUInt32 8 &&& Int32.toUInt32 31)).toInt32) hx hb dJ6_bitCount_0f7a4_38 rfl ?_
  obtain ⟨x_5, ex_6, h⟩ := ob_some h
  refine W.eq (g2 := F0 m 39 ls [.int x_5, .int ((x_3 + ((x_3.toUInt32 >>> (Int32.toUInt32 4 &&& Int32.toUInt32 31)).toInt32)) &&& 252645135)]) (by rw [← Option.some.inj ex_6]) ?_
  refine lv_iadd hx hb dJ6_bitCount_0f7a4_39 ?_
  refine lv_istore_n (lv' := [(0, .int (((x_3 + ((x_3.toUInt32 >>> (Int32.toUInt32 4 &&& Int32.toUInt32 31)).toInt32)) &&& 252645135) + x_5))]) hx hb dJ6_bitCount_0f7a4_40 rfl hl (by decide) rfl (fun ls hl => ?_)
  refine lv_iload_n hx hb dJ6_bitCount_0f7a4_41 rfl (lv_at hl 0 rfl) ?_
  refine lv_iload_n hx hb dJ6_bitCount_0f7a4_42 rfl (lv_at hl 0 rfl) ?_
  refine lv_bipush (v := 16) hx hb dJ6_bitCount_0f7a4_43 (by decide) ?_
  refine lv_iushr (v := ((((x_3 + ((x_3.toUInt32 >>> (Int32.toUInt32 4 &&& Int32.toUInt32 31)).toInt32)) &&& 252645135) + x_5).toUInt32 >>> (Int32.toUInt32 16 &&& Int32.toUInt32 31)).toInt32) hx hb dJ6_bitCount_0f7a4_45 rfl ?_
  obtain ⟨x_7, ex_8, h⟩ := ob_some h
  refine W.eq (g2 := F0 m 46 ls [.int x_7, .int (((x_3 + ((x_3.toUInt32 >>> (Int32.toUInt32 4 &&& Int32.toUInt32 31)).toInt32)) &&& 252645135) + x_5)]) (by rw [← Option.some.inj ex_8]) ?_
  refine lv_iadd hx hb dJ6_bitCount_0f7a4_46 ?_
  refine lv_istore_n (lv' := [(0, .int ((((x_3 + ((x_3.toUInt32 >>> (Int32.toUInt32 4 &&& Int32.toUInt32 31)).toInt32)) &&& 252645135) + x_5) + x_7))]) hx hb dJ6_bitCount_0f7a4_47 rfl hl (by decide) rfl (fun ls hl => ?_)
  refine lv_iload_n hx hb dJ6_bitCount_0f7a4_48 rfl (lv_at hl 0 rfl) ?_
  refine lv_bipush (v := 63) hx hb dJ6_bitCount_0f7a4_49 (by decide) ?_
  refine lv_iand hx hb dJ6_bitCount_0f7a4_51 ?_
  obtain ⟨x_9, ex_10, h⟩ := ob_some h
  refine W.eq (g2 := F0 m 52 ls [.int x_9]) (by rw [← Option.some.inj ex_10]) ?_
  have h9 := Option.some.inj h
  exact W.iret (v := x_9) hx hb hr (fun t ht hW => ⟨x_9, rfl, h9, ht⟩) (fun _ hq => absurd hq List.not_mem_nil) dJ6_bitCount_0f7a4_52 hlocks
def f_X0_minutesAllowed (n : Nat → Nat) (V : XV) (k0 : Nat) : Option (Int32) := ob (f_J6_bitCount_0f7a4 (V.1 0 k0 5)) (fun u_1 => some (u_1 * 60))
theorem hd_X0_minutesAllowed : yX0_minutesAllowed.cls = RX0 ∧ yX0_minutesAllowed.cls ≠ "java/lang/invoke/MethodHandle" ∧ yX0_minutesAllowed.cls ≠ "java/lang/invoke/VarHandle" ∧ (parseMethodDescriptor yX0_minutesAllowed.desc).map (fun d => d.parameters.length) = some 0 := by decide +kernel
set_option maxHeartbeats 4000000 in
set_option maxRecDepth 100000 in
theorem c_X0_minutesAllowed (l : Launch) (D : va_G) (cy : Nat → ClassId) (a : XA) (n : Nat → Nat) (V : XV) (k0 : Nat) (hk0 : k0 < n 0) {res : Int32} (h : f_X0_minutesAllowed n V k0 = some res) : Met l yX0_minutesAllowed wsX0_minutesAllowed ({ frames := 1, cells := 0, slots := 0, locals := 20 } : Room) (va_Pc [.ref (a.2 0 k0)] (xI D cy a n V)) (vp_Si (fun r => r = res)) 0 0 (fun _ => False) := by
  refine Met.ofW (cc := cX0_minutesAllowed) (maxL := 1) (ret := (some .int)) (by decide) rfl ?_
  intro p e s m args below meth c s₁ B hml hv
  obtain ⟨rfl, hP, hK, hD⟩ := hv
  have hx := B.exec
  have hb := B.bytes
  have hr := B.returns
  have hts := atoms_spec (ws := wsX0_minutesAllowed) B.pre
  have hown : s.vm.findClass RX0 = some m.cls := findClass_of_methodNamed B.named
  have hlocks := B.notSynchronized
  have hl := lv_entry ([.ref (a.2 0 k0)]) (n := 1) (Nat.le_of_ble_eq_true rfl)
  rw [lg_entry_eq]
  generalize (lg_sl ([.ref (a.2 0 k0)]) ++ List.replicate (1 - (lg_sl ([.ref (a.2 0 k0)])).length) Slot.unset).toArray = ls at hl ⊢
  have hl : lv_has ls 1 [(0, .ref (a.2 0 k0))] := hl
  have hinX0 : ∀ w ∈ wsX00, w ∈ wsX0_minutesAllowed := (fun _ h => (List.mem_cons_of_mem _ (List.mem_append_right _ h)))
  refine lv_aload_n hx hb dX0_minutesAllowed_0 rfl (lv_at hl 0 rfl) ?_
  refine va_get (D := D) (ci := 0) (v := .int (V.1 0 k0 5)) (C := RX0) (T := TX0) (N := 6) hx hb hts hinX0 hown hK hP _ (xpos_cr hk0) rfl 5 (by decide) (hts _ (List.mem_of_getElem? (i := 1) rfl)) (fun _ h9 => h9) rfl dX0_minutesAllowed_1 ?_
  obtain ⟨u_1, hg_2, h⟩ := ob_some h
  refine zcSi (W.runS (As := [.int (V.1 0 k0 5)]) (rest := []) ⟨hx, hb, hml, hown, hts⟩ (c_J6_bitCount_0f7a4 l (V.1 0 k0 5) hg_2) (va_cwS 1 hts gX0_minutesAllowed_J6_bitCount_0f7a4 rfl rfl rfl hd_J6_bitCount_0f7a4 ⟨Nat.le_of_ble_eq_true rfl, Nat.le_of_ble_eq_true rfl⟩) ⟨zT_blind, zT_at⟩ rfl rfl hl.1 rfl (lv_room (Nat.le_of_ble_eq_true rfl)) dX0_minutesAllowed_4 ⟨Nat.le_of_ble_eq_true rfl, Nat.le_of_ble_eq_true rfl⟩) ?_
  refine lv_bipush (v := 60) hx hb dX0_minutesAllowed_7 (by decide) ?_
  refine lv_imul hx hb dX0_minutesAllowed_9 ?_
  have h9 := Option.some.inj h
  exact W.iret (v := u_1 * 60) hx hb hr (fun t ht hW => ⟨u_1 * 60, rfl, h9, ht⟩) (fun _ hq => absurd hq List.not_mem_nil) dX0_minutesAllowed_10 hlocks
def f_X1_end (n : Nat → Nat) (V : XV) (k0 : Nat) : Option (Int32) := some ((V.1 1 k0 10) + (V.1 1 k0 5))
theorem hd_X1_end : yX1_end.cls = RX1 ∧ yX1_end.cls ≠ "java/lang/invoke/MethodHandle" ∧ yX1_end.cls ≠ "java/lang/invoke/VarHandle" ∧ (parseMethodDescriptor yX1_end.desc).map (fun d => d.parameters.length) = some 0 := by decide +kernel
set_option maxHeartbeats 4000000 in
set_option maxRecDepth 100000 in
theorem c_X1_end (l : Launch) (D : va_G) (cy : Nat → ClassId) (a : XA) (n : Nat → Nat) (V : XV) (k0 : Nat) (hk0 : k0 < n 1) {res : Int32} (h : f_X1_end n V k0 = some res) : Met l yX1_end wsX1_end ({ frames := 0, cells := 0, slots := 0, locals := 0 } : Room) (va_Pc [.ref (a.2 1 k0)] (xI D cy a n V)) (vp_Si (fun r => r = res)) 0 0 (fun _ => False) := by
  refine Met.ofW (cc := cX1_end) (maxL := 1) (ret := (some .int)) (by decide) rfl ?_
  intro p e s m args below meth c s₁ B hml hv
  obtain ⟨rfl, hP, hK, hD⟩ := hv
  have hx := B.exec
  have hb := B.bytes
  have hr := B.returns
  have hts := atoms_spec (ws := wsX1_end) B.pre
  have hown : s.vm.findClass RX1 = some m.cls := findClass_of_methodNamed B.named
  have hlocks := B.notSynchronized
  have hl := lv_entry ([.ref (a.2 1 k0)]) (n := 1) (Nat.le_of_ble_eq_true rfl)
  rw [lg_entry_eq]
  generalize (lg_sl ([.ref (a.2 1 k0)]) ++ List.replicate (1 - (lg_sl ([.ref (a.2 1 k0)])).length) Slot.unset).toArray = ls at hl ⊢
  have hl : lv_has ls 1 [(0, .ref (a.2 1 k0))] := hl
  have hinX1 : ∀ w ∈ wsX10, w ∈ wsX1_end := (fun _ h => (List.mem_cons_of_mem _ (List.mem_append_right _ h)))
  refine lv_aload_n hx hb dX1_end_0 rfl (lv_at hl 0 rfl) ?_
  refine va_get (D := D) (ci := 1) (v := .int (V.1 1 k0 10)) (C := RX1) (T := TX1) (N := 11) hx hb hts hinX1 hown hK hP _ (xpos_li hk0) rfl 10 (by decide) (hts _ (List.mem_of_getElem? (i := 1) rfl)) (fun _ h9 => h9) rfl dX1_end_1 ?_
  refine lv_aload_n hx hb dX1_end_4 rfl (lv_at hl 0 rfl) ?_
  refine va_get (D := D) (ci := 1) (v := .int (V.1 1 k0 5)) (C := RX1) (T := TX1) (N := 11) hx hb hts hinX1 hown hK hP _ (xpos_li hk0) rfl 5 (by decide) (hts _ (List.mem_of_getElem? (i := 2) rfl)) (fun _ h9 => h9) rfl dX1_end_5 ?_
  refine lv_iadd hx hb dX1_end_8 ?_
  have h9 := Option.some.inj h
  exact W.iret (v := (V.1 1 k0 10) + (V.1 1 k0 5)) hx hb hr (fun t ht hW => ⟨(V.1 1 k0 10) + (V.1 1 k0 5), rfl, h9, ht⟩) (fun _ hq => absurd hq List.not_mem_nil) dX1_end_9 hlocks
def f_X1_hasCrane (n : Nat → Nat) (V : XV) (k0 : Nat) : Option (Int32) := oi ((V.1 1 k0 8) = 119) (some 0) (some 1)
theorem hd_X1_hasCrane : yX1_hasCrane.cls = RX1 ∧ yX1_hasCrane.cls ≠ "java/lang/invoke/MethodHandle" ∧ yX1_hasCrane.cls ≠ "java/lang/invoke/VarHandle" ∧ (parseMethodDescriptor yX1_hasCrane.desc).map (fun d => d.parameters.length) = some 0 := by decide +kernel
set_option maxHeartbeats 4000000 in
set_option maxRecDepth 100000 in
theorem c_X1_hasCrane (l : Launch) (D : va_G) (cy : Nat → ClassId) (a : XA) (n : Nat → Nat) (V : XV) (k0 : Nat) (hk0 : k0 < n 1) {res : Int32} (h : f_X1_hasCrane n V k0 = some res) : Met l yX1_hasCrane wsX1_hasCrane ({ frames := 0, cells := 0, slots := 0, locals := 0 } : Room) (va_Pc [.ref (a.2 1 k0)] (xI D cy a n V)) (vp_Si (fun r => r = res)) 0 0 (fun _ => False) := by
  refine Met.ofW (cc := cX1_hasCrane) (maxL := 1) (ret := (some .boolean)) (by decide) rfl ?_
  intro p e s m args below meth c s₁ B hml hv
  obtain ⟨rfl, hP, hK, hD⟩ := hv
  have hx := B.exec
  have hb := B.bytes
  have hr := B.returns
  have hts := atoms_spec (ws := wsX1_hasCrane) B.pre
  have hown : s.vm.findClass RX1 = some m.cls := findClass_of_methodNamed B.named
  have hlocks := B.notSynchronized
  have hl := lv_entry ([.ref (a.2 1 k0)]) (n := 1) (Nat.le_of_ble_eq_true rfl)
  rw [lg_entry_eq]
  generalize (lg_sl ([.ref (a.2 1 k0)]) ++ List.replicate (1 - (lg_sl ([.ref (a.2 1 k0)])).length) Slot.unset).toArray = ls at hl ⊢
  have hl : lv_has ls 1 [(0, .ref (a.2 1 k0))] := hl
  have hinX1 : ∀ w ∈ wsX10, w ∈ wsX1_hasCrane := (fun _ h => (List.mem_cons_of_mem _ (List.mem_append_right _ h)))
  refine lv_aload_n hx hb dX1_hasCrane_0 rfl (lv_at hl 0 rfl) ?_
  refine va_get (D := D) (ci := 1) (v := .int (V.1 1 k0 8)) (C := RX1) (T := TX1) (N := 11) hx hb hts hinX1 hown hK hP _ (xpos_li hk0) rfl 8 (by decide) (hts _ (List.mem_of_getElem? (i := 1) rfl)) (fun _ h9 => h9) rfl dX1_hasCrane_1 ?_
  refine lv_bipush (v := 119) hx hb dX1_hasCrane_4 (by decide) ?_
  refine lv_icmp_eq (tgt := 13) hx hb dX1_hasCrane_6 (by decide) (fun c_1 => ?_) (fun c_1 => ?_)
  · replace h := oi_t c_1 h
    refine lv_iconst (v := 0) hx hb dX1_hasCrane_13 (by decide) ?_
    have h9 := Option.some.inj h
    exact W.zret (v := 0) hx hb hr (by decide) (fun t ht hW => ⟨0, rfl, h9, ht⟩) (fun _ hq => absurd hq List.not_mem_nil) dX1_hasCrane_14 hlocks
  · replace h := oi_f c_1 h
    refine lv_iconst (v := 1) hx hb dX1_hasCrane_9 (by decide) ?_
    refine lv_goto (tgt := 14) hx hb dX1_hasCrane_10 (by decide) ?_
    have h9 := Option.some.inj h
    exact W.zret (v := 1) hx hb hr (by decide) (fun t ht hW => ⟨1, rfl, h9, ht⟩) (fun _ hq => absurd hq List.not_mem_nil) dX1_hasCrane_14 hlocks
def f_X1_isOn (n : Nat → Nat) (V : XV) (k0 : Nat) (p1 : Int32) : Option (Int32) := ob (f_X1_hasCrane n V k0) (fun u_1 => oi (u_1 = 0) (some 0) (oi ((V.1 1 k0 9) = p1) (some 1) (some 0)))
theorem hd_X1_isOn : yX1_isOn.cls = RX1 ∧ yX1_isOn.cls ≠ "java/lang/invoke/MethodHandle" ∧ yX1_isOn.cls ≠ "java/lang/invoke/VarHandle" ∧ (parseMethodDescriptor yX1_isOn.desc).map (fun d => d.parameters.length) = some 1 := by decide +kernel
set_option maxHeartbeats 4000000 in
set_option maxRecDepth 100000 in
theorem c_X1_isOn (l : Launch) (D : va_G) (cy : Nat → ClassId) (a : XA) (n : Nat → Nat) (V : XV) (k0 : Nat) (p1 : Int32) (hk0 : k0 < n 1) {res : Int32} (h : f_X1_isOn n V k0 p1 = some res) : Met l yX1_isOn wsX1_isOn ({ frames := 1, cells := 0, slots := 0, locals := 20 } : Room) (va_Pc [.ref (a.2 1 k0), .int p1] (xI D cy a n V)) (vp_Si (fun r => r = res)) 0 0 (fun _ => False) := by
  refine Met.ofW (cc := cX1_isOn) (maxL := 2) (ret := (some .boolean)) (by decide) rfl ?_
  intro p e s m args below meth c s₁ B hml hv
  obtain ⟨rfl, hP, hK, hD⟩ := hv
  have hx := B.exec
  have hb := B.bytes
  have hr := B.returns
  have hts := atoms_spec (ws := wsX1_isOn) B.pre
  have hown : s.vm.findClass RX1 = some m.cls := findClass_of_methodNamed B.named
  have hlocks := B.notSynchronized
  have hl := lv_entry ([.ref (a.2 1 k0), .int p1]) (n := 2) (Nat.le_of_ble_eq_true rfl)
  rw [lg_entry_eq]
  generalize (lg_sl ([.ref (a.2 1 k0), .int p1]) ++ List.replicate (2 - (lg_sl ([.ref (a.2 1 k0), .int p1])).length) Slot.unset).toArray = ls at hl ⊢
  have hl : lv_has ls 2 [(0, .ref (a.2 1 k0)), (1, .int p1)] := hl
  have hinX1 : ∀ w ∈ wsX10, w ∈ wsX1_isOn := (fun _ h => (List.mem_cons_of_mem _ (List.mem_append_right _ h)))
  refine lv_aload_n hx hb dX1_isOn_0 rfl (lv_at hl 0 rfl) ?_
  obtain ⟨u_1, hg_2, h⟩ := ob_some h
  refine zcSi (W.runV (As := []) (rest := []) ⟨hx, hb, hml, hown, hts⟩ (c_X1_hasCrane l D cy a n V k0 hk0 hg_2) (cwV 0 hts gX1_isOn_X1_hasCrane rfl rfl rfl hd_X1_hasCrane ⟨Nat.le_of_ble_eq_true rfl, Nat.le_of_ble_eq_true rfl⟩) ⟨xI_blind, va_recv hK hP (ci := 1) rfl (xpos_li hk0), (xI_at hP hK hD)⟩ rfl rfl hl.1 rfl (lv_room (Nat.le_of_ble_eq_true rfl)) dX1_isOn_1 ⟨Nat.le_of_ble_eq_true rfl, Nat.le_of_ble_eq_true rfl⟩) ?_
  refine lv_if_eq (tgt := 19) hx hb dX1_isOn_4 (by decide) (fun c_3 => ?_) (fun c_3 => ?_)
  · replace h := oi_t c_3 h
    refine lv_iconst (v := 0) hx hb dX1_isOn_19 (by decide) ?_
    have h9 := Option.some.inj h
    exact W.zret (v := 0) hx hb hr (by decide) (fun t ht hW => ⟨0, rfl, h9, ht⟩) (fun _ hq => absurd hq List.not_mem_nil) dX1_isOn_20 hlocks
  · replace h := oi_f c_3 h
    refine lv_aload_n hx hb dX1_isOn_7 rfl (lv_at hl 0 rfl) ?_
    refine va_get (D := D) (ci := 1) (v := .int (V.1 1 k0 9)) (C := RX1) (T := TX1) (N := 11) hx hb hts hinX1 hown hK hP _ (xpos_li hk0) rfl 9 (by decide) (hts _ (List.mem_of_getElem? (i := 1) rfl)) (fun _ h9 => h9) rfl dX1_isOn_8 ?_
    refine lv_iload_n hx hb dX1_isOn_11 rfl (lv_at hl 1 rfl) ?_
    refine lv_icmp_ne (tgt := 19) hx hb dX1_isOn_12 (by decide) (fun c_4 => ?_) (fun c_4 => ?_)
    · replace h := oi_f c_4 h
      refine lv_iconst (v := 0) hx hb dX1_isOn_19 (by decide) ?_
      have h9 := Option.some.inj h
      exact W.zret (v := 0) hx hb hr (by decide) (fun t ht hW => ⟨0, rfl, h9, ht⟩) (fun _ hq => absurd hq List.not_mem_nil) dX1_isOn_20 hlocks
    · replace h := oi_t c_4 h
      refine lv_iconst (v := 1) hx hb dX1_isOn_15 (by decide) ?_
      refine lv_goto (tgt := 20) hx hb dX1_isOn_16 (by decide) ?_
      have h9 := Option.some.inj h
      exact W.zret (v := 1) hx hb hr (by decide) (fun t ht hW => ⟨1, rfl, h9, ht⟩) (fun _ hq => absurd hq List.not_mem_nil) dX1_isOn_20 hlocks
def f_X1_meets (n : Nat → Nat) (V : XV) (k0 : Nat) (p1 : Int32) (p2 : Int32) : Option (Int32) := ob (f_X1_hasCrane n V k0) (fun u_1 => oi (u_1 = 0) (some 0) (oi (p2 ≤ (V.1 1 k0 10)) (some 0) (ob (f_X1_end n V k0) (fun u_5 => oi (u_5 ≤ p1) (some 0) (some 1)))))
theorem hd_X1_meets : yX1_meets.cls = RX1 ∧ yX1_meets.cls ≠ "java/lang/invoke/MethodHandle" ∧ yX1_meets.cls ≠ "java/lang/invoke/VarHandle" ∧ (parseMethodDescriptor yX1_meets.desc).map (fun d => d.parameters.length) = some 2 := by decide +kernel
set_option maxHeartbeats 4000000 in
set_option maxRecDepth 100000 in
theorem c_X1_meets (l : Launch) (D : va_G) (cy : Nat → ClassId) (a : XA) (n : Nat → Nat) (V : XV) (k0 : Nat) (p1 : Int32) (p2 : Int32) (hk0 : k0 < n 1) {res : Int32} (h : f_X1_meets n V k0 p1 p2 = some res) : Met l yX1_meets wsX1_meets ({ frames := 1, cells := 0, slots := 0, locals := 20 } : Room) (va_Pc [.ref (a.2 1 k0), .int p1, .int p2] (xI D cy a n V)) (vp_Si (fun r => r = res)) 0 0 (fun _ => False) := by
  refine Met.ofW (cc := cX1_meets) (maxL := 3) (ret := (some .boolean)) (by decide) rfl ?_
  intro p e s m args below meth c s₁ B hml hv
  obtain ⟨rfl, hP, hK, hD⟩ := hv
  have hx := B.exec
  have hb := B.bytes
  have hr := B.returns
  have hts := atoms_spec (ws := wsX1_meets) B.pre
  have hown : s.vm.findClass RX1 = some m.cls := findClass_of_methodNamed B.named
  have hlocks := B.notSynchronized
  have hl := lv_entry ([.ref (a.2 1 k0), .int p1, .int p2]) (n := 3) (Nat.le_of_ble_eq_true rfl)
  rw [lg_entry_eq]
  generalize (lg_sl ([.ref (a.2 1 k0), .int p1, .int p2]) ++ List.replicate (3 - (lg_sl ([.ref (a.2 1 k0), .int p1, .int p2])).length) Slot.unset).toArray = ls at hl ⊢
  have hl : lv_has ls 3 [(0, .ref (a.2 1 k0)), (1, .int p1), (2, .int p2)] := hl
  have hinX1 : ∀ w ∈ wsX10, w ∈ wsX1_meets := (fun _ h => (List.mem_cons_of_mem _ (List.mem_append_right _ h)))
  refine lv_aload_n hx hb dX1_meets_0 rfl (lv_at hl 0 rfl) ?_
  obtain ⟨u_1, hg_2, h⟩ := ob_some h
  refine zcSi (W.runV (As := []) (rest := []) ⟨hx, hb, hml, hown, hts⟩ (c_X1_hasCrane l D cy a n V k0 hk0 hg_2) (cwV 0 hts gX1_meets_X1_hasCrane rfl rfl rfl hd_X1_hasCrane ⟨Nat.le_of_ble_eq_true rfl, Nat.le_of_ble_eq_true rfl⟩) ⟨xI_blind, va_recv hK hP (ci := 1) rfl (xpos_li hk0), (xI_at hP hK hD)⟩ rfl rfl hl.1 rfl (lv_room (Nat.le_of_ble_eq_true rfl)) dX1_meets_1 ⟨Nat.le_of_ble_eq_true rfl, Nat.le_of_ble_eq_true rfl⟩) ?_
  refine lv_if_eq (tgt := 27) hx hb dX1_meets_4 (by decide) (fun c_3 => ?_) (fun c_3 => ?_)
  · replace h := oi_t c_3 h
    refine lv_iconst (v := 0) hx hb dX1_meets_27 (by decide) ?_
    have h9 := Option.some.inj h
    exact W.zret (v := 0) hx hb hr (by decide) (fun t ht hW => ⟨0, rfl, h9, ht⟩) (fun _ hq => absurd hq List.not_mem_nil) dX1_meets_28 hlocks
  · replace h := oi_f c_3 h
    refine lv_aload_n hx hb dX1_meets_7 rfl (lv_at hl 0 rfl) ?_
    refine va_get (D := D) (ci := 1) (v := .int (V.1 1 k0 10)) (C := RX1) (T := TX1) (N := 11) hx hb hts hinX1 hown hK hP _ (xpos_li hk0) rfl 10 (by decide) (hts _ (List.mem_of_getElem? (i := 1) rfl)) (fun _ h9 => h9) rfl dX1_meets_8 ?_
    refine lv_iload_n hx hb dX1_meets_11 rfl (lv_at hl 2 rfl) ?_
    refine lv_icmp_ge (tgt := 27) hx hb dX1_meets_12 (by decide) (fun c_4 => ?_) (fun c_4 => ?_)
    · replace h := oi_t c_4 h
      refine lv_iconst (v := 0) hx hb dX1_meets_27 (by decide) ?_
      have h9 := Option.some.inj h
      exact W.zret (v := 0) hx hb hr (by decide) (fun t ht hW => ⟨0, rfl, h9, ht⟩) (fun _ hq => absurd hq List.not_mem_nil) dX1_meets_28 hlocks
    · replace h := oi_f c_4 h
      refine lv_iload_n hx hb dX1_meets_15 rfl (lv_at hl 1 rfl) ?_
      refine lv_aload_n hx hb dX1_meets_16 rfl (lv_at hl 0 rfl) ?_
      obtain ⟨u_5, hg_6, h⟩ := ob_some h
      refine zcSi (W.runV (As := []) (rest := [.int p1]) ⟨hx, hb, hml, hown, hts⟩ (c_X1_end l D cy a n V k0 hk0 hg_6) (cwV 0 hts gX1_meets_X1_end rfl rfl rfl hd_X1_end ⟨Nat.le_of_ble_eq_true rfl, Nat.le_of_ble_eq_true rfl⟩) ⟨xI_blind, va_recv hK hP (ci := 1) rfl (xpos_li hk0), (xI_at hP hK hD)⟩ rfl rfl hl.1 rfl (lv_room (Nat.le_of_ble_eq_true rfl)) dX1_meets_17 ⟨Nat.le_of_ble_eq_true rfl, Nat.le_of_ble_eq_true rfl⟩) ?_
      refine lv_icmp_ge (tgt := 27) hx hb dX1_meets_20 (by decide) (fun c_7 => ?_) (fun c_7 => ?_)
      · replace h := oi_t c_7 h
        refine lv_iconst (v := 0) hx hb dX1_meets_27 (by decide) ?_
        have h9 := Option.some.inj h
        exact W.zret (v := 0) hx hb hr (by decide) (fun t ht hW => ⟨0, rfl, h9, ht⟩) (fun _ hq => absurd hq List.not_mem_nil) dX1_meets_28 hlocks
      · replace h := oi_f c_7 h
        refine lv_iconst (v := 1) hx hb dX1_meets_23 (by decide) ?_
        refine lv_goto (tgt := 28) hx hb dX1_meets_24 (by decide) ?_
        have h9 := Option.some.inj h
        exact W.zret (v := 1) hx hb hr (by decide) (fun t ht hW => ⟨1, rfl, h9, ht⟩) (fun _ hq => absurd hq List.not_mem_nil) dX1_meets_28 hlocks
def f_X1_sharesAir (n : Nat → Nat) (V : XV) (k0 : Nat) (p1 : Nat) : Option (Int32) := oi ((lg_cmp ((V.2.1 k0) &&& (V.2.1 p1)) 0) = 0) (some 0) (some 1)
theorem hd_X1_sharesAir : yX1_sharesAir.cls = RX1 ∧ yX1_sharesAir.cls ≠ "java/lang/invoke/MethodHandle" ∧ yX1_sharesAir.cls ≠ "java/lang/invoke/VarHandle" ∧ (parseMethodDescriptor yX1_sharesAir.desc).map (fun d => d.parameters.length) = some 1 := by decide +kernel
set_option maxHeartbeats 4000000 in
set_option maxRecDepth 100000 in
theorem c_X1_sharesAir (l : Launch) (D : va_G) (cy : Nat → ClassId) (a : XA) (n : Nat → Nat) (V : XV) (k0 : Nat) (p1 : Nat) (hk0 : k0 < n 1) (hp1 : p1 < n 1) {res : Int32} (h : f_X1_sharesAir n V k0 p1 = some res) : Met l yX1_sharesAir wsX1_sharesAir ({ frames := 0, cells := 0, slots := 0, locals := 0 } : Room) (va_Pc [.ref (a.2 1 k0), .ref (a.2 1 p1)] (xI D cy a n V)) (vp_Si (fun r => r = res)) 0 0 (fun _ => False) := by
  refine Met.ofW (cc := cX1_sharesAir) (maxL := 2) (ret := (some .boolean)) (by decide) rfl ?_
  intro p e s m args below meth c s₁ B hml hv
  obtain ⟨rfl, hP, hK, hD⟩ := hv
  have hx := B.exec
  have hb := B.bytes
  have hr := B.returns
  have hts := atoms_spec (ws := wsX1_sharesAir) B.pre
  have hown : s.vm.findClass RX1 = some m.cls := findClass_of_methodNamed B.named
  have hlocks := B.notSynchronized
  have hl := lv_entry ([.ref (a.2 1 k0), .ref (a.2 1 p1)]) (n := 2) (Nat.le_of_ble_eq_true rfl)
  rw [lg_entry_eq]
  generalize (lg_sl ([.ref (a.2 1 k0), .ref (a.2 1 p1)]) ++ List.replicate (2 - (lg_sl ([.ref (a.2 1 k0), .ref (a.2 1 p1)])).length) Slot.unset).toArray = ls at hl ⊢
  have hl : lv_has ls 2 [(0, .ref (a.2 1 k0)), (1, .ref (a.2 1 p1))] := hl
  have hinX1 : ∀ w ∈ wsX10, w ∈ wsX1_sharesAir := (fun _ h => (List.mem_cons_of_mem _ (List.mem_append_right _ h)))
  refine lv_aload_n hx hb dX1_sharesAir_0 rfl (lv_at hl 0 rfl) ?_
  refine va_get (D := D) (ci := 1) (v := .long (V.2.1 k0)) (C := RX1) (T := TX1) (N := 11) hx hb hts hinX1 hown hK hP _ (xpos_li hk0) rfl 7 (by decide) (hts _ (List.mem_of_getElem? (i := 1) rfl)) (fun _ h9 => h9) rfl dX1_sharesAir_1 ?_
  refine lv_aload_n hx hb dX1_sharesAir_4 rfl (lv_at hl 1 rfl) ?_
  refine va_get (D := D) (ci := 1) (v := .long (V.2.1 p1)) (C := RX1) (T := TX1) (N := 11) hx hb hts hinX1 hown hK hP _ (xpos_li hp1) rfl 7 (by decide) (hts _ (List.mem_of_getElem? (i := 1) rfl)) (fun _ h9 => h9) rfl dX1_sharesAir_5 ?_
  refine lv_land hx hb dX1_sharesAir_8 ?_
  refine lv_lconst (v := 0) hx hb dX1_sharesAir_9 (by decide) ?_
  refine W.lcmp hx hb dX1_sharesAir_10 ?_
  refine lv_if_eq (tgt := 18) hx hb dX1_sharesAir_11 (by decide) (fun c_1 => ?_) (fun c_1 => ?_)
  · replace h := oi_t c_1 h
    refine lv_iconst (v := 0) hx hb dX1_sharesAir_18 (by decide) ?_
    have h9 := Option.some.inj h
    exact W.zret (v := 0) hx hb hr (by decide) (fun t ht hW => ⟨0, rfl, h9, ht⟩) (fun _ hq => absurd hq List.not_mem_nil) dX1_sharesAir_19 hlocks
  · replace h := oi_f c_1 h
    refine lv_iconst (v := 1) hx hb dX1_sharesAir_14 (by decide) ?_
    refine lv_goto (tgt := 19) hx hb dX1_sharesAir_15 (by decide) ?_
    have h9 := Option.some.inj h
    exact W.zret (v := 1) hx hb hr (by decide) (fun t ht hW => ⟨1, rfl, h9, ht⟩) (fun _ hq => absurd hq List.not_mem_nil) dX1_sharesAir_19 hlocks
def f_X1_put (n : Nat → Nat) (V : XV) (k0 : Nat) (p1 : Int32) (p2 : Int32) : Option (XV) := ob (some (xput V 1 k0 8 112)) (fun V_1 => ob (some (xput V_1 1 k0 9 p1)) (fun V_3 => ob (some (xput V_3 1 k0 10 p2)) (fun V_5 => some V_5)))
theorem hd_X1_put : yX1_put.cls = RX1 ∧ yX1_put.cls ≠ "java/lang/invoke/MethodHandle" ∧ yX1_put.cls ≠ "java/lang/invoke/VarHandle" ∧ (parseMethodDescriptor yX1_put.desc).map (fun d => d.parameters.length) = some 2 := by decide +kernel
set_option maxHeartbeats 4000000 in
set_option maxRecDepth 100000 in
theorem c_X1_put (l : Launch) (D : va_G) (cy : Nat → ClassId) (a : XA) (n : Nat → Nat) (V : XV) (sz : Nat) (k0 : Nat) (p1 : Int32) (p2 : Int32) (hk0 : k0 < n 1) {res : XV} (h : f_X1_put n V k0 p1 p2 = some res) : Met l yX1_put wsX1_put ({ frames := 0, cells := 0, slots := 0, locals := 0 } : Room) (va_Pc [.ref (a.2 1 k0), .int p1, .int p2] (zJ sz (xI D cy a n V))) (va_Qv (fun (_ : Unit) => True) (fun _ t => va_P D xcl (xW cy a n res) t.heap ∧ va_D (va_A (xW cy a n V) sz) (xW cy a n res)) (va_A (xW cy a n V) sz)) 0 0 (va_A (xW cy a n V) sz) := by
  refine Met.ofW (cc := cX1_put) (maxL := 3) (ret := none) (by decide) rfl ?_
  intro p e s m args below meth c s₁ B hml hv
  obtain ⟨rfl, hsz, hP, hK, hD0⟩ := hv
  have hx := B.exec
  have hb := B.bytes
  have hr := B.returns
  have hts := atoms_spec (ws := wsX1_put) B.pre
  have hown : s.vm.findClass RX1 = some m.cls := findClass_of_methodNamed B.named
  have hlocks := B.notSynchronized
  subst hsz
  have hD := hD0.self (sz := s.heap.size)
  generalize hAe : va_A (xW cy a n V) s.heap.size = A at hD ⊢
  have hA : ∀ q : Nat, s.heap.size ≤ q → A q := fun q h => by rw [← hAe]; exact Or.inr h
  have hS : va_S A s.heap s.heap [] := va_S.rf
  have hl := lv_entry ([.ref (a.2 1 k0), .int p1, .int p2]) (n := 3) (Nat.le_of_ble_eq_true rfl)
  rw [lg_entry_eq]
  generalize (lg_sl ([.ref (a.2 1 k0), .int p1, .int p2]) ++ List.replicate (3 - (lg_sl ([.ref (a.2 1 k0), .int p1, .int p2])).length) Slot.unset).toArray = ls at hl ⊢
  have hl : lv_has ls 3 [(0, .ref (a.2 1 k0)), (1, .int p1), (2, .int p2)] := hl
  have hinX1 : ∀ w ∈ wsX10, w ∈ wsX1_put := (fun _ h => (List.mem_cons_of_mem _ (List.mem_append_right _ h)))
  revert hP hS
  intro hP hS
  refine lv_aload_n hx hb dX1_put_0 rfl (lv_at hl 0 rfl) ?_
  refine lv_bipush (v := 112) hx hb dX1_put_1 (by decide) ?_
  refine va_put (D := D) (ci := 1) (v := .int 112) (ty := .char) (C := RX1) (T := TX1) (N := 11) hx hb hts hinX1 tyX1 tyX1_ok nmX1 hown hK hP hD hS _ (xpos_li hk0) rfl 8 (by decide) (hts _ (List.mem_of_getElem? (i := 1) rfl)) (fun _ h9 => h9) rfl (by decide +kernel) (by decide) (by decide) (Nat.le_of_ble_eq_true rfl) dX1_put_3 (fun H locs hP hD hS => ?_)
  rw [xset_li 8 (by decide) hk0 _] at hP hD
  obtain ⟨V_1, eV_2, h⟩ := ob_some h
  rw [Option.some.inj eV_2] at hP hD
  refine lv_aload_n hx hb dX1_put_6 rfl (lv_at hl 0 rfl) ?_
  refine lv_iload_n hx hb dX1_put_7 rfl (lv_at hl 1 rfl) ?_
  refine va_put (D := D) (ci := 1) (v := .int p1) (ty := .int) (C := RX1) (T := TX1) (N := 11) hx hb hts hinX1 tyX1 tyX1_ok nmX1 hown hK hP hD hS _ (xpos_li hk0) rfl 9 (by decide) (hts _ (List.mem_of_getElem? (i := 2) rfl)) (fun _ h9 => h9) rfl (by decide +kernel) rfl rfl (Nat.le_of_ble_eq_true rfl) dX1_put_8 (fun H locs hP hD hS => ?_)
  rw [xset_li 9 (by decide) hk0 _] at hP hD
  obtain ⟨V_3, eV_4, h⟩ := ob_some h
  rw [Option.some.inj eV_4] at hP hD
  refine lv_aload_n hx hb dX1_put_11 rfl (lv_at hl 0 rfl) ?_
  refine lv_iload_n hx hb dX1_put_12 rfl (lv_at hl 2 rfl) ?_
  refine va_put (D := D) (ci := 1) (v := .int p2) (ty := .int) (C := RX1) (T := TX1) (N := 11) hx hb hts hinX1 tyX1 tyX1_ok nmX1 hown hK hP hD hS _ (xpos_li hk0) rfl 10 (by decide) (hts _ (List.mem_of_getElem? (i := 3) rfl)) (fun _ h9 => h9) rfl (by decide +kernel) rfl rfl (Nat.le_of_ble_eq_true rfl) dX1_put_13 (fun H locs hP hD hS => ?_)
  rw [xset_li 10 (by decide) hk0 _] at hP hD
  obtain ⟨V_5, eV_6, h⟩ := ob_some h
  rw [Option.some.inj eV_6] at hP hD
  have h9 := Option.some.inj h
  subst h9
  exact W.vret hx hb hr (fun t ht hW => ⟨⟨(), rfl, trivial, ⟨by rw [ht]; exact hP, hD⟩⟩, hS.F ht⟩) hS.2.2 dX1_put_16 hlocks
def f_X1_takeBack (n : Nat → Nat) (V : XV) (k0 : Nat) : Option (XV) := ob (some (xput V 1 k0 8 119)) (fun V_1 => ob (some (xput V_1 1 k0 9 (-1))) (fun V_3 => ob (some (xput V_3 1 k0 10 (-1))) (fun V_5 => some V_5)))
theorem hd_X1_takeBack : yX1_takeBack.cls = RX1 ∧ yX1_takeBack.cls ≠ "java/lang/invoke/MethodHandle" ∧ yX1_takeBack.cls ≠ "java/lang/invoke/VarHandle" ∧ (parseMethodDescriptor yX1_takeBack.desc).map (fun d => d.parameters.length) = some 0 := by decide +kernel
set_option maxHeartbeats 4000000 in
set_option maxRecDepth 100000 in
theorem c_X1_takeBack (l : Launch) (D : va_G) (cy : Nat → ClassId) (a : XA) (n : Nat → Nat) (V : XV) (sz : Nat) (k0 : Nat) (hk0 : k0 < n 1) {res : XV} (h : f_X1_takeBack n V k0 = some res) : Met l yX1_takeBack wsX1_takeBack ({ frames := 0, cells := 0, slots := 0, locals := 0 } : Room) (va_Pc [.ref (a.2 1 k0)] (zJ sz (xI D cy a n V))) (va_Qv (fun (_ : Unit) => True) (fun _ t => va_P D xcl (xW cy a n res) t.heap ∧ va_D (va_A (xW cy a n V) sz) (xW cy a n res)) (va_A (xW cy a n V) sz)) 0 0 (va_A (xW cy a n V) sz) := by
  refine Met.ofW (cc := cX1_takeBack) (maxL := 1) (ret := none) (by decide) rfl ?_
  intro p e s m args below meth c s₁ B hml hv
  obtain ⟨rfl, hsz, hP, hK, hD0⟩ := hv
  have hx := B.exec
  have hb := B.bytes
  have hr := B.returns
  have hts := atoms_spec (ws := wsX1_takeBack) B.pre
  have hown : s.vm.findClass RX1 = some m.cls := findClass_of_methodNamed B.named
  have hlocks := B.notSynchronized
  subst hsz
  have hD := hD0.self (sz := s.heap.size)
  generalize hAe : va_A (xW cy a n V) s.heap.size = A at hD ⊢
  have hA : ∀ q : Nat, s.heap.size ≤ q → A q := fun q h => by rw [← hAe]; exact Or.inr h
  have hS : va_S A s.heap s.heap [] := va_S.rf
  have hl := lv_entry ([.ref (a.2 1 k0)]) (n := 1) (Nat.le_of_ble_eq_true rfl)
  rw [lg_entry_eq]
  generalize (lg_sl ([.ref (a.2 1 k0)]) ++ List.replicate (1 - (lg_sl ([.ref (a.2 1 k0)])).length) Slot.unset).toArray = ls at hl ⊢
  have hl : lv_has ls 1 [(0, .ref (a.2 1 k0))] := hl
  have hinX1 : ∀ w ∈ wsX10, w ∈ wsX1_takeBack := (fun _ h => (List.mem_cons_of_mem _ (List.mem_append_right _ h)))
  revert hP hS
  intro hP hS
  refine lv_aload_n hx hb dX1_takeBack_0 rfl (lv_at hl 0 rfl) ?_
  refine lv_bipush (v := 119) hx hb dX1_takeBack_1 (by decide) ?_
  refine va_put (D := D) (ci := 1) (v := .int 119) (ty := .char) (C := RX1) (T := TX1) (N := 11) hx hb hts hinX1 tyX1 tyX1_ok nmX1 hown hK hP hD hS _ (xpos_li hk0) rfl 8 (by decide) (hts _ (List.mem_of_getElem? (i := 1) rfl)) (fun _ h9 => h9) rfl (by decide +kernel) (by decide) (by decide) (Nat.le_of_ble_eq_true rfl) dX1_takeBack_3 (fun H locs hP hD hS => ?_)
  rw [xset_li 8 (by decide) hk0 _] at hP hD
  obtain ⟨V_1, eV_2, h⟩ := ob_some h
  rw [Option.some.inj eV_2] at hP hD
  refine lv_aload_n hx hb dX1_takeBack_6 rfl (lv_at hl 0 rfl) ?_
  refine lv_iconst (v := (-1)) hx hb dX1_takeBack_7 (by decide) ?_
  refine va_put (D := D) (ci := 1) (v := .int ((-1))) (ty := .int) (C := RX1) (T := TX1) (N := 11) hx hb hts hinX1 tyX1 tyX1_ok nmX1 hown hK hP hD hS _ (xpos_li hk0) rfl 9 (by decide) (hts _ (List.mem_of_getElem? (i := 2) rfl)) (fun _ h9 => h9) rfl (by decide +kernel) rfl rfl (Nat.le_of_ble_eq_true rfl) dX1_takeBack_8 (fun H locs hP hD hS => ?_)
  rw [xset_li 9 (by decide) hk0 _] at hP hD
  obtain ⟨V_3, eV_4, h⟩ := ob_some h
  rw [Option.some.inj eV_4] at hP hD
  refine lv_aload_n hx hb dX1_takeBack_11 rfl (lv_at hl 0 rfl) ?_
  refine lv_iconst (v := (-1)) hx hb dX1_takeBack_12 (by decide) ?_
  refine va_put (D := D) (ci := 1) (v := .int ((-1))) (ty := .int) (C := RX1) (T := TX1) (N := 11) hx hb hts hinX1 tyX1 tyX1_ok nmX1 hown hK hP hD hS _ (xpos_li hk0) rfl 10 (by decide) (hts _ (List.mem_of_getElem? (i := 3) rfl)) (fun _ h9 => h9) rfl (by decide +kernel) rfl rfl (Nat.le_of_ble_eq_true rfl) dX1_takeBack_13 (fun H locs hP hD hS => ?_)
  rw [xset_li 10 (by decide) hk0 _] at hP hD
  obtain ⟨V_5, eV_6, h⟩ := ob_some h
  rw [Option.some.inj eV_6] at hP hD
  have h9 := Option.some.inj h
  subst h9
  exact W.vret hx hb hr (fun t ht hW => ⟨⟨(), rfl, trivial, ⟨by rw [ht]; exact hP, hD⟩⟩, hS.F ht⟩) hS.2.2 dX1_takeBack_16 hlocks
