def f_X4_thrown (V : RV)  : Option (Int32) := some (V.1 27)
theorem hd_X4_thrown : yX4_thrown.cls = RX4 ∧ yX4_thrown.cls ≠ "java/lang/invoke/MethodHandle" ∧ yX4_thrown.cls ≠ "java/lang/invoke/VarHandle" ∧ (parseMethodDescriptor yX4_thrown.desc).map (fun d => d.parameters.length) = some 0 := by decide +kernel
set_option maxHeartbeats 4000000 in
set_option maxRecDepth 100000 in
theorem c_X4_thrown (l : Launch) (D : va_G) (cy : Nat → ClassId) (b : Nat → Nat) (V : RV)  {res : Int32} (h : f_X4_thrown V  = some res) : Met l yX4_thrown wsX4_thrown ({ frames := 0, cells := 0, slots := 0, locals := 0 } : Room) (va_Pc [.ref (b 0)] (rI D cy b V)) (vp_Si (fun r => r = res)) 0 0 (fun _ => False) := by
  refine Met.ofW (cc := cX4_thrown) (maxL := 1) (ret := (some .int)) (by decide) rfl ?_
  intro p e s m args below meth c s₁ B hml hv
  obtain ⟨rfl, hP, hK, hD⟩ := hv
  have hx := B.exec
  have hb := B.bytes
  have hr := B.returns
  have hts := atoms_spec (ws := wsX4_thrown) B.pre
  have hown : s.vm.findClass RX4 = some m.cls := findClass_of_methodNamed B.named
  have hlocks := B.notSynchronized
  have hl := lv_entry ([.ref (b 0)]) (n := 1) (Nat.le_of_ble_eq_true rfl)
  rw [lg_entry_eq]
  generalize (lg_sl ([.ref (b 0)]) ++ List.replicate (1 - (lg_sl ([.ref (b 0)])).length) Slot.unset).toArray = ls at hl ⊢
  have hl : lv_has ls 1 [(0, .ref (b 0))] := hl
  have hinX4 : ∀ w ∈ wsX40, w ∈ wsX4_thrown := (fun _ h => (List.mem_cons_of_mem _ (List.mem_append_right _ h)))
  refine lv_aload_n hx hb dX4_thrown_0 rfl (lv_at hl 0 rfl) ?_
  refine va_get (D := D) (ci := 4) (v := .int (V.1 27)) (C := RX4) (T := TX4) (N := 28) hx hb hts hinX4 hown hK hP 0 rfl rfl 27 (by decide) (hts _ (List.mem_of_getElem? (i := 1) rfl)) (fun _ h9 => h9) rfl dX4_thrown_1 ?_
  have h9 := Option.some.inj h
  exact W.iret (v := V.1 27) hx hb hr (fun t ht hW => ⟨V.1 27, rfl, h9, ht⟩) (fun _ hq => absurd hq List.not_mem_nil) dX4_thrown_4 hlocks
def f_X4_fails (V : RV) (p1 : Int32) : Option (Int32 × RV) := ob (some (rsc V 27 p1)) (fun V_1 => oi (p1 ≤ 0) (some (0, V_1)) (some (1, V_1)))
theorem hd_X4_fails : yX4_fails.cls = RX4 ∧ yX4_fails.cls ≠ "java/lang/invoke/MethodHandle" ∧ yX4_fails.cls ≠ "java/lang/invoke/VarHandle" ∧ (parseMethodDescriptor yX4_fails.desc).map (fun d => d.parameters.length) = some 1 := by decide +kernel
set_option maxHeartbeats 4000000 in
set_option maxRecDepth 100000 in
theorem c_X4_fails (l : Launch) (D : va_G) (cy : Nat → ClassId) (b : Nat → Nat) (V : RV) (sz : Nat) (p1 : Int32) {res : Int32 × RV} (h : f_X4_fails V p1 = some res) : Met l yX4_fails wsX4_fails ({ frames := 0, cells := 0, slots := 0, locals := 0 } : Room) (va_Pc [.ref (b 0), .int p1] (zJ sz (rI D cy b V))) (va_Qi (fun r (_ : Unit) => r = res.1) (fun _ t => va_P D xcl (rW cy b res.2) t.heap ∧ va_D (va_A (rW cy b V) sz) (rW cy b res.2)) (va_A (rW cy b V) sz)) 0 0 (va_A (rW cy b V) sz) := by
  refine Met.ofW (cc := cX4_fails) (maxL := 2) (ret := (some .boolean)) (by decide) rfl ?_
  intro p e s m args below meth c s₁ B hml hv
  obtain ⟨rfl, hsz, hP, hK, hD0⟩ := hv
  have hx := B.exec
  have hb := B.bytes
  have hr := B.returns
  have hts := atoms_spec (ws := wsX4_fails) B.pre
  have hown : s.vm.findClass RX4 = some m.cls := findClass_of_methodNamed B.named
  have hlocks := B.notSynchronized
  subst hsz
  have hD := hD0.self (sz := s.heap.size)
  generalize hAe : va_A (rW cy b V) s.heap.size = A at hD ⊢
  have hA : ∀ q : Nat, s.heap.size ≤ q → A q := fun q h => by rw [← hAe]; exact Or.inr h
  have hS : va_S A s.heap s.heap [] := va_S.rf
  have hl := lv_entry ([.ref (b 0), .int p1]) (n := 2) (Nat.le_of_ble_eq_true rfl)
  rw [lg_entry_eq]
  generalize (lg_sl ([.ref (b 0), .int p1]) ++ List.replicate (2 - (lg_sl ([.ref (b 0), .int p1])).length) Slot.unset).toArray = ls at hl ⊢
  have hl : lv_has ls 2 [(0, .ref (b 0)), (1, .int p1)] := hl
  have hinX4 : ∀ w ∈ wsX40, w ∈ wsX4_fails := (fun _ h => (List.mem_cons_of_mem _ (List.mem_append_right _ h)))
  revert hP hS
  intro hP hS
  refine lv_aload_n hx hb dX4_fails_0 rfl (lv_at hl 0 rfl) ?_
  refine lv_iload_n hx hb dX4_fails_1 rfl (lv_at hl 1 rfl) ?_
  refine va_put (D := D) (ci := 4) (v := .int p1) (ty := .int) (C := RX4) (T := TX4) (N := 28) hx hb hts hinX4 tyX4 tyX4_ok nmX4 hown hK hP hD hS 0 rfl rfl 27 (by decide) (hts _ (List.mem_of_getElem? (i := 1) rfl)) (fun _ h9 => h9) rfl (by decide +kernel) rfl rfl (Nat.le_of_ble_eq_true rfl) dX4_fails_2 (fun H locs hP hD hS => ?_)
  replace hP : va_P D xcl (rW cy b (rsc V 27 p1)) H := hP
  replace hD : va_D A (rW cy b (rsc V 27 p1)) := hD
  obtain ⟨V_1, eV_2, h⟩ := ob_some h
  rw [Option.some.inj eV_2] at hP hD
  refine lv_iload_n hx hb dX4_fails_5 rfl (lv_at hl 1 rfl) ?_
  refine lv_if_le (tgt := 13) hx hb dX4_fails_6 (by decide) (fun c_3 => ?_) (fun c_3 => ?_)
  · replace h := oi_t c_3 h
    refine lv_iconst (v := 0) hx hb dX4_fails_13 (by decide) ?_
    have h9 := Option.some.inj h
    subst h9
    exact W.zret (v := 0) hx hb hr (by decide) (fun t ht hW => ⟨⟨0, (), rfl, rfl, ⟨by rw [ht]; exact hP, hD⟩⟩, hS.F ht⟩) hS.2.2 dX4_fails_14 hlocks
  · replace h := oi_f c_3 h
    refine lv_iconst (v := 1) hx hb dX4_fails_9 (by decide) ?_
    refine lv_goto (tgt := 14) hx hb dX4_fails_10 (by decide) ?_
    have h9 := Option.some.inj h
    subst h9
    exact W.zret (v := 1) hx hb hr (by decide) (fun t ht hW => ⟨⟨1, (), rfl, rfl, ⟨by rw [ht]; exact hP, hD⟩⟩, hS.F ht⟩) hS.2.2 dX4_fails_14 hlocks
def f_X4_tells (V : RV) (p1 : Int32) : Option (Int32 × RV) := ob (some (rsc V 27 0)) (fun V_1 => some (p1, V_1))
theorem hd_X4_tells : yX4_tells.cls = RX4 ∧ yX4_tells.cls ≠ "java/lang/invoke/MethodHandle" ∧ yX4_tells.cls ≠ "java/lang/invoke/VarHandle" ∧ (parseMethodDescriptor yX4_tells.desc).map (fun d => d.parameters.length) = some 1 := by decide +kernel
set_option maxHeartbeats 4000000 in
set_option maxRecDepth 100000 in
theorem c_X4_tells (l : Launch) (D : va_G) (cy : Nat → ClassId) (b : Nat → Nat) (V : RV) (sz : Nat) (p1 : Int32) {res : Int32 × RV} (h : f_X4_tells V p1 = some res) : Met l yX4_tells wsX4_tells ({ frames := 0, cells := 0, slots := 0, locals := 0 } : Room) (va_Pc [.ref (b 0), .int p1] (zJ sz (rI D cy b V))) (va_Qi (fun r (_ : Unit) => r = res.1) (fun _ t => va_P D xcl (rW cy b res.2) t.heap ∧ va_D (va_A (rW cy b V) sz) (rW cy b res.2)) (va_A (rW cy b V) sz)) 0 0 (va_A (rW cy b V) sz) := by
  refine Met.ofW (cc := cX4_tells) (maxL := 2) (ret := (some .int)) (by decide) rfl ?_
  intro p e s m args below meth c s₁ B hml hv
  obtain ⟨rfl, hsz, hP, hK, hD0⟩ := hv
  have hx := B.exec
  have hb := B.bytes
  have hr := B.returns
  have hts := atoms_spec (ws := wsX4_tells) B.pre
  have hown : s.vm.findClass RX4 = some m.cls := findClass_of_methodNamed B.named
  have hlocks := B.notSynchronized
  subst hsz
  have hD := hD0.self (sz := s.heap.size)
  generalize hAe : va_A (rW cy b V) s.heap.size = A at hD ⊢
  have hA : ∀ q : Nat, s.heap.size ≤ q → A q := fun q h => by rw [← hAe]; exact Or.inr h
  have hS : va_S A s.heap s.heap [] := va_S.rf
  have hl := lv_entry ([.ref (b 0), .int p1]) (n := 2) (Nat.le_of_ble_eq_true rfl)
  rw [lg_entry_eq]
  generalize (lg_sl ([.ref (b 0), .int p1]) ++ List.replicate (2 - (lg_sl ([.ref (b 0), .int p1])).length) Slot.unset).toArray = ls at hl ⊢
  have hl : lv_has ls 2 [(0, .ref (b 0)), (1, .int p1)] := hl
  have hinX4 : ∀ w ∈ wsX40, w ∈ wsX4_tells := (fun _ h => (List.mem_cons_of_mem _ (List.mem_append_right _ h)))
  revert hP hS
  intro hP hS
  refine lv_aload_n hx hb dX4_tells_0 rfl (lv_at hl 0 rfl) ?_
  refine lv_iconst (v := 0) hx hb dX4_tells_1 (by decide) ?_
  refine va_put (D := D) (ci := 4) (v := .int 0) (ty := .int) (C := RX4) (T := TX4) (N := 28) hx hb hts hinX4 tyX4 tyX4_ok nmX4 hown hK hP hD hS 0 rfl rfl 27 (by decide) (hts _ (List.mem_of_getElem? (i := 1) rfl)) (fun _ h9 => h9) rfl (by decide +kernel) rfl rfl (Nat.le_of_ble_eq_true rfl) dX4_tells_2 (fun H locs hP hD hS => ?_)
  replace hP : va_P D xcl (rW cy b (rsc V 27 0)) H := hP
  replace hD : va_D A (rW cy b (rsc V 27 0)) := hD
  obtain ⟨V_1, eV_2, h⟩ := ob_some h
  rw [Option.some.inj eV_2] at hP hD
  refine lv_iload_n hx hb dX4_tells_5 rfl (lv_at hl 1 rfl) ?_
  have h9 := Option.some.inj h
  subst h9
  exact W.iret (v := p1) hx hb hr (fun t ht hW => ⟨⟨p1, (), rfl, rfl, ⟨by rw [ht]; exact hP, hD⟩⟩, hS.F ht⟩) hS.2.2 dX4_tells_6 hlocks
def f_X4_in (p1 : Int32) (p2 : Int32) (p3 : Int32) : Option (Int32) := oi (p1 < p2) (some 0) (oi (p3 < p1) (some 0) (some 1))
theorem hd_X4_in : yX4_in.cls ≠ "java/lang/invoke/MethodHandle" ∧ yX4_in.cls ≠ "java/lang/invoke/VarHandle" ∧ (parseMethodDescriptor yX4_in.desc).map (fun d => d.parameters.length) = some 3 := by decide +kernel
set_option maxHeartbeats 4000000 in
set_option maxRecDepth 100000 in
theorem c_X4_in (l : Launch) (p1 : Int32) (p2 : Int32) (p3 : Int32) {res : Int32} (h : f_X4_in p1 p2 p3 = some res) : Met l yX4_in wsX4_in ({ frames := 0, cells := 0, slots := 0, locals := 0 } : Room) (va_Pc [.int p1, .int p2, .int p3] zT) (vp_Si (fun r => r = res)) 0 0 (fun _ => False) := by
  refine Met.ofW (cc := cX4_in) (maxL := 3) (ret := (some .boolean)) (by decide) rfl ?_
  intro p e s m args below meth c s₁ B hml hv
  obtain ⟨rfl, -⟩ := hv
  have hx := B.exec
  have hb := B.bytes
  have hr := B.returns
  have hts := atoms_spec (ws := wsX4_in) B.pre
  have hown : s.vm.findClass RX4 = some m.cls := findClass_of_methodNamed B.named
  have hlocks := B.notSynchronized
  have hl := lv_entry ([.int p1, .int p2, .int p3]) (n := 3) (Nat.le_of_ble_eq_true rfl)
  rw [lg_entry_eq]
  generalize (lg_sl ([.int p1, .int p2, .int p3]) ++ List.replicate (3 - (lg_sl ([.int p1, .int p2, .int p3])).length) Slot.unset).toArray = ls at hl ⊢
  have hl : lv_has ls 3 [(0, .int p1), (1, .int p2), (2, .int p3)] := hl
  refine lv_iload_n hx hb dX4_in_0 rfl (lv_at hl 0 rfl) ?_
  refine lv_iload_n hx hb dX4_in_1 rfl (lv_at hl 1 rfl) ?_
  refine lv_icmp_lt (tgt := 14) hx hb dX4_in_2 (by decide) (fun c_1 => ?_) (fun c_1 => ?_)
  · replace h := oi_t c_1 h
    refine lv_iconst (v := 0) hx hb dX4_in_14 (by decide) ?_
    have h9 := Option.some.inj h
    exact W.zret (v := 0) hx hb hr (by decide) (fun t ht hW => ⟨0, rfl, h9, ht⟩) (fun _ hq => absurd hq List.not_mem_nil) dX4_in_15 hlocks
  · replace h := oi_f c_1 h
    refine lv_iload_n hx hb dX4_in_5 rfl (lv_at hl 0 rfl) ?_
    refine lv_iload_n hx hb dX4_in_6 rfl (lv_at hl 2 rfl) ?_
    refine lv_icmp_gt (tgt := 14) hx hb dX4_in_7 (by decide) (fun c_2 => ?_) (fun c_2 => ?_)
    · replace h := oi_t c_2 h
      refine lv_iconst (v := 0) hx hb dX4_in_14 (by decide) ?_
      have h9 := Option.some.inj h
      exact W.zret (v := 0) hx hb hr (by decide) (fun t ht hW => ⟨0, rfl, h9, ht⟩) (fun _ hq => absurd hq List.not_mem_nil) dX4_in_15 hlocks
    · replace h := oi_f c_2 h
      refine lv_iconst (v := 1) hx hb dX4_in_10 (by decide) ?_
      refine lv_goto (tgt := 15) hx hb dX4_in_11 (by decide) ?_
      have h9 := Option.some.inj h
      exact W.zret (v := 1) hx hb hr (by decide) (fun t ht hW => ⟨1, rfl, h9, ht⟩) (fun _ hq => absurd hq List.not_mem_nil) dX4_in_15 hlocks
def f_X4_isPlace (p1 : Int32) (p2 : Int32) : Option (Int32) := ob (f_X4_in p1 0 39) (fun u_1 => oi (u_1 = 0) (some 0) (ob (f_X4_in p2 0 39) (fun u_4 => oi (u_4 = 0) (some 0) (some 1))))
theorem hd_X4_isPlace : yX4_isPlace.cls ≠ "java/lang/invoke/MethodHandle" ∧ yX4_isPlace.cls ≠ "java/lang/invoke/VarHandle" ∧ (parseMethodDescriptor yX4_isPlace.desc).map (fun d => d.parameters.length) = some 2 := by decide +kernel
set_option maxHeartbeats 4000000 in
set_option maxRecDepth 100000 in
theorem c_X4_isPlace (l : Launch) (p1 : Int32) (p2 : Int32) {res : Int32} (h : f_X4_isPlace p1 p2 = some res) : Met l yX4_isPlace wsX4_isPlace ({ frames := 1, cells := 0, slots := 0, locals := 22 } : Room) (va_Pc [.int p1, .int p2] zT) (vp_Si (fun r => r = res)) 0 0 (fun _ => False) := by
  refine Met.ofW (cc := cX4_isPlace) (maxL := 2) (ret := (some .boolean)) (by decide) rfl ?_
  intro p e s m args below meth c s₁ B hml hv
  obtain ⟨rfl, -⟩ := hv
  have hx := B.exec
  have hb := B.bytes
  have hr := B.returns
  have hts := atoms_spec (ws := wsX4_isPlace) B.pre
  have hown : s.vm.findClass RX4 = some m.cls := findClass_of_methodNamed B.named
  have hlocks := B.notSynchronized
  have hl := lv_entry ([.int p1, .int p2]) (n := 2) (Nat.le_of_ble_eq_true rfl)
  rw [lg_entry_eq]
  generalize (lg_sl ([.int p1, .int p2]) ++ List.replicate (2 - (lg_sl ([.int p1, .int p2])).length) Slot.unset).toArray = ls at hl ⊢
  have hl : lv_has ls 2 [(0, .int p1), (1, .int p2)] := hl
  refine lv_iload_n hx hb dX4_isPlace_0 rfl (lv_at hl 0 rfl) ?_
  refine lv_iconst (v := 0) hx hb dX4_isPlace_1 (by decide) ?_
  refine lv_bipush (v := 39) hx hb dX4_isPlace_2 (by decide) ?_
  obtain ⟨u_1, hg_2, h⟩ := ob_some h
  refine zcSi (W.runS (As := [.int p1, .int 0, .int 39]) (rest := []) ⟨hx, hb, hml, hown, hts⟩ (c_X4_in l p1 0 39 hg_2) (va_cwS 3 hts gX4_isPlace_X4_in rfl rfl rfl hd_X4_in ⟨Nat.le_of_ble_eq_true rfl, Nat.le_of_ble_eq_true rfl⟩) ⟨zT_blind, zT_at⟩ rfl rfl hl.1 rfl (lv_room (Nat.le_of_ble_eq_true rfl)) dX4_isPlace_4 ⟨Nat.le_of_ble_eq_true rfl, Nat.le_of_ble_eq_true rfl⟩) ?_
  refine lv_if_eq (tgt := 24) hx hb dX4_isPlace_7 (by decide) (fun c_3 => ?_) (fun c_3 => ?_)
  · replace h := oi_t c_3 h
    refine lv_iconst (v := 0) hx hb dX4_isPlace_24 (by decide) ?_
    have h9 := Option.some.inj h
    exact W.zret (v := 0) hx hb hr (by decide) (fun t ht hW => ⟨0, rfl, h9, ht⟩) (fun _ hq => absurd hq List.not_mem_nil) dX4_isPlace_25 hlocks
  · replace h := oi_f c_3 h
    refine lv_iload_n hx hb dX4_isPlace_10 rfl (lv_at hl 1 rfl) ?_
    refine lv_iconst (v := 0) hx hb dX4_isPlace_11 (by decide) ?_
    refine lv_bipush (v := 39) hx hb dX4_isPlace_12 (by decide) ?_
    obtain ⟨u_4, hg_5, h⟩ := ob_some h
    refine zcSi (W.runS (As := [.int p2, .int 0, .int 39]) (rest := []) ⟨hx, hb, hml, hown, hts⟩ (c_X4_in l p2 0 39 hg_5) (va_cwS 3 hts gX4_isPlace_X4_in rfl rfl rfl hd_X4_in ⟨Nat.le_of_ble_eq_true rfl, Nat.le_of_ble_eq_true rfl⟩) ⟨zT_blind, zT_at⟩ rfl rfl hl.1 rfl (lv_room (Nat.le_of_ble_eq_true rfl)) dX4_isPlace_14 ⟨Nat.le_of_ble_eq_true rfl, Nat.le_of_ble_eq_true rfl⟩) ?_
    refine lv_if_eq (tgt := 24) hx hb dX4_isPlace_17 (by decide) (fun c_6 => ?_) (fun c_6 => ?_)
    · replace h := oi_t c_6 h
      refine lv_iconst (v := 0) hx hb dX4_isPlace_24 (by decide) ?_
      have h9 := Option.some.inj h
      exact W.zret (v := 0) hx hb hr (by decide) (fun t ht hW => ⟨0, rfl, h9, ht⟩) (fun _ hq => absurd hq List.not_mem_nil) dX4_isPlace_25 hlocks
    · replace h := oi_f c_6 h
      refine lv_iconst (v := 1) hx hb dX4_isPlace_20 (by decide) ?_
      refine lv_goto (tgt := 25) hx hb dX4_isPlace_21 (by decide) ?_
      have h9 := Option.some.inj h
      exact W.zret (v := 1) hx hb hr (by decide) (fun t ht hW => ⟨1, rfl, h9, ht⟩) (fun _ hq => absurd hq List.not_mem_nil) dX4_isPlace_25 hlocks
def f_X4_isNoCrane (V : RV) (p1 : Int32) : Option (Int32) := ob (f_X4_in p1 0 ((V.1 0) - 1)) (fun u_1 => oi (u_1 = 0) (some 1) (some 0))
theorem hd_X4_isNoCrane : yX4_isNoCrane.cls = RX4 ∧ yX4_isNoCrane.cls ≠ "java/lang/invoke/MethodHandle" ∧ yX4_isNoCrane.cls ≠ "java/lang/invoke/VarHandle" ∧ (parseMethodDescriptor yX4_isNoCrane.desc).map (fun d => d.parameters.length) = some 1 := by decide +kernel
set_option maxHeartbeats 4000000 in
set_option maxRecDepth 100000 in
theorem c_X4_isNoCrane (l : Launch) (D : va_G) (cy : Nat → ClassId) (b : Nat → Nat) (V : RV) (p1 : Int32) {res : Int32} (h : f_X4_isNoCrane V p1 = some res) : Met l yX4_isNoCrane wsX4_isNoCrane ({ frames := 1, cells := 0, slots := 0, locals := 22 } : Room) (va_Pc [.ref (b 0), .int p1] (rI D cy b V)) (vp_Si (fun r => r = res)) 0 0 (fun _ => False) := by
  refine Met.ofW (cc := cX4_isNoCrane) (maxL := 2) (ret := (some .boolean)) (by decide) rfl ?_
  intro p e s m args below meth c s₁ B hml hv
  obtain ⟨rfl, hP, hK, hD⟩ := hv
  have hx := B.exec
  have hb := B.bytes
  have hr := B.returns
  have hts := atoms_spec (ws := wsX4_isNoCrane) B.pre
  have hown : s.vm.findClass RX4 = some m.cls := findClass_of_methodNamed B.named
  have hlocks := B.notSynchronized
  have hl := lv_entry ([.ref (b 0), .int p1]) (n := 2) (Nat.le_of_ble_eq_true rfl)
  rw [lg_entry_eq]
  generalize (lg_sl ([.ref (b 0), .int p1]) ++ List.replicate (2 - (lg_sl ([.ref (b 0), .int p1])).length) Slot.unset).toArray = ls at hl ⊢
  have hl : lv_has ls 2 [(0, .ref (b 0)), (1, .int p1)] := hl
  have hinX4 : ∀ w ∈ wsX40, w ∈ wsX4_isNoCrane := (fun _ h => (List.mem_cons_of_mem _ (List.mem_append_right _ h)))
  refine lv_iload_n hx hb dX4_isNoCrane_0 rfl (lv_at hl 1 rfl) ?_
  refine lv_iconst (v := 0) hx hb dX4_isNoCrane_1 (by decide) ?_
  refine lv_aload_n hx hb dX4_isNoCrane_2 rfl (lv_at hl 0 rfl) ?_
  refine va_get (D := D) (ci := 4) (v := .int (V.1 0)) (C := RX4) (T := TX4) (N := 28) hx hb hts hinX4 hown hK hP 0 rfl rfl 0 (by decide) (hts _ (List.mem_of_getElem? (i := 1) rfl)) (fun _ h9 => h9) rfl dX4_isNoCrane_3 ?_
  refine lv_iconst (v := 1) hx hb dX4_isNoCrane_6 (by decide) ?_
  refine lv_isub hx hb dX4_isNoCrane_7 ?_
  obtain ⟨u_1, hg_2, h⟩ := ob_some h
  refine zcSi (W.runS (As := [.int p1, .int 0, .int ((V.1 0) - 1)]) (rest := []) ⟨hx, hb, hml, hown, hts⟩ (c_X4_in l p1 0 ((V.1 0) - 1) hg_2) (va_cwS 3 hts gX4_isNoCrane_X4_in rfl rfl rfl hd_X4_in ⟨Nat.le_of_ble_eq_true rfl, Nat.le_of_ble_eq_true rfl⟩) ⟨zT_blind, zT_at⟩ rfl rfl hl.1 rfl (lv_room (Nat.le_of_ble_eq_true rfl)) dX4_isNoCrane_8 ⟨Nat.le_of_ble_eq_true rfl, Nat.le_of_ble_eq_true rfl⟩) ?_
  refine lv_if_ne (tgt := 18) hx hb dX4_isNoCrane_11 (by decide) (fun c_3 => ?_) (fun c_3 => ?_)
  · replace h := oi_f c_3 h
    refine lv_iconst (v := 0) hx hb dX4_isNoCrane_18 (by decide) ?_
    have h9 := Option.some.inj h
    exact W.zret (v := 0) hx hb hr (by decide) (fun t ht hW => ⟨0, rfl, h9, ht⟩) (fun _ hq => absurd hq List.not_mem_nil) dX4_isNoCrane_19 hlocks
  · replace h := oi_t c_3 h
    refine lv_iconst (v := 1) hx hb dX4_isNoCrane_14 (by decide) ?_
    refine lv_goto (tgt := 19) hx hb dX4_isNoCrane_15 (by decide) ?_
    have h9 := Option.some.inj h
    exact W.zret (v := 1) hx hb hr (by decide) (fun t ht hW => ⟨1, rfl, h9, ht⟩) (fun _ hq => absurd hq List.not_mem_nil) dX4_isNoCrane_19 hlocks
def f_X4_isNoLift (V : RV) (p1 : Int32) : Option (Int32) := ob (f_X4_in p1 0 ((V.1 7) - 1)) (fun u_1 => oi (u_1 = 0) (some 1) (some 0))
theorem hd_X4_isNoLift : yX4_isNoLift.cls = RX4 ∧ yX4_isNoLift.cls ≠ "java/lang/invoke/MethodHandle" ∧ yX4_isNoLift.cls ≠ "java/lang/invoke/VarHandle" ∧ (parseMethodDescriptor yX4_isNoLift.desc).map (fun d => d.parameters.length) = some 1 := by decide +kernel
set_option maxHeartbeats 4000000 in
set_option maxRecDepth 100000 in
theorem c_X4_isNoLift (l : Launch) (D : va_G) (cy : Nat → ClassId) (b : Nat → Nat) (V : RV) (p1 : Int32) {res : Int32} (h : f_X4_isNoLift V p1 = some res) : Met l yX4_isNoLift wsX4_isNoLift ({ frames := 1, cells := 0, slots := 0, locals := 22 } : Room) (va_Pc [.ref (b 0), .int p1] (rI D cy b V)) (vp_Si (fun r => r = res)) 0 0 (fun _ => False) := by
  refine Met.ofW (cc := cX4_isNoLift) (maxL := 2) (ret := (some .boolean)) (by decide) rfl ?_
  intro p e s m args below meth c s₁ B hml hv
  obtain ⟨rfl, hP, hK, hD⟩ := hv
  have hx := B.exec
  have hb := B.bytes
  have hr := B.returns
  have hts := atoms_spec (ws := wsX4_isNoLift) B.pre
  have hown : s.vm.findClass RX4 = some m.cls := findClass_of_methodNamed B.named
  have hlocks := B.notSynchronized
  have hl := lv_entry ([.ref (b 0), .int p1]) (n := 2) (Nat.le_of_ble_eq_true rfl)
  rw [lg_entry_eq]
  generalize (lg_sl ([.ref (b 0), .int p1]) ++ List.replicate (2 - (lg_sl ([.ref (b 0), .int p1])).length) Slot.unset).toArray = ls at hl ⊢
  have hl : lv_has ls 2 [(0, .ref (b 0)), (1, .int p1)] := hl
  have hinX4 : ∀ w ∈ wsX40, w ∈ wsX4_isNoLift := (fun _ h => (List.mem_cons_of_mem _ (List.mem_append_right _ h)))
  refine lv_iload_n hx hb dX4_isNoLift_0 rfl (lv_at hl 1 rfl) ?_
  refine lv_iconst (v := 0) hx hb dX4_isNoLift_1 (by decide) ?_
  refine lv_aload_n hx hb dX4_isNoLift_2 rfl (lv_at hl 0 rfl) ?_
  refine va_get (D := D) (ci := 4) (v := .int (V.1 7)) (C := RX4) (T := TX4) (N := 28) hx hb hts hinX4 hown hK hP 0 rfl rfl 7 (by decide) (hts _ (List.mem_of_getElem? (i := 1) rfl)) (fun _ h9 => h9) rfl dX4_isNoLift_3 ?_
  refine lv_iconst (v := 1) hx hb dX4_isNoLift_6 (by decide) ?_
  refine lv_isub hx hb dX4_isNoLift_7 ?_
  obtain ⟨u_1, hg_2, h⟩ := ob_some h
  refine zcSi (W.runS (As := [.int p1, .int 0, .int ((V.1 7) - 1)]) (rest := []) ⟨hx, hb, hml, hown, hts⟩ (c_X4_in l p1 0 ((V.1 7) - 1) hg_2) (va_cwS 3 hts gX4_isNoLift_X4_in rfl rfl rfl hd_X4_in ⟨Nat.le_of_ble_eq_true rfl, Nat.le_of_ble_eq_true rfl⟩) ⟨zT_blind, zT_at⟩ rfl rfl hl.1 rfl (lv_room (Nat.le_of_ble_eq_true rfl)) dX4_isNoLift_8 ⟨Nat.le_of_ble_eq_true rfl, Nat.le_of_ble_eq_true rfl⟩) ?_
  refine lv_if_ne (tgt := 18) hx hb dX4_isNoLift_11 (by decide) (fun c_3 => ?_) (fun c_3 => ?_)
  · replace h := oi_f c_3 h
    refine lv_iconst (v := 0) hx hb dX4_isNoLift_18 (by decide) ?_
    have h9 := Option.some.inj h
    exact W.zret (v := 0) hx hb hr (by decide) (fun t ht hW => ⟨0, rfl, h9, ht⟩) (fun _ hq => absurd hq List.not_mem_nil) dX4_isNoLift_19 hlocks
  · replace h := oi_t c_3 h
    refine lv_iconst (v := 1) hx hb dX4_isNoLift_14 (by decide) ?_
    refine lv_goto (tgt := 19) hx hb dX4_isNoLift_15 (by decide) ?_
    have h9 := Option.some.inj h
    exact W.zret (v := 1) hx hb hr (by decide) (fun t ht hW => ⟨1, rfl, h9, ht⟩) (fun _ hq => absurd hq List.not_mem_nil) dX4_isNoLift_19 hlocks
def f_X4_isNone (V : RV) (p1 : Int32) : Option (Int32 × RV) := ob (f_X4_isNoLift V p1) (fun u_1 => oi (u_1 = 0) (ob (f_X4_fails V 0) (fun u_4 => og (u_4.1 &&& 1 = u_4.1) (some (u_4.1, u_4.2)))) (ob (f_X4_fails V 1) (fun u_7 => og (u_7.1 &&& 1 = u_7.1) (some (u_7.1, u_7.2)))))
theorem hd_X4_isNone : yX4_isNone.cls = RX4 ∧ yX4_isNone.cls ≠ "java/lang/invoke/MethodHandle" ∧ yX4_isNone.cls ≠ "java/lang/invoke/VarHandle" ∧ (parseMethodDescriptor yX4_isNone.desc).map (fun d => d.parameters.length) = some 1 := by decide +kernel
set_option maxHeartbeats 4000000 in
set_option maxRecDepth 100000 in
theorem c_X4_isNone (l : Launch) (D : va_G) (cy : Nat → ClassId) (b : Nat → Nat) (V : RV) (sz : Nat) (p1 : Int32) {res : Int32 × RV} (h : f_X4_isNone V p1 = some res) : Met l yX4_isNone wsX4_isNone ({ frames := 2, cells := 0, slots := 0, locals := 43 } : Room) (va_Pc [.ref (b 0), .int p1] (zJ sz (rI D cy b V))) (va_Qi (fun r (_ : Unit) => r = res.1) (fun _ t => va_P D xcl (rW cy b res.2) t.heap ∧ va_D (va_A (rW cy b V) sz) (rW cy b res.2)) (va_A (rW cy b V) sz)) 0 0 (va_A (rW cy b V) sz) := by
  refine Met.ofW (cc := cX4_isNone) (maxL := 2) (ret := (some .boolean)) (by decide) rfl ?_
  intro p e s m args below meth c s₁ B hml hv
  obtain ⟨rfl, hsz, hP, hK, hD0⟩ := hv
  have hx := B.exec
  have hb := B.bytes
  have hr := B.returns
  have hts := atoms_spec (ws := wsX4_isNone) B.pre
  have hown : s.vm.findClass RX4 = some m.cls := findClass_of_methodNamed B.named
  have hlocks := B.notSynchronized
  subst hsz
  have hD := hD0.self (sz := s.heap.size)
  generalize hAe : va_A (rW cy b V) s.heap.size = A at hD ⊢
  have hA : ∀ q : Nat, s.heap.size ≤ q → A q := fun q h => by rw [← hAe]; exact Or.inr h
  have hS : va_S A s.heap s.heap [] := va_S.rf
  have hl := lv_entry ([.ref (b 0), .int p1]) (n := 2) (Nat.le_of_ble_eq_true rfl)
  rw [lg_entry_eq]
  generalize (lg_sl ([.ref (b 0), .int p1]) ++ List.replicate (2 - (lg_sl ([.ref (b 0), .int p1])).length) Slot.unset).toArray = ls at hl ⊢
  have hl : lv_has ls 2 [(0, .ref (b 0)), (1, .int p1)] := hl
  revert hP hS
  intro hP hS
  refine lv_aload_n hx hb dX4_isNone_0 rfl (lv_at hl 0 rfl) ?_
  refine lv_aload_n hx hb dX4_isNone_1 rfl (lv_at hl 0 rfl) ?_
  refine lv_iload_n hx hb dX4_isNone_2 rfl (lv_at hl 1 rfl) ?_
  obtain ⟨u_1, hg_2, h⟩ := ob_some h
  refine zcSi (W.runV (As := [.int p1]) (rest := [.ref (b 0)]) ⟨hx, hb, hml, hown, hts⟩ (c_X4_isNoLift l D cy b V p1 hg_2) (cwV 1 hts gX4_isNone_X4_isNoLift rfl rfl rfl hd_X4_isNoLift ⟨Nat.le_of_ble_eq_true rfl, Nat.le_of_ble_eq_true rfl⟩) ⟨rI_blind, va_recv hK hP (ci := 4) (q0 := 0) rfl rfl, (rI_at hP hK hD)⟩ rfl rfl hl.1 rfl (lv_room (Nat.le_of_ble_eq_true rfl)) dX4_isNone_3 ⟨Nat.le_of_ble_eq_true rfl, Nat.le_of_ble_eq_true rfl⟩) ?_
  refine lv_if_eq (tgt := 13) hx hb dX4_isNone_6 (by decide) (fun c_3 => ?_) (fun c_3 => ?_)
  · replace h := oi_t c_3 h
    refine lv_iconst (v := 0) hx hb dX4_isNone_13 (by decide) ?_
    obtain ⟨u_4, hg_5, h⟩ := ob_some h
    refine zcWi (va_runV (As := [.int 0]) (rest := []) ⟨hx, hb, hml, hown, hts⟩ (c_X4_fails l D cy b V _ 0 hg_5) (cwV 1 hts gX4_isNone_X4_fails rfl rfl rfl hd_X4_fails ⟨Nat.le_of_ble_eq_true rfl, Nat.le_of_ble_eq_true rfl⟩) ⟨(zJ_blind rI_blind), va_recv hK hP (ci := 4) (q0 := 0) rfl rfl, (zJ_at (rI_at hP hK hD))⟩ rfl rfl hl.1 rfl (lv_room (Nat.le_of_ble_eq_true rfl)) dX4_isNone_14 ⟨Nat.le_of_ble_eq_true rfl, Nat.le_of_ble_eq_true rfl⟩) hS (z_free hD hS hA) (fun H locs hP hD hS => ?_)
    obtain ⟨g_6, h⟩ := og_some h
    have h9 := Option.some.inj h
    subst h9
    exact W.zret (v := u_4.1) hx hb hr (congrArg Value.int g_6) (fun t ht hW => ⟨⟨u_4.1, (), rfl, rfl, ⟨by rw [ht]; exact hP, hD⟩⟩, hS.F ht⟩) hS.2.2 dX4_isNone_17 hlocks
  · replace h := oi_f c_3 h
    refine lv_iconst (v := 1) hx hb dX4_isNone_9 (by decide) ?_
    refine lv_goto (tgt := 14) hx hb dX4_isNone_10 (by decide) ?_
    obtain ⟨u_7, hg_8, h⟩ := ob_some h
    refine zcWi (va_runV (As := [.int 1]) (rest := []) ⟨hx, hb, hml, hown, hts⟩ (c_X4_fails l D cy b V _ 1 hg_8) (cwV 1 hts gX4_isNone_X4_fails rfl rfl rfl hd_X4_fails ⟨Nat.le_of_ble_eq_true rfl, Nat.le_of_ble_eq_true rfl⟩) ⟨(zJ_blind rI_blind), va_recv hK hP (ci := 4) (q0 := 0) rfl rfl, (zJ_at (rI_at hP hK hD))⟩ rfl rfl hl.1 rfl (lv_room (Nat.le_of_ble_eq_true rfl)) dX4_isNone_14 ⟨Nat.le_of_ble_eq_true rfl, Nat.le_of_ble_eq_true rfl⟩) hS (z_free hD hS hA) (fun H locs hP hD hS => ?_)
    obtain ⟨g_9, h⟩ := og_some h
    have h9 := Option.some.inj h
    subst h9
    exact W.zret (v := u_7.1) hx hb hr (congrArg Value.int g_9) (fun t ht hW => ⟨⟨u_7.1, (), rfl, rfl, ⟨by rw [ht]; exact hP, hD⟩⟩, hS.F ht⟩) hS.2.2 dX4_isNone_17 hlocks
def f_X4_isNobody (V : RV) (p1 : Int32) : Option (Int32 × RV) := ob (f_X4_isNoCrane V p1) (fun u_1 => oi (u_1 = 0) (ob (f_X4_fails V 0) (fun u_4 => og (u_4.1 &&& 1 = u_4.1) (some (u_4.1, u_4.2)))) (ob (f_X4_fails V 1) (fun u_7 => og (u_7.1 &&& 1 = u_7.1) (some (u_7.1, u_7.2)))))
theorem hd_X4_isNobody : yX4_isNobody.cls = RX4 ∧ yX4_isNobody.cls ≠ "java/lang/invoke/MethodHandle" ∧ yX4_isNobody.cls ≠ "java/lang/invoke/VarHandle" ∧ (parseMethodDescriptor yX4_isNobody.desc).map (fun d => d.parameters.length) = some 1 := by decide +kernel
set_option maxHeartbeats 4000000 in
set_option maxRecDepth 100000 in
theorem c_X4_isNobody (l : Launch) (D : va_G) (cy : Nat → ClassId) (b : Nat → Nat) (V : RV) (sz : Nat) (p1 : Int32) {res : Int32 × RV} (h : f_X4_isNobody V p1 = some res) : Met l yX4_isNobody wsX4_isNobody ({ frames := 2, cells := 0, slots := 0, locals := 43 } : Room) (va_Pc [.ref (b 0), .int p1] (zJ sz (rI D cy b V))) (va_Qi (fun r (_ : Unit) => r = res.1) (fun _ t => va_P D xcl (rW cy b res.2) t.heap ∧ va_D (va_A (rW cy b V) sz) (rW cy b res.2)) (va_A (rW cy b V) sz)) 0 0 (va_A (rW cy b V) sz) := by
  refine Met.ofW (cc := cX4_isNobody) (maxL := 2) (ret := (some .boolean)) (by decide) rfl ?_
  intro p e s m args below meth c s₁ B hml hv
  obtain ⟨rfl, hsz, hP, hK, hD0⟩ := hv
  have hx := B.exec
  have hb := B.bytes
  have hr := B.returns
  have hts := atoms_spec (ws := wsX4_isNobody) B.pre
  have hown : s.vm.findClass RX4 = some m.cls := findClass_of_methodNamed B.named
  have hlocks := B.notSynchronized
  subst hsz
  have hD := hD0.self (sz := s.heap.size)
  generalize hAe : va_A (rW cy b V) s.heap.size = A at hD ⊢
  have hA : ∀ q : Nat, s.heap.size ≤ q → A q := fun q h => by rw [← hAe]; exact Or.inr h
  have hS : va_S A s.heap s.heap [] := va_S.rf
  have hl := lv_entry ([.ref (b 0), .int p1]) (n := 2) (Nat.le_of_ble_eq_true rfl)
  rw [lg_entry_eq]
  generalize (lg_sl ([.ref (b 0), .int p1]) ++ List.replicate (2 - (lg_sl ([.ref (b 0), .int p1])).length) Slot.unset).toArray = ls at hl ⊢
  have hl : lv_has ls 2 [(0, .ref (b 0)), (1, .int p1)] := hl
  revert hP hS
  intro hP hS
  refine lv_aload_n hx hb dX4_isNobody_0 rfl (lv_at hl 0 rfl) ?_
  refine lv_aload_n hx hb dX4_isNobody_1 rfl (lv_at hl 0 rfl) ?_
  refine lv_iload_n hx hb dX4_isNobody_2 rfl (lv_at hl 1 rfl) ?_
  obtain ⟨u_1, hg_2, h⟩ := ob_some h
  refine zcSi (W.runV (As := [.int p1]) (rest := [.ref (b 0)]) ⟨hx, hb, hml, hown, hts⟩ (c_X4_isNoCrane l D cy b V p1 hg_2) (cwV 1 hts gX4_isNobody_X4_isNoCrane rfl rfl rfl hd_X4_isNoCrane ⟨Nat.le_of_ble_eq_true rfl, Nat.le_of_ble_eq_true rfl⟩) ⟨rI_blind, va_recv hK hP (ci := 4) (q0 := 0) rfl rfl, (rI_at hP hK hD)⟩ rfl rfl hl.1 rfl (lv_room (Nat.le_of_ble_eq_true rfl)) dX4_isNobody_3 ⟨Nat.le_of_ble_eq_true rfl, Nat.le_of_ble_eq_true rfl⟩) ?_
  refine lv_if_eq (tgt := 13) hx hb dX4_isNobody_6 (by decide) (fun c_3 => ?_) (fun c_3 => ?_)
  · replace h := oi_t c_3 h
    refine lv_iconst (v := 0) hx hb dX4_isNobody_13 (by decide) ?_
    obtain ⟨u_4, hg_5, h⟩ := ob_some h
    refine zcWi (va_runV (As := [.int 0]) (rest := []) ⟨hx, hb, hml, hown, hts⟩ (c_X4_fails l D cy b V _ 0 hg_5) (cwV 1 hts gX4_isNobody_X4_fails rfl rfl rfl hd_X4_fails ⟨Nat.le_of_ble_eq_true rfl, Nat.le_of_ble_eq_true rfl⟩) ⟨(zJ_blind rI_blind), va_recv hK hP (ci := 4) (q0 := 0) rfl rfl, (zJ_at (rI_at hP hK hD))⟩ rfl rfl hl.1 rfl (lv_room (Nat.le_of_ble_eq_true rfl)) dX4_isNobody_14 ⟨Nat.le_of_ble_eq_true rfl, Nat.le_of_ble_eq_true rfl⟩) hS (z_free hD hS hA) (fun H locs hP hD hS => ?_)
    obtain ⟨g_6, h⟩ := og_some h
    have h9 := Option.some.inj h
    subst h9
    exact W.zret (v := u_4.1) hx hb hr (congrArg Value.int g_6) (fun t ht hW => ⟨⟨u_4.1, (), rfl, rfl, ⟨by rw [ht]; exact hP, hD⟩⟩, hS.F ht⟩) hS.2.2 dX4_isNobody_17 hlocks
  · replace h := oi_f c_3 h
    refine lv_iconst (v := 1) hx hb dX4_isNobody_9 (by decide) ?_
    refine lv_goto (tgt := 14) hx hb dX4_isNobody_10 (by decide) ?_
    obtain ⟨u_7, hg_8, h⟩ := ob_some h
    refine zcWi (va_runV (As := [.int 1]) (rest := []) ⟨hx, hb, hml, hown, hts⟩ (c_X4_fails l D cy b V _ 1 hg_8) (cwV 1 hts gX4_isNobody_X4_fails rfl rfl rfl hd_X4_fails ⟨Nat.le_of_ble_eq_true rfl, Nat.le_of_ble_eq_true rfl⟩) ⟨(zJ_blind rI_blind), va_recv hK hP (ci := 4) (q0 := 0) rfl rfl, (zJ_at (rI_at hP hK hD))⟩ rfl rfl hl.1 rfl (lv_room (Nat.le_of_ble_eq_true rfl)) dX4_isNobody_14 ⟨Nat.le_of_ble_eq_true rfl, Nat.le_of_ble_eq_true rfl⟩) hS (z_free hD hS hA) (fun H locs hP hD hS => ?_)
    obtain ⟨g_9, h⟩ := og_some h
    have h9 := Option.some.inj h
    subst h9
    exact W.zret (v := u_7.1) hx hb hr (congrArg Value.int g_9) (fun t ht hW => ⟨⟨u_7.1, (), rfl, rfl, ⟨by rw [ht]; exact hP, hD⟩⟩, hS.F ht⟩) hS.2.2 dX4_isNobody_17 hlocks
def f_X4_addCrane (V : RV) (p1 : Int32) (p2 : Int32) (p3 : Int32) (p4 : Int32) (p5 : Int32) : Option (Int32 × RV) := ob (f_X4_isPlace p1 p2) (fun u_1 => oi (u_1 = 0) (ob (f_X4_fails V 1) (fun u_4 => oi (u_4.1 = 0) (og (¬ ((u_4.2.1 0) < 0 ∨ 5 ≤ (u_4.2.1 0).toNatClampNeg)) (ob (some (rar u_4.2 1 (u_4.2.1 0).toNatClampNeg p1)) (fun V_8 => og (¬ ((V_8.1 0) < 0 ∨ 5 ≤ (V_8.1 0).toNatClampNeg)) (ob (some (rar V_8 2 (V_8.1 0).toNatClampNeg p2)) (fun V_11 => og (¬ ((V_11.1 0) < 0 ∨ 5 ≤ (V_11.1 0).toNatClampNeg)) (ob (some (rar V_11 3 (V_11.1 0).toNatClampNeg p3)) (fun V_14 => og (¬ ((V_14.1 0) < 0 ∨ 5 ≤ (V_14.1 0).toNatClampNeg)) (ob (some (rar V_14 4 (V_14.1 0).toNatClampNeg p4)) (fun V_17 => og (¬ ((V_17.1 0) < 0 ∨ 5 ≤ (V_17.1 0).toNatClampNeg)) (ob (some (rar V_17 5 (V_17.1 0).toNatClampNeg p5)) (fun V_20 => ob (some (rsc V_20 0 ((V_20.1 0) + 1))) (fun V_22 => some ((V_22.1 0) - 1, V_22))))))))))))) (some (0, u_4.2)))) (ob (f_X4_in p3 1 40) (fun u_24 => oi (u_24 = 0) (ob (f_X4_fails V 1) (fun u_27 => oi (u_27.1 = 0) (og (¬ ((u_27.2.1 0) < 0 ∨ 5 ≤ (u_27.2.1 0).toNatClampNeg)) (ob (some (rar u_27.2 1 (u_27.2.1 0).toNatClampNeg p1)) (fun V_31 => og (¬ ((V_31.1 0) < 0 ∨ 5 ≤ (V_31.1 0).toNatClampNeg)) (ob (some (rar V_31 2 (V_31.1 0).toNatClampNeg p2)) (fun V_34 => og (¬ ((V_34.1 0) < 0 ∨ 5 ≤ (V_34.1 0).toNatClampNeg)) (ob (some (rar V_34 3 (V_34.1 0).toNatClampNeg p3)) (fun V_37 => og (¬ ((V_37.1 0) < 0 ∨ 5 ≤ (V_37.1 0).toNatClampNeg)) (ob (some (rar V_37 4 (V_37.1 0).toNatClampNeg p4)) (fun V_40 => og (¬ ((V_40.1 0) < 0 ∨ 5 ≤ (V_40.1 0).toNatClampNeg)) (ob (some (rar V_40 5 (V_40.1 0).toNatClampNeg p5)) (fun V_43 => ob (some (rsc V_43 0 ((V_43.1 0) + 1))) (fun V_45 => some ((V_45.1 0) - 1, V_45))))))))))))) (some (0, u_27.2)))) (ob (f_X4_in p4 1 999) (fun u_47 => oi (u_47 = 0) (ob (f_X4_fails V 1) (fun u_50 => oi (u_50.1 = 0) (og (¬ ((u_50.2.1 0) < 0 ∨ 5 ≤ (u_50.2.1 0).toNatClampNeg)) (ob (some (rar u_50.2 1 (u_50.2.1 0).toNatClampNeg p1)) (fun V_54 => og (¬ ((V_54.1 0) < 0 ∨ 5 ≤ (V_54.1 0).toNatClampNeg)) (ob (some (rar V_54 2 (V_54.1 0).toNatClampNeg p2)) (fun V_57 => og (¬ ((V_57.1 0) < 0 ∨ 5 ≤ (V_57.1 0).toNatClampNeg)) (ob (some (rar V_57 3 (V_57.1 0).toNatClampNeg p3)) (fun V_60 => og (¬ ((V_60.1 0) < 0 ∨ 5 ≤ (V_60.1 0).toNatClampNeg)) (ob (some (rar V_60 4 (V_60.1 0).toNatClampNeg p4)) (fun V_63 => og (¬ ((V_63.1 0) < 0 ∨ 5 ≤ (V_63.1 0).toNatClampNeg)) (ob (some (rar V_63 5 (V_63.1 0).toNatClampNeg p5)) (fun V_66 => ob (some (rsc V_66 0 ((V_66.1 0) + 1))) (fun V_68 => some ((V_68.1 0) - 1, V_68))))))))))))) (some (0, u_50.2)))) (ob (f_X4_in p5 1 9999) (fun u_70 => oi (u_70 = 0) (ob (f_X4_fails V 1) (fun u_73 => oi (u_73.1 = 0) (og (¬ ((u_73.2.1 0) < 0 ∨ 5 ≤ (u_73.2.1 0).toNatClampNeg)) (ob (some (rar u_73.2 1 (u_73.2.1 0).toNatClampNeg p1)) (fun V_77 => og (¬ ((V_77.1 0) < 0 ∨ 5 ≤ (V_77.1 0).toNatClampNeg)) (ob (some (rar V_77 2 (V_77.1 0).toNatClampNeg p2)) (fun V_80 => og (¬ ((V_80.1 0) < 0 ∨ 5 ≤ (V_80.1 0).toNatClampNeg)) (ob (some (rar V_80 3 (V_80.1 0).toNatClampNeg p3)) (fun V_83 => og (¬ ((V_83.1 0) < 0 ∨ 5 ≤ (V_83.1 0).toNatClampNeg)) (ob (some (rar V_83 4 (V_83.1 0).toNatClampNeg p4)) (fun V_86 => og (¬ ((V_86.1 0) < 0 ∨ 5 ≤ (V_86.1 0).toNatClampNeg)) (ob (some (rar V_86 5 (V_86.1 0).toNatClampNeg p5)) (fun V_89 => ob (some (rsc V_89 0 ((V_89.1 0) + 1))) (fun V_91 => some ((V_91.1 0) - 1, V_91))))))))))))) (some (0, u_73.2)))) (oi ((V.1 0) = 5) (ob (f_X4_fails V 2) (fun u_114 => oi (u_114.1 = 0) (og (¬ ((u_114.2.1 0) < 0 ∨ 5 ≤ (u_114.2.1 0).toNatClampNeg)) (ob (some (rar u_114.2 1 (u_114.2.1 0).toNatClampNeg p1)) (fun V_118 => og (¬ ((V_118.1 0) < 0 ∨ 5 ≤ (V_118.1 0).toNatClampNeg)) (ob (some (rar V_118 2 (V_118.1 0).toNatClampNeg p2)) (fun V_121 => og (¬ ((V_121.1 0) < 0 ∨ 5 ≤ (V_121.1 0).toNatClampNeg)) (ob (some (rar V_121 3 (V_121.1 0).toNatClampNeg p3)) (fun V_124 => og (¬ ((V_124.1 0) < 0 ∨ 5 ≤ (V_124.1 0).toNatClampNeg)) (ob (some (rar V_124 4 (V_124.1 0).toNatClampNeg p4)) (fun V_127 => og (¬ ((V_127.1 0) < 0 ∨ 5 ≤ (V_127.1 0).toNatClampNeg)) (ob (some (rar V_127 5 (V_127.1 0).toNatClampNeg p5)) (fun V_130 => ob (some (rsc V_130 0 ((V_130.1 0) + 1))) (fun V_132 => some ((V_132.1 0) - 1, V_132))))))))))))) (some (0, u_114.2)))) (ob (f_X4_fails V 0) (fun u_94 => oi (u_94.1 = 0) (og (¬ ((u_94.2.1 0) < 0 ∨ 5 ≤ (u_94.2.1 0).toNatClampNeg)) (ob (some (rar u_94.2 1 (u_94.2.1 0).toNatClampNeg p1)) (fun V_98 => og (¬ ((V_98.1 0) < 0 ∨ 5 ≤ (V_98.1 0).toNatClampNeg)) (ob (some (rar V_98 2 (V_98.1 0).toNatClampNeg p2)) (fun V_101 => og (¬ ((V_101.1 0) < 0 ∨ 5 ≤ (V_101.1 0).toNatClampNeg)) (ob (some (rar V_101 3 (V_101.1 0).toNatClampNeg p3)) (fun V_104 => og (¬ ((V_104.1 0) < 0 ∨ 5 ≤ (V_104.1 0).toNatClampNeg)) (ob (some (rar V_104 4 (V_104.1 0).toNatClampNeg p4)) (fun V_107 => og (¬ ((V_107.1 0) < 0 ∨ 5 ≤ (V_107.1 0).toNatClampNeg)) (ob (some (rar V_107 5 (V_107.1 0).toNatClampNeg p5)) (fun V_110 => ob (some (rsc V_110 0 ((V_110.1 0) + 1))) (fun V_112 => some ((V_112.1 0) - 1, V_112))))))))))))) (some (0, u_94.2))))))))))))
theorem hd_X4_addCrane : yX4_addCrane.cls = RX4 ∧ yX4_addCrane.cls ≠ "java/lang/invoke/MethodHandle" ∧ yX4_addCrane.cls ≠ "java/lang/invoke/VarHandle" ∧ (parseMethodDescriptor yX4_addCrane.desc).map (fun d => d.parameters.length) = some 5 := by decide +kernel
set_option maxHeartbeats 4000000 in
set_option maxRecDepth 100000 in
theorem c_X4_addCrane (l : Launch) (D : va_G) (cy : Nat → ClassId) (b : Nat → Nat) (V : RV) (sz : Nat) (p1 : Int32) (p2 : Int32) (p3 : Int32) (p4 : Int32) (p5 : Int32) {res : Int32 × RV} (h : f_X4_addCrane V p1 p2 p3 p4 p5 = some res) : Met l yX4_addCrane wsX4_addCrane ({ frames := 2, cells := 0, slots := 0, locals := 43 } : Room) (va_Pc [.ref (b 0), .int p1, .int p2, .int p3, .int p4, .int p5] (zJ sz (rI D cy b V))) (va_Qi (fun r (_ : Unit) => r = res.1) (fun _ t => va_P D xcl (rW cy b res.2) t.heap ∧ va_D (va_A (rW cy b V) sz) (rW cy b res.2)) (va_A (rW cy b V) sz)) 0 0 (va_A (rW cy b V) sz) := by
  refine Met.ofW (cc := cX4_addCrane) (maxL := 7) (ret := (some .int)) (by decide) rfl ?_
  intro p e s m args below meth c s₁ B hml hv
  obtain ⟨rfl, hsz, hP, hK, hD0⟩ := hv
  have hx := B.exec
  have hb := B.bytes
  have hr := B.returns
  have hts := atoms_spec (ws := wsX4_addCrane) B.pre
  have hown : s.vm.findClass RX4 = some m.cls := findClass_of_methodNamed B.named
  have hlocks := B.notSynchronized
  subst hsz
  have hD := hD0.self (sz := s.heap.size)
  generalize hAe : va_A (rW cy b V) s.heap.size = A at hD ⊢
  have hA : ∀ q : Nat, s.heap.size ≤ q → A q := fun q h => by rw [← hAe]; exact Or.inr h
  have hS : va_S A s.heap s.heap [] := va_S.rf
  have hl := lv_entry ([.ref (b 0), .int p1, .int p2, .int p3, .int p4, .int p5]) (n := 7) (Nat.le_of_ble_eq_true rfl)
  rw [lg_entry_eq]
  generalize (lg_sl ([.ref (b 0), .int p1, .int p2, .int p3, .int p4, .int p5]) ++ List.replicate (7 - (lg_sl ([.ref (b 0), .int p1, .int p2, .int p3, .int p4, .int p5])).length) Slot.unset).toArray = ls at hl ⊢
  have hl : lv_has ls 7 [(0, .ref (b 0)), (1, .int p1), (2, .int p2), (3, .int p3), (4, .int p4), (5, .int p5)] := hl
  have hinX4 : ∀ w ∈ wsX40, w ∈ wsX4_addCrane := (fun _ h => (List.mem_cons_of_mem _ (List.mem_append_right _ h)))
  revert hP hS
  intro hP hS
  refine lv_iload_n hx hb dX4_addCrane_0 rfl (lv_at hl 1 rfl) ?_
  refine lv_iload_n hx hb dX4_addCrane_1 rfl (lv_at hl 2 rfl) ?_
  obtain ⟨u_1, hg_2, h⟩ := ob_some h
  refine zcSi (W.runS (As := [.int p1, .int p2]) (rest := []) ⟨hx, hb, hml, hown, hts⟩ (c_X4_isPlace l p1 p2 hg_2) (va_cwS 2 hts gX4_addCrane_X4_isPlace rfl rfl rfl hd_X4_isPlace ⟨Nat.le_of_ble_eq_true rfl, Nat.le_of_ble_eq_true rfl⟩) ⟨zT_blind, zT_at⟩ rfl rfl hl.1 rfl (lv_room (Nat.le_of_ble_eq_true rfl)) dX4_addCrane_2 ⟨Nat.le_of_ble_eq_true rfl, Nat.le_of_ble_eq_true rfl⟩) ?_
  refine lv_if_eq (tgt := 46) hx hb dX4_addCrane_5 (by decide) (fun c_3 => ?_) (fun c_3 => ?_)
  · replace h := oi_t c_3 h
    refine lv_iconst (v := 0) hx hb dX4_addCrane_46 (by decide) ?_
    refine lv_istore (lv' := [(6, .int 0), (0, .ref (b 0)), (1, .int p1), (2, .int p2), (3, .int p3), (4, .int p4), (5, .int p5)]) hx hb dX4_addCrane_47 hl (by decide) rfl (fun ls hl => ?_)
    refine lv_aload_n hx hb dX4_addCrane_49 rfl (lv_at hl 1 rfl) ?_
    refine lv_iload hx hb dX4_addCrane_50 (lv_at hl 0 rfl) ?_
    refine lv_if_ne (tgt := 59) hx hb dX4_addCrane_52 (by decide) (fun c0 => absurd c0 (by decide)) (fun _ => ?_)
    refine lv_iconst (v := 1) hx hb dX4_addCrane_55 (by decide) ?_
    refine lv_goto (tgt := 72) hx hb dX4_addCrane_56 (by decide) ?_
    obtain ⟨u_4, hg_5, h⟩ := ob_some h
    refine zcWi (va_runV (As := [.int 1]) (rest := []) ⟨hx, hb, hml, hown, hts⟩ (c_X4_fails l D cy b V _ 1 hg_5) (cwV 1 hts gX4_addCrane_X4_fails rfl rfl rfl hd_X4_fails ⟨Nat.le_of_ble_eq_true rfl, Nat.le_of_ble_eq_true rfl⟩) ⟨(zJ_blind rI_blind), va_recv hK hP (ci := 4) (q0 := 0) rfl rfl, (zJ_at (rI_at hP hK hD))⟩ rfl rfl hl.1 rfl (lv_room (Nat.le_of_ble_eq_true rfl)) dX4_addCrane_72 ⟨Nat.le_of_ble_eq_true rfl, Nat.le_of_ble_eq_true rfl⟩) hS (z_free hD hS hA) (fun H locs hP hD hS => ?_)
    refine lv_if_eq (tgt := 80) hx hb dX4_addCrane_75 (by decide) (fun c_6 => ?_) (fun c_6 => ?_)
    · replace h := oi_t c_6 h
      refine lv_aload_n hx hb dX4_addCrane_80 rfl (lv_at hl 1 rfl) ?_
      refine va_get (D := D) (ci := 4) (v := .ref (b 1)) (C := RX4) (T := TX4) (N := 28) hx hb hts hinX4 hown hK hP 0 rfl rfl 1 (by decide) (hts _ (List.mem_of_getElem? (i := 2) rfl)) (fun _ h9 => h9) rfl dX4_addCrane_81 ?_
      refine lv_aload_n hx hb dX4_addCrane_84 rfl (lv_at hl 1 rfl) ?_
      refine va_get (D := D) (ci := 4) (v := .int (u_4.2.1 0)) (C := RX4) (T := TX4) (N := 28) hx hb hts hinX4 hown hK hP 0 rfl rfl 0 (by decide) (hts _ (List.mem_of_getElem? (i := 1) rfl)) (fun _ h9 => h9) rfl dX4_addCrane_85 ?_
      refine lv_iload_n hx hb dX4_addCrane_88 rfl (lv_at hl 2 rfl) ?_
      obtain ⟨g_7, h⟩ := og_some h
      refine va_iast hx hb hK hP hD hS 1 0 rfl rfl g_7 dX4_addCrane_89 (fun H locs hP hD hS => ?_)
      replace hP : va_P D xcl (rW cy b (rar u_4.2 1 (u_4.2.1 0).toNatClampNeg p1)) H := hP
      replace hD : va_D A (rW cy b (rar u_4.2 1 (u_4.2.1 0).toNatClampNeg p1)) := hD
      obtain ⟨V_8, eV_9, h⟩ := ob_some h
      rw [Option.some.inj eV_9] at hP hD
      refine lv_aload_n hx hb dX4_addCrane_90 rfl (lv_at hl 1 rfl) ?_
      refine va_get (D := D) (ci := 4) (v := .ref (b 2)) (C := RX4) (T := TX4) (N := 28) hx hb hts hinX4 hown hK hP 0 rfl rfl 2 (by decide) (hts _ (List.mem_of_getElem? (i := 3) rfl)) (fun _ h9 => h9) rfl dX4_addCrane_91 ?_
      refine lv_aload_n hx hb dX4_addCrane_94 rfl (lv_at hl 1 rfl) ?_
      refine va_get (D := D) (ci := 4) (v := .int (V_8.1 0)) (C := RX4) (T := TX4) (N := 28) hx hb hts hinX4 hown hK hP 0 rfl rfl 0 (by decide) (hts _ (List.mem_of_getElem? (i := 1) rfl)) (fun _ h9 => h9) rfl dX4_addCrane_95 ?_
      refine lv_iload_n hx hb dX4_addCrane_98 rfl (lv_at hl 3 rfl) ?_
      obtain ⟨g_10, h⟩ := og_some h
      refine va_iast hx hb hK hP hD hS 2 0 rfl rfl g_10 dX4_addCrane_99 (fun H locs hP hD hS => ?_)
      replace hP : va_P D xcl (rW cy b (rar V_8 2 (V_8.1 0).toNatClampNeg p2)) H := hP
      replace hD : va_D A (rW cy b (rar V_8 2 (V_8.1 0).toNatClampNeg p2)) := hD
      obtain ⟨V_11, eV_12, h⟩ := ob_some h
      rw [Option.some.inj eV_12] at hP hD
      refine lv_aload_n hx hb dX4_addCrane_100 rfl (lv_at hl 1 rfl) ?_
      refine va_get (D := D) (ci := 4) (v := .ref (b 3)) (C := RX4) (T := TX4) (N := 28) hx hb hts hinX4 hown hK hP 0 rfl rfl 3 (by decide) (hts _ (List.mem_of_getElem? (i := 4) rfl)) (fun _ h9 => h9) rfl dX4_addCrane_101 ?_
      refine lv_aload_n hx hb dX4_addCrane_104 rfl (lv_at hl 1 rfl) ?_
      refine va_get (D := D) (ci := 4) (v := .int (V_11.1 0)) (C := RX4) (T := TX4) (N := 28) hx hb hts hinX4 hown hK hP 0 rfl rfl 0 (by decide) (hts _ (List.mem_of_getElem? (i := 1) rfl)) (fun _ h9 => h9) rfl dX4_addCrane_105 ?_
      refine lv_iload_n hx hb dX4_addCrane_108 rfl (lv_at hl 4 rfl) ?_
      obtain ⟨g_13, h⟩ := og_some h
      refine va_iast hx hb hK hP hD hS 3 0 rfl rfl g_13 dX4_addCrane_109 (fun H locs hP hD hS => ?_)
      replace hP : va_P D xcl (rW cy b (rar V_11 3 (V_11.1 0).toNatClampNeg p3)) H := hP
      replace hD : va_D A (rW cy b (rar V_11 3 (V_11.1 0).toNatClampNeg p3)) := hD
      obtain ⟨V_14, eV_15, h⟩ := ob_some h
      rw [Option.some.inj eV_15] at hP hD
      refine lv_aload_n hx hb dX4_addCrane_110 rfl (lv_at hl 1 rfl) ?_
      refine va_get (D := D) (ci := 4) (v := .ref (b 4)) (C := RX4) (T := TX4) (N := 28) hx hb hts hinX4 hown hK hP 0 rfl rfl 4 (by decide) (hts _ (List.mem_of_getElem? (i := 5) rfl)) (fun _ h9 => h9) rfl dX4_addCrane_111 ?_
      refine lv_aload_n hx hb dX4_addCrane_114 rfl (lv_at hl 1 rfl) ?_
      refine va_get (D := D) (ci := 4) (v := .int (V_14.1 0)) (C := RX4) (T := TX4) (N := 28) hx hb hts hinX4 hown hK hP 0 rfl rfl 0 (by decide) (hts _ (List.mem_of_getElem? (i := 1) rfl)) (fun _ h9 => h9) rfl dX4_addCrane_115 ?_
      refine lv_iload hx hb dX4_addCrane_118 (lv_at hl 5 rfl) ?_
      obtain ⟨g_16, h⟩ := og_some h
      refine va_iast hx hb hK hP hD hS 4 0 rfl rfl g_16 dX4_addCrane_120 (fun H locs hP hD hS => ?_)
      replace hP : va_P D xcl (rW cy b (rar V_14 4 (V_14.1 0).toNatClampNeg p4)) H := hP
      replace hD : va_D A (rW cy b (rar V_14 4 (V_14.1 0).toNatClampNeg p4)) := hD
      obtain ⟨V_17, eV_18, h⟩ := ob_some h
      rw [Option.some.inj eV_18] at hP hD
      refine lv_aload_n hx hb dX4_addCrane_121 rfl (lv_at hl 1 rfl) ?_
      refine va_get (D := D) (ci := 4) (v := .ref (b 5)) (C := RX4) (T := TX4) (N := 28) hx hb hts hinX4 hown hK hP 0 rfl rfl 5 (by decide) (hts _ (List.mem_of_getElem? (i := 6) rfl)) (fun _ h9 => h9) rfl dX4_addCrane_122 ?_
      refine lv_aload_n hx hb dX4_addCrane_125 rfl (lv_at hl 1 rfl) ?_
      refine va_get (D := D) (ci := 4) (v := .int (V_17.1 0)) (C := RX4) (T := TX4) (N := 28) hx hb hts hinX4 hown hK hP 0 rfl rfl 0 (by decide) (hts _ (List.mem_of_getElem? (i := 1) rfl)) (fun _ h9 => h9) rfl dX4_addCrane_126 ?_
      refine lv_iload hx hb dX4_addCrane_129 (lv_at hl 6 rfl) ?_
      obtain ⟨g_19, h⟩ := og_some h
      refine va_iast hx hb hK hP hD hS 5 0 rfl rfl g_19 dX4_addCrane_131 (fun H locs hP hD hS => ?_)
      replace hP : va_P D xcl (rW cy b (rar V_17 5 (V_17.1 0).toNatClampNeg p5)) H := hP
      replace hD : va_D A (rW cy b (rar V_17 5 (V_17.1 0).toNatClampNeg p5)) := hD
      obtain ⟨V_20, eV_21, h⟩ := ob_some h
      rw [Option.some.inj eV_21] at hP hD
      refine lv_aload_n hx hb dX4_addCrane_132 rfl (lv_at hl 1 rfl) ?_
      refine lv_dup hx hb dX4_addCrane_133 rfl ?_
      refine va_get (D := D) (ci := 4) (v := .int (V_20.1 0)) (C := RX4) (T := TX4) (N := 28) hx hb hts hinX4 hown hK hP 0 rfl rfl 0 (by decide) (hts _ (List.mem_of_getElem? (i := 1) rfl)) (fun _ h9 => h9) rfl dX4_addCrane_134 ?_
      refine lv_iconst (v := 1) hx hb dX4_addCrane_137 (by decide) ?_
      refine lv_iadd hx hb dX4_addCrane_138 ?_
      refine va_put (D := D) (ci := 4) (v := .int ((V_20.1 0) + 1)) (ty := .int) (C := RX4) (T := TX4) (N := 28) hx hb hts hinX4 tyX4 tyX4_ok nmX4 hown hK hP hD hS 0 rfl rfl 0 (by decide) (hts _ (List.mem_of_getElem? (i := 1) rfl)) (fun _ h9 => h9) rfl (by decide +kernel) rfl rfl (Nat.le_of_ble_eq_true rfl) dX4_addCrane_139 (fun H locs hP hD hS => ?_)
      replace hP : va_P D xcl (rW cy b (rsc V_20 0 ((V_20.1 0) + 1))) H := hP
      replace hD : va_D A (rW cy b (rsc V_20 0 ((V_20.1 0) + 1))) := hD
      obtain ⟨V_22, eV_23, h⟩ := ob_some h
      rw [Option.some.inj eV_23] at hP hD
      refine lv_aload_n hx hb dX4_addCrane_142 rfl (lv_at hl 1 rfl) ?_
      refine va_get (D := D) (ci := 4) (v := .int (V_22.1 0)) (C := RX4) (T := TX4) (N := 28) hx hb hts hinX4 hown hK hP 0 rfl rfl 0 (by decide) (hts _ (List.mem_of_getElem? (i := 1) rfl)) (fun _ h9 => h9) rfl dX4_addCrane_143 ?_
      refine lv_iconst (v := 1) hx hb dX4_addCrane_146 (by decide) ?_
      refine lv_isub hx hb dX4_addCrane_147 ?_
      have h9 := Option.some.inj h
      subst h9
      exact W.iret (v := (V_22.1 0) - 1) hx hb hr (fun t ht hW => ⟨⟨(V_22.1 0) - 1, (), rfl, rfl, ⟨by rw [ht]; exact hP, hD⟩⟩, hS.F ht⟩) hS.2.2 dX4_addCrane_148 hlocks
    · replace h := oi_f c_6 h
      refine lv_iconst (v := 0) hx hb dX4_addCrane_78 (by decide) ?_
      have h9 := Option.some.inj h
      subst h9
      exact W.iret (v := 0) hx hb hr (fun t ht hW => ⟨⟨0, (), rfl, rfl, ⟨by rw [ht]; exact hP, hD⟩⟩, hS.F ht⟩) hS.2.2 dX4_addCrane_79 hlocks
  · replace h := oi_f c_3 h
    refine lv_iload_n hx hb dX4_addCrane_8 rfl (lv_at hl 3 rfl) ?_
    refine lv_iconst (v := 1) hx hb dX4_addCrane_9 (by decide) ?_
    refine lv_bipush (v := 40) hx hb dX4_addCrane_10 (by decide) ?_
    obtain ⟨u_24, hg_25, h⟩ := ob_some h
    refine zcSi (W.runS (As := [.int p3, .int 1, .int 40]) (rest := []) ⟨hx, hb, hml, hown, hts⟩ (c_X4_in l p3 1 40 hg_25) (va_cwS 3 hts gX4_addCrane_X4_in rfl rfl rfl hd_X4_in ⟨Nat.le_of_ble_eq_true rfl, Nat.le_of_ble_eq_true rfl⟩) ⟨zT_blind, zT_at⟩ rfl rfl hl.1 rfl (lv_room (Nat.le_of_ble_eq_true rfl)) dX4_addCrane_12 ⟨Nat.le_of_ble_eq_true rfl, Nat.le_of_ble_eq_true rfl⟩) ?_
    refine lv_if_eq (tgt := 46) hx hb dX4_addCrane_15 (by decide) (fun c_26 => ?_) (fun c_26 => ?_)
    · replace h := oi_t c_26 h
      refine lv_iconst (v := 0) hx hb dX4_addCrane_46 (by decide) ?_
      refine lv_istore (lv' := [(6, .int 0), (0, .ref (b 0)), (1, .int p1), (2, .int p2), (3, .int p3), (4, .int p4), (5, .int p5)]) hx hb dX4_addCrane_47 hl (by decide) rfl (fun ls hl => ?_)
      refine lv_aload_n hx hb dX4_addCrane_49 rfl (lv_at hl 1 rfl) ?_
      refine lv_iload hx hb dX4_addCrane_50 (lv_at hl 0 rfl) ?_
      refine lv_if_ne (tgt := 59) hx hb dX4_addCrane_52 (by decide) (fun c0 => absurd c0 (by decide)) (fun _ => ?_)
      refine lv_iconst (v := 1) hx hb dX4_addCrane_55 (by decide) ?_
      refine lv_goto (tgt := 72) hx hb dX4_addCrane_56 (by decide) ?_
      obtain ⟨u_27, hg_28, h⟩ := ob_some h
      refine zcWi (va_runV (As := [.int 1]) (rest := []) ⟨hx, hb, hml, hown, hts⟩ (c_X4_fails l D cy b V _ 1 hg_28) (cwV 1 hts gX4_addCrane_X4_fails rfl rfl rfl hd_X4_fails ⟨Nat.le_of_ble_eq_true rfl, Nat.le_of_ble_eq_true rfl⟩) ⟨(zJ_blind rI_blind), va_recv hK hP (ci := 4) (q0 := 0) rfl rfl, (zJ_at (rI_at hP hK hD))⟩ rfl rfl hl.1 rfl (lv_room (Nat.le_of_ble_eq_true rfl)) dX4_addCrane_72 ⟨Nat.le_of_ble_eq_true rfl, Nat.le_of_ble_eq_true rfl⟩) hS (z_free hD hS hA) (fun H locs hP hD hS => ?_)
      refine lv_if_eq (tgt := 80) hx hb dX4_addCrane_75 (by decide) (fun c_29 => ?_) (fun c_29 => ?_)
      · replace h := oi_t c_29 h
        refine lv_aload_n hx hb dX4_addCrane_80 rfl (lv_at hl 1 rfl) ?_
        refine va_get (D := D) (ci := 4) (v := .ref (b 1)) (C := RX4) (T := TX4) (N := 28) hx hb hts hinX4 hown hK hP 0 rfl rfl 1 (by decide) (hts _ (List.mem_of_getElem? (i := 2) rfl)) (fun _ h9 => h9) rfl dX4_addCrane_81 ?_
        refine lv_aload_n hx hb dX4_addCrane_84 rfl (lv_at hl 1 rfl) ?_
        refine va_get (D := D) (ci := 4) (v := .int (u_27.2.1 0)) (C := RX4) (T := TX4) (N := 28) hx hb hts hinX4 hown hK hP 0 rfl rfl 0 (by decide) (hts _ (List.mem_of_getElem? (i := 1) rfl)) (fun _ h9 => h9) rfl dX4_addCrane_85 ?_
        refine lv_iload_n hx hb dX4_addCrane_88 rfl (lv_at hl 2 rfl) ?_
        obtain ⟨g_30, h⟩ := og_some h
        refine va_iast hx hb hK hP hD hS 1 0 rfl rfl g_30 dX4_addCrane_89 (fun H locs hP hD hS => ?_)
        replace hP : va_P D xcl (rW cy b (rar u_27.2 1 (u_27.2.1 0).toNatClampNeg p1)) H := hP
        replace hD : va_D A (rW cy b (rar u_27.2 1 (u_27.2.1 0).toNatClampNeg p1)) := hD
        obtain ⟨V_31, eV_32, h⟩ := ob_some h
        rw [Option.some.inj eV_32] at hP hD
        refine lv_aload_n hx hb dX4_addCrane_90 rfl (lv_at hl 1 rfl) ?_
        refine va_get (D := D) (ci := 4) (v := .ref (b 2)) (C := RX4) (T := TX4) (N := 28) hx hb hts hinX4 hown hK hP 0 rfl rfl 2 (by decide) (hts _ (List.mem_of_getElem? (i := 3) rfl)) (fun _ h9 => h9) rfl dX4_addCrane_91 ?_
        refine lv_aload_n hx hb dX4_addCrane_94 rfl (lv_at hl 1 rfl) ?_
        refine va_get (D := D) (ci := 4) (v := .int (V_31.1 0)) (C := RX4) (T := TX4) (N := 28) hx hb hts hinX4 hown hK hP 0 rfl rfl 0 (by decide) (hts _ (List.mem_of_getElem? (i := 1) rfl)) (fun _ h9 => h9) rfl dX4_addCrane_95 ?_
        refine lv_iload_n hx hb dX4_addCrane_98 rfl (lv_at hl 3 rfl) ?_
        obtain ⟨g_33, h⟩ := og_some h
        refine va_iast hx hb hK hP hD hS 2 0 rfl rfl g_33 dX4_addCrane_99 (fun H locs hP hD hS => ?_)
        replace hP : va_P D xcl (rW cy b (rar V_31 2 (V_31.1 0).toNatClampNeg p2)) H := hP
        replace hD : va_D A (rW cy b (rar V_31 2 (V_31.1 0).toNatClampNeg p2)) := hD
        obtain ⟨V_34, eV_35, h⟩ := ob_some h
        rw [Option.some.inj eV_35] at hP hD
        refine lv_aload_n hx hb dX4_addCrane_100 rfl (lv_at hl 1 rfl) ?_
        refine va_get (D := D) (ci := 4) (v := .ref (b 3)) (C := RX4) (T := TX4) (N := 28) hx hb hts hinX4 hown hK hP 0 rfl rfl 3 (by decide) (hts _ (List.mem_of_getElem? (i := 4) rfl)) (fun _ h9 => h9) rfl dX4_addCrane_101 ?_
        refine lv_aload_n hx hb dX4_addCrane_104 rfl (lv_at hl 1 rfl) ?_
        refine va_get (D := D) (ci := 4) (v := .int (V_34.1 0)) (C := RX4) (T := TX4) (N := 28) hx hb hts hinX4 hown hK hP 0 rfl rfl 0 (by decide) (hts _ (List.mem_of_getElem? (i := 1) rfl)) (fun _ h9 => h9) rfl dX4_addCrane_105 ?_
        refine lv_iload_n hx hb dX4_addCrane_108 rfl (lv_at hl 4 rfl) ?_
        obtain ⟨g_36, h⟩ := og_some h
        refine va_iast hx hb hK hP hD hS 3 0 rfl rfl g_36 dX4_addCrane_109 (fun H locs hP hD hS => ?_)
        replace hP : va_P D xcl (rW cy b (rar V_34 3 (V_34.1 0).toNatClampNeg p3)) H := hP
        replace hD : va_D A (rW cy b (rar V_34 3 (V_34.1 0).toNatClampNeg p3)) := hD
        obtain ⟨V_37, eV_38, h⟩ := ob_some h
        rw [Option.some.inj eV_38] at hP hD
        refine lv_aload_n hx hb dX4_addCrane_110 rfl (lv_at hl 1 rfl) ?_
        refine va_get (D := D) (ci := 4) (v := .ref (b 4)) (C := RX4) (T := TX4) (N := 28) hx hb hts hinX4 hown hK hP 0 rfl rfl 4 (by decide) (hts _ (List.mem_of_getElem? (i := 5) rfl)) (fun _ h9 => h9) rfl dX4_addCrane_111 ?_
        refine lv_aload_n hx hb dX4_addCrane_114 rfl (lv_at hl 1 rfl) ?_
        refine va_get (D := D) (ci := 4) (v := .int (V_37.1 0)) (C := RX4) (T := TX4) (N := 28) hx hb hts hinX4 hown hK hP 0 rfl rfl 0 (by decide) (hts _ (List.mem_of_getElem? (i := 1) rfl)) (fun _ h9 => h9) rfl dX4_addCrane_115 ?_
        refine lv_iload hx hb dX4_addCrane_118 (lv_at hl 5 rfl) ?_
        obtain ⟨g_39, h⟩ := og_some h
        refine va_iast hx hb hK hP hD hS 4 0 rfl rfl g_39 dX4_addCrane_120 (fun H locs hP hD hS => ?_)
        replace hP : va_P D xcl (rW cy b (rar V_37 4 (V_37.1 0).toNatClampNeg p4)) H := hP
        replace hD : va_D A (rW cy b (rar V_37 4 (V_37.1 0).toNatClampNeg p4)) := hD
        obtain ⟨V_40, eV_41, h⟩ := ob_some h
        rw [Option.some.inj eV_41] at hP hD
        refine lv_aload_n hx hb dX4_addCrane_121 rfl (lv_at hl 1 rfl) ?_
        refine va_get (D := D) (ci := 4) (v := .ref (b 5)) (C := RX4) (T := TX4) (N := 28) hx hb hts hinX4 hown hK hP 0 rfl rfl 5 (by decide) (hts _ (List.mem_of_getElem? (i := 6) rfl)) (fun _ h9 => h9) rfl dX4_addCrane_122 ?_
        refine lv_aload_n hx hb dX4_addCrane_125 rfl (lv_at hl 1 rfl) ?_
        refine va_get (D := D) (ci := 4) (v := .int (V_40.1 0)) (C := RX4) (T := TX4) (N := 28) hx hb hts hinX4 hown hK hP 0 rfl rfl 0 (by decide) (hts _ (List.mem_of_getElem? (i := 1) rfl)) (fun _ h9 => h9) rfl dX4_addCrane_126 ?_
        refine lv_iload hx hb dX4_addCrane_129 (lv_at hl 6 rfl) ?_
        obtain ⟨g_42, h⟩ := og_some h
        refine va_iast hx hb hK hP hD hS 5 0 rfl rfl g_42 dX4_addCrane_131 (fun H locs hP hD hS => ?_)
        replace hP : va_P D xcl (rW cy b (rar V_40 5 (V_40.1 0).toNatClampNeg p5)) H := hP
        replace hD : va_D A (rW cy b (rar V_40 5 (V_40.1 0).toNatClampNeg p5)) := hD
        obtain ⟨V_43, eV_44, h⟩ := ob_some h
        rw [Option.some.inj eV_44] at hP hD
        refine lv_aload_n hx hb dX4_addCrane_132 rfl (lv_at hl 1 rfl) ?_
        refine lv_dup hx hb dX4_addCrane_133 rfl ?_
        refine va_get (D := D) (ci := 4) (v := .int (V_43.1 0)) (C := RX4) (T := TX4) (N := 28) hx hb hts hinX4 hown hK hP 0 rfl rfl 0 (by decide) (hts _ (List.mem_of_getElem? (i := 1) rfl)) (fun _ h9 => h9) rfl dX4_addCrane_134 ?_
        refine lv_iconst (v := 1) hx hb dX4_addCrane_137 (by decide) ?_
        refine lv_iadd hx hb dX4_addCrane_138 ?_
        refine va_put (D := D) (ci := 4) (v := .int ((V_43.1 0) + 1)) (ty := .int) (C := RX4) (T := TX4) (N := 28) hx hb hts hinX4 tyX4 tyX4_ok nmX4 hown hK hP hD hS 0 rfl rfl 0 (by decide) (hts _ (List.mem_of_getElem? (i := 1) rfl)) (fun _ h9 => h9) rfl (by decide +kernel) rfl rfl (Nat.le_of_ble_eq_true rfl) dX4_addCrane_139 (fun H locs hP hD hS => ?_)
        replace hP : va_P D xcl (rW cy b (rsc V_43 0 ((V_43.1 0) + 1))) H := hP
        replace hD : va_D A (rW cy b (rsc V_43 0 ((V_43.1 0) + 1))) := hD
        obtain ⟨V_45, eV_46, h⟩ := ob_some h
        rw [Option.some.inj eV_46] at hP hD
        refine lv_aload_n hx hb dX4_addCrane_142 rfl (lv_at hl 1 rfl) ?_
        refine va_get (D := D) (ci := 4) (v := .int (V_45.1 0)) (C := RX4) (T := TX4) (N := 28) hx hb hts hinX4 hown hK hP 0 rfl rfl 0 (by decide) (hts _ (List.mem_of_getElem? (i := 1) rfl)) (fun _ h9 => h9) rfl dX4_addCrane_143 ?_
        refine lv_iconst (v := 1) hx hb dX4_addCrane_146 (by decide) ?_
        refine lv_isub hx hb dX4_addCrane_147 ?_
        have h9 := Option.some.inj h
        subst h9
        exact W.iret (v := (V_45.1 0) - 1) hx hb hr (fun t ht hW => ⟨⟨(V_45.1 0) - 1, (), rfl, rfl, ⟨by rw [ht]; exact hP, hD⟩⟩, hS.F ht⟩) hS.2.2 dX4_addCrane_148 hlocks
      · replace h := oi_f c_29 h
        refine lv_iconst (v := 0) hx hb dX4_addCrane_78 (by decide) ?_
        have h9 := Option.some.inj h
        subst h9
        exact W.iret (v := 0) hx hb hr (fun t ht hW => ⟨⟨0, (), rfl, rfl, ⟨by rw [ht]; exact hP, hD⟩⟩, hS.F ht⟩) hS.2.2 dX4_addCrane_79 hlocks
    · replace h := oi_f c_26 h
      refine lv_iload hx hb dX4_addCrane_18 (lv_at hl 4 rfl) ?_
      refine lv_iconst (v := 1) hx hb dX4_addCrane_20 (by decide) ?_
      refine lv_sipush (v := 999) hx hb dX4_addCrane_21 (by decide) ?_
      obtain ⟨u_47, hg_48, h⟩ := ob_some h
      refine zcSi (W.runS (As := [.int p4, .int 1, .int 999]) (rest := []) ⟨hx, hb, hml, hown, hts⟩ (c_X4_in l p4 1 999 hg_48) (va_cwS 3 hts gX4_addCrane_X4_in rfl rfl rfl hd_X4_in ⟨Nat.le_of_ble_eq_true rfl, Nat.le_of_ble_eq_true rfl⟩) ⟨zT_blind, zT_at⟩ rfl rfl hl.1 rfl (lv_room (Nat.le_of_ble_eq_true rfl)) dX4_addCrane_24 ⟨Nat.le_of_ble_eq_true rfl, Nat.le_of_ble_eq_true rfl⟩) ?_
      refine lv_if_eq (tgt := 46) hx hb dX4_addCrane_27 (by decide) (fun c_49 => ?_) (fun c_49 => ?_)
      · replace h := oi_t c_49 h
        refine lv_iconst (v := 0) hx hb dX4_addCrane_46 (by decide) ?_
        refine lv_istore (lv' := [(6, .int 0), (0, .ref (b 0)), (1, .int p1), (2, .int p2), (3, .int p3), (4, .int p4), (5, .int p5)]) hx hb dX4_addCrane_47 hl (by decide) rfl (fun ls hl => ?_)
        refine lv_aload_n hx hb dX4_addCrane_49 rfl (lv_at hl 1 rfl) ?_
        refine lv_iload hx hb dX4_addCrane_50 (lv_at hl 0 rfl) ?_
        refine lv_if_ne (tgt := 59) hx hb dX4_addCrane_52 (by decide) (fun c0 => absurd c0 (by decide)) (fun _ => ?_)
        refine lv_iconst (v := 1) hx hb dX4_addCrane_55 (by decide) ?_
        refine lv_goto (tgt := 72) hx hb dX4_addCrane_56 (by decide) ?_
        obtain ⟨u_50, hg_51, h⟩ := ob_some h
        refine zcWi (va_runV (As := [.int 1]) (rest := []) ⟨hx, hb, hml, hown, hts⟩ (c_X4_fails l D cy b V _ 1 hg_51) (cwV 1 hts gX4_addCrane_X4_fails rfl rfl rfl hd_X4_fails ⟨Nat.le_of_ble_eq_true rfl, Nat.le_of_ble_eq_true rfl⟩) ⟨(zJ_blind rI_blind), va_recv hK hP (ci := 4) (q0 := 0) rfl rfl, (zJ_at (rI_at hP hK hD))⟩ rfl rfl hl.1 rfl (lv_room (Nat.le_of_ble_eq_true rfl)) dX4_addCrane_72 ⟨Nat.le_of_ble_eq_true rfl, Nat.le_of_ble_eq_true rfl⟩) hS (z_free hD hS hA) (fun H locs hP hD hS => ?_)
        refine lv_if_eq (tgt := 80) hx hb dX4_addCrane_75 (by decide) (fun c_52 => ?_) (fun c_52 => ?_)
        · replace h := oi_t c_52 h
          refine lv_aload_n hx hb dX4_addCrane_80 rfl (lv_at hl 1 rfl) ?_
          refine va_get (D := D) (ci := 4) (v := .ref (b 1)) (C := RX4) (T := TX4) (N := 28) hx hb hts hinX4 hown hK hP 0 rfl rfl 1 (by decide) (hts _ (List.mem_of_getElem? (i := 2) rfl)) (fun _ h9 => h9) rfl dX4_addCrane_81 ?_
          refine lv_aload_n hx hb dX4_addCrane_84 rfl (lv_at hl 1 rfl) ?_
          refine va_get (D := D) (ci := 4) (v := .int (u_50.2.1 0)) (C := RX4) (T := TX4) (N := 28) hx hb hts hinX4 hown hK hP 0 rfl rfl 0 (by decide) (hts _ (List.mem_of_getElem? (i := 1) rfl)) (fun _ h9 => h9) rfl dX4_addCrane_85 ?_
          refine lv_iload_n hx hb dX4_addCrane_88 rfl (lv_at hl 2 rfl) ?_
          obtain ⟨g_53, h⟩ := og_some h
          refine va_iast hx hb hK hP hD hS 1 0 rfl rfl g_53 dX4_addCrane_89 (fun H locs hP hD hS => ?_)
          replace hP : va_P D xcl (rW cy b (rar u_50.2 1 (u_50.2.1 0).toNatClampNeg p1)) H := hP
          replace hD : va_D A (rW cy b (rar u_50.2 1 (u_50.2.1 0).toNatClampNeg p1)) := hD
          obtain ⟨V_54, eV_55, h⟩ := ob_some h
          rw [Option.some.inj eV_55] at hP hD
          refine lv_aload_n hx hb dX4_addCrane_90 rfl (lv_at hl 1 rfl) ?_
          refine va_get (D := D) (ci := 4) (v := .ref (b 2)) (C := RX4) (T := TX4) (N := 28) hx hb hts hinX4 hown hK hP 0 rfl rfl 2 (by decide) (hts _ (List.mem_of_getElem? (i := 3) rfl)) (fun _ h9 => h9) rfl dX4_addCrane_91 ?_
          refine lv_aload_n hx hb dX4_addCrane_94 rfl (lv_at hl 1 rfl) ?_
          refine va_get (D := D) (ci := 4) (v := .int (V_54.1 0)) (C := RX4) (T := TX4) (N := 28) hx hb hts hinX4 hown hK hP 0 rfl rfl 0 (by decide) (hts _ (List.mem_of_getElem? (i := 1) rfl)) (fun _ h9 => h9) rfl dX4_addCrane_95 ?_
          refine lv_iload_n hx hb dX4_addCrane_98 rfl (lv_at hl 3 rfl) ?_
          obtain ⟨g_56, h⟩ := og_some h
          refine va_iast hx hb hK hP hD hS 2 0 rfl rfl g_56 dX4_addCrane_99 (fun H locs hP hD hS => ?_)
          replace hP : va_P D xcl (rW cy b (rar V_54 2 (V_54.1 0).toNatClampNeg p2)) H := hP
          replace hD : va_D A (rW cy b (rar V_54 2 (V_54.1 0).toNatClampNeg p2)) := hD
          obtain ⟨V_57, eV_58, h⟩ := ob_some h
          rw [Option.some.inj eV_58] at hP hD
          refine lv_aload_n hx hb dX4_addCrane_100 rfl (lv_at hl 1 rfl) ?_
          refine va_get (D := D) (ci := 4) (v := .ref (b 3)) (C := RX4) (T := TX4) (N := 28) hx hb hts hinX4 hown hK hP 0 rfl rfl 3 (by decide) (hts _ (List.mem_of_getElem? (i := 4) rfl)) (fun _ h9 => h9) rfl dX4_addCrane_101 ?_
          refine lv_aload_n hx hb dX4_addCrane_104 rfl (lv_at hl 1 rfl) ?_
          refine va_get (D := D) (ci := 4) (v := .int (V_57.1 0)) (C := RX4) (T := TX4) (N := 28) hx hb hts hinX4 hown hK hP 0 rfl rfl 0 (by decide) (hts _ (List.mem_of_getElem? (i := 1) rfl)) (fun _ h9 => h9) rfl dX4_addCrane_105 ?_
          refine lv_iload_n hx hb dX4_addCrane_108 rfl (lv_at hl 4 rfl) ?_
          obtain ⟨g_59, h⟩ := og_some h
          refine va_iast hx hb hK hP hD hS 3 0 rfl rfl g_59 dX4_addCrane_109 (fun H locs hP hD hS => ?_)
          replace hP : va_P D xcl (rW cy b (rar V_57 3 (V_57.1 0).toNatClampNeg p3)) H := hP
          replace hD : va_D A (rW cy b (rar V_57 3 (V_57.1 0).toNatClampNeg p3)) := hD
          obtain ⟨V_60, eV_61, h⟩ := ob_some h
          rw [Option.some.inj eV_61] at hP hD
          refine lv_aload_n hx hb dX4_addCrane_110 rfl (lv_at hl 1 rfl) ?_
          refine va_get (D := D) (ci := 4) (v := .ref (b 4)) (C := RX4) (T := TX4) (N := 28) hx hb hts hinX4 hown hK hP 0 rfl rfl 4 (by decide) (hts _ (List.mem_of_getElem? (i := 5) rfl)) (fun _ h9 => h9) rfl dX4_addCrane_111 ?_
          refine lv_aload_n hx hb dX4_addCrane_114 rfl (lv_at hl 1 rfl) ?_
          refine va_get (D := D) (ci := 4) (v := .int (V_60.1 0)) (C := RX4) (T := TX4) (N := 28) hx hb hts hinX4 hown hK hP 0 rfl rfl 0 (by decide) (hts _ (List.mem_of_getElem? (i := 1) rfl)) (fun _ h9 => h9) rfl dX4_addCrane_115 ?_
          refine lv_iload hx hb dX4_addCrane_118 (lv_at hl 5 rfl) ?_
          obtain ⟨g_62, h⟩ := og_some h
          refine va_iast hx hb hK hP hD hS 4 0 rfl rfl g_62 dX4_addCrane_120 (fun H locs hP hD hS => ?_)
          replace hP : va_P D xcl (rW cy b (rar V_60 4 (V_60.1 0).toNatClampNeg p4)) H := hP
          replace hD : va_D A (rW cy b (rar V_60 4 (V_60.1 0).toNatClampNeg p4)) := hD
          obtain ⟨V_63, eV_64, h⟩ := ob_some h
          rw [Option.some.inj eV_64] at hP hD
          refine lv_aload_n hx hb dX4_addCrane_121 rfl (lv_at hl 1 rfl) ?_
          refine va_get (D := D) (ci := 4) (v := .ref (b 5)) (C := RX4) (T := TX4) (N := 28) hx hb hts hinX4 hown hK hP 0 rfl rfl 5 (by decide) (hts _ (List.mem_of_getElem? (i := 6) rfl)) (fun _ h9 => h9) rfl dX4_addCrane_122 ?_
          refine lv_aload_n hx hb dX4_addCrane_125 rfl (lv_at hl 1 rfl) ?_
          refine va_get (D := D) (ci := 4) (v := .int (V_63.1 0)) (C := RX4) (T := TX4) (N := 28) hx hb hts hinX4 hown hK hP 0 rfl rfl 0 (by decide) (hts _ (List.mem_of_getElem? (i := 1) rfl)) (fun _ h9 => h9) rfl dX4_addCrane_126 ?_
          refine lv_iload hx hb dX4_addCrane_129 (lv_at hl 6 rfl) ?_
          obtain ⟨g_65, h⟩ := og_some h
          refine va_iast hx hb hK hP hD hS 5 0 rfl rfl g_65 dX4_addCrane_131 (fun H locs hP hD hS => ?_)
          replace hP : va_P D xcl (rW cy b (rar V_63 5 (V_63.1 0).toNatClampNeg p5)) H := hP
          replace hD : va_D A (rW cy b (rar V_63 5 (V_63.1 0).toNatClampNeg p5)) := hD
          obtain ⟨V_66, eV_67, h⟩ := ob_some h
          rw [Option.some.inj eV_67] at hP hD
          refine lv_aload_n hx hb dX4_addCrane_132 rfl (lv_at hl 1 rfl) ?_
          refine lv_dup hx hb dX4_addCrane_133 rfl ?_
          refine va_get (D := D) (ci := 4) (v := .int (V_66.1 0)) (C := RX4) (T := TX4) (N := 28) hx hb hts hinX4 hown hK hP 0 rfl rfl 0 (by decide) (hts _ (List.mem_of_getElem? (i := 1) rfl)) (fun _ h9 => h9) rfl dX4_addCrane_134 ?_
          refine lv_iconst (v := 1) hx hb dX4_addCrane_137 (by decide) ?_
          refine lv_iadd hx hb dX4_addCrane_138 ?_
          refine va_put (D := D) (ci := 4) (v := .int ((V_66.1 0) + 1)) (ty := .int) (C := RX4) (T := TX4) (N := 28) hx hb hts hinX4 tyX4 tyX4_ok nmX4 hown hK hP hD hS 0 rfl rfl 0 (by decide) (hts _ (List.mem_of_getElem? (i := 1) rfl)) (fun _ h9 => h9) rfl (by decide +kernel) rfl rfl (Nat.le_of_ble_eq_true rfl) dX4_addCrane_139 (fun H locs hP hD hS => ?_)
          replace hP : va_P D xcl (rW cy b (rsc V_66 0 ((V_66.1 0) + 1))) H := hP
          replace hD : va_D A (rW cy b (rsc V_66 0 ((V_66.1 0) + 1))) := hD
          obtain ⟨V_68, eV_69, h⟩ := ob_some h
          rw [Option.some.inj eV_69] at hP hD
          refine lv_aload_n hx hb dX4_addCrane_142 rfl (lv_at hl 1 rfl) ?_
          refine va_get (D := D) (ci := 4) (v := .int (V_68.1 0)) (C := RX4) (T := TX4) (N := 28) hx hb hts hinX4 hown hK hP 0 rfl rfl 0 (by decide) (hts _ (List.mem_of_getElem? (i := 1) rfl)) (fun _ h9 => h9) rfl dX4_addCrane_143 ?_
          refine lv_iconst (v := 1) hx hb dX4_addCrane_146 (by decide) ?_
          refine lv_isub hx hb dX4_addCrane_147 ?_
          have h9 := Option.some.inj h
          subst h9
          exact W.iret (v := (V_68.1 0) - 1) hx hb hr (fun t ht hW => ⟨⟨(V_68.1 0) - 1, (), rfl, rfl, ⟨by rw [ht]; exact hP, hD⟩⟩, hS.F ht⟩) hS.2.2 dX4_addCrane_148 hlocks
        · replace h := oi_f c_52 h
          refine lv_iconst (v := 0) hx hb dX4_addCrane_78 (by decide) ?_
          have h9 := Option.some.inj h
          subst h9
          exact W.iret (v := 0) hx hb hr (fun t ht hW => ⟨⟨0, (), rfl, rfl, ⟨by rw [ht]; exact hP, hD⟩⟩, hS.F ht⟩) hS.2.2 dX4_addCrane_79 hlocks
      · replace h := oi_f c_49 h
        refine lv_iload hx hb dX4_addCrane_30 (lv_at hl 5 rfl) ?_
        refine lv_iconst (v := 1) hx hb dX4_addCrane_32 (by decide) ?_
        refine lv_sipush (v := 9999) hx hb dX4_addCrane_33 (by decide) ?_
        obtain ⟨u_70, hg_71, h⟩ := ob_some h
        refine zcSi (W.runS (As := [.int p5, .int 1, .int 9999]) (rest := []) ⟨hx, hb, hml, hown, hts⟩ (c_X4_in l p5 1 9999 hg_71) (va_cwS 3 hts gX4_addCrane_X4_in rfl rfl rfl hd_X4_in ⟨Nat.le_of_ble_eq_true rfl, Nat.le_of_ble_eq_true rfl⟩) ⟨zT_blind, zT_at⟩ rfl rfl hl.1 rfl (lv_room (Nat.le_of_ble_eq_true rfl)) dX4_addCrane_36 ⟨Nat.le_of_ble_eq_true rfl, Nat.le_of_ble_eq_true rfl⟩) ?_
        refine lv_if_eq (tgt := 46) hx hb dX4_addCrane_39 (by decide) (fun c_72 => ?_) (fun c_72 => ?_)
        · replace h := oi_t c_72 h
          refine lv_iconst (v := 0) hx hb dX4_addCrane_46 (by decide) ?_
          refine lv_istore (lv' := [(6, .int 0), (0, .ref (b 0)), (1, .int p1), (2, .int p2), (3, .int p3), (4, .int p4), (5, .int p5)]) hx hb dX4_addCrane_47 hl (by decide) rfl (fun ls hl => ?_)
          refine lv_aload_n hx hb dX4_addCrane_49 rfl (lv_at hl 1 rfl) ?_
          refine lv_iload hx hb dX4_addCrane_50 (lv_at hl 0 rfl) ?_
          refine lv_if_ne (tgt := 59) hx hb dX4_addCrane_52 (by decide) (fun c0 => absurd c0 (by decide)) (fun _ => ?_)
          refine lv_iconst (v := 1) hx hb dX4_addCrane_55 (by decide) ?_
          refine lv_goto (tgt := 72) hx hb dX4_addCrane_56 (by decide) ?_
          obtain ⟨u_73, hg_74, h⟩ := ob_some h
          refine zcWi (va_runV (As := [.int 1]) (rest := []) ⟨hx, hb, hml, hown, hts⟩ (c_X4_fails l D cy b V _ 1 hg_74) (cwV 1 hts gX4_addCrane_X4_fails rfl rfl rfl hd_X4_fails ⟨Nat.le_of_ble_eq_true rfl, Nat.le_of_ble_eq_true rfl⟩) ⟨(zJ_blind rI_blind), va_recv hK hP (ci := 4) (q0 := 0) rfl rfl, (zJ_at (rI_at hP hK hD))⟩ rfl rfl hl.1 rfl (lv_room (Nat.le_of_ble_eq_true rfl)) dX4_addCrane_72 ⟨Nat.le_of_ble_eq_true rfl, Nat.le_of_ble_eq_true rfl⟩) hS (z_free hD hS hA) (fun H locs hP hD hS => ?_)
          refine lv_if_eq (tgt := 80) hx hb dX4_addCrane_75 (by decide) (fun c_75 => ?_) (fun c_75 => ?_)
          · replace h := oi_t c_75 h
            refine lv_aload_n hx hb dX4_addCrane_80 rfl (lv_at hl 1 rfl) ?_
            refine va_get (D := D) (ci := 4) (v := .ref (b 1)) (C := RX4) (T := TX4) (N := 28) hx hb hts hinX4 hown hK hP 0 rfl rfl 1 (by decide) (hts _ (List.mem_of_getElem? (i := 2) rfl)) (fun _ h9 => h9) rfl dX4_addCrane_81 ?_
            refine lv_aload_n hx hb dX4_addCrane_84 rfl (lv_at hl 1 rfl) ?_
            refine va_get (D := D) (ci := 4) (v := .int (u_73.2.1 0)) (C := RX4) (T := TX4) (N := 28) hx hb hts hinX4 hown hK hP 0 rfl rfl 0 (by decide) (hts _ (List.mem_of_getElem? (i := 1) rfl)) (fun _ h9 => h9) rfl dX4_addCrane_85 ?_
            refine lv_iload_n hx hb dX4_addCrane_88 rfl (lv_at hl 2 rfl) ?_
            obtain ⟨g_76, h⟩ := og_some h
            refine va_iast hx hb hK hP hD hS 1 0 rfl rfl g_76 dX4_addCrane_89 (fun H locs hP hD hS => ?_)
            replace hP : va_P D xcl (rW cy b (rar u_73.2 1 (u_73.2.1 0).toNatClampNeg p1)) H := hP
            replace hD : va_D A (rW cy b (rar u_73.2 1 (u_73.2.1 0).toNatClampNeg p1)) := hD
            obtain ⟨V_77, eV_78, h⟩ := ob_some h
            rw [Option.some.inj eV_78] at hP hD
            refine lv_aload_n hx hb dX4_addCrane_90 rfl (lv_at hl 1 rfl) ?_
            refine va_get (D := D) (ci := 4) (v := .ref (b 2)) (C := RX4) (T := TX4) (N := 28) hx hb hts hinX4 hown hK hP 0 rfl rfl 2 (by decide) (hts _ (List.mem_of_getElem? (i := 3) rfl)) (fun _ h9 => h9) rfl dX4_addCrane_91 ?_
            refine lv_aload_n hx hb dX4_addCrane_94 rfl (lv_at hl 1 rfl) ?_
            refine va_get (D := D) (ci := 4) (v := .int (V_77.1 0)) (C := RX4) (T := TX4) (N := 28) hx hb hts hinX4 hown hK hP 0 rfl rfl 0 (by decide) (hts _ (List.mem_of_getElem? (i := 1) rfl)) (fun _ h9 => h9) rfl dX4_addCrane_95 ?_
            refine lv_iload_n hx hb dX4_addCrane_98 rfl (lv_at hl 3 rfl) ?_
            obtain ⟨g_79, h⟩ := og_some h
            refine va_iast hx hb hK hP hD hS 2 0 rfl rfl g_79 dX4_addCrane_99 (fun H locs hP hD hS => ?_)
            replace hP : va_P D xcl (rW cy b (rar V_77 2 (V_77.1 0).toNatClampNeg p2)) H := hP
            replace hD : va_D A (rW cy b (rar V_77 2 (V_77.1 0).toNatClampNeg p2)) := hD
            obtain ⟨V_80, eV_81, h⟩ := ob_some h
            rw [Option.some.inj eV_81] at hP hD
            refine lv_aload_n hx hb dX4_addCrane_100 rfl (lv_at hl 1 rfl) ?_
            refine va_get (D := D) (ci := 4) (v := .ref (b 3)) (C := RX4) (T := TX4) (N := 28) hx hb hts hinX4 hown hK hP 0 rfl rfl 3 (by decide) (hts _ (List.mem_of_getElem? (i := 4) rfl)) (fun _ h9 => h9) rfl dX4_addCrane_101 ?_
            refine lv_aload_n hx hb dX4_addCrane_104 rfl (lv_at hl 1 rfl) ?_
            refine va_get (D := D) (ci := 4) (v := .int (V_80.1 0)) (C := RX4) (T := TX4) (N := 28) hx hb hts hinX4 hown hK hP 0 rfl rfl 0 (by decide) (hts _ (List.mem_of_getElem? (i := 1) rfl)) (fun _ h9 => h9) rfl dX4_addCrane_105 ?_
            refine lv_iload_n hx hb dX4_addCrane_108 rfl (lv_at hl 4 rfl) ?_
            obtain ⟨g_82, h⟩ := og_some h
            refine va_iast hx hb hK hP hD hS 3 0 rfl rfl g_82 dX4_addCrane_109 (fun H locs hP hD hS => ?_)
            replace hP : va_P D xcl (rW cy b (rar V_80 3 (V_80.1 0).toNatClampNeg p3)) H := hP
            replace hD : va_D A (rW cy b (rar V_80 3 (V_80.1 0).toNatClampNeg p3)) := hD
            obtain ⟨V_83, eV_84, h⟩ := ob_some h
            rw [Option.some.inj eV_84] at hP hD
            refine lv_aload_n hx hb dX4_addCrane_110 rfl (lv_at hl 1 rfl) ?_
            refine va_get (D := D) (ci := 4) (v := .ref (b 4)) (C := RX4) (T := TX4) (N := 28) hx hb hts hinX4 hown hK hP 0 rfl rfl 4 (by decide) (hts _ (List.mem_of_getElem? (i := 5) rfl)) (fun _ h9 => h9) rfl dX4_addCrane_111 ?_
            refine lv_aload_n hx hb dX4_addCrane_114 rfl (lv_at hl 1 rfl) ?_
            refine va_get (D := D) (ci := 4) (v := .int (V_83.1 0)) (C := RX4) (T := TX4) (N := 28) hx hb hts hinX4 hown hK hP 0 rfl rfl 0 (by decide) (hts _ (List.mem_of_getElem? (i := 1) rfl)) (fun _ h9 => h9) rfl dX4_addCrane_115 ?_
            refine lv_iload hx hb dX4_addCrane_118 (lv_at hl 5 rfl) ?_
            obtain ⟨g_85, h⟩ := og_some h
            refine va_iast hx hb hK hP hD hS 4 0 rfl rfl g_85 dX4_addCrane_120 (fun H locs hP hD hS => ?_)
            replace hP : va_P D xcl (rW cy b (rar V_83 4 (V_83.1 0).toNatClampNeg p4)) H := hP
            replace hD : va_D A (rW cy b (rar V_83 4 (V_83.1 0).toNatClampNeg p4)) := hD
            obtain ⟨V_86, eV_87, h⟩ := ob_some h
            rw [Option.some.inj eV_87] at hP hD
            refine lv_aload_n hx hb dX4_addCrane_121 rfl (lv_at hl 1 rfl) ?_
            refine va_get (D := D) (ci := 4) (v := .ref (b 5)) (C := RX4) (T := TX4) (N := 28) hx hb hts hinX4 hown hK hP 0 rfl rfl 5 (by decide) (hts _ (List.mem_of_getElem? (i := 6) rfl)) (fun _ h9 => h9) rfl dX4_addCrane_122 ?_
            refine lv_aload_n hx hb dX4_addCrane_125 rfl (lv_at hl 1 rfl) ?_
            refine va_get (D := D) (ci := 4) (v := .int (V_86.1 0)) (C := RX4) (T := TX4) (N := 28) hx hb hts hinX4 hown hK hP 0 rfl rfl 0 (by decide) (hts _ (List.mem_of_getElem? (i := 1) rfl)) (fun _ h9 => h9) rfl dX4_addCrane_126 ?_
            refine lv_iload hx hb dX4_addCrane_129 (lv_at hl 6 rfl) ?_
            obtain ⟨g_88, h⟩ := og_some h
            refine va_iast hx hb hK hP hD hS 5 0 rfl rfl g_88 dX4_addCrane_131 (fun H locs hP hD hS => ?_)
            replace hP : va_P D xcl (rW cy b (rar V_86 5 (V_86.1 0).toNatClampNeg p5)) H := hP
            replace hD : va_D A (rW cy b (rar V_86 5 (V_86.1 0).toNatClampNeg p5)) := hD
            obtain ⟨V_89, eV_90, h⟩ := ob_some h
            rw [Option.some.inj eV_90] at hP hD
            refine lv_aload_n hx hb dX4_addCrane_132 rfl (lv_at hl 1 rfl) ?_
            refine lv_dup hx hb dX4_addCrane_133 rfl ?_
            refine va_get (D := D) (ci := 4) (v := .int (V_89.1 0)) (C := RX4) (T := TX4) (N := 28) hx hb hts hinX4 hown hK hP 0 rfl rfl 0 (by decide) (hts _ (List.mem_of_getElem? (i := 1) rfl)) (fun _ h9 => h9) rfl dX4_addCrane_134 ?_
            refine lv_iconst (v := 1) hx hb dX4_addCrane_137 (by decide) ?_
            refine lv_iadd hx hb dX4_addCrane_138 ?_
            refine va_put (D := D) (ci := 4) (v := .int ((V_89.1 0) + 1)) (ty := .int) (C := RX4) (T := TX4) (N := 28) hx hb hts hinX4 tyX4 tyX4_ok nmX4 hown hK hP hD hS 0 rfl rfl 0 (by decide) (hts _ (List.mem_of_getElem? (i := 1) rfl)) (fun _ h9 => h9) rfl (by decide +kernel) rfl rfl (Nat.le_of_ble_eq_true rfl) dX4_addCrane_139 (fun H locs hP hD hS => ?_)
            replace hP : va_P D xcl (rW cy b (rsc V_89 0 ((V_89.1 0) + 1))) H := hP
            replace hD : va_D A (rW cy b (rsc V_89 0 ((V_89.1 0) + 1))) := hD
            obtain ⟨V_91, eV_92, h⟩ := ob_some h
            rw [Option.some.inj eV_92] at hP hD
            refine lv_aload_n hx hb dX4_addCrane_142 rfl (lv_at hl 1 rfl) ?_
            refine va_get (D := D) (ci := 4) (v := .int (V_91.1 0)) (C := RX4) (T := TX4) (N := 28) hx hb hts hinX4 hown hK hP 0 rfl rfl 0 (by decide) (hts _ (List.mem_of_getElem? (i := 1) rfl)) (fun _ h9 => h9) rfl dX4_addCrane_143 ?_
            refine lv_iconst (v := 1) hx hb dX4_addCrane_146 (by decide) ?_
            refine lv_isub hx hb dX4_addCrane_147 ?_
            have h9 := Option.some.inj h
            subst h9
            exact W.iret (v := (V_91.1 0) - 1) hx hb hr (fun t ht hW => ⟨⟨(V_91.1 0) - 1, (), rfl, rfl, ⟨by rw [ht]; exact hP, hD⟩⟩, hS.F ht⟩) hS.2.2 dX4_addCrane_148 hlocks
          · replace h := oi_f c_75 h
            refine lv_iconst (v := 0) hx hb dX4_addCrane_78 (by decide) ?_
            have h9 := Option.some.inj h
            subst h9
            exact W.iret (v := 0) hx hb hr (fun t ht hW => ⟨⟨0, (), rfl, rfl, ⟨by rw [ht]; exact hP, hD⟩⟩, hS.F ht⟩) hS.2.2 dX4_addCrane_79 hlocks
        · replace h := oi_f c_72 h
          refine lv_iconst (v := 1) hx hb dX4_addCrane_42 (by decide) ?_
          refine lv_goto (tgt := 47) hx hb dX4_addCrane_43 (by decide) ?_
          refine lv_istore (lv' := [(6, .int 1), (0, .ref (b 0)), (1, .int p1), (2, .int p2), (3, .int p3), (4, .int p4), (5, .int p5)]) hx hb dX4_addCrane_47 hl (by decide) rfl (fun ls hl => ?_)
          refine lv_aload_n hx hb dX4_addCrane_49 rfl (lv_at hl 1 rfl) ?_
          refine lv_iload hx hb dX4_addCrane_50 (lv_at hl 0 rfl) ?_
          refine lv_if_ne (tgt := 59) hx hb dX4_addCrane_52 (by decide) (fun _ => ?_) (fun c0 => absurd c0 (by decide))
          refine lv_aload_n hx hb dX4_addCrane_59 rfl (lv_at hl 1 rfl) ?_
          refine va_get (D := D) (ci := 4) (v := .int (V.1 0)) (C := RX4) (T := TX4) (N := 28) hx hb hts hinX4 hown hK hP 0 rfl rfl 0 (by decide) (hts _ (List.mem_of_getElem? (i := 1) rfl)) (fun _ h9 => h9) rfl dX4_addCrane_60 ?_
          refine lv_iconst (v := 5) hx hb dX4_addCrane_63 (by decide) ?_
          refine lv_icmp_ne (tgt := 71) hx hb dX4_addCrane_64 (by decide) (fun c_93 => ?_) (fun c_93 => ?_)
          · replace h := oi_f c_93 h
            refine lv_iconst (v := 0) hx hb dX4_addCrane_71 (by decide) ?_
            obtain ⟨u_94, hg_95, h⟩ := ob_some h
            refine zcWi (va_runV (As := [.int 0]) (rest := []) ⟨hx, hb, hml, hown, hts⟩ (c_X4_fails l D cy b V _ 0 hg_95) (cwV 1 hts gX4_addCrane_X4_fails rfl rfl rfl hd_X4_fails ⟨Nat.le_of_ble_eq_true rfl, Nat.le_of_ble_eq_true rfl⟩) ⟨(zJ_blind rI_blind), va_recv hK hP (ci := 4) (q0 := 0) rfl rfl, (zJ_at (rI_at hP hK hD))⟩ rfl rfl hl.1 rfl (lv_room (Nat.le_of_ble_eq_true rfl)) dX4_addCrane_72 ⟨Nat.le_of_ble_eq_true rfl, Nat.le_of_ble_eq_true rfl⟩) hS (z_free hD hS hA) (fun H locs hP hD hS => ?_)
            refine lv_if_eq (tgt := 80) hx hb dX4_addCrane_75 (by decide) (fun c_96 => ?_) (fun c_96 => ?_)
            · replace h := oi_t c_96 h
              refine lv_aload_n hx hb dX4_addCrane_80 rfl (lv_at hl 1 rfl) ?_
              refine va_get (D := D) (ci := 4) (v := .ref (b 1)) (C := RX4) (T := TX4) (N := 28) hx hb hts hinX4 hown hK hP 0 rfl rfl 1 (by decide) (hts _ (List.mem_of_getElem? (i := 2) rfl)) (fun _ h9 => h9) rfl dX4_addCrane_81 ?_
              refine lv_aload_n hx hb dX4_addCrane_84 rfl (lv_at hl 1 rfl) ?_
              refine va_get (D := D) (ci := 4) (v := .int (u_94.2.1 0)) (C := RX4) (T := TX4) (N := 28) hx hb hts hinX4 hown hK hP 0 rfl rfl 0 (by decide) (hts _ (List.mem_of_getElem? (i := 1) rfl)) (fun _ h9 => h9) rfl dX4_addCrane_85 ?_
              refine lv_iload_n hx hb dX4_addCrane_88 rfl (lv_at hl 2 rfl) ?_
              obtain ⟨g_97, h⟩ := og_some h
              refine va_iast hx hb hK hP hD hS 1 0 rfl rfl g_97 dX4_addCrane_89 (fun H locs hP hD hS => ?_)
              replace hP : va_P D xcl (rW cy b (rar u_94.2 1 (u_94.2.1 0).toNatClampNeg p1)) H := hP
              replace hD : va_D A (rW cy b (rar u_94.2 1 (u_94.2.1 0).toNatClampNeg p1)) := hD
              obtain ⟨V_98, eV_99, h⟩ := ob_some h
              rw [Option.some.inj eV_99] at hP hD
              refine lv_aload_n hx hb dX4_addCrane_90 rfl (lv_at hl 1 rfl) ?_
              refine va_get (D := D) (ci := 4) (v := .ref (b 2)) (C := RX4) (T := TX4) (N := 28) hx hb hts hinX4 hown hK hP 0 rfl rfl 2 (by decide) (hts _ (List.mem_of_getElem? (i := 3) rfl)) (fun _ h9 => h9) rfl dX4_addCrane_91 ?_
              refine lv_aload_n hx hb dX4_addCrane_94 rfl (lv_at hl 1 rfl) ?_
              refine va_get (D := D) (ci := 4) (v := .int (V_98.1 0)) (C := RX4) (T := TX4) (N := 28) hx hb hts hinX4 hown hK hP 0 rfl rfl 0 (by decide) (hts _ (List.mem_of_getElem? (i := 1) rfl)) (fun _ h9 => h9) rfl dX4_addCrane_95 ?_
              refine lv_iload_n hx hb dX4_addCrane_98 rfl (lv_at hl 3 rfl) ?_
              obtain ⟨g_100, h⟩ := og_some h
              refine va_iast hx hb hK hP hD hS 2 0 rfl rfl g_100 dX4_addCrane_99 (fun H locs hP hD hS => ?_)
              replace hP : va_P D xcl (rW cy b (rar V_98 2 (V_98.1 0).toNatClampNeg p2)) H := hP
              replace hD : va_D A (rW cy b (rar V_98 2 (V_98.1 0).toNatClampNeg p2)) := hD
              obtain ⟨V_101, eV_102, h⟩ := ob_some h
              rw [Option.some.inj eV_102] at hP hD
              refine lv_aload_n hx hb dX4_addCrane_100 rfl (lv_at hl 1 rfl) ?_
              refine va_get (D := D) (ci := 4) (v := .ref (b 3)) (C := RX4) (T := TX4) (N := 28) hx hb hts hinX4 hown hK hP 0 rfl rfl 3 (by decide) (hts _ (List.mem_of_getElem? (i := 4) rfl)) (fun _ h9 => h9) rfl dX4_addCrane_101 ?_
              refine lv_aload_n hx hb dX4_addCrane_104 rfl (lv_at hl 1 rfl) ?_
              refine va_get (D := D) (ci := 4) (v := .int (V_101.1 0)) (C := RX4) (T := TX4) (N := 28) hx hb hts hinX4 hown hK hP 0 rfl rfl 0 (by decide) (hts _ (List.mem_of_getElem? (i := 1) rfl)) (fun _ h9 => h9) rfl dX4_addCrane_105 ?_
              refine lv_iload_n hx hb dX4_addCrane_108 rfl (lv_at hl 4 rfl) ?_
              obtain ⟨g_103, h⟩ := og_some h
              refine va_iast hx hb hK hP hD hS 3 0 rfl rfl g_103 dX4_addCrane_109 (fun H locs hP hD hS => ?_)
              replace hP : va_P D xcl (rW cy b (rar V_101 3 (V_101.1 0).toNatClampNeg p3)) H := hP
              replace hD : va_D A (rW cy b (rar V_101 3 (V_101.1 0).toNatClampNeg p3)) := hD
              obtain ⟨V_104, eV_105, h⟩ := ob_some h
              rw [Option.some.inj eV_105] at hP hD
              refine lv_aload_n hx hb dX4_addCrane_110 rfl (lv_at hl 1 rfl) ?_
              refine va_get (D := D) (ci := 4) (v := .ref (b 4)) (C := RX4) (T := TX4) (N := 28) hx hb hts hinX4 hown hK hP 0 rfl rfl 4 (by decide) (hts _ (List.mem_of_getElem? (i := 5) rfl)) (fun _ h9 => h9) rfl dX4_addCrane_111 ?_
              refine lv_aload_n hx hb dX4_addCrane_114 rfl (lv_at hl 1 rfl) ?_
              refine va_get (D := D) (ci := 4) (v := .int (V_104.1 0)) (C := RX4) (T := TX4) (N := 28) hx hb hts hinX4 hown hK hP 0 rfl rfl 0 (by decide) (hts _ (List.mem_of_getElem? (i := 1) rfl)) (fun _ h9 => h9) rfl dX4_addCrane_115 ?_
              refine lv_iload hx hb dX4_addCrane_118 (lv_at hl 5 rfl) ?_
              obtain ⟨g_106, h⟩ := og_some h
              refine va_iast hx hb hK hP hD hS 4 0 rfl rfl g_106 dX4_addCrane_120 (fun H locs hP hD hS => ?_)
              replace hP : va_P D xcl (rW cy b (rar V_104 4 (V_104.1 0).toNatClampNeg p4)) H := hP
              replace hD : va_D A (rW cy b (rar V_104 4 (V_104.1 0).toNatClampNeg p4)) := hD
              obtain ⟨V_107, eV_108, h⟩ := ob_some h
              rw [Option.some.inj eV_108] at hP hD
              refine lv_aload_n hx hb dX4_addCrane_121 rfl (lv_at hl 1 rfl) ?_
              refine va_get (D := D) (ci := 4) (v := .ref (b 5)) (C := RX4) (T := TX4) (N := 28) hx hb hts hinX4 hown hK hP 0 rfl rfl 5 (by decide) (hts _ (List.mem_of_getElem? (i := 6) rfl)) (fun _ h9 => h9) rfl dX4_addCrane_122 ?_
              refine lv_aload_n hx hb dX4_addCrane_125 rfl (lv_at hl 1 rfl) ?_
              refine va_get (D := D) (ci := 4) (v := .int (V_107.1 0)) (C := RX4) (T := TX4) (N := 28) hx hb hts hinX4 hown hK hP 0 rfl rfl 0 (by decide) (hts _ (List.mem_of_getElem? (i := 1) rfl)) (fun _ h9 => h9) rfl dX4_addCrane_126 ?_
              refine lv_iload hx hb dX4_addCrane_129 (lv_at hl 6 rfl) ?_
              obtain ⟨g_109, h⟩ := og_some h
              refine va_iast hx hb hK hP hD hS 5 0 rfl rfl g_109 dX4_addCrane_131 (fun H locs hP hD hS => ?_)
              replace hP : va_P D xcl (rW cy b (rar V_107 5 (V_107.1 0).toNatClampNeg p5)) H := hP
              replace hD : va_D A (rW cy b (rar V_107 5 (V_107.1 0).toNatClampNeg p5)) := hD
              obtain ⟨V_110, eV_111, h⟩ := ob_some h
              rw [Option.some.inj eV_111] at hP hD
              refine lv_aload_n hx hb dX4_addCrane_132 rfl (lv_at hl 1 rfl) ?_
              refine lv_dup hx hb dX4_addCrane_133 rfl ?_
              refine va_get (D := D) (ci := 4) (v := .int (V_110.1 0)) (C := RX4) (T := TX4) (N := 28) hx hb hts hinX4 hown hK hP 0 rfl rfl 0 (by decide) (hts _ (List.mem_of_getElem? (i := 1) rfl)) (fun _ h9 => h9) rfl dX4_addCrane_134 ?_
              refine lv_iconst (v := 1) hx hb dX4_addCrane_137 (by decide) ?_
              refine lv_iadd hx hb dX4_addCrane_138 ?_
              refine va_put (D := D) (ci := 4) (v := .int ((V_110.1 0) + 1)) (ty := .int) (C := RX4) (T := TX4) (N := 28) hx hb hts hinX4 tyX4 tyX4_ok nmX4 hown hK hP hD hS 0 rfl rfl 0 (by decide) (hts _ (List.mem_of_getElem? (i := 1) rfl)) (fun _ h9 => h9) rfl (by decide +kernel) rfl rfl (Nat.le_of_ble_eq_true rfl) dX4_addCrane_139 (fun H locs hP hD hS => ?_)
              replace hP : va_P D xcl (rW cy b (rsc V_110 0 ((V_110.1 0) + 1))) H := hP
              replace hD : va_D A (rW cy b (rsc V_110 0 ((V_110.1 0) + 1))) := hD
              obtain ⟨V_112, eV_113, h⟩ := ob_some h
              rw [Option.some.inj eV_113] at hP hD
              refine lv_aload_n hx hb dX4_addCrane_142 rfl (lv_at hl 1 rfl) ?_
              refine va_get (D := D) (ci := 4) (v := .int (V_112.1 0)) (C := RX4) (T := TX4) (N := 28) hx hb hts hinX4 hown hK hP 0 rfl rfl 0 (by decide) (hts _ (List.mem_of_getElem? (i := 1) rfl)) (fun _ h9 => h9) rfl dX4_addCrane_143 ?_
              refine lv_iconst (v := 1) hx hb dX4_addCrane_146 (by decide) ?_
              refine lv_isub hx hb dX4_addCrane_147 ?_
              have h9 := Option.some.inj h
              subst h9
              exact W.iret (v := (V_112.1 0) - 1) hx hb hr (fun t ht hW => ⟨⟨(V_112.1 0) - 1, (), rfl, rfl, ⟨by rw [ht]; exact hP, hD⟩⟩, hS.F ht⟩) hS.2.2 dX4_addCrane_148 hlocks
            · replace h := oi_f c_96 h
              refine lv_iconst (v := 0) hx hb dX4_addCrane_78 (by decide) ?_
              have h9 := Option.some.inj h
              subst h9
              exact W.iret (v := 0) hx hb hr (fun t ht hW => ⟨⟨0, (), rfl, rfl, ⟨by rw [ht]; exact hP, hD⟩⟩, hS.F ht⟩) hS.2.2 dX4_addCrane_79 hlocks
          · replace h := oi_t c_93 h
            refine lv_iconst (v := 2) hx hb dX4_addCrane_67 (by decide) ?_
            refine lv_goto (tgt := 72) hx hb dX4_addCrane_68 (by decide) ?_
            obtain ⟨u_114, hg_115, h⟩ := ob_some h
            refine zcWi (va_runV (As := [.int 2]) (rest := []) ⟨hx, hb, hml, hown, hts⟩ (c_X4_fails l D cy b V _ 2 hg_115) (cwV 1 hts gX4_addCrane_X4_fails rfl rfl rfl hd_X4_fails ⟨Nat.le_of_ble_eq_true rfl, Nat.le_of_ble_eq_true rfl⟩) ⟨(zJ_blind rI_blind), va_recv hK hP (ci := 4) (q0 := 0) rfl rfl, (zJ_at (rI_at hP hK hD))⟩ rfl rfl hl.1 rfl (lv_room (Nat.le_of_ble_eq_true rfl)) dX4_addCrane_72 ⟨Nat.le_of_ble_eq_true rfl, Nat.le_of_ble_eq_true rfl⟩) hS (z_free hD hS hA) (fun H locs hP hD hS => ?_)
            refine lv_if_eq (tgt := 80) hx hb dX4_addCrane_75 (by decide) (fun c_116 => ?_) (fun c_116 => ?_)
            · replace h := oi_t c_116 h
              refine lv_aload_n hx hb dX4_addCrane_80 rfl (lv_at hl 1 rfl) ?_
              refine va_get (D := D) (ci := 4) (v := .ref (b 1)) (C := RX4) (T := TX4) (N := 28) hx hb hts hinX4 hown hK hP 0 rfl rfl 1 (by decide) (hts _ (List.mem_of_getElem? (i := 2) rfl)) (fun _ h9 => h9) rfl dX4_addCrane_81 ?_
              refine lv_aload_n hx hb dX4_addCrane_84 rfl (lv_at hl 1 rfl) ?_
              refine va_get (D := D) (ci := 4) (v := .int (u_114.2.1 0)) (C := RX4) (T := TX4) (N := 28) hx hb hts hinX4 hown hK hP 0 rfl rfl 0 (by decide) (hts _ (List.mem_of_getElem? (i := 1) rfl)) (fun _ h9 => h9) rfl dX4_addCrane_85 ?_
              refine lv_iload_n hx hb dX4_addCrane_88 rfl (lv_at hl 2 rfl) ?_
              obtain ⟨g_117, h⟩ := og_some h
              refine va_iast hx hb hK hP hD hS 1 0 rfl rfl g_117 dX4_addCrane_89 (fun H locs hP hD hS => ?_)
              replace hP : va_P D xcl (rW cy b (rar u_114.2 1 (u_114.2.1 0).toNatClampNeg p1)) H := hP
              replace hD : va_D A (rW cy b (rar u_114.2 1 (u_114.2.1 0).toNatClampNeg p1)) := hD
              obtain ⟨V_118, eV_119, h⟩ := ob_some h
              rw [Option.some.inj eV_119] at hP hD
              refine lv_aload_n hx hb dX4_addCrane_90 rfl (lv_at hl 1 rfl) ?_
              refine va_get (D := D) (ci := 4) (v := .ref (b 2)) (C := RX4) (T := TX4) (N := 28) hx hb hts hinX4 hown hK hP 0 rfl rfl 2 (by decide) (hts _ (List.mem_of_getElem? (i := 3) rfl)) (fun _ h9 => h9) rfl dX4_addCrane_91 ?_
              refine lv_aload_n hx hb dX4_addCrane_94 rfl (lv_at hl 1 rfl) ?_
              refine va_get (D := D) (ci := 4) (v := .int (V_118.1 0)) (C := RX4) (T := TX4) (N := 28) hx hb hts hinX4 hown hK hP 0 rfl rfl 0 (by decide) (hts _ (List.mem_of_getElem? (i := 1) rfl)) (fun _ h9 => h9) rfl dX4_addCrane_95 ?_
              refine lv_iload_n hx hb dX4_addCrane_98 rfl (lv_at hl 3 rfl) ?_
              obtain ⟨g_120, h⟩ := og_some h
              refine va_iast hx hb hK hP hD hS 2 0 rfl rfl g_120 dX4_addCrane_99 (fun H locs hP hD hS => ?_)
              replace hP : va_P D xcl (rW cy b (rar V_118 2 (V_118.1 0).toNatClampNeg p2)) H := hP
              replace hD : va_D A (rW cy b (rar V_118 2 (V_118.1 0).toNatClampNeg p2)) := hD
              obtain ⟨V_121, eV_122, h⟩ := ob_some h
              rw [Option.some.inj eV_122] at hP hD
              refine lv_aload_n hx hb dX4_addCrane_100 rfl (lv_at hl 1 rfl) ?_
              refine va_get (D := D) (ci := 4) (v := .ref (b 3)) (C := RX4) (T := TX4) (N := 28) hx hb hts hinX4 hown hK hP 0 rfl rfl 3 (by decide) (hts _ (List.mem_of_getElem? (i := 4) rfl)) (fun _ h9 => h9) rfl dX4_addCrane_101 ?_
              refine lv_aload_n hx hb dX4_addCrane_104 rfl (lv_at hl 1 rfl) ?_
              refine va_get (D := D) (ci := 4) (v := .int (V_121.1 0)) (C := RX4) (T := TX4) (N := 28) hx hb hts hinX4 hown hK hP 0 rfl rfl 0 (by decide) (hts _ (List.mem_of_getElem? (i := 1) rfl)) (fun _ h9 => h9) rfl dX4_addCrane_105 ?_
              refine lv_iload_n hx hb dX4_addCrane_108 rfl (lv_at hl 4 rfl) ?_
              obtain ⟨g_123, h⟩ := og_some h
              refine va_iast hx hb hK hP hD hS 3 0 rfl rfl g_123 dX4_addCrane_109 (fun H locs hP hD hS => ?_)
              replace hP : va_P D xcl (rW cy b (rar V_121 3 (V_121.1 0).toNatClampNeg p3)) H := hP
              replace hD : va_D A (rW cy b (rar V_121 3 (V_121.1 0).toNatClampNeg p3)) := hD
              obtain ⟨V_124, eV_125, h⟩ := ob_some h
              rw [Option.some.inj eV_125] at hP hD
              refine lv_aload_n hx hb dX4_addCrane_110 rfl (lv_at hl 1 rfl) ?_
              refine va_get (D := D) (ci := 4) (v := .ref (b 4)) (C := RX4) (T := TX4) (N := 28) hx hb hts hinX4 hown hK hP 0 rfl rfl 4 (by decide) (hts _ (List.mem_of_getElem? (i := 5) rfl)) (fun _ h9 => h9) rfl dX4_addCrane_111 ?_
              refine lv_aload_n hx hb dX4_addCrane_114 rfl (lv_at hl 1 rfl) ?_
              refine va_get (D := D) (ci := 4) (v := .int (V_124.1 0)) (C := RX4) (T := TX4) (N := 28) hx hb hts hinX4 hown hK hP 0 rfl rfl 0 (by decide) (hts _ (List.mem_of_getElem? (i := 1) rfl)) (fun _ h9 => h9) rfl dX4_addCrane_115 ?_
              refine lv_iload hx hb dX4_addCrane_118 (lv_at hl 5 rfl) ?_
              obtain ⟨g_126, h⟩ := og_some h
              refine va_iast hx hb hK hP hD hS 4 0 rfl rfl g_126 dX4_addCrane_120 (fun H locs hP hD hS => ?_)
              replace hP : va_P D xcl (rW cy b (rar V_124 4 (V_124.1 0).toNatClampNeg p4)) H := hP
              replace hD : va_D A (rW cy b (rar V_124 4 (V_124.1 0).toNatClampNeg p4)) := hD
              obtain ⟨V_127, eV_128, h⟩ := ob_some h
              rw [Option.some.inj eV_128] at hP hD
              refine lv_aload_n hx hb dX4_addCrane_121 rfl (lv_at hl 1 rfl) ?_
              refine va_get (D := D) (ci := 4) (v := .ref (b 5)) (C := RX4) (T := TX4) (N := 28) hx hb hts hinX4 hown hK hP 0 rfl rfl 5 (by decide) (hts _ (List.mem_of_getElem? (i := 6) rfl)) (fun _ h9 => h9) rfl dX4_addCrane_122 ?_
              refine lv_aload_n hx hb dX4_addCrane_125 rfl (lv_at hl 1 rfl) ?_
              refine va_get (D := D) (ci := 4) (v := .int (V_127.1 0)) (C := RX4) (T := TX4) (N := 28) hx hb hts hinX4 hown hK hP 0 rfl rfl 0 (by decide) (hts _ (List.mem_of_getElem? (i := 1) rfl)) (fun _ h9 => h9) rfl dX4_addCrane_126 ?_
              refine lv_iload hx hb dX4_addCrane_129 (lv_at hl 6 rfl) ?_
              obtain ⟨g_129, h⟩ := og_some h
              refine va_iast hx hb hK hP hD hS 5 0 rfl rfl g_129 dX4_addCrane_131 (fun H locs hP hD hS => ?_)
              replace hP : va_P D xcl (rW cy b (rar V_127 5 (V_127.1 0).toNatClampNeg p5)) H := hP
              replace hD : va_D A (rW cy b (rar V_127 5 (V_127.1 0).toNatClampNeg p5)) := hD
              obtain ⟨V_130, eV_131, h⟩ := ob_some h
              rw [Option.some.inj eV_131] at hP hD
              refine lv_aload_n hx hb dX4_addCrane_132 rfl (lv_at hl 1 rfl) ?_
              refine lv_dup hx hb dX4_addCrane_133 rfl ?_
              refine va_get (D := D) (ci := 4) (v := .int (V_130.1 0)) (C := RX4) (T := TX4) (N := 28) hx hb hts hinX4 hown hK hP 0 rfl rfl 0 (by decide) (hts _ (List.mem_of_getElem? (i := 1) rfl)) (fun _ h9 => h9) rfl dX4_addCrane_134 ?_
              refine lv_iconst (v := 1) hx hb dX4_addCrane_137 (by decide) ?_
              refine lv_iadd hx hb dX4_addCrane_138 ?_
              refine va_put (D := D) (ci := 4) (v := .int ((V_130.1 0) + 1)) (ty := .int) (C := RX4) (T := TX4) (N := 28) hx hb hts hinX4 tyX4 tyX4_ok nmX4 hown hK hP hD hS 0 rfl rfl 0 (by decide) (hts _ (List.mem_of_getElem? (i := 1) rfl)) (fun _ h9 => h9) rfl (by decide +kernel) rfl rfl (Nat.le_of_ble_eq_true rfl) dX4_addCrane_139 (fun H locs hP hD hS => ?_)
              replace hP : va_P D xcl (rW cy b (rsc V_130 0 ((V_130.1 0) + 1))) H := hP
              replace hD : va_D A (rW cy b (rsc V_130 0 ((V_130.1 0) + 1))) := hD
              obtain ⟨V_132, eV_133, h⟩ := ob_some h
              rw [Option.some.inj eV_133] at hP hD
              refine lv_aload_n hx hb dX4_addCrane_142 rfl (lv_at hl 1 rfl) ?_
              refine va_get (D := D) (ci := 4) (v := .int (V_132.1 0)) (C := RX4) (T := TX4) (N := 28) hx hb hts hinX4 hown hK hP 0 rfl rfl 0 (by decide) (hts _ (List.mem_of_getElem? (i := 1) rfl)) (fun _ h9 => h9) rfl dX4_addCrane_143 ?_
              refine lv_iconst (v := 1) hx hb dX4_addCrane_146 (by decide) ?_
              refine lv_isub hx hb dX4_addCrane_147 ?_
              have h9 := Option.some.inj h
              subst h9
              exact W.iret (v := (V_132.1 0) - 1) hx hb hr (fun t ht hW => ⟨⟨(V_132.1 0) - 1, (), rfl, rfl, ⟨by rw [ht]; exact hP, hD⟩⟩, hS.F ht⟩) hS.2.2 dX4_addCrane_148 hlocks
            · replace h := oi_f c_116 h
              refine lv_iconst (v := 0) hx hb dX4_addCrane_78 (by decide) ?_
              have h9 := Option.some.inj h
              subst h9
              exact W.iret (v := 0) hx hb hr (fun t ht hW => ⟨⟨0, (), rfl, rfl, ⟨by rw [ht]; exact hP, hD⟩⟩, hS.F ht⟩) hS.2.2 dX4_addCrane_79 hlocks
def f_X4_permitted_4 : RV → Nat → Int32 → Int32 → Int32 → Option (Int32)
  | _, 0, _, _, _ => none
  | V, fu + 1, zx1, zx2, zx3 => oi (24 ≤ zx3) (some zx2) (og (¬ (((24 * zx1) + zx3) < 0 ∨ 120 ≤ ((24 * zx1) + zx3).toNatClampNeg)) (oi ((V.2.1 6 ((24 * zx1) + zx3).toNatClampNeg) = 0) (f_X4_permitted_4 V fu zx1 (zx2 + 0) (zx3 + 1)) (f_X4_permitted_4 V fu zx1 (zx2 + 1) (zx3 + 1))))
def f_X4_permitted (V : RV) (p1 : Int32) : Option (Int32) := f_X4_permitted_4 V FU p1 0 0
theorem hd_X4_permitted : yX4_permitted.cls = RX4 ∧ yX4_permitted.cls ≠ "java/lang/invoke/MethodHandle" ∧ yX4_permitted.cls ≠ "java/lang/invoke/VarHandle" ∧ (parseMethodDescriptor yX4_permitted.desc).map (fun d => d.parameters.length) = some 1 := by decide +kernel
set_option maxHeartbeats 4000000 in
set_option maxRecDepth 100000 in
theorem k_X4_permitted_4 {p : Program} {l : Launch} {e : Env} {s : State} {m : MethodId} {args : Array Value} {below : List Frame} {meth : Method} {c : Code} {D : va_G} {cy : Nat → ClassId} {b : Nat → Nat} {V : RV} (hx : p.tables.exec = Jvm.exec) (hb : c.code = cX4_permitted) (hr : meth.sig.returnType = (some .int)) (hts : ∀ w ∈ wsX4_permitted, w.before args s = true) (hml : c.maxLocals = 4) (hown : s.vm.findClass RX4 = some m.cls) (hlocks : meth.locks = false) (hK : va_K D xcl (xty cy) s) (hP : va_P D xcl (rW cy b V) s.heap) (hD : va_D (fun _ => True) (rW cy b V)) (res : Int32) : ∀ (fu : Nat) (zx1 : Int32) (zx2 : Int32) (zx3 : Int32)  (ls : Array Slot), f_X4_permitted_4 V fu zx1 zx2 zx3 = some res → lv_has ls 4 [(0, .ref (b 0)), (1, .int zx1), (2, .int zx2), (3, .int zx3)] → W p l e ({ frames := 0, cells := 0, slots := 0, locals := 0 } : Room) s m args below meth c s.heap [] 0 0 (MQ below (vp_Si (fun r => r = res)) args s 0 0 (fun _ => False)) (F0 m 4 ls []) := by
  have hinX4 : ∀ w ∈ wsX40, w ∈ wsX4_permitted := (fun _ h => (List.mem_cons_of_mem _ (List.mem_append_right _ h)))
  intro fu
  induction fu with
  | zero =>
    intro zx1 zx2 zx3  ls h hl
    cases h
  | succ fu ih =>
    intro zx1 zx2 zx3  ls h hl
    refine lv_iload_n hx hb dX4_permitted_4 rfl (lv_at hl 3 rfl) ?_
    refine lv_bipush (v := 24) hx hb dX4_permitted_5 (by decide) ?_
    refine lv_icmp_ge (tgt := 38) hx hb dX4_permitted_7 (by decide) (fun c_1 => ?_) (fun c_1 => ?_)
    · replace h := oi_t c_1 h
      refine lv_iload_n hx hb dX4_permitted_38 rfl (lv_at hl 2 rfl) ?_
      have h9 := Option.some.inj h
      exact W.iret (v := zx2) hx hb hr (fun t ht hW => ⟨zx2, rfl, h9, ht⟩) (fun _ hq => absurd hq List.not_mem_nil) dX4_permitted_39 hlocks
    · replace h := oi_f c_1 h
      refine lv_iload_n hx hb dX4_permitted_10 rfl (lv_at hl 2 rfl) ?_
      refine lv_aload_n hx hb dX4_permitted_11 rfl (lv_at hl 0 rfl) ?_
      refine va_get (D := D) (ci := 4) (v := .ref (b 6)) (C := RX4) (T := TX4) (N := 28) hx hb hts hinX4 hown hK hP 0 rfl rfl 6 (by decide) (hts _ (List.mem_of_getElem? (i := 1) rfl)) (fun _ h9 => h9) rfl dX4_permitted_12 ?_
      refine lv_bipush (v := 24) hx hb dX4_permitted_15 (by decide) ?_
      refine lv_iload_n hx hb dX4_permitted_17 rfl (lv_at hl 1 rfl) ?_
      refine lv_imul hx hb dX4_permitted_18 ?_
      refine lv_iload_n hx hb dX4_permitted_19 rfl (lv_at hl 3 rfl) ?_
      refine lv_iadd hx hb dX4_permitted_20 ?_
      obtain ⟨g_2, h⟩ := og_some h
      refine va_zald hx hb hK hP 6 2 rfl rfl g_2 dX4_permitted_21 ?_
      refine lv_if_eq (tgt := 29) hx hb dX4_permitted_22 (by decide) (fun c_3 => ?_) (fun c_3 => ?_)
      · replace h := oi_t c_3 h
        refine lv_iconst (v := 0) hx hb dX4_permitted_29 (by decide) ?_
        refine lv_iadd hx hb dX4_permitted_30 ?_
        refine lv_istore_n (lv' := [(2, .int (zx2 + 0)), (0, .ref (b 0)), (1, .int zx1), (3, .int zx3)]) hx hb dX4_permitted_31 rfl hl (by decide) rfl (fun ls hl => ?_)
        refine lv_iinc (v := zx3 + 1) (lv' := [(3, .int (zx3 + 1)), (2, .int (zx2 + 0)), (0, .ref (b 0)), (1, .int zx1)]) hx hb dX4_permitted_32 hl (k := 3) rfl rfl (by decide) rfl (fun ls hl => ?_)
        refine lv_goto (tgt := 4) hx hb dX4_permitted_35 (by decide) ?_
        exact ih zx1 (zx2 + 0) (zx3 + 1)  ls h (lv_sub hl [2, 3, 1, 0] rfl)
      · replace h := oi_f c_3 h
        refine lv_iconst (v := 1) hx hb dX4_permitted_25 (by decide) ?_
        refine lv_goto (tgt := 30) hx hb dX4_permitted_26 (by decide) ?_
        refine lv_iadd hx hb dX4_permitted_30 ?_
        refine lv_istore_n (lv' := [(2, .int (zx2 + 1)), (0, .ref (b 0)), (1, .int zx1), (3, .int zx3)]) hx hb dX4_permitted_31 rfl hl (by decide) rfl (fun ls hl => ?_)
        refine lv_iinc (v := zx3 + 1) (lv' := [(3, .int (zx3 + 1)), (2, .int (zx2 + 1)), (0, .ref (b 0)), (1, .int zx1)]) hx hb dX4_permitted_32 hl (k := 3) rfl rfl (by decide) rfl (fun ls hl => ?_)
        refine lv_goto (tgt := 4) hx hb dX4_permitted_35 (by decide) ?_
        exact ih zx1 (zx2 + 1) (zx3 + 1)  ls h (lv_sub hl [2, 3, 1, 0] rfl)
set_option maxHeartbeats 4000000 in
set_option maxRecDepth 100000 in
theorem c_X4_permitted (l : Launch) (D : va_G) (cy : Nat → ClassId) (b : Nat → Nat) (V : RV) (p1 : Int32) {res : Int32} (h : f_X4_permitted V p1 = some res) : Met l yX4_permitted wsX4_permitted ({ frames := 0, cells := 0, slots := 0, locals := 0 } : Room) (va_Pc [.ref (b 0), .int p1] (rI D cy b V)) (vp_Si (fun r => r = res)) 0 0 (fun _ => False) := by
  refine Met.ofW (cc := cX4_permitted) (maxL := 4) (ret := (some .int)) (by decide) rfl ?_
  intro p e s m args below meth c s₁ B hml hv
  obtain ⟨rfl, hP, hK, hD⟩ := hv
  have hx := B.exec
  have hb := B.bytes
  have hr := B.returns
  have hts := atoms_spec (ws := wsX4_permitted) B.pre
  have hown : s.vm.findClass RX4 = some m.cls := findClass_of_methodNamed B.named
  have hlocks := B.notSynchronized
  have hl := lv_entry ([.ref (b 0), .int p1]) (n := 4) (Nat.le_of_ble_eq_true rfl)
  rw [lg_entry_eq]
  generalize (lg_sl ([.ref (b 0), .int p1]) ++ List.replicate (4 - (lg_sl ([.ref (b 0), .int p1])).length) Slot.unset).toArray = ls at hl ⊢
  have hl : lv_has ls 4 [(0, .ref (b 0)), (1, .int p1)] := hl
  refine lv_iconst (v := 0) hx hb dX4_permitted_0 (by decide) ?_
  refine lv_istore_n (lv' := [(2, .int 0), (0, .ref (b 0)), (1, .int p1)]) hx hb dX4_permitted_1 rfl hl (by decide) rfl (fun ls hl => ?_)
  refine lv_iconst (v := 0) hx hb dX4_permitted_2 (by decide) ?_
  refine lv_istore_n (lv' := [(3, .int 0), (2, .int 0), (0, .ref (b 0)), (1, .int p1)]) hx hb dX4_permitted_3 rfl hl (by decide) rfl (fun ls hl => ?_)
  exact k_X4_permitted_4 hx hb hr hts hml hown hlocks hK hP hD _ _ p1 0 0  ls h (lv_sub hl [2, 3, 1, 0] rfl)
def f_X4_isNoSpan (V : RV) (p1 : Int32) (p2 : Int32) (p3 : Int32) : Option (Int32 × RV) := ob (f_X4_isNoCrane V p1) (fun u_1 => oi (u_1 = 0) (ob (f_X4_in p2 0 23) (fun u_4 => oi (u_4 = 0) (ob (f_X4_fails V 2) (fun u_7 => og (u_7.1 &&& 1 = u_7.1) (some (u_7.1, u_7.2)))) (ob (f_X4_in p3 1 24) (fun u_10 => oi (u_10 = 0) (ob (f_X4_fails V 2) (fun u_13 => og (u_13.1 &&& 1 = u_13.1) (some (u_13.1, u_13.2)))) (oi ((p2 + p3) ≤ 24) (ob (f_X4_fails V 0) (fun u_17 => og (u_17.1 &&& 1 = u_17.1) (some (u_17.1, u_17.2)))) (ob (f_X4_fails V 2) (fun u_20 => og (u_20.1 &&& 1 = u_20.1) (some (u_20.1, u_20.2))))))))) (ob (f_X4_fails V 1) (fun u_23 => og (u_23.1 &&& 1 = u_23.1) (some (u_23.1, u_23.2)))))
theorem hd_X4_isNoSpan : yX4_isNoSpan.cls = RX4 ∧ yX4_isNoSpan.cls ≠ "java/lang/invoke/MethodHandle" ∧ yX4_isNoSpan.cls ≠ "java/lang/invoke/VarHandle" ∧ (parseMethodDescriptor yX4_isNoSpan.desc).map (fun d => d.parameters.length) = some 3 := by decide +kernel
set_option maxHeartbeats 4000000 in
set_option maxRecDepth 100000 in
theorem c_X4_isNoSpan (l : Launch) (D : va_G) (cy : Nat → ClassId) (b : Nat → Nat) (V : RV) (sz : Nat) (p1 : Int32) (p2 : Int32) (p3 : Int32) {res : Int32 × RV} (h : f_X4_isNoSpan V p1 p2 p3 = some res) : Met l yX4_isNoSpan wsX4_isNoSpan ({ frames := 2, cells := 0, slots := 0, locals := 43 } : Room) (va_Pc [.ref (b 0), .int p1, .int p2, .int p3] (zJ sz (rI D cy b V))) (va_Qi (fun r (_ : Unit) => r = res.1) (fun _ t => va_P D xcl (rW cy b res.2) t.heap ∧ va_D (va_A (rW cy b V) sz) (rW cy b res.2)) (va_A (rW cy b V) sz)) 0 0 (va_A (rW cy b V) sz) := by
  refine Met.ofW (cc := cX4_isNoSpan) (maxL := 4) (ret := (some .boolean)) (by decide) rfl ?_
  intro p e s m args below meth c s₁ B hml hv
  obtain ⟨rfl, hsz, hP, hK, hD0⟩ := hv
  have hx := B.exec
  have hb := B.bytes
  have hr := B.returns
  have hts := atoms_spec (ws := wsX4_isNoSpan) B.pre
  have hown : s.vm.findClass RX4 = some m.cls := findClass_of_methodNamed B.named
  have hlocks := B.notSynchronized
  subst hsz
  have hD := hD0.self (sz := s.heap.size)
  generalize hAe : va_A (rW cy b V) s.heap.size = A at hD ⊢
  have hA : ∀ q : Nat, s.heap.size ≤ q → A q := fun q h => by rw [← hAe]; exact Or.inr h
  have hS : va_S A s.heap s.heap [] := va_S.rf
  have hl := lv_entry ([.ref (b 0), .int p1, .int p2, .int p3]) (n := 4) (Nat.le_of_ble_eq_true rfl)
  rw [lg_entry_eq]
  generalize (lg_sl ([.ref (b 0), .int p1, .int p2, .int p3]) ++ List.replicate (4 - (lg_sl ([.ref (b 0), .int p1, .int p2, .int p3])).length) Slot.unset).toArray = ls at hl ⊢
  have hl : lv_has ls 4 [(0, .ref (b 0)), (1, .int p1), (2, .int p2), (3, .int p3)] := hl
  revert hP hS
  intro hP hS
  refine lv_aload_n hx hb dX4_isNoSpan_0 rfl (lv_at hl 0 rfl) ?_
  refine lv_aload_n hx hb dX4_isNoSpan_1 rfl (lv_at hl 0 rfl) ?_
  refine lv_iload_n hx hb dX4_isNoSpan_2 rfl (lv_at hl 1 rfl) ?_
  obtain ⟨u_1, hg_2, h⟩ := ob_some h
  refine zcSi (W.runV (As := [.int p1]) (rest := [.ref (b 0)]) ⟨hx, hb, hml, hown, hts⟩ (c_X4_isNoCrane l D cy b V p1 hg_2) (cwV 1 hts gX4_isNoSpan_X4_isNoCrane rfl rfl rfl hd_X4_isNoCrane ⟨Nat.le_of_ble_eq_true rfl, Nat.le_of_ble_eq_true rfl⟩) ⟨rI_blind, va_recv hK hP (ci := 4) (q0 := 0) rfl rfl, (rI_at hP hK hD)⟩ rfl rfl hl.1 rfl (lv_room (Nat.le_of_ble_eq_true rfl)) dX4_isNoSpan_3 ⟨Nat.le_of_ble_eq_true rfl, Nat.le_of_ble_eq_true rfl⟩) ?_
  refine lv_if_eq (tgt := 13) hx hb dX4_isNoSpan_6 (by decide) (fun c_3 => ?_) (fun c_3 => ?_)
  · replace h := oi_t c_3 h
    refine lv_iload_n hx hb dX4_isNoSpan_13 rfl (lv_at hl 2 rfl) ?_
    refine lv_iconst (v := 0) hx hb dX4_isNoSpan_14 (by decide) ?_
    refine lv_bipush (v := 23) hx hb dX4_isNoSpan_15 (by decide) ?_
    obtain ⟨u_4, hg_5, h⟩ := ob_some h
    refine zcSi (W.runS (As := [.int p2, .int 0, .int 23]) (rest := [.ref (b 0)]) ⟨hx, hb, hml, hown, hts⟩ (c_X4_in l p2 0 23 hg_5) (va_cwS 3 hts gX4_isNoSpan_X4_in rfl rfl rfl hd_X4_in ⟨Nat.le_of_ble_eq_true rfl, Nat.le_of_ble_eq_true rfl⟩) ⟨zT_blind, zT_at⟩ rfl rfl hl.1 rfl (lv_room (Nat.le_of_ble_eq_true rfl)) dX4_isNoSpan_17 ⟨Nat.le_of_ble_eq_true rfl, Nat.le_of_ble_eq_true rfl⟩) ?_
    refine lv_if_eq (tgt := 41) hx hb dX4_isNoSpan_20 (by decide) (fun c_6 => ?_) (fun c_6 => ?_)
    · replace h := oi_t c_6 h
      refine lv_iconst (v := 2) hx hb dX4_isNoSpan_41 (by decide) ?_
      refine lv_goto (tgt := 46) hx hb dX4_isNoSpan_42 (by decide) ?_
      obtain ⟨u_7, hg_8, h⟩ := ob_some h
      refine zcWi (va_runV (As := [.int 2]) (rest := []) ⟨hx, hb, hml, hown, hts⟩ (c_X4_fails l D cy b V _ 2 hg_8) (cwV 1 hts gX4_isNoSpan_X4_fails rfl rfl rfl hd_X4_fails ⟨Nat.le_of_ble_eq_true rfl, Nat.le_of_ble_eq_true rfl⟩) ⟨(zJ_blind rI_blind), va_recv hK hP (ci := 4) (q0 := 0) rfl rfl, (zJ_at (rI_at hP hK hD))⟩ rfl rfl hl.1 rfl (lv_room (Nat.le_of_ble_eq_true rfl)) dX4_isNoSpan_46 ⟨Nat.le_of_ble_eq_true rfl, Nat.le_of_ble_eq_true rfl⟩) hS (z_free hD hS hA) (fun H locs hP hD hS => ?_)
      obtain ⟨g_9, h⟩ := og_some h
      have h9 := Option.some.inj h
      subst h9
      exact W.zret (v := u_7.1) hx hb hr (congrArg Value.int g_9) (fun t ht hW => ⟨⟨u_7.1, (), rfl, rfl, ⟨by rw [ht]; exact hP, hD⟩⟩, hS.F ht⟩) hS.2.2 dX4_isNoSpan_49 hlocks
    · replace h := oi_f c_6 h
      refine lv_iload_n hx hb dX4_isNoSpan_23 rfl (lv_at hl 3 rfl) ?_
      refine lv_iconst (v := 1) hx hb dX4_isNoSpan_24 (by decide) ?_
      refine lv_bipush (v := 24) hx hb dX4_isNoSpan_25 (by decide) ?_
      obtain ⟨u_10, hg_11, h⟩ := ob_some h
      refine zcSi (W.runS (As := [.int p3, .int 1, .int 24]) (rest := [.ref (b 0)]) ⟨hx, hb, hml, hown, hts⟩ (c_X4_in l p3 1 24 hg_11) (va_cwS 3 hts gX4_isNoSpan_X4_in rfl rfl rfl hd_X4_in ⟨Nat.le_of_ble_eq_true rfl, Nat.le_of_ble_eq_true rfl⟩) ⟨zT_blind, zT_at⟩ rfl rfl hl.1 rfl (lv_room (Nat.le_of_ble_eq_true rfl)) dX4_isNoSpan_27 ⟨Nat.le_of_ble_eq_true rfl, Nat.le_of_ble_eq_true rfl⟩) ?_
      refine lv_if_eq (tgt := 41) hx hb dX4_isNoSpan_30 (by decide) (fun c_12 => ?_) (fun c_12 => ?_)
      · replace h := oi_t c_12 h
        refine lv_iconst (v := 2) hx hb dX4_isNoSpan_41 (by decide) ?_
        refine lv_goto (tgt := 46) hx hb dX4_isNoSpan_42 (by decide) ?_
        obtain ⟨u_13, hg_14, h⟩ := ob_some h
        refine zcWi (va_runV (As := [.int 2]) (rest := []) ⟨hx, hb, hml, hown, hts⟩ (c_X4_fails l D cy b V _ 2 hg_14) (cwV 1 hts gX4_isNoSpan_X4_fails rfl rfl rfl hd_X4_fails ⟨Nat.le_of_ble_eq_true rfl, Nat.le_of_ble_eq_true rfl⟩) ⟨(zJ_blind rI_blind), va_recv hK hP (ci := 4) (q0 := 0) rfl rfl, (zJ_at (rI_at hP hK hD))⟩ rfl rfl hl.1 rfl (lv_room (Nat.le_of_ble_eq_true rfl)) dX4_isNoSpan_46 ⟨Nat.le_of_ble_eq_true rfl, Nat.le_of_ble_eq_true rfl⟩) hS (z_free hD hS hA) (fun H locs hP hD hS => ?_)
        obtain ⟨g_15, h⟩ := og_some h
        have h9 := Option.some.inj h
        subst h9
        exact W.zret (v := u_13.1) hx hb hr (congrArg Value.int g_15) (fun t ht hW => ⟨⟨u_13.1, (), rfl, rfl, ⟨by rw [ht]; exact hP, hD⟩⟩, hS.F ht⟩) hS.2.2 dX4_isNoSpan_49 hlocks
      · replace h := oi_f c_12 h
        refine lv_iload_n hx hb dX4_isNoSpan_33 rfl (lv_at hl 2 rfl) ?_
        refine lv_iload_n hx hb dX4_isNoSpan_34 rfl (lv_at hl 3 rfl) ?_
        refine lv_iadd hx hb dX4_isNoSpan_35 ?_
        refine lv_bipush (v := 24) hx hb dX4_isNoSpan_36 (by decide) ?_
        refine lv_icmp_le (tgt := 45) hx hb dX4_isNoSpan_38 (by decide) (fun c_16 => ?_) (fun c_16 => ?_)
        · replace h := oi_t c_16 h
          refine lv_iconst (v := 0) hx hb dX4_isNoSpan_45 (by decide) ?_
          obtain ⟨u_17, hg_18, h⟩ := ob_some h
          refine zcWi (va_runV (As := [.int 0]) (rest := []) ⟨hx, hb, hml, hown, hts⟩ (c_X4_fails l D cy b V _ 0 hg_18) (cwV 1 hts gX4_isNoSpan_X4_fails rfl rfl rfl hd_X4_fails ⟨Nat.le_of_ble_eq_true rfl, Nat.le_of_ble_eq_true rfl⟩) ⟨(zJ_blind rI_blind), va_recv hK hP (ci := 4) (q0 := 0) rfl rfl, (zJ_at (rI_at hP hK hD))⟩ rfl rfl hl.1 rfl (lv_room (Nat.le_of_ble_eq_true rfl)) dX4_isNoSpan_46 ⟨Nat.le_of_ble_eq_true rfl, Nat.le_of_ble_eq_true rfl⟩) hS (z_free hD hS hA) (fun H locs hP hD hS => ?_)
          obtain ⟨g_19, h⟩ := og_some h
          have h9 := Option.some.inj h
          subst h9
          exact W.zret (v := u_17.1) hx hb hr (congrArg Value.int g_19) (fun t ht hW => ⟨⟨u_17.1, (), rfl, rfl, ⟨by rw [ht]; exact hP, hD⟩⟩, hS.F ht⟩) hS.2.2 dX4_isNoSpan_49 hlocks
        · replace h := oi_f c_16 h
          refine lv_iconst (v := 2) hx hb dX4_isNoSpan_41 (by decide) ?_
          refine lv_goto (tgt := 46) hx hb dX4_isNoSpan_42 (by decide) ?_
          obtain ⟨u_20, hg_21, h⟩ := ob_some h
          refine zcWi (va_runV (As := [.int 2]) (rest := []) ⟨hx, hb, hml, hown, hts⟩ (c_X4_fails l D cy b V _ 2 hg_21) (cwV 1 hts gX4_isNoSpan_X4_fails rfl rfl rfl hd_X4_fails ⟨Nat.le_of_ble_eq_true rfl, Nat.le_of_ble_eq_true rfl⟩) ⟨(zJ_blind rI_blind), va_recv hK hP (ci := 4) (q0 := 0) rfl rfl, (zJ_at (rI_at hP hK hD))⟩ rfl rfl hl.1 rfl (lv_room (Nat.le_of_ble_eq_true rfl)) dX4_isNoSpan_46 ⟨Nat.le_of_ble_eq_true rfl, Nat.le_of_ble_eq_true rfl⟩) hS (z_free hD hS hA) (fun H locs hP hD hS => ?_)
          obtain ⟨g_22, h⟩ := og_some h
          have h9 := Option.some.inj h
          subst h9
          exact W.zret (v := u_20.1) hx hb hr (congrArg Value.int g_22) (fun t ht hW => ⟨⟨u_20.1, (), rfl, rfl, ⟨by rw [ht]; exact hP, hD⟩⟩, hS.F ht⟩) hS.2.2 dX4_isNoSpan_49 hlocks
  · replace h := oi_f c_3 h
    refine lv_iconst (v := 1) hx hb dX4_isNoSpan_9 (by decide) ?_
    refine lv_goto (tgt := 46) hx hb dX4_isNoSpan_10 (by decide) ?_
    obtain ⟨u_23, hg_24, h⟩ := ob_some h
    refine zcWi (va_runV (As := [.int 1]) (rest := []) ⟨hx, hb, hml, hown, hts⟩ (c_X4_fails l D cy b V _ 1 hg_24) (cwV 1 hts gX4_isNoSpan_X4_fails rfl rfl rfl hd_X4_fails ⟨Nat.le_of_ble_eq_true rfl, Nat.le_of_ble_eq_true rfl⟩) ⟨(zJ_blind rI_blind), va_recv hK hP (ci := 4) (q0 := 0) rfl rfl, (zJ_at (rI_at hP hK hD))⟩ rfl rfl hl.1 rfl (lv_room (Nat.le_of_ble_eq_true rfl)) dX4_isNoSpan_46 ⟨Nat.le_of_ble_eq_true rfl, Nat.le_of_ble_eq_true rfl⟩) hS (z_free hD hS hA) (fun H locs hP hD hS => ?_)
    obtain ⟨g_25, h⟩ := og_some h
    have h9 := Option.some.inj h
    subst h9
    exact W.zret (v := u_23.1) hx hb hr (congrArg Value.int g_25) (fun t ht hW => ⟨⟨u_23.1, (), rfl, rfl, ⟨by rw [ht]; exact hP, hD⟩⟩, hS.F ht⟩) hS.2.2 dX4_isNoSpan_49 hlocks
def f_X4_permit_15 : RV → Nat → Int32 → Int32 → Int32 → Int32 → Option (Int32 × RV)
  | _, 0, _, _, _, _ => none
  | V, fu + 1, zx1, zx2, zx3, zx4 => oi ((zx2 + zx3) ≤ zx4) (ob (f_X4_permitted V zx1) (fun u_5 => some (u_5, V))) (og (¬ (((24 * zx1) + zx4) < 0 ∨ 120 ≤ ((24 * zx1) + zx4).toNatClampNeg)) (ob (some (rar V 6 ((24 * zx1) + zx4).toNatClampNeg (vp_nar .boolean 1))) (fun V_8 => f_X4_permit_15 V_8 fu zx1 zx2 zx3 (zx4 + 1))))
def f_X4_permit (V : RV) (p1 : Int32) (p2 : Int32) (p3 : Int32) : Option (Int32 × RV) := ob (f_X4_isNoSpan V p1 p2 p3) (fun u_1 => oi (u_1.1 = 0) (f_X4_permit_15 u_1.2 FU p1 p2 p3 p2) (some (0, u_1.2)))
theorem hd_X4_permit : yX4_permit.cls = RX4 ∧ yX4_permit.cls ≠ "java/lang/invoke/MethodHandle" ∧ yX4_permit.cls ≠ "java/lang/invoke/VarHandle" ∧ (parseMethodDescriptor yX4_permit.desc).map (fun d => d.parameters.length) = some 3 := by decide +kernel
set_option maxHeartbeats 4000000 in
set_option maxRecDepth 100000 in
theorem k_X4_permit_15 {p : Program} {l : Launch} {e : Env} {s : State} {m : MethodId} {args : Array Value} {below : List Frame} {meth : Method} {c : Code} {D : va_G} {cy : Nat → ClassId} {b : Nat → Nat} {A : Nat → Prop} (hx : p.tables.exec = Jvm.exec) (hb : c.code = cX4_permit) (hr : meth.sig.returnType = (some .int)) (hts : ∀ w ∈ wsX4_permit, w.before args s = true) (hml : c.maxLocals = 5) (hown : s.vm.findClass RX4 = some m.cls) (hlocks : meth.locks = false) (hK : va_K D xcl (xty cy) s) (hA : ∀ q, s.heap.size ≤ q → A q) (res : Int32 × RV) : ∀ (fu : Nat) (zx1 : Int32) (zx2 : Int32) (zx3 : Int32) (zx4 : Int32) (V : RV) (H : Heap) (locs : List Loc)  (ls : Array Slot), f_X4_permit_15 V fu zx1 zx2 zx3 zx4 = some res → va_P D xcl (rW cy b V) H → va_D A (rW cy b V) → va_S A s.heap H locs → lv_has ls 5 [(0, .ref (b 0)), (1, .int zx1), (2, .int zx2), (3, .int zx3), (4, .int zx4)] → W p l e ({ frames := 3, cells := 0, slots := 0, locals := 66 } : Room) s m args below meth c H locs 0 0 (MQ below (va_Qi (fun r (_ : Unit) => r = res.1) (fun _ t => va_P D xcl (rW cy b res.2) t.heap ∧ va_D A (rW cy b res.2)) A) args s 0 0 (A)) (F0 m 15 ls []) := by
  have hinX4 : ∀ w ∈ wsX40, w ∈ wsX4_permit := (fun _ h => (List.mem_cons_of_mem _ (List.mem_append_right _ h)))
  intro fu
  induction fu with
  | zero =>
    intro zx1 zx2 zx3 zx4 V H locs  ls h hP hD hS hl
    cases h
  | succ fu ih =>
    intro zx1 zx2 zx3 zx4 V H locs  ls h hP hD hS hl
    refine lv_iload hx hb dX4_permit_15 (lv_at hl 4 rfl) ?_
    refine lv_iload_n hx hb dX4_permit_17 rfl (lv_at hl 2 rfl) ?_
    refine lv_iload_n hx hb dX4_permit_18 rfl (lv_at hl 3 rfl) ?_
    refine lv_iadd hx hb dX4_permit_19 ?_
    refine lv_icmp_ge (tgt := 42) hx hb dX4_permit_20 (by decide) (fun c_4 => ?_) (fun c_4 => ?_)
    · replace h := oi_t c_4 h
      refine lv_aload_n hx hb dX4_permit_42 rfl (lv_at hl 0 rfl) ?_
      refine lv_iload_n hx hb dX4_permit_43 rfl (lv_at hl 1 rfl) ?_
      obtain ⟨u_5, hg_6, h⟩ := ob_some h
      refine zcSi (W.runV (As := [.int zx1]) (rest := []) ⟨hx, hb, hml, hown, hts⟩ (c_X4_permitted l D cy b V zx1 hg_6) (cwV 1 hts gX4_permit_X4_permitted rfl rfl rfl hd_X4_permitted ⟨Nat.le_of_ble_eq_true rfl, Nat.le_of_ble_eq_true rfl⟩) ⟨rI_blind, va_recv hK hP (ci := 4) (q0 := 0) rfl rfl, (rI_at hP hK hD)⟩ rfl rfl hl.1 rfl (lv_room (Nat.le_of_ble_eq_true rfl)) dX4_permit_44 ⟨Nat.le_of_ble_eq_true rfl, Nat.le_of_ble_eq_true rfl⟩) ?_
      have h9 := Option.some.inj h
      subst h9
      exact W.iret (v := u_5) hx hb hr (fun t ht hW => ⟨⟨u_5, (), rfl, rfl, ⟨by rw [ht]; exact hP, hD⟩⟩, hS.F ht⟩) hS.2.2 dX4_permit_47 hlocks
    · replace h := oi_f c_4 h
      refine lv_aload_n hx hb dX4_permit_23 rfl (lv_at hl 0 rfl) ?_
      refine va_get (D := D) (ci := 4) (v := .ref (b 6)) (C := RX4) (T := TX4) (N := 28) hx hb hts hinX4 hown hK hP 0 rfl rfl 6 (by decide) (hts _ (List.mem_of_getElem? (i := 1) rfl)) (fun _ h9 => h9) rfl dX4_permit_24 ?_
      refine lv_bipush (v := 24) hx hb dX4_permit_27 (by decide) ?_
      refine lv_iload_n hx hb dX4_permit_29 rfl (lv_at hl 1 rfl) ?_
      refine lv_imul hx hb dX4_permit_30 ?_
      refine lv_iload hx hb dX4_permit_31 (lv_at hl 4 rfl) ?_
      refine lv_iadd hx hb dX4_permit_33 ?_
      refine lv_iconst (v := 1) hx hb dX4_permit_34 (by decide) ?_
      obtain ⟨g_7, h⟩ := og_some h
      refine va_zast hx hb hK hP hD hS 6 2 rfl rfl g_7 dX4_permit_35 (fun H locs hP hD hS => ?_)
      replace hP : va_P D xcl (rW cy b (rar V 6 ((24 * zx1) + zx4).toNatClampNeg (vp_nar .boolean 1))) H := hP
      replace hD : va_D A (rW cy b (rar V 6 ((24 * zx1) + zx4).toNatClampNeg (vp_nar .boolean 1))) := hD
      obtain ⟨V_8, eV_9, h⟩ := ob_some h
      rw [Option.some.inj eV_9] at hP hD
      refine lv_iinc (v := zx4 + 1) (lv' := [(4, .int (zx4 + 1)), (0, .ref (b 0)), (1, .int zx1), (2, .int zx2), (3, .int zx3)]) hx hb dX4_permit_36 hl (k := 4) rfl rfl (by decide) rfl (fun ls hl => ?_)
      refine lv_goto (tgt := 15) hx hb dX4_permit_39 (by decide) ?_
      exact ih zx1 zx2 zx3 (zx4 + 1) _ _ _  ls h hP hD hS (lv_sub hl [1, 2, 3, 4, 0] rfl)
set_option maxHeartbeats 4000000 in
set_option maxRecDepth 100000 in
theorem c_X4_permit (l : Launch) (D : va_G) (cy : Nat → ClassId) (b : Nat → Nat) (V : RV) (sz : Nat) (p1 : Int32) (p2 : Int32) (p3 : Int32) {res : Int32 × RV} (h : f_X4_permit V p1 p2 p3 = some res) : Met l yX4_permit wsX4_permit ({ frames := 3, cells := 0, slots := 0, locals := 66 } : Room) (va_Pc [.ref (b 0), .int p1, .int p2, .int p3] (zJ sz (rI D cy b V))) (va_Qi (fun r (_ : Unit) => r = res.1) (fun _ t => va_P D xcl (rW cy b res.2) t.heap ∧ va_D (va_A (rW cy b V) sz) (rW cy b res.2)) (va_A (rW cy b V) sz)) 0 0 (va_A (rW cy b V) sz) := by
  refine Met.ofW (cc := cX4_permit) (maxL := 5) (ret := (some .int)) (by decide) rfl ?_
  intro p e s m args below meth c s₁ B hml hv
  obtain ⟨rfl, hsz, hP, hK, hD0⟩ := hv
  have hx := B.exec
  have hb := B.bytes
  have hr := B.returns
  have hts := atoms_spec (ws := wsX4_permit) B.pre
  have hown : s.vm.findClass RX4 = some m.cls := findClass_of_methodNamed B.named
  have hlocks := B.notSynchronized
  subst hsz
  have hD := hD0.self (sz := s.heap.size)
  generalize hAe : va_A (rW cy b V) s.heap.size = A at hD ⊢
  have hA : ∀ q : Nat, s.heap.size ≤ q → A q := fun q h => by rw [← hAe]; exact Or.inr h
  have hS : va_S A s.heap s.heap [] := va_S.rf
  have hl := lv_entry ([.ref (b 0), .int p1, .int p2, .int p3]) (n := 5) (Nat.le_of_ble_eq_true rfl)
  rw [lg_entry_eq]
  generalize (lg_sl ([.ref (b 0), .int p1, .int p2, .int p3]) ++ List.replicate (5 - (lg_sl ([.ref (b 0), .int p1, .int p2, .int p3])).length) Slot.unset).toArray = ls at hl ⊢
  have hl : lv_has ls 5 [(0, .ref (b 0)), (1, .int p1), (2, .int p2), (3, .int p3)] := hl
  revert hP hS
  intro hP hS
  refine lv_aload_n hx hb dX4_permit_0 rfl (lv_at hl 0 rfl) ?_
  refine lv_iload_n hx hb dX4_permit_1 rfl (lv_at hl 1 rfl) ?_
  refine lv_iload_n hx hb dX4_permit_2 rfl (lv_at hl 2 rfl) ?_
  refine lv_iload_n hx hb dX4_permit_3 rfl (lv_at hl 3 rfl) ?_
  obtain ⟨u_1, hg_2, h⟩ := ob_some h
  refine zcWi (va_runV (As := [.int p1, .int p2, .int p3]) (rest := []) ⟨hx, hb, hml, hown, hts⟩ (c_X4_isNoSpan l D cy b V _ p1 p2 p3 hg_2) (cwV 3 hts gX4_permit_X4_isNoSpan rfl rfl rfl hd_X4_isNoSpan ⟨Nat.le_of_ble_eq_true rfl, Nat.le_of_ble_eq_true rfl⟩) ⟨(zJ_blind rI_blind), va_recv hK hP (ci := 4) (q0 := 0) rfl rfl, (zJ_at (rI_at hP hK hD))⟩ rfl rfl hl.1 rfl (lv_room (Nat.le_of_ble_eq_true rfl)) dX4_permit_4 ⟨Nat.le_of_ble_eq_true rfl, Nat.le_of_ble_eq_true rfl⟩) hS (z_free hD hS hA) (fun H locs hP hD hS => ?_)
  refine lv_if_eq (tgt := 12) hx hb dX4_permit_7 (by decide) (fun c_3 => ?_) (fun c_3 => ?_)
  · replace h := oi_t c_3 h
    refine lv_iload_n hx hb dX4_permit_12 rfl (lv_at hl 2 rfl) ?_
    refine lv_istore (lv' := [(4, .int p2), (0, .ref (b 0)), (1, .int p1), (2, .int p2), (3, .int p3)]) hx hb dX4_permit_13 hl (by decide) rfl (fun ls hl => ?_)
    exact k_X4_permit_15 hx hb hr hts hml hown hlocks hK hA _ _ p1 p2 p3 p2 _ _ _  ls h hP hD hS (lv_sub hl [1, 2, 3, 4, 0] rfl)
  · replace h := oi_f c_3 h
    refine lv_iconst (v := 0) hx hb dX4_permit_10 (by decide) ?_
    have h9 := Option.some.inj h
    subst h9
    exact W.iret (v := 0) hx hb hr (fun t ht hW => ⟨⟨0, (), rfl, rfl, ⟨by rw [ht]; exact hP, hD⟩⟩, hS.F ht⟩) hS.2.2 dX4_permit_11 hlocks
def f_X4_away (V : RV) (p1 : Int32) (p2 : Int32) (p3 : Int32) : Option (Int32) := og (¬ (p1 < 0 ∨ 5 ≤ (p1).toNatClampNeg)) (og (¬ (p1 < 0 ∨ 5 ≤ (p1).toNatClampNeg)) (og (¬ (p1 < 0 ∨ 5 ≤ (p1).toNatClampNeg)) (og (¬ (p1 < 0 ∨ 5 ≤ (p1).toNatClampNeg)) (ob (some ((((V.2.1 1 (p1).toNatClampNeg) - p2) * ((V.2.1 1 (p1).toNatClampNeg) - p2)) + (((V.2.1 2 (p1).toNatClampNeg) - p3) * ((V.2.1 2 (p1).toNatClampNeg) - p3)))) (fun x_5 => some x_5)))))
theorem hd_X4_away : yX4_away.cls = RX4 ∧ yX4_away.cls ≠ "java/lang/invoke/MethodHandle" ∧ yX4_away.cls ≠ "java/lang/invoke/VarHandle" ∧ (parseMethodDescriptor yX4_away.desc).map (fun d => d.parameters.length) = some 3 := by decide +kernel
set_option maxHeartbeats 4000000 in
set_option maxRecDepth 100000 in
theorem c_X4_away (l : Launch) (D : va_G) (cy : Nat → ClassId) (b : Nat → Nat) (V : RV) (p1 : Int32) (p2 : Int32) (p3 : Int32) {res : Int32} (h : f_X4_away V p1 p2 p3 = some res) : Met l yX4_away wsX4_away ({ frames := 0, cells := 0, slots := 0, locals := 0 } : Room) (va_Pc [.ref (b 0), .int p1, .int p2, .int p3] (rI D cy b V)) (vp_Si (fun r => r = res)) 0 0 (fun _ => False) := by
  refine Met.ofW (cc := cX4_away) (maxL := 4) (ret := (some .int)) (by decide) rfl ?_
  intro p e s m args below meth c s₁ B hml hv
  obtain ⟨rfl, hP, hK, hD⟩ := hv
  have hx := B.exec
  have hb := B.bytes
  have hr := B.returns
  have hts := atoms_spec (ws := wsX4_away) B.pre
  have hown : s.vm.findClass RX4 = some m.cls := findClass_of_methodNamed B.named
  have hlocks := B.notSynchronized
  have hl := lv_entry ([.ref (b 0), .int p1, .int p2, .int p3]) (n := 4) (Nat.le_of_ble_eq_true rfl)
  rw [lg_entry_eq]
  generalize (lg_sl ([.ref (b 0), .int p1, .int p2, .int p3]) ++ List.replicate (4 - (lg_sl ([.ref (b 0), .int p1, .int p2, .int p3])).length) Slot.unset).toArray = ls at hl ⊢
  have hl : lv_has ls 4 [(0, .ref (b 0)), (1, .int p1), (2, .int p2), (3, .int p3)] := hl
  have hinX4 : ∀ w ∈ wsX40, w ∈ wsX4_away := (fun _ h => (List.mem_cons_of_mem _ (List.mem_append_right _ h)))
  refine lv_aload_n hx hb dX4_away_0 rfl (lv_at hl 0 rfl) ?_
  refine va_get (D := D) (ci := 4) (v := .ref (b 1)) (C := RX4) (T := TX4) (N := 28) hx hb hts hinX4 hown hK hP 0 rfl rfl 1 (by decide) (hts _ (List.mem_of_getElem? (i := 1) rfl)) (fun _ h9 => h9) rfl dX4_away_1 ?_
  refine lv_iload_n hx hb dX4_away_4 rfl (lv_at hl 1 rfl) ?_
  obtain ⟨g_1, h⟩ := og_some h
  refine va_iald hx hb hK hP 1 0 rfl rfl g_1 dX4_away_5 ?_
  refine lv_iload_n hx hb dX4_away_6 rfl (lv_at hl 2 rfl) ?_
  refine lv_isub hx hb dX4_away_7 ?_
  refine lv_aload_n hx hb dX4_away_8 rfl (lv_at hl 0 rfl) ?_
  refine va_get (D := D) (ci := 4) (v := .ref (b 1)) (C := RX4) (T := TX4) (N := 28) hx hb hts hinX4 hown hK hP 0 rfl rfl 1 (by decide) (hts _ (List.mem_of_getElem? (i := 1) rfl)) (fun _ h9 => h9) rfl dX4_away_9 ?_
  refine lv_iload_n hx hb dX4_away_12 rfl (lv_at hl 1 rfl) ?_
  obtain ⟨g_2, h⟩ := og_some h
  refine va_iald hx hb hK hP 1 0 rfl rfl g_2 dX4_away_13 ?_
  refine lv_iload_n hx hb dX4_away_14 rfl (lv_at hl 2 rfl) ?_
  refine lv_isub hx hb dX4_away_15 ?_
  refine lv_imul hx hb dX4_away_16 ?_
  refine lv_aload_n hx hb dX4_away_17 rfl (lv_at hl 0 rfl) ?_
  refine va_get (D := D) (ci := 4) (v := .ref (b 2)) (C := RX4) (T := TX4) (N := 28) hx hb hts hinX4 hown hK hP 0 rfl rfl 2 (by decide) (hts _ (List.mem_of_getElem? (i := 2) rfl)) (fun _ h9 => h9) rfl dX4_away_18 ?_
  refine lv_iload_n hx hb dX4_away_21 rfl (lv_at hl 1 rfl) ?_
  obtain ⟨g_3, h⟩ := og_some h
  refine va_iald hx hb hK hP 2 0 rfl rfl g_3 dX4_away_22 ?_
  refine lv_iload_n hx hb dX4_away_23 rfl (lv_at hl 3 rfl) ?_
  refine lv_isub hx hb dX4_away_24 ?_
  refine lv_aload_n hx hb dX4_away_25 rfl (lv_at hl 0 rfl) ?_
  refine va_get (D := D) (ci := 4) (v := .ref (b 2)) (C := RX4) (T := TX4) (N := 28) hx hb hts hinX4 hown hK hP 0 rfl rfl 2 (by decide) (hts _ (List.mem_of_getElem? (i := 2) rfl)) (fun _ h9 => h9) rfl dX4_away_26 ?_
  refine lv_iload_n hx hb dX4_away_29 rfl (lv_at hl 1 rfl) ?_
  obtain ⟨g_4, h⟩ := og_some h
  refine va_iald hx hb hK hP 2 0 rfl rfl g_4 dX4_away_30 ?_
  refine lv_iload_n hx hb dX4_away_31 rfl (lv_at hl 3 rfl) ?_
  refine lv_isub hx hb dX4_away_32 ?_
  refine lv_imul hx hb dX4_away_33 ?_
  refine lv_iadd hx hb dX4_away_34 ?_
  obtain ⟨x_5, ex_6, h⟩ := ob_some h
  refine W.eq (g2 := F0 m 35 ls [.int x_5]) (by rw [← Option.some.inj ex_6]) ?_
  have h9 := Option.some.inj h
  exact W.iret (v := x_5) hx hb hr (fun t ht hW => ⟨x_5, rfl, h9, ht⟩) (fun _ hq => absurd hq List.not_mem_nil) dX4_away_35 hlocks
def f_X4_limitAt_14 : RV → Nat → Int32 → Int32 → Int32 → Int32 → Option (Int32)
  | _, 0, _, _, _, _ => none
  | V, fu + 1, zx1, zx2, zx3, zx4 => ob (f_X4_away V zx1 zx2 zx3) (fun u_2 => oi (u_2 ≤ (zx4 * zx4)) (og (¬ (zx1 < 0 ∨ 5 ≤ (zx1).toNatClampNeg)) (og (¬ zx4 = 0) (og (¬ (zx1 < 0 ∨ 5 ≤ (zx1).toNatClampNeg)) (oi ((V.2.1 4 (zx1).toNatClampNeg) ≤ ((V.2.1 5 (zx1).toNatClampNeg) / zx4)) (og (¬ (zx1 < 0 ∨ 5 ≤ (zx1).toNatClampNeg)) (some (((V.2.1 4 (zx1).toNatClampNeg) * (100 - (3 * (V.1 26)))) / 100))) (og (¬ (zx1 < 0 ∨ 5 ≤ (zx1).toNatClampNeg)) (og (¬ zx4 = 0) (some ((((V.2.1 5 (zx1).toNatClampNeg) / zx4) * (100 - (3 * (V.1 26)))) / 100)))))))) (f_X4_limitAt_14 V fu zx1 zx2 zx3 (zx4 + 1)))
def f_X4_limitAt (V : RV) (p1 : Int32) (p2 : Int32) (p3 : Int32) : Option (Int32) := oi ((V.1 26) ≤ 20) (f_X4_limitAt_14 V FU p1 p2 p3 1) (some 0)
theorem hd_X4_limitAt : yX4_limitAt.cls = RX4 ∧ yX4_limitAt.cls ≠ "java/lang/invoke/MethodHandle" ∧ yX4_limitAt.cls ≠ "java/lang/invoke/VarHandle" ∧ (parseMethodDescriptor yX4_limitAt.desc).map (fun d => d.parameters.length) = some 3 := by decide +kernel
set_option maxHeartbeats 4000000 in
set_option maxRecDepth 100000 in
theorem k_X4_limitAt_14 {p : Program} {l : Launch} {e : Env} {s : State} {m : MethodId} {args : Array Value} {below : List Frame} {meth : Method} {c : Code} {D : va_G} {cy : Nat → ClassId} {b : Nat → Nat} {V : RV} (hx : p.tables.exec = Jvm.exec) (hb : c.code = cX4_limitAt) (hr : meth.sig.returnType = (some .int)) (hts : ∀ w ∈ wsX4_limitAt, w.before args s = true) (hml : c.maxLocals = 6) (hown : s.vm.findClass RX4 = some m.cls) (hlocks : meth.locks = false) (hK : va_K D xcl (xty cy) s) (hP : va_P D xcl (rW cy b V) s.heap) (hD : va_D (fun _ => True) (rW cy b V)) (res : Int32) : ∀ (fu : Nat) (zx1 : Int32) (zx2 : Int32) (zx3 : Int32) (zx4 : Int32)  (ls : Array Slot), f_X4_limitAt_14 V fu zx1 zx2 zx3 zx4 = some res → lv_has ls 6 [(0, .ref (b 0)), (1, .int zx1), (2, .int zx2), (3, .int zx3), (4, .int zx4)] → W p l e ({ frames := 1, cells := 0, slots := 0, locals := 23 } : Room) s m args below meth c s.heap [] 0 0 (MQ below (vp_Si (fun r => r = res)) args s 0 0 (fun _ => False)) (F0 m 14 ls []) := by
  have hinX4 : ∀ w ∈ wsX40, w ∈ wsX4_limitAt := (fun _ h => (List.mem_cons_of_mem _ (List.mem_append_left _ (List.mem_append_right _ h))))
  intro fu
  induction fu with
  | zero =>
    intro zx1 zx2 zx3 zx4  ls h hl
    cases h
  | succ fu ih =>
    intro zx1 zx2 zx3 zx4  ls h hl
    refine lv_iload hx hb dX4_limitAt_14 (lv_at hl 4 rfl) ?_
    refine lv_iload hx hb dX4_limitAt_16 (lv_at hl 4 rfl) ?_
    refine lv_imul hx hb dX4_limitAt_18 ?_
    refine lv_aload_n hx hb dX4_limitAt_19 rfl (lv_at hl 0 rfl) ?_
    refine lv_iload_n hx hb dX4_limitAt_20 rfl (lv_at hl 1 rfl) ?_
    refine lv_iload_n hx hb dX4_limitAt_21 rfl (lv_at hl 2 rfl) ?_
    refine lv_iload_n hx hb dX4_limitAt_22 rfl (lv_at hl 3 rfl) ?_
    obtain ⟨u_2, hg_3, h⟩ := ob_some h
    refine zcSi (W.runV (As := [.int zx1, .int zx2, .int zx3]) (rest := [.int (zx4 * zx4)]) ⟨hx, hb, hml, hown, hts⟩ (c_X4_away l D cy b V zx1 zx2 zx3 hg_3) (cwV 3 hts gX4_limitAt_X4_away rfl rfl rfl hd_X4_away ⟨Nat.le_of_ble_eq_true rfl, Nat.le_of_ble_eq_true rfl⟩) ⟨rI_blind, va_recv hK hP (ci := 4) (q0 := 0) rfl rfl, (rI_at hP hK hD)⟩ rfl rfl hl.1 rfl (lv_room (Nat.le_of_ble_eq_true rfl)) dX4_limitAt_23 ⟨Nat.le_of_ble_eq_true rfl, Nat.le_of_ble_eq_true rfl⟩) ?_
    refine lv_icmp_ge (tgt := 35) hx hb dX4_limitAt_26 (by decide) (fun c_4 => ?_) (fun c_4 => ?_)
    · replace h := oi_t c_4 h
      refine lv_aload_n hx hb dX4_limitAt_35 rfl (lv_at hl 0 rfl) ?_
      refine va_get (D := D) (ci := 4) (v := .ref (b 5)) (C := RX4) (T := TX4) (N := 28) hx hb hts hinX4 hown hK hP 0 rfl rfl 5 (by decide) (hts _ (List.mem_of_getElem? (i := 2) rfl)) (fun _ h9 => h9) rfl dX4_limitAt_36 ?_
      refine lv_iload_n hx hb dX4_limitAt_39 rfl (lv_at hl 1 rfl) ?_
      obtain ⟨g_5, h⟩ := og_some h
      refine va_iald hx hb hK hP 5 0 rfl rfl g_5 dX4_limitAt_40 ?_
      refine lv_iload hx hb dX4_limitAt_41 (lv_at hl 4 rfl) ?_
      obtain ⟨g_6, h⟩ := og_some h
      refine lv_idiv hx hb dX4_limitAt_43 g_6 ?_
      refine lv_aload_n hx hb dX4_limitAt_44 rfl (lv_at hl 0 rfl) ?_
      refine va_get (D := D) (ci := 4) (v := .ref (b 4)) (C := RX4) (T := TX4) (N := 28) hx hb hts hinX4 hown hK hP 0 rfl rfl 4 (by decide) (hts _ (List.mem_of_getElem? (i := 3) rfl)) (fun _ h9 => h9) rfl dX4_limitAt_45 ?_
      refine lv_iload_n hx hb dX4_limitAt_48 rfl (lv_at hl 1 rfl) ?_
      obtain ⟨g_7, h⟩ := og_some h
      refine va_iald hx hb hK hP 4 0 rfl rfl g_7 dX4_limitAt_49 ?_
      refine lv_icmp_ge (tgt := 65) hx hb dX4_limitAt_50 (by decide) (fun c_8 => ?_) (fun c_8 => ?_)
      · replace h := oi_t c_8 h
        refine lv_aload_n hx hb dX4_limitAt_65 rfl (lv_at hl 0 rfl) ?_
        refine va_get (D := D) (ci := 4) (v := .ref (b 4)) (C := RX4) (T := TX4) (N := 28) hx hb hts hinX4 hown hK hP 0 rfl rfl 4 (by decide) (hts _ (List.mem_of_getElem? (i := 3) rfl)) (fun _ h9 => h9) rfl dX4_limitAt_66 ?_
        refine lv_iload_n hx hb dX4_limitAt_69 rfl (lv_at hl 1 rfl) ?_
        obtain ⟨g_9, h⟩ := og_some h
        refine va_iald hx hb hK hP 4 0 rfl rfl g_9 dX4_limitAt_70 ?_
        refine lv_istore (lv' := [(5, .int (V.2.1 4 (zx1).toNatClampNeg)), (0, .ref (b 0)), (1, .int zx1), (2, .int zx2), (3, .int zx3), (4, .int zx4)]) hx hb dX4_limitAt_71 hl (by decide) rfl (fun ls hl => ?_)
        refine lv_iload hx hb dX4_limitAt_73 (lv_at hl 0 rfl) ?_
        refine lv_bipush (v := 100) hx hb dX4_limitAt_75 (by decide) ?_
        refine lv_iconst (v := 3) hx hb dX4_limitAt_77 (by decide) ?_
        refine lv_aload_n hx hb dX4_limitAt_78 rfl (lv_at hl 1 rfl) ?_
        refine va_get (D := D) (ci := 4) (v := .int (V.1 26)) (C := RX4) (T := TX4) (N := 28) hx hb hts hinX4 hown hK hP 0 rfl rfl 26 (by decide) (hts _ (List.mem_of_getElem? (i := 1) rfl)) (fun _ h9 => h9) rfl dX4_limitAt_79 ?_
        refine lv_imul hx hb dX4_limitAt_82 ?_
        refine lv_isub hx hb dX4_limitAt_83 ?_
        refine lv_imul hx hb dX4_limitAt_84 ?_
        refine lv_bipush (v := 100) hx hb dX4_limitAt_85 (by decide) ?_
        refine lv_idiv hx hb dX4_limitAt_87 (by decide) ?_
        have h9 := Option.some.inj h
        exact W.iret (v := ((V.2.1 4 (zx1).toNatClampNeg) * (100 - (3 * (V.1 26)))) / 100) hx hb hr (fun t ht hW => ⟨((V.2.1 4 (zx1).toNatClampNeg) * (100 - (3 * (V.1 26)))) / 100, rfl, h9, ht⟩) (fun _ hq => absurd hq List.not_mem_nil) dX4_limitAt_88 hlocks
      · replace h := oi_f c_8 h
        refine lv_aload_n hx hb dX4_limitAt_53 rfl (lv_at hl 0 rfl) ?_
        refine va_get (D := D) (ci := 4) (v := .ref (b 5)) (C := RX4) (T := TX4) (N := 28) hx hb hts hinX4 hown hK hP 0 rfl rfl 5 (by decide) (hts _ (List.mem_of_getElem? (i := 2) rfl)) (fun _ h9 => h9) rfl dX4_limitAt_54 ?_
        refine lv_iload_n hx hb dX4_limitAt_57 rfl (lv_at hl 1 rfl) ?_
        obtain ⟨g_10, h⟩ := og_some h
        refine va_iald hx hb hK hP 5 0 rfl rfl g_10 dX4_limitAt_58 ?_
        refine lv_iload hx hb dX4_limitAt_59 (lv_at hl 4 rfl) ?_
        obtain ⟨g_11, h⟩ := og_some h
        refine lv_idiv hx hb dX4_limitAt_61 g_11 ?_
        refine lv_goto (tgt := 71) hx hb dX4_limitAt_62 (by decide) ?_
        refine lv_istore (lv' := [(5, .int ((V.2.1 5 (zx1).toNatClampNeg) / zx4)), (0, .ref (b 0)), (1, .int zx1), (2, .int zx2), (3, .int zx3), (4, .int zx4)]) hx hb dX4_limitAt_71 hl (by decide) rfl (fun ls hl => ?_)
        refine lv_iload hx hb dX4_limitAt_73 (lv_at hl 0 rfl) ?_
        refine lv_bipush (v := 100) hx hb dX4_limitAt_75 (by decide) ?_
        refine lv_iconst (v := 3) hx hb dX4_limitAt_77 (by decide) ?_
        refine lv_aload_n hx hb dX4_limitAt_78 rfl (lv_at hl 1 rfl) ?_
        refine va_get (D := D) (ci := 4) (v := .int (V.1 26)) (C := RX4) (T := TX4) (N := 28) hx hb hts hinX4 hown hK hP 0 rfl rfl 26 (by decide) (hts _ (List.mem_of_getElem? (i := 1) rfl)) (fun _ h9 => h9) rfl dX4_limitAt_79 ?_
        refine lv_imul hx hb dX4_limitAt_82 ?_
        refine lv_isub hx hb dX4_limitAt_83 ?_
        refine lv_imul hx hb dX4_limitAt_84 ?_
        refine lv_bipush (v := 100) hx hb dX4_limitAt_85 (by decide) ?_
        refine lv_idiv hx hb dX4_limitAt_87 (by decide) ?_
        have h9 := Option.some.inj h
        exact W.iret (v := (((V.2.1 5 (zx1).toNatClampNeg) / zx4) * (100 - (3 * (V.1 26)))) / 100) hx hb hr (fun t ht hW => ⟨(((V.2.1 5 (zx1).toNatClampNeg) / zx4) * (100 - (3 * (V.1 26)))) / 100, rfl, h9, ht⟩) (fun _ hq => absurd hq List.not_mem_nil) dX4_limitAt_88 hlocks
    · replace h := oi_f c_4 h
      refine lv_iinc (v := zx4 + 1) (lv' := [(4, .int (zx4 + 1)), (0, .ref (b 0)), (1, .int zx1), (2, .int zx2), (3, .int zx3)]) hx hb dX4_limitAt_29 hl (k := 4) rfl rfl (by decide) rfl (fun ls hl => ?_)
      refine lv_goto (tgt := 14) hx hb dX4_limitAt_32 (by decide) ?_
      exact ih zx1 zx2 zx3 (zx4 + 1)  ls h (lv_sub hl [1, 2, 3, 4, 0] rfl)
set_option maxHeartbeats 4000000 in
set_option maxRecDepth 100000 in
theorem c_X4_limitAt (l : Launch) (D : va_G) (cy : Nat → ClassId) (b : Nat → Nat) (V : RV) (p1 : Int32) (p2 : Int32) (p3 : Int32) {res : Int32} (h : f_X4_limitAt V p1 p2 p3 = some res) : Met l yX4_limitAt wsX4_limitAt ({ frames := 1, cells := 0, slots := 0, locals := 23 } : Room) (va_Pc [.ref (b 0), .int p1, .int p2, .int p3] (rI D cy b V)) (vp_Si (fun r => r = res)) 0 0 (fun _ => False) := by
  refine Met.ofW (cc := cX4_limitAt) (maxL := 6) (ret := (some .int)) (by decide) rfl ?_
  intro p e s m args below meth c s₁ B hml hv
  obtain ⟨rfl, hP, hK, hD⟩ := hv
  have hx := B.exec
  have hb := B.bytes
  have hr := B.returns
  have hts := atoms_spec (ws := wsX4_limitAt) B.pre
  have hown : s.vm.findClass RX4 = some m.cls := findClass_of_methodNamed B.named
  have hlocks := B.notSynchronized
  have hl := lv_entry ([.ref (b 0), .int p1, .int p2, .int p3]) (n := 6) (Nat.le_of_ble_eq_true rfl)
  rw [lg_entry_eq]
  generalize (lg_sl ([.ref (b 0), .int p1, .int p2, .int p3]) ++ List.replicate (6 - (lg_sl ([.ref (b 0), .int p1, .int p2, .int p3])).length) Slot.unset).toArray = ls at hl ⊢
  have hl : lv_has ls 6 [(0, .ref (b 0)), (1, .int p1), (2, .int p2), (3, .int p3)] := hl
  have hinX4 : ∀ w ∈ wsX40, w ∈ wsX4_limitAt := (fun _ h => (List.mem_cons_of_mem _ (List.mem_append_left _ (List.mem_append_right _ h))))
  refine lv_aload_n hx hb dX4_limitAt_0 rfl (lv_at hl 0 rfl) ?_
  refine va_get (D := D) (ci := 4) (v := .int (V.1 26)) (C := RX4) (T := TX4) (N := 28) hx hb hts hinX4 hown hK hP 0 rfl rfl 26 (by decide) (hts _ (List.mem_of_getElem? (i := 1) rfl)) (fun _ h9 => h9) rfl dX4_limitAt_1 ?_
  refine lv_bipush (v := 20) hx hb dX4_limitAt_4 (by decide) ?_
  refine lv_icmp_le (tgt := 11) hx hb dX4_limitAt_6 (by decide) (fun c_1 => ?_) (fun c_1 => ?_)
  · replace h := oi_t c_1 h
    refine lv_iconst (v := 1) hx hb dX4_limitAt_11 (by decide) ?_
    refine lv_istore (lv' := [(4, .int 1), (0, .ref (b 0)), (1, .int p1), (2, .int p2), (3, .int p3)]) hx hb dX4_limitAt_12 hl (by decide) rfl (fun ls hl => ?_)
    exact k_X4_limitAt_14 hx hb hr hts hml hown hlocks hK hP hD _ _ p1 p2 p3 1  ls h (lv_sub hl [1, 2, 3, 4, 0] rfl)
  · replace h := oi_f c_1 h
    refine lv_iconst (v := 0) hx hb dX4_limitAt_9 (by decide) ?_
    have h9 := Option.some.inj h
    exact W.iret (v := 0) hx hb hr (fun t ht hW => ⟨0, rfl, h9, ht⟩) (fun _ hq => absurd hq List.not_mem_nil) dX4_limitAt_10 hlocks
def f_X4_isHeavy (V : RV) (p1 : Int32) (p2 : Int32) : Option (Int32) := og (¬ (p1 < 0 ∨ 40 ≤ (p1).toNatClampNeg)) (og (¬ (p1 < 0 ∨ 40 ≤ (p1).toNatClampNeg)) (og (¬ (p1 < 0 ∨ 40 ≤ (p1).toNatClampNeg)) (ob (f_X4_limitAt V p2 (V.2.1 8 (p1).toNatClampNeg) (V.2.1 9 (p1).toNatClampNeg)) (fun u_4 => oi (u_4 < (V.2.1 12 (p1).toNatClampNeg)) (some 1) (og (¬ (p1 < 0 ∨ 40 ≤ (p1).toNatClampNeg)) (og (¬ (p1 < 0 ∨ 40 ≤ (p1).toNatClampNeg)) (og (¬ (p1 < 0 ∨ 40 ≤ (p1).toNatClampNeg)) (ob (f_X4_limitAt V p2 (V.2.1 10 (p1).toNatClampNeg) (V.2.1 11 (p1).toNatClampNeg)) (fun u_10 => oi ((V.2.1 12 (p1).toNatClampNeg) ≤ u_10) (some 0) (some 1))))))))))
theorem hd_X4_isHeavy : yX4_isHeavy.cls = RX4 ∧ yX4_isHeavy.cls ≠ "java/lang/invoke/MethodHandle" ∧ yX4_isHeavy.cls ≠ "java/lang/invoke/VarHandle" ∧ (parseMethodDescriptor yX4_isHeavy.desc).map (fun d => d.parameters.length) = some 2 := by decide +kernel
set_option maxHeartbeats 4000000 in
set_option maxRecDepth 100000 in
theorem c_X4_isHeavy (l : Launch) (D : va_G) (cy : Nat → ClassId) (b : Nat → Nat) (V : RV) (p1 : Int32) (p2 : Int32) {res : Int32} (h : f_X4_isHeavy V p1 p2 = some res) : Met l yX4_isHeavy wsX4_isHeavy ({ frames := 2, cells := 0, slots := 0, locals := 48 } : Room) (va_Pc [.ref (b 0), .int p1, .int p2] (rI D cy b V)) (vp_Si (fun r => r = res)) 0 0 (fun _ => False) := by
  refine Met.ofW (cc := cX4_isHeavy) (maxL := 3) (ret := (some .boolean)) (by decide) rfl ?_
  intro p e s m args below meth c s₁ B hml hv
  obtain ⟨rfl, hP, hK, hD⟩ := hv
  have hx := B.exec
  have hb := B.bytes
  have hr := B.returns
  have hts := atoms_spec (ws := wsX4_isHeavy) B.pre
  have hown : s.vm.findClass RX4 = some m.cls := findClass_of_methodNamed B.named
  have hlocks := B.notSynchronized
  have hl := lv_entry ([.ref (b 0), .int p1, .int p2]) (n := 3) (Nat.le_of_ble_eq_true rfl)
  rw [lg_entry_eq]
  generalize (lg_sl ([.ref (b 0), .int p1, .int p2]) ++ List.replicate (3 - (lg_sl ([.ref (b 0), .int p1, .int p2])).length) Slot.unset).toArray = ls at hl ⊢
  have hl : lv_has ls 3 [(0, .ref (b 0)), (1, .int p1), (2, .int p2)] := hl
  have hinX4 : ∀ w ∈ wsX40, w ∈ wsX4_isHeavy := (fun _ h => (List.mem_cons_of_mem _ (List.mem_append_left _ (List.mem_append_right _ h))))
  refine lv_aload_n hx hb dX4_isHeavy_0 rfl (lv_at hl 0 rfl) ?_
  refine va_get (D := D) (ci := 4) (v := .ref (b 12)) (C := RX4) (T := TX4) (N := 28) hx hb hts hinX4 hown hK hP 0 rfl rfl 12 (by decide) (hts _ (List.mem_of_getElem? (i := 1) rfl)) (fun _ h9 => h9) rfl dX4_isHeavy_1 ?_
  refine lv_iload_n hx hb dX4_isHeavy_4 rfl (lv_at hl 1 rfl) ?_
  obtain ⟨g_1, h⟩ := og_some h
  refine va_iald hx hb hK hP 11 0 rfl rfl g_1 dX4_isHeavy_5 ?_
  refine lv_aload_n hx hb dX4_isHeavy_6 rfl (lv_at hl 0 rfl) ?_
  refine lv_iload_n hx hb dX4_isHeavy_7 rfl (lv_at hl 2 rfl) ?_
  refine lv_aload_n hx hb dX4_isHeavy_8 rfl (lv_at hl 0 rfl) ?_
  refine va_get (D := D) (ci := 4) (v := .ref (b 8)) (C := RX4) (T := TX4) (N := 28) hx hb hts hinX4 hown hK hP 0 rfl rfl 8 (by decide) (hts _ (List.mem_of_getElem? (i := 2) rfl)) (fun _ h9 => h9) rfl dX4_isHeavy_9 ?_
  refine lv_iload_n hx hb dX4_isHeavy_12 rfl (lv_at hl 1 rfl) ?_
  obtain ⟨g_2, h⟩ := og_some h
  refine va_iald hx hb hK hP 7 0 rfl rfl g_2 dX4_isHeavy_13 ?_
  refine lv_aload_n hx hb dX4_isHeavy_14 rfl (lv_at hl 0 rfl) ?_
  refine va_get (D := D) (ci := 4) (v := .ref (b 9)) (C := RX4) (T := TX4) (N := 28) hx hb hts hinX4 hown hK hP 0 rfl rfl 9 (by decide) (hts _ (List.mem_of_getElem? (i := 3) rfl)) (fun _ h9 => h9) rfl dX4_isHeavy_15 ?_
  refine lv_iload_n hx hb dX4_isHeavy_18 rfl (lv_at hl 1 rfl) ?_
  obtain ⟨g_3, h⟩ := og_some h
  refine va_iald hx hb hK hP 8 0 rfl rfl g_3 dX4_isHeavy_19 ?_
  obtain ⟨u_4, hg_5, h⟩ := ob_some h
  refine zcSi (W.runV (As := [.int p2, .int (V.2.1 8 (p1).toNatClampNeg), .int (V.2.1 9 (p1).toNatClampNeg)]) (rest := [.int (V.2.1 12 (p1).toNatClampNeg)]) ⟨hx, hb, hml, hown, hts⟩ (c_X4_limitAt l D cy b V p2 (V.2.1 8 (p1).toNatClampNeg) (V.2.1 9 (p1).toNatClampNeg) hg_5) (cwV 3 hts gX4_isHeavy_X4_limitAt rfl rfl rfl hd_X4_limitAt ⟨Nat.le_of_ble_eq_true rfl, Nat.le_of_ble_eq_true rfl⟩) ⟨rI_blind, va_recv hK hP (ci := 4) (q0 := 0) rfl rfl, (rI_at hP hK hD)⟩ rfl rfl hl.1 rfl (lv_room (Nat.le_of_ble_eq_true rfl)) dX4_isHeavy_20 ⟨Nat.le_of_ble_eq_true rfl, Nat.le_of_ble_eq_true rfl⟩) ?_
  refine lv_icmp_gt (tgt := 52) hx hb dX4_isHeavy_23 (by decide) (fun c_6 => ?_) (fun c_6 => ?_)
  · replace h := oi_t c_6 h
    refine lv_iconst (v := 1) hx hb dX4_isHeavy_52 (by decide) ?_
    refine lv_goto (tgt := 57) hx hb dX4_isHeavy_53 (by decide) ?_
    have h9 := Option.some.inj h
    exact W.zret (v := 1) hx hb hr (by decide) (fun t ht hW => ⟨1, rfl, h9, ht⟩) (fun _ hq => absurd hq List.not_mem_nil) dX4_isHeavy_57 hlocks
  · replace h := oi_f c_6 h
    refine lv_aload_n hx hb dX4_isHeavy_26 rfl (lv_at hl 0 rfl) ?_
    refine va_get (D := D) (ci := 4) (v := .ref (b 12)) (C := RX4) (T := TX4) (N := 28) hx hb hts hinX4 hown hK hP 0 rfl rfl 12 (by decide) (hts _ (List.mem_of_getElem? (i := 1) rfl)) (fun _ h9 => h9) rfl dX4_isHeavy_27 ?_
    refine lv_iload_n hx hb dX4_isHeavy_30 rfl (lv_at hl 1 rfl) ?_
    obtain ⟨g_7, h⟩ := og_some h
    refine va_iald hx hb hK hP 11 0 rfl rfl g_7 dX4_isHeavy_31 ?_
    refine lv_aload_n hx hb dX4_isHeavy_32 rfl (lv_at hl 0 rfl) ?_
    refine lv_iload_n hx hb dX4_isHeavy_33 rfl (lv_at hl 2 rfl) ?_
    refine lv_aload_n hx hb dX4_isHeavy_34 rfl (lv_at hl 0 rfl) ?_
    refine va_get (D := D) (ci := 4) (v := .ref (b 10)) (C := RX4) (T := TX4) (N := 28) hx hb hts hinX4 hown hK hP 0 rfl rfl 10 (by decide) (hts _ (List.mem_of_getElem? (i := 4) rfl)) (fun _ h9 => h9) rfl dX4_isHeavy_35 ?_
    refine lv_iload_n hx hb dX4_isHeavy_38 rfl (lv_at hl 1 rfl) ?_
    obtain ⟨g_8, h⟩ := og_some h
    refine va_iald hx hb hK hP 9 0 rfl rfl g_8 dX4_isHeavy_39 ?_
    refine lv_aload_n hx hb dX4_isHeavy_40 rfl (lv_at hl 0 rfl) ?_
    refine va_get (D := D) (ci := 4) (v := .ref (b 11)) (C := RX4) (T := TX4) (N := 28) hx hb hts hinX4 hown hK hP 0 rfl rfl 11 (by decide) (hts _ (List.mem_of_getElem? (i := 5) rfl)) (fun _ h9 => h9) rfl dX4_isHeavy_41 ?_
    refine lv_iload_n hx hb dX4_isHeavy_44 rfl (lv_at hl 1 rfl) ?_
    obtain ⟨g_9, h⟩ := og_some h
    refine va_iald hx hb hK hP 10 0 rfl rfl g_9 dX4_isHeavy_45 ?_
    obtain ⟨u_10, hg_11, h⟩ := ob_some h
    refine zcSi (W.runV (As := [.int p2, .int (V.2.1 10 (p1).toNatClampNeg), .int (V.2.1 11 (p1).toNatClampNeg)]) (rest := [.int (V.2.1 12 (p1).toNatClampNeg)]) ⟨hx, hb, hml, hown, hts⟩ (c_X4_limitAt l D cy b V p2 (V.2.1 10 (p1).toNatClampNeg) (V.2.1 11 (p1).toNatClampNeg) hg_11) (cwV 3 hts gX4_isHeavy_X4_limitAt rfl rfl rfl hd_X4_limitAt ⟨Nat.le_of_ble_eq_true rfl, Nat.le_of_ble_eq_true rfl⟩) ⟨rI_blind, va_recv hK hP (ci := 4) (q0 := 0) rfl rfl, (rI_at hP hK hD)⟩ rfl rfl hl.1 rfl (lv_room (Nat.le_of_ble_eq_true rfl)) dX4_isHeavy_46 ⟨Nat.le_of_ble_eq_true rfl, Nat.le_of_ble_eq_true rfl⟩) ?_
    refine lv_icmp_le (tgt := 56) hx hb dX4_isHeavy_49 (by decide) (fun c_12 => ?_) (fun c_12 => ?_)
    · replace h := oi_t c_12 h
      refine lv_iconst (v := 0) hx hb dX4_isHeavy_56 (by decide) ?_
      have h9 := Option.some.inj h
      exact W.zret (v := 0) hx hb hr (by decide) (fun t ht hW => ⟨0, rfl, h9, ht⟩) (fun _ hq => absurd hq List.not_mem_nil) dX4_isHeavy_57 hlocks
    · replace h := oi_f c_12 h
      refine lv_iconst (v := 1) hx hb dX4_isHeavy_52 (by decide) ?_
      refine lv_goto (tgt := 57) hx hb dX4_isHeavy_53 (by decide) ?_
      have h9 := Option.some.inj h
      exact W.zret (v := 1) hx hb hr (by decide) (fun t ht hW => ⟨1, rfl, h9, ht⟩) (fun _ hq => absurd hq List.not_mem_nil) dX4_isHeavy_57 hlocks
def f_X4_hasPermit_6 : RV → Nat → Int32 → Int32 → Int32 → Int32 → Option (Int32)
  | _, 0, _, _, _, _ => none
  | V, fu + 1, zx1, zx2, zx3, zx4 => oi ((((zx2 + zx3) - 1) / 60) < zx4) (some 1) (og (¬ (((24 * zx1) + zx4) < 0 ∨ 120 ≤ ((24 * zx1) + zx4).toNatClampNeg)) (oi ((V.2.1 6 ((24 * zx1) + zx4).toNatClampNeg) = 0) (some 0) (f_X4_hasPermit_6 V fu zx1 zx2 zx3 (zx4 + 1))))
def f_X4_hasPermit (V : RV) (p1 : Int32) (p2 : Int32) (p3 : Int32) : Option (Int32) := f_X4_hasPermit_6 V FU p1 p2 p3 (p2 / 60)
theorem hd_X4_hasPermit : yX4_hasPermit.cls = RX4 ∧ yX4_hasPermit.cls ≠ "java/lang/invoke/MethodHandle" ∧ yX4_hasPermit.cls ≠ "java/lang/invoke/VarHandle" ∧ (parseMethodDescriptor yX4_hasPermit.desc).map (fun d => d.parameters.length) = some 3 := by decide +kernel
set_option maxHeartbeats 4000000 in
set_option maxRecDepth 100000 in
theorem k_X4_hasPermit_6 {p : Program} {l : Launch} {e : Env} {s : State} {m : MethodId} {args : Array Value} {below : List Frame} {meth : Method} {c : Code} {D : va_G} {cy : Nat → ClassId} {b : Nat → Nat} {V : RV} (hx : p.tables.exec = Jvm.exec) (hb : c.code = cX4_hasPermit) (hr : meth.sig.returnType = (some .boolean)) (hts : ∀ w ∈ wsX4_hasPermit, w.before args s = true) (hml : c.maxLocals = 5) (hown : s.vm.findClass RX4 = some m.cls) (hlocks : meth.locks = false) (hK : va_K D xcl (xty cy) s) (hP : va_P D xcl (rW cy b V) s.heap) (hD : va_D (fun _ => True) (rW cy b V)) (res : Int32) : ∀ (fu : Nat) (zx1 : Int32) (zx2 : Int32) (zx3 : Int32) (zx4 : Int32)  (ls : Array Slot), f_X4_hasPermit_6 V fu zx1 zx2 zx3 zx4 = some res → lv_has ls 5 [(0, .ref (b 0)), (1, .int zx1), (2, .int zx2), (3, .int zx3), (4, .int zx4)] → W p l e ({ frames := 0, cells := 0, slots := 0, locals := 0 } : Room) s m args below meth c s.heap [] 0 0 (MQ below (vp_Si (fun r => r = res)) args s 0 0 (fun _ => False)) (F0 m 6 ls []) := by
  have hinX4 : ∀ w ∈ wsX40, w ∈ wsX4_hasPermit := (fun _ h => (List.mem_cons_of_mem _ (List.mem_append_right _ h)))
  intro fu
  induction fu with
  | zero =>
    intro zx1 zx2 zx3 zx4  ls h hl
    cases h
  | succ fu ih =>
    intro zx1 zx2 zx3 zx4  ls h hl
    refine lv_iload hx hb dX4_hasPermit_6 (lv_at hl 4 rfl) ?_
    refine lv_iload_n hx hb dX4_hasPermit_8 rfl (lv_at hl 2 rfl) ?_
    refine lv_iload_n hx hb dX4_hasPermit_9 rfl (lv_at hl 3 rfl) ?_
    refine lv_iadd hx hb dX4_hasPermit_10 ?_
    refine lv_iconst (v := 1) hx hb dX4_hasPermit_11 (by decide) ?_
    refine lv_isub hx hb dX4_hasPermit_12 ?_
    refine lv_bipush (v := 60) hx hb dX4_hasPermit_13 (by decide) ?_
    refine lv_idiv hx hb dX4_hasPermit_15 (by decide) ?_
    refine lv_icmp_gt (tgt := 42) hx hb dX4_hasPermit_16 (by decide) (fun c_1 => ?_) (fun c_1 => ?_)
    · replace h := oi_t c_1 h
      refine lv_iconst (v := 1) hx hb dX4_hasPermit_42 (by decide) ?_
      have h9 := Option.some.inj h
      exact W.zret (v := 1) hx hb hr (by decide) (fun t ht hW => ⟨1, rfl, h9, ht⟩) (fun _ hq => absurd hq List.not_mem_nil) dX4_hasPermit_43 hlocks
    · replace h := oi_f c_1 h
      refine lv_aload_n hx hb dX4_hasPermit_19 rfl (lv_at hl 0 rfl) ?_
      refine va_get (D := D) (ci := 4) (v := .ref (b 6)) (C := RX4) (T := TX4) (N := 28) hx hb hts hinX4 hown hK hP 0 rfl rfl 6 (by decide) (hts _ (List.mem_of_getElem? (i := 1) rfl)) (fun _ h9 => h9) rfl dX4_hasPermit_20 ?_
      refine lv_bipush (v := 24) hx hb dX4_hasPermit_23 (by decide) ?_
      refine lv_iload_n hx hb dX4_hasPermit_25 rfl (lv_at hl 1 rfl) ?_
      refine lv_imul hx hb dX4_hasPermit_26 ?_
      refine lv_iload hx hb dX4_hasPermit_27 (lv_at hl 4 rfl) ?_
      refine lv_iadd hx hb dX4_hasPermit_29 ?_
      obtain ⟨g_2, h⟩ := og_some h
      refine va_zald hx hb hK hP 6 2 rfl rfl g_2 dX4_hasPermit_30 ?_
      refine lv_if_ne (tgt := 36) hx hb dX4_hasPermit_31 (by decide) (fun c_3 => ?_) (fun c_3 => ?_)
      · replace h := oi_f c_3 h
        refine lv_iinc (v := zx4 + 1) (lv' := [(4, .int (zx4 + 1)), (0, .ref (b 0)), (1, .int zx1), (2, .int zx2), (3, .int zx3)]) hx hb dX4_hasPermit_36 hl (k := 4) rfl rfl (by decide) rfl (fun ls hl => ?_)
        refine lv_goto (tgt := 6) hx hb dX4_hasPermit_39 (by decide) ?_
        exact ih zx1 zx2 zx3 (zx4 + 1)  ls h (lv_sub hl [1, 2, 3, 4, 0] rfl)
      · replace h := oi_t c_3 h
        refine lv_iconst (v := 0) hx hb dX4_hasPermit_34 (by decide) ?_
        have h9 := Option.some.inj h
        exact W.zret (v := 0) hx hb hr (by decide) (fun t ht hW => ⟨0, rfl, h9, ht⟩) (fun _ hq => absurd hq List.not_mem_nil) dX4_hasPermit_35 hlocks
set_option maxHeartbeats 4000000 in
set_option maxRecDepth 100000 in
theorem c_X4_hasPermit (l : Launch) (D : va_G) (cy : Nat → ClassId) (b : Nat → Nat) (V : RV) (p1 : Int32) (p2 : Int32) (p3 : Int32) {res : Int32} (h : f_X4_hasPermit V p1 p2 p3 = some res) : Met l yX4_hasPermit wsX4_hasPermit ({ frames := 0, cells := 0, slots := 0, locals := 0 } : Room) (va_Pc [.ref (b 0), .int p1, .int p2, .int p3] (rI D cy b V)) (vp_Si (fun r => r = res)) 0 0 (fun _ => False) := by
  refine Met.ofW (cc := cX4_hasPermit) (maxL := 5) (ret := (some .boolean)) (by decide) rfl ?_
  intro p e s m args below meth c s₁ B hml hv
  obtain ⟨rfl, hP, hK, hD⟩ := hv
  have hx := B.exec
  have hb := B.bytes
  have hr := B.returns
  have hts := atoms_spec (ws := wsX4_hasPermit) B.pre
  have hown : s.vm.findClass RX4 = some m.cls := findClass_of_methodNamed B.named
  have hlocks := B.notSynchronized
  have hl := lv_entry ([.ref (b 0), .int p1, .int p2, .int p3]) (n := 5) (Nat.le_of_ble_eq_true rfl)
  rw [lg_entry_eq]
  generalize (lg_sl ([.ref (b 0), .int p1, .int p2, .int p3]) ++ List.replicate (5 - (lg_sl ([.ref (b 0), .int p1, .int p2, .int p3])).length) Slot.unset).toArray = ls at hl ⊢
  have hl : lv_has ls 5 [(0, .ref (b 0)), (1, .int p1), (2, .int p2), (3, .int p3)] := hl
  refine lv_iload_n hx hb dX4_hasPermit_0 rfl (lv_at hl 2 rfl) ?_
  refine lv_bipush (v := 60) hx hb dX4_hasPermit_1 (by decide) ?_
  refine lv_idiv hx hb dX4_hasPermit_3 (by decide) ?_
  refine lv_istore (lv' := [(4, .int (p2 / 60)), (0, .ref (b 0)), (1, .int p1), (2, .int p2), (3, .int p3)]) hx hb dX4_hasPermit_4 hl (by decide) rfl (fun ls hl => ?_)
  exact k_X4_hasPermit_6 hx hb hr hts hml hown hlocks hK hP hD _ _ p1 p2 p3 (p2 / 60)  ls h (lv_sub hl [1, 2, 3, 4, 0] rfl)
def f_X4_drops_4 : RV → Nat → Int32 → Int32 → Option (Int32 × RV)
  | _, 0, _, _ => none
  | V, fu + 1, zx1, zx2 => oi ((V.1 7) ≤ zx2) (some (zx1, V)) (og (¬ (zx2 < 0 ∨ 40 ≤ (zx2).toNatClampNeg)) (oi ((V.2.1 14 (zx2).toNatClampNeg) = 112) (og (¬ (zx2 < 0 ∨ 40 ≤ (zx2).toNatClampNeg)) (ob (f_X4_isHeavy V zx2 (V.2.1 15 (zx2).toNatClampNeg)) (fun u_5 => oi (u_5 = 0) (og (¬ (zx2 < 0 ∨ 40 ≤ (zx2).toNatClampNeg)) (og (¬ (zx2 < 0 ∨ 40 ≤ (zx2).toNatClampNeg)) (og (¬ (zx2 < 0 ∨ 40 ≤ (zx2).toNatClampNeg)) (ob (f_X4_hasPermit V (V.2.1 15 (zx2).toNatClampNeg) (V.2.1 16 (zx2).toNatClampNeg) (V.2.1 13 (zx2).toNatClampNeg)) (fun u_14 => oi (u_14 = 0) (og (¬ (zx2 < 0 ∨ 40 ≤ (zx2).toNatClampNeg)) (ob (some (rar V 14 (zx2).toNatClampNeg (vp_nar .char 119))) (fun V_18 => f_X4_drops_4 V_18 fu (zx1 + 1) (zx2 + 1)))) (f_X4_drops_4 V fu zx1 (zx2 + 1))))))) (og (¬ (zx2 < 0 ∨ 40 ≤ (zx2).toNatClampNeg)) (ob (some (rar V 14 (zx2).toNatClampNeg (vp_nar .char 119))) (fun V_9 => f_X4_drops_4 V_9 fu (zx1 + 1) (zx2 + 1))))))) (f_X4_drops_4 V fu zx1 (zx2 + 1))))
def f_X4_drops (V : RV)  : Option (Int32 × RV) := f_X4_drops_4 V FU 0 0
theorem hd_X4_drops : yX4_drops.cls = RX4 ∧ yX4_drops.cls ≠ "java/lang/invoke/MethodHandle" ∧ yX4_drops.cls ≠ "java/lang/invoke/VarHandle" ∧ (parseMethodDescriptor yX4_drops.desc).map (fun d => d.parameters.length) = some 0 := by decide +kernel
set_option maxHeartbeats 4000000 in
set_option maxRecDepth 100000 in
theorem k_X4_drops_4 {p : Program} {l : Launch} {e : Env} {s : State} {m : MethodId} {args : Array Value} {below : List Frame} {meth : Method} {c : Code} {D : va_G} {cy : Nat → ClassId} {b : Nat → Nat} {A : Nat → Prop} (hx : p.tables.exec = Jvm.exec) (hb : c.code = cX4_drops) (hr : meth.sig.returnType = (some .int)) (hts : ∀ w ∈ wsX4_drops, w.before args s = true) (hml : c.maxLocals = 3) (hown : s.vm.findClass RX4 = some m.cls) (hlocks : meth.locks = false) (hK : va_K D xcl (xty cy) s) (hA : ∀ q, s.heap.size ≤ q → A q) (res : Int32 × RV) : ∀ (fu : Nat) (zx1 : Int32) (zx2 : Int32) (V : RV) (H : Heap) (locs : List Loc)  (ls : Array Slot), f_X4_drops_4 V fu zx1 zx2 = some res → va_P D xcl (rW cy b V) H → va_D A (rW cy b V) → va_S A s.heap H locs → lv_has ls 3 [(0, .ref (b 0)), (1, .int zx1), (2, .int zx2)] → W p l e ({ frames := 3, cells := 0, slots := 0, locals := 70 } : Room) s m args below meth c H locs 0 0 (MQ below (va_Qi (fun r (_ : Unit) => r = res.1) (fun _ t => va_P D xcl (rW cy b res.2) t.heap ∧ va_D A (rW cy b res.2)) A) args s 0 0 (A)) (F0 m 4 ls []) := by
  have hinX4 : ∀ w ∈ wsX40, w ∈ wsX4_drops := (fun _ h => (List.mem_cons_of_mem _ (List.mem_append_left _ (List.mem_append_right _ h))))
  intro fu
  induction fu with
  | zero =>
    intro zx1 zx2 V H locs  ls h hP hD hS hl
    cases h
  | succ fu ih =>
    intro zx1 zx2 V H locs  ls h hP hD hS hl
    refine lv_iload_n hx hb dX4_drops_4 rfl (lv_at hl 2 rfl) ?_
    refine lv_aload_n hx hb dX4_drops_5 rfl (lv_at hl 0 rfl) ?_
    refine va_get (D := D) (ci := 4) (v := .int (V.1 7)) (C := RX4) (T := TX4) (N := 28) hx hb hts hinX4 hown hK hP 0 rfl rfl 7 (by decide) (hts _ (List.mem_of_getElem? (i := 1) rfl)) (fun _ h9 => h9) rfl dX4_drops_6 ?_
    refine lv_icmp_ge (tgt := 82) hx hb dX4_drops_9 (by decide) (fun c_1 => ?_) (fun c_1 => ?_)
    · replace h := oi_t c_1 h
      refine lv_iload_n hx hb dX4_drops_82 rfl (lv_at hl 1 rfl) ?_
      have h9 := Option.some.inj h
      subst h9
      exact W.iret (v := zx1) hx hb hr (fun t ht hW => ⟨⟨zx1, (), rfl, rfl, ⟨by rw [ht]; exact hP, hD⟩⟩, hS.F ht⟩) hS.2.2 dX4_drops_83 hlocks
    · replace h := oi_f c_1 h
      refine lv_aload_n hx hb dX4_drops_12 rfl (lv_at hl 0 rfl) ?_
      refine va_get (D := D) (ci := 4) (v := .ref (b 14)) (C := RX4) (T := TX4) (N := 28) hx hb hts hinX4 hown hK hP 0 rfl rfl 14 (by decide) (hts _ (List.mem_of_getElem? (i := 2) rfl)) (fun _ h9 => h9) rfl dX4_drops_13 ?_
      refine lv_iload_n hx hb dX4_drops_16 rfl (lv_at hl 2 rfl) ?_
      obtain ⟨g_2, h⟩ := og_some h
      refine va_cald hx hb hK hP 13 3 rfl rfl g_2 dX4_drops_17 ?_
      refine lv_bipush (v := 112) hx hb dX4_drops_18 (by decide) ?_
      refine lv_icmp_ne (tgt := 76) hx hb dX4_drops_20 (by decide) (fun c_3 => ?_) (fun c_3 => ?_)
      · replace h := oi_f c_3 h
        refine lv_iinc (v := zx2 + 1) (lv' := [(2, .int (zx2 + 1)), (0, .ref (b 0)), (1, .int zx1)]) hx hb dX4_drops_76 hl (k := 2) rfl rfl (by decide) rfl (fun ls hl => ?_)
        refine lv_goto (tgt := 4) hx hb dX4_drops_79 (by decide) ?_
        exact ih zx1 (zx2 + 1) _ _ _  ls h hP hD hS (lv_sub hl [1, 2, 0] rfl)
      · replace h := oi_t c_3 h
        refine lv_aload_n hx hb dX4_drops_23 rfl (lv_at hl 0 rfl) ?_
        refine lv_iload_n hx hb dX4_drops_24 rfl (lv_at hl 2 rfl) ?_
        refine lv_aload_n hx hb dX4_drops_25 rfl (lv_at hl 0 rfl) ?_
        refine va_get (D := D) (ci := 4) (v := .ref (b 15)) (C := RX4) (T := TX4) (N := 28) hx hb hts hinX4 hown hK hP 0 rfl rfl 15 (by decide) (hts _ (List.mem_of_getElem? (i := 3) rfl)) (fun _ h9 => h9) rfl dX4_drops_26 ?_
        refine lv_iload_n hx hb dX4_drops_29 rfl (lv_at hl 2 rfl) ?_
        obtain ⟨g_4, h⟩ := og_some h
        refine va_iald hx hb hK hP 14 0 rfl rfl g_4 dX4_drops_30 ?_
        obtain ⟨u_5, hg_6, h⟩ := ob_some h
        refine zcSi (W.runV (As := [.int zx2, .int (V.2.1 15 (zx2).toNatClampNeg)]) (rest := []) ⟨hx, hb, hml, hown, hts⟩ (c_X4_isHeavy l D cy b V zx2 (V.2.1 15 (zx2).toNatClampNeg) hg_6) (cwV 2 hts gX4_drops_X4_isHeavy rfl rfl rfl hd_X4_isHeavy ⟨Nat.le_of_ble_eq_true rfl, Nat.le_of_ble_eq_true rfl⟩) ⟨rI_blind, va_recv hK hP (ci := 4) (q0 := 0) rfl rfl, (rI_at hP hK hD)⟩ rfl rfl hl.1 rfl (lv_room (Nat.le_of_ble_eq_true rfl)) dX4_drops_31 ⟨Nat.le_of_ble_eq_true rfl, Nat.le_of_ble_eq_true rfl⟩) ?_
        refine lv_if_ne (tgt := 65) hx hb dX4_drops_34 (by decide) (fun c_7 => ?_) (fun c_7 => ?_)
        · replace h := oi_f c_7 h
          refine lv_aload_n hx hb dX4_drops_65 rfl (lv_at hl 0 rfl) ?_
          refine va_get (D := D) (ci := 4) (v := .ref (b 14)) (C := RX4) (T := TX4) (N := 28) hx hb hts hinX4 hown hK hP 0 rfl rfl 14 (by decide) (hts _ (List.mem_of_getElem? (i := 2) rfl)) (fun _ h9 => h9) rfl dX4_drops_66 ?_
          refine lv_iload_n hx hb dX4_drops_69 rfl (lv_at hl 2 rfl) ?_
          refine lv_bipush (v := 119) hx hb dX4_drops_70 (by decide) ?_
          obtain ⟨g_8, h⟩ := og_some h
          refine va_cast hx hb hK hP hD hS 13 3 rfl rfl g_8 dX4_drops_72 (fun H locs hP hD hS => ?_)
          replace hP : va_P D xcl (rW cy b (rar V 14 (zx2).toNatClampNeg (vp_nar .char 119))) H := hP
          replace hD : va_D A (rW cy b (rar V 14 (zx2).toNatClampNeg (vp_nar .char 119))) := hD
          obtain ⟨V_9, eV_10, h⟩ := ob_some h
          rw [Option.some.inj eV_10] at hP hD
          refine lv_iinc (v := zx1 + 1) (lv' := [(1, .int (zx1 + 1)), (0, .ref (b 0)), (2, .int zx2)]) hx hb dX4_drops_73 hl (k := 1) rfl rfl (by decide) rfl (fun ls hl => ?_)
          refine lv_iinc (v := zx2 + 1) (lv' := [(2, .int (zx2 + 1)), (1, .int (zx1 + 1)), (0, .ref (b 0))]) hx hb dX4_drops_76 hl (k := 2) rfl rfl (by decide) rfl (fun ls hl => ?_)
          refine lv_goto (tgt := 4) hx hb dX4_drops_79 (by decide) ?_
          exact ih (zx1 + 1) (zx2 + 1) _ _ _  ls h hP hD hS (lv_sub hl [2, 1, 0] rfl)
        · replace h := oi_t c_7 h
          refine lv_aload_n hx hb dX4_drops_37 rfl (lv_at hl 0 rfl) ?_
          refine lv_aload_n hx hb dX4_drops_38 rfl (lv_at hl 0 rfl) ?_
          refine va_get (D := D) (ci := 4) (v := .ref (b 15)) (C := RX4) (T := TX4) (N := 28) hx hb hts hinX4 hown hK hP 0 rfl rfl 15 (by decide) (hts _ (List.mem_of_getElem? (i := 3) rfl)) (fun _ h9 => h9) rfl dX4_drops_39 ?_
          refine lv_iload_n hx hb dX4_drops_42 rfl (lv_at hl 2 rfl) ?_
          obtain ⟨g_11, h⟩ := og_some h
          refine va_iald hx hb hK hP 14 0 rfl rfl g_11 dX4_drops_43 ?_
          refine lv_aload_n hx hb dX4_drops_44 rfl (lv_at hl 0 rfl) ?_
          refine va_get (D := D) (ci := 4) (v := .ref (b 16)) (C := RX4) (T := TX4) (N := 28) hx hb hts hinX4 hown hK hP 0 rfl rfl 16 (by decide) (hts _ (List.mem_of_getElem? (i := 4) rfl)) (fun _ h9 => h9) rfl dX4_drops_45 ?_
          refine lv_iload_n hx hb dX4_drops_48 rfl (lv_at hl 2 rfl) ?_
          obtain ⟨g_12, h⟩ := og_some h
          refine va_iald hx hb hK hP 15 0 rfl rfl g_12 dX4_drops_49 ?_
          refine lv_aload_n hx hb dX4_drops_50 rfl (lv_at hl 0 rfl) ?_
          refine va_get (D := D) (ci := 4) (v := .ref (b 13)) (C := RX4) (T := TX4) (N := 28) hx hb hts hinX4 hown hK hP 0 rfl rfl 13 (by decide) (hts _ (List.mem_of_getElem? (i := 5) rfl)) (fun _ h9 => h9) rfl dX4_drops_51 ?_
          refine lv_iload_n hx hb dX4_drops_54 rfl (lv_at hl 2 rfl) ?_
          obtain ⟨g_13, h⟩ := og_some h
          refine va_iald hx hb hK hP 12 0 rfl rfl g_13 dX4_drops_55 ?_
          obtain ⟨u_14, hg_15, h⟩ := ob_some h
          refine zcSi (W.runV (As := [.int (V.2.1 15 (zx2).toNatClampNeg), .int (V.2.1 16 (zx2).toNatClampNeg), .int (V.2.1 13 (zx2).toNatClampNeg)]) (rest := []) ⟨hx, hb, hml, hown, hts⟩ (c_X4_hasPermit l D cy b V (V.2.1 15 (zx2).toNatClampNeg) (V.2.1 16 (zx2).toNatClampNeg) (V.2.1 13 (zx2).toNatClampNeg) hg_15) (cwV 3 hts gX4_drops_X4_hasPermit rfl rfl rfl hd_X4_hasPermit ⟨Nat.le_of_ble_eq_true rfl, Nat.le_of_ble_eq_true rfl⟩) ⟨rI_blind, va_recv hK hP (ci := 4) (q0 := 0) rfl rfl, (rI_at hP hK hD)⟩ rfl rfl hl.1 rfl (lv_room (Nat.le_of_ble_eq_true rfl)) dX4_drops_56 ⟨Nat.le_of_ble_eq_true rfl, Nat.le_of_ble_eq_true rfl⟩) ?_
          refine lv_if_eq (tgt := 65) hx hb dX4_drops_59 (by decide) (fun c_16 => ?_) (fun c_16 => ?_)
          · replace h := oi_t c_16 h
            refine lv_aload_n hx hb dX4_drops_65 rfl (lv_at hl 0 rfl) ?_
            refine va_get (D := D) (ci := 4) (v := .ref (b 14)) (C := RX4) (T := TX4) (N := 28) hx hb hts hinX4 hown hK hP 0 rfl rfl 14 (by decide) (hts _ (List.mem_of_getElem? (i := 2) rfl)) (fun _ h9 => h9) rfl dX4_drops_66 ?_
            refine lv_iload_n hx hb dX4_drops_69 rfl (lv_at hl 2 rfl) ?_
            refine lv_bipush (v := 119) hx hb dX4_drops_70 (by decide) ?_
            obtain ⟨g_17, h⟩ := og_some h
            refine va_cast hx hb hK hP hD hS 13 3 rfl rfl g_17 dX4_drops_72 (fun H locs hP hD hS => ?_)
            replace hP : va_P D xcl (rW cy b (rar V 14 (zx2).toNatClampNeg (vp_nar .char 119))) H := hP
            replace hD : va_D A (rW cy b (rar V 14 (zx2).toNatClampNeg (vp_nar .char 119))) := hD
            obtain ⟨V_18, eV_19, h⟩ := ob_some h
            rw [Option.some.inj eV_19] at hP hD
            refine lv_iinc (v := zx1 + 1) (lv' := [(1, .int (zx1 + 1)), (0, .ref (b 0)), (2, .int zx2)]) hx hb dX4_drops_73 hl (k := 1) rfl rfl (by decide) rfl (fun ls hl => ?_)
            refine lv_iinc (v := zx2 + 1) (lv' := [(2, .int (zx2 + 1)), (1, .int (zx1 + 1)), (0, .ref (b 0))]) hx hb dX4_drops_76 hl (k := 2) rfl rfl (by decide) rfl (fun ls hl => ?_)
            refine lv_goto (tgt := 4) hx hb dX4_drops_79 (by decide) ?_
            exact ih (zx1 + 1) (zx2 + 1) _ _ _  ls h hP hD hS (lv_sub hl [2, 1, 0] rfl)
          · replace h := oi_f c_16 h
            refine lv_goto (tgt := 76) hx hb dX4_drops_62 (by decide) ?_
            refine lv_iinc (v := zx2 + 1) (lv' := [(2, .int (zx2 + 1)), (0, .ref (b 0)), (1, .int zx1)]) hx hb dX4_drops_76 hl (k := 2) rfl rfl (by decide) rfl (fun ls hl => ?_)
            refine lv_goto (tgt := 4) hx hb dX4_drops_79 (by decide) ?_
            exact ih zx1 (zx2 + 1) _ _ _  ls h hP hD hS (lv_sub hl [1, 2, 0] rfl)
set_option maxHeartbeats 4000000 in
set_option maxRecDepth 100000 in
theorem c_X4_drops (l : Launch) (D : va_G) (cy : Nat → ClassId) (b : Nat → Nat) (V : RV) (sz : Nat)  {res : Int32 × RV} (h : f_X4_drops V  = some res) : Met l yX4_drops wsX4_drops ({ frames := 3, cells := 0, slots := 0, locals := 70 } : Room) (va_Pc [.ref (b 0)] (zJ sz (rI D cy b V))) (va_Qi (fun r (_ : Unit) => r = res.1) (fun _ t => va_P D xcl (rW cy b res.2) t.heap ∧ va_D (va_A (rW cy b V) sz) (rW cy b res.2)) (va_A (rW cy b V) sz)) 0 0 (va_A (rW cy b V) sz) := by
  refine Met.ofW (cc := cX4_drops) (maxL := 3) (ret := (some .int)) (by decide) rfl ?_
  intro p e s m args below meth c s₁ B hml hv
  obtain ⟨rfl, hsz, hP, hK, hD0⟩ := hv
  have hx := B.exec
  have hb := B.bytes
  have hr := B.returns
  have hts := atoms_spec (ws := wsX4_drops) B.pre
  have hown : s.vm.findClass RX4 = some m.cls := findClass_of_methodNamed B.named
  have hlocks := B.notSynchronized
  subst hsz
  have hD := hD0.self (sz := s.heap.size)
  generalize hAe : va_A (rW cy b V) s.heap.size = A at hD ⊢
  have hA : ∀ q : Nat, s.heap.size ≤ q → A q := fun q h => by rw [← hAe]; exact Or.inr h
  have hS : va_S A s.heap s.heap [] := va_S.rf
  have hl := lv_entry ([.ref (b 0)]) (n := 3) (Nat.le_of_ble_eq_true rfl)
  rw [lg_entry_eq]
  generalize (lg_sl ([.ref (b 0)]) ++ List.replicate (3 - (lg_sl ([.ref (b 0)])).length) Slot.unset).toArray = ls at hl ⊢
  have hl : lv_has ls 3 [(0, .ref (b 0))] := hl
  revert hP hS
  intro hP hS
  refine lv_iconst (v := 0) hx hb dX4_drops_0 (by decide) ?_
  refine lv_istore_n (lv' := [(1, .int 0), (0, .ref (b 0))]) hx hb dX4_drops_1 rfl hl (by decide) rfl (fun ls hl => ?_)
  refine lv_iconst (v := 0) hx hb dX4_drops_2 (by decide) ?_
  refine lv_istore_n (lv' := [(2, .int 0), (1, .int 0), (0, .ref (b 0))]) hx hb dX4_drops_3 rfl hl (by decide) rfl (fun ls hl => ?_)
  exact k_X4_drops_4 hx hb hr hts hml hown hlocks hK hA _ _ 0 0 _ _ _  ls h hP hD hS (lv_sub hl [2, 1, 0] rfl)
def f_X4_endPermit_15 : RV → Nat → Int32 → Int32 → Int32 → Int32 → Option (Int32 × RV)
  | _, 0, _, _, _, _ => none
  | V, fu + 1, zx1, zx2, zx3, zx4 => oi ((zx2 + zx3) ≤ zx4) (ob (f_X4_drops V ) (fun u_5 => some (u_5.1, u_5.2))) (og (¬ (((24 * zx1) + zx4) < 0 ∨ 120 ≤ ((24 * zx1) + zx4).toNatClampNeg)) (ob (some (rar V 6 ((24 * zx1) + zx4).toNatClampNeg (vp_nar .boolean 0))) (fun V_8 => f_X4_endPermit_15 V_8 fu zx1 zx2 zx3 (zx4 + 1))))
def f_X4_endPermit (V : RV) (p1 : Int32) (p2 : Int32) (p3 : Int32) : Option (Int32 × RV) := ob (f_X4_isNoSpan V p1 p2 p3) (fun u_1 => oi (u_1.1 = 0) (f_X4_endPermit_15 u_1.2 FU p1 p2 p3 p2) (some (0, u_1.2)))
theorem hd_X4_endPermit : yX4_endPermit.cls = RX4 ∧ yX4_endPermit.cls ≠ "java/lang/invoke/MethodHandle" ∧ yX4_endPermit.cls ≠ "java/lang/invoke/VarHandle" ∧ (parseMethodDescriptor yX4_endPermit.desc).map (fun d => d.parameters.length) = some 3 := by decide +kernel
set_option maxHeartbeats 4000000 in
set_option maxRecDepth 100000 in
theorem k_X4_endPermit_15 {p : Program} {l : Launch} {e : Env} {s : State} {m : MethodId} {args : Array Value} {below : List Frame} {meth : Method} {c : Code} {D : va_G} {cy : Nat → ClassId} {b : Nat → Nat} {A : Nat → Prop} (hx : p.tables.exec = Jvm.exec) (hb : c.code = cX4_endPermit) (hr : meth.sig.returnType = (some .int)) (hts : ∀ w ∈ wsX4_endPermit, w.before args s = true) (hml : c.maxLocals = 5) (hown : s.vm.findClass RX4 = some m.cls) (hlocks : meth.locks = false) (hK : va_K D xcl (xty cy) s) (hA : ∀ q, s.heap.size ≤ q → A q) (res : Int32 × RV) : ∀ (fu : Nat) (zx1 : Int32) (zx2 : Int32) (zx3 : Int32) (zx4 : Int32) (V : RV) (H : Heap) (locs : List Loc)  (ls : Array Slot), f_X4_endPermit_15 V fu zx1 zx2 zx3 zx4 = some res → va_P D xcl (rW cy b V) H → va_D A (rW cy b V) → va_S A s.heap H locs → lv_has ls 5 [(0, .ref (b 0)), (1, .int zx1), (2, .int zx2), (3, .int zx3), (4, .int zx4)] → W p l e ({ frames := 4, cells := 0, slots := 0, locals := 92 } : Room) s m args below meth c H locs 0 0 (MQ below (va_Qi (fun r (_ : Unit) => r = res.1) (fun _ t => va_P D xcl (rW cy b res.2) t.heap ∧ va_D A (rW cy b res.2)) A) args s 0 0 (A)) (F0 m 15 ls []) := by
  have hinX4 : ∀ w ∈ wsX40, w ∈ wsX4_endPermit := (fun _ h => (List.mem_cons_of_mem _ (List.mem_append_left _ (List.mem_append_right _ h))))
  intro fu
  induction fu with
  | zero =>
    intro zx1 zx2 zx3 zx4 V H locs  ls h hP hD hS hl
    cases h
  | succ fu ih =>
    intro zx1 zx2 zx3 zx4 V H locs  ls h hP hD hS hl
    refine lv_iload hx hb dX4_endPermit_15 (lv_at hl 4 rfl) ?_
    refine lv_iload_n hx hb dX4_endPermit_17 rfl (lv_at hl 2 rfl) ?_
    refine lv_iload_n hx hb dX4_endPermit_18 rfl (lv_at hl 3 rfl) ?_
    refine lv_iadd hx hb dX4_endPermit_19 ?_
    refine lv_icmp_ge (tgt := 42) hx hb dX4_endPermit_20 (by decide) (fun c_4 => ?_) (fun c_4 => ?_)
    · replace h := oi_t c_4 h
      refine lv_aload_n hx hb dX4_endPermit_42 rfl (lv_at hl 0 rfl) ?_
      obtain ⟨u_5, hg_6, h⟩ := ob_some h
      refine zcWi (va_runV (As := []) (rest := []) ⟨hx, hb, hml, hown, hts⟩ (c_X4_drops l D cy b V _ hg_6) (cwV 0 hts gX4_endPermit_X4_drops rfl rfl rfl hd_X4_drops ⟨Nat.le_of_ble_eq_true rfl, Nat.le_of_ble_eq_true rfl⟩) ⟨(zJ_blind rI_blind), va_recv hK hP (ci := 4) (q0 := 0) rfl rfl, (zJ_at (rI_at hP hK hD))⟩ rfl rfl hl.1 rfl (lv_room (Nat.le_of_ble_eq_true rfl)) dX4_endPermit_43 ⟨Nat.le_of_ble_eq_true rfl, Nat.le_of_ble_eq_true rfl⟩) hS (z_free hD hS hA) (fun H locs hP hD hS => ?_)
      have h9 := Option.some.inj h
      subst h9
      exact W.iret (v := u_5.1) hx hb hr (fun t ht hW => ⟨⟨u_5.1, (), rfl, rfl, ⟨by rw [ht]; exact hP, hD⟩⟩, hS.F ht⟩) hS.2.2 dX4_endPermit_46 hlocks
    · replace h := oi_f c_4 h
      refine lv_aload_n hx hb dX4_endPermit_23 rfl (lv_at hl 0 rfl) ?_
      refine va_get (D := D) (ci := 4) (v := .ref (b 6)) (C := RX4) (T := TX4) (N := 28) hx hb hts hinX4 hown hK hP 0 rfl rfl 6 (by decide) (hts _ (List.mem_of_getElem? (i := 1) rfl)) (fun _ h9 => h9) rfl dX4_endPermit_24 ?_
      refine lv_bipush (v := 24) hx hb dX4_endPermit_27 (by decide) ?_
      refine lv_iload_n hx hb dX4_endPermit_29 rfl (lv_at hl 1 rfl) ?_
      refine lv_imul hx hb dX4_endPermit_30 ?_
      refine lv_iload hx hb dX4_endPermit_31 (lv_at hl 4 rfl) ?_
      refine lv_iadd hx hb dX4_endPermit_33 ?_
      refine lv_iconst (v := 0) hx hb dX4_endPermit_34 (by decide) ?_
      obtain ⟨g_7, h⟩ := og_some h
      refine va_zast hx hb hK hP hD hS 6 2 rfl rfl g_7 dX4_endPermit_35 (fun H locs hP hD hS => ?_)
      replace hP : va_P D xcl (rW cy b (rar V 6 ((24 * zx1) + zx4).toNatClampNeg (vp_nar .boolean 0))) H := hP
      replace hD : va_D A (rW cy b (rar V 6 ((24 * zx1) + zx4).toNatClampNeg (vp_nar .boolean 0))) := hD
      obtain ⟨V_8, eV_9, h⟩ := ob_some h
      rw [Option.some.inj eV_9] at hP hD
      refine lv_iinc (v := zx4 + 1) (lv' := [(4, .int (zx4 + 1)), (0, .ref (b 0)), (1, .int zx1), (2, .int zx2), (3, .int zx3)]) hx hb dX4_endPermit_36 hl (k := 4) rfl rfl (by decide) rfl (fun ls hl => ?_)
      refine lv_goto (tgt := 15) hx hb dX4_endPermit_39 (by decide) ?_
      exact ih zx1 zx2 zx3 (zx4 + 1) _ _ _  ls h hP hD hS (lv_sub hl [1, 2, 3, 4, 0] rfl)
set_option maxHeartbeats 4000000 in
set_option maxRecDepth 100000 in
theorem c_X4_endPermit (l : Launch) (D : va_G) (cy : Nat → ClassId) (b : Nat → Nat) (V : RV) (sz : Nat) (p1 : Int32) (p2 : Int32) (p3 : Int32) {res : Int32 × RV} (h : f_X4_endPermit V p1 p2 p3 = some res) : Met l yX4_endPermit wsX4_endPermit ({ frames := 4, cells := 0, slots := 0, locals := 92 } : Room) (va_Pc [.ref (b 0), .int p1, .int p2, .int p3] (zJ sz (rI D cy b V))) (va_Qi (fun r (_ : Unit) => r = res.1) (fun _ t => va_P D xcl (rW cy b res.2) t.heap ∧ va_D (va_A (rW cy b V) sz) (rW cy b res.2)) (va_A (rW cy b V) sz)) 0 0 (va_A (rW cy b V) sz) := by
  refine Met.ofW (cc := cX4_endPermit) (maxL := 5) (ret := (some .int)) (by decide) rfl ?_
  intro p e s m args below meth c s₁ B hml hv
  obtain ⟨rfl, hsz, hP, hK, hD0⟩ := hv
  have hx := B.exec
  have hb := B.bytes
  have hr := B.returns
  have hts := atoms_spec (ws := wsX4_endPermit) B.pre
  have hown : s.vm.findClass RX4 = some m.cls := findClass_of_methodNamed B.named
  have hlocks := B.notSynchronized
  subst hsz
  have hD := hD0.self (sz := s.heap.size)
  generalize hAe : va_A (rW cy b V) s.heap.size = A at hD ⊢
  have hA : ∀ q : Nat, s.heap.size ≤ q → A q := fun q h => by rw [← hAe]; exact Or.inr h
  have hS : va_S A s.heap s.heap [] := va_S.rf
  have hl := lv_entry ([.ref (b 0), .int p1, .int p2, .int p3]) (n := 5) (Nat.le_of_ble_eq_true rfl)
  rw [lg_entry_eq]
  generalize (lg_sl ([.ref (b 0), .int p1, .int p2, .int p3]) ++ List.replicate (5 - (lg_sl ([.ref (b 0), .int p1, .int p2, .int p3])).length) Slot.unset).toArray = ls at hl ⊢
  have hl : lv_has ls 5 [(0, .ref (b 0)), (1, .int p1), (2, .int p2), (3, .int p3)] := hl
  revert hP hS
  intro hP hS
  refine lv_aload_n hx hb dX4_endPermit_0 rfl (lv_at hl 0 rfl) ?_
  refine lv_iload_n hx hb dX4_endPermit_1 rfl (lv_at hl 1 rfl) ?_
  refine lv_iload_n hx hb dX4_endPermit_2 rfl (lv_at hl 2 rfl) ?_
  refine lv_iload_n hx hb dX4_endPermit_3 rfl (lv_at hl 3 rfl) ?_
  obtain ⟨u_1, hg_2, h⟩ := ob_some h
  refine zcWi (va_runV (As := [.int p1, .int p2, .int p3]) (rest := []) ⟨hx, hb, hml, hown, hts⟩ (c_X4_isNoSpan l D cy b V _ p1 p2 p3 hg_2) (cwV 3 hts gX4_endPermit_X4_isNoSpan rfl rfl rfl hd_X4_isNoSpan ⟨Nat.le_of_ble_eq_true rfl, Nat.le_of_ble_eq_true rfl⟩) ⟨(zJ_blind rI_blind), va_recv hK hP (ci := 4) (q0 := 0) rfl rfl, (zJ_at (rI_at hP hK hD))⟩ rfl rfl hl.1 rfl (lv_room (Nat.le_of_ble_eq_true rfl)) dX4_endPermit_4 ⟨Nat.le_of_ble_eq_true rfl, Nat.le_of_ble_eq_true rfl⟩) hS (z_free hD hS hA) (fun H locs hP hD hS => ?_)
  refine lv_if_eq (tgt := 12) hx hb dX4_endPermit_7 (by decide) (fun c_3 => ?_) (fun c_3 => ?_)
  · replace h := oi_t c_3 h
    refine lv_iload_n hx hb dX4_endPermit_12 rfl (lv_at hl 2 rfl) ?_
    refine lv_istore (lv' := [(4, .int p2), (0, .ref (b 0)), (1, .int p1), (2, .int p2), (3, .int p3)]) hx hb dX4_endPermit_13 hl (by decide) rfl (fun ls hl => ?_)
    exact k_X4_endPermit_15 hx hb hr hts hml hown hlocks hK hA _ _ p1 p2 p3 p2 _ _ _  ls h hP hD hS (lv_sub hl [1, 2, 3, 4, 0] rfl)
  · replace h := oi_f c_3 h
    refine lv_iconst (v := 0) hx hb dX4_endPermit_10 (by decide) ?_
    have h9 := Option.some.inj h
    subst h9
    exact W.iret (v := 0) hx hb hr (fun t ht hW => ⟨⟨0, (), rfl, rfl, ⟨by rw [ht]; exact hP, hD⟩⟩, hS.F ht⟩) hS.2.2 dX4_endPermit_11 hlocks
def f_X4_setWind (V : RV) (p1 : Int32) : Option (Int32 × RV) := ob (f_X4_in p1 0 40) (fun u_1 => oi (u_1 = 0) (ob (f_X4_fails V 1) (fun u_4 => oi (u_4.1 = 0) (ob (some (rsc u_4.2 26 p1)) (fun V_7 => ob (f_X4_drops V_7 ) (fun u_9 => some (u_9.1, u_9.2)))) (some (0, u_4.2)))) (ob (f_X4_fails V 0) (fun u_11 => oi (u_11.1 = 0) (ob (some (rsc u_11.2 26 p1)) (fun V_14 => ob (f_X4_drops V_14 ) (fun u_16 => some (u_16.1, u_16.2)))) (some (0, u_11.2)))))
theorem hd_X4_setWind : yX4_setWind.cls = RX4 ∧ yX4_setWind.cls ≠ "java/lang/invoke/MethodHandle" ∧ yX4_setWind.cls ≠ "java/lang/invoke/VarHandle" ∧ (parseMethodDescriptor yX4_setWind.desc).map (fun d => d.parameters.length) = some 1 := by decide +kernel
set_option maxHeartbeats 4000000 in
set_option maxRecDepth 100000 in
theorem c_X4_setWind (l : Launch) (D : va_G) (cy : Nat → ClassId) (b : Nat → Nat) (V : RV) (sz : Nat) (p1 : Int32) {res : Int32 × RV} (h : f_X4_setWind V p1 = some res) : Met l yX4_setWind wsX4_setWind ({ frames := 4, cells := 0, slots := 0, locals := 92 } : Room) (va_Pc [.ref (b 0), .int p1] (zJ sz (rI D cy b V))) (va_Qi (fun r (_ : Unit) => r = res.1) (fun _ t => va_P D xcl (rW cy b res.2) t.heap ∧ va_D (va_A (rW cy b V) sz) (rW cy b res.2)) (va_A (rW cy b V) sz)) 0 0 (va_A (rW cy b V) sz) := by
  refine Met.ofW (cc := cX4_setWind) (maxL := 2) (ret := (some .int)) (by decide) rfl ?_
  intro p e s m args below meth c s₁ B hml hv
  obtain ⟨rfl, hsz, hP, hK, hD0⟩ := hv
  have hx := B.exec
  have hb := B.bytes
  have hr := B.returns
  have hts := atoms_spec (ws := wsX4_setWind) B.pre
  have hown : s.vm.findClass RX4 = some m.cls := findClass_of_methodNamed B.named
  have hlocks := B.notSynchronized
  subst hsz
  have hD := hD0.self (sz := s.heap.size)
  generalize hAe : va_A (rW cy b V) s.heap.size = A at hD ⊢
  have hA : ∀ q : Nat, s.heap.size ≤ q → A q := fun q h => by rw [← hAe]; exact Or.inr h
  have hS : va_S A s.heap s.heap [] := va_S.rf
  have hl := lv_entry ([.ref (b 0), .int p1]) (n := 2) (Nat.le_of_ble_eq_true rfl)
  rw [lg_entry_eq]
  generalize (lg_sl ([.ref (b 0), .int p1]) ++ List.replicate (2 - (lg_sl ([.ref (b 0), .int p1])).length) Slot.unset).toArray = ls at hl ⊢
  have hl : lv_has ls 2 [(0, .ref (b 0)), (1, .int p1)] := hl
  have hinX4 : ∀ w ∈ wsX40, w ∈ wsX4_setWind := (fun _ h => (List.mem_cons_of_mem _ (List.mem_append_left _ (List.mem_append_right _ h))))
  revert hP hS
  intro hP hS
  refine lv_aload_n hx hb dX4_setWind_0 rfl (lv_at hl 0 rfl) ?_
  refine lv_iload_n hx hb dX4_setWind_1 rfl (lv_at hl 1 rfl) ?_
  refine lv_iconst (v := 0) hx hb dX4_setWind_2 (by decide) ?_
  refine lv_bipush (v := 40) hx hb dX4_setWind_3 (by decide) ?_
  obtain ⟨u_1, hg_2, h⟩ := ob_some h
  refine zcSi (W.runS (As := [.int p1, .int 0, .int 40]) (rest := [.ref (b 0)]) ⟨hx, hb, hml, hown, hts⟩ (c_X4_in l p1 0 40 hg_2) (va_cwS 3 hts gX4_setWind_X4_in rfl rfl rfl hd_X4_in ⟨Nat.le_of_ble_eq_true rfl, Nat.le_of_ble_eq_true rfl⟩) ⟨zT_blind, zT_at⟩ rfl rfl hl.1 rfl (lv_room (Nat.le_of_ble_eq_true rfl)) dX4_setWind_5 ⟨Nat.le_of_ble_eq_true rfl, Nat.le_of_ble_eq_true rfl⟩) ?_
  refine lv_if_eq (tgt := 15) hx hb dX4_setWind_8 (by decide) (fun c_3 => ?_) (fun c_3 => ?_)
  · replace h := oi_t c_3 h
    refine lv_iconst (v := 1) hx hb dX4_setWind_15 (by decide) ?_
    obtain ⟨u_4, hg_5, h⟩ := ob_some h
    refine zcWi (va_runV (As := [.int 1]) (rest := []) ⟨hx, hb, hml, hown, hts⟩ (c_X4_fails l D cy b V _ 1 hg_5) (cwV 1 hts gX4_setWind_X4_fails rfl rfl rfl hd_X4_fails ⟨Nat.le_of_ble_eq_true rfl, Nat.le_of_ble_eq_true rfl⟩) ⟨(zJ_blind rI_blind), va_recv hK hP (ci := 4) (q0 := 0) rfl rfl, (zJ_at (rI_at hP hK hD))⟩ rfl rfl hl.1 rfl (lv_room (Nat.le_of_ble_eq_true rfl)) dX4_setWind_16 ⟨Nat.le_of_ble_eq_true rfl, Nat.le_of_ble_eq_true rfl⟩) hS (z_free hD hS hA) (fun H locs hP hD hS => ?_)
    refine lv_if_eq (tgt := 24) hx hb dX4_setWind_19 (by decide) (fun c_6 => ?_) (fun c_6 => ?_)
    · replace h := oi_t c_6 h
      refine lv_aload_n hx hb dX4_setWind_24 rfl (lv_at hl 0 rfl) ?_
      refine lv_iload_n hx hb dX4_setWind_25 rfl (lv_at hl 1 rfl) ?_
      refine va_put (D := D) (ci := 4) (v := .int p1) (ty := .int) (C := RX4) (T := TX4) (N := 28) hx hb hts hinX4 tyX4 tyX4_ok nmX4 hown hK hP hD hS 0 rfl rfl 26 (by decide) (hts _ (List.mem_of_getElem? (i := 1) rfl)) (fun _ h9 => h9) rfl (by decide +kernel) rfl rfl (Nat.le_of_ble_eq_true rfl) dX4_setWind_26 (fun H locs hP hD hS => ?_)
      replace hP : va_P D xcl (rW cy b (rsc u_4.2 26 p1)) H := hP
      replace hD : va_D A (rW cy b (rsc u_4.2 26 p1)) := hD
      obtain ⟨V_7, eV_8, h⟩ := ob_some h
      rw [Option.some.inj eV_8] at hP hD
      refine lv_aload_n hx hb dX4_setWind_29 rfl (lv_at hl 0 rfl) ?_
      obtain ⟨u_9, hg_10, h⟩ := ob_some h
      refine zcWi (va_runV (As := []) (rest := []) ⟨hx, hb, hml, hown, hts⟩ (c_X4_drops l D cy b V_7 _ hg_10) (cwV 0 hts gX4_setWind_X4_drops rfl rfl rfl hd_X4_drops ⟨Nat.le_of_ble_eq_true rfl, Nat.le_of_ble_eq_true rfl⟩) ⟨(zJ_blind rI_blind), va_recv hK hP (ci := 4) (q0 := 0) rfl rfl, (zJ_at (rI_at hP hK hD))⟩ rfl rfl hl.1 rfl (lv_room (Nat.le_of_ble_eq_true rfl)) dX4_setWind_30 ⟨Nat.le_of_ble_eq_true rfl, Nat.le_of_ble_eq_true rfl⟩) hS (z_free hD hS hA) (fun H locs hP hD hS => ?_)
      have h9 := Option.some.inj h
      subst h9
      exact W.iret (v := u_9.1) hx hb hr (fun t ht hW => ⟨⟨u_9.1, (), rfl, rfl, ⟨by rw [ht]; exact hP, hD⟩⟩, hS.F ht⟩) hS.2.2 dX4_setWind_33 hlocks
    · replace h := oi_f c_6 h
      refine lv_iconst (v := 0) hx hb dX4_setWind_22 (by decide) ?_
      have h9 := Option.some.inj h
      subst h9
      exact W.iret (v := 0) hx hb hr (fun t ht hW => ⟨⟨0, (), rfl, rfl, ⟨by rw [ht]; exact hP, hD⟩⟩, hS.F ht⟩) hS.2.2 dX4_setWind_23 hlocks
  · replace h := oi_f c_3 h
    refine lv_iconst (v := 0) hx hb dX4_setWind_11 (by decide) ?_
    refine lv_goto (tgt := 16) hx hb dX4_setWind_12 (by decide) ?_
    obtain ⟨u_11, hg_12, h⟩ := ob_some h
    refine zcWi (va_runV (As := [.int 0]) (rest := []) ⟨hx, hb, hml, hown, hts⟩ (c_X4_fails l D cy b V _ 0 hg_12) (cwV 1 hts gX4_setWind_X4_fails rfl rfl rfl hd_X4_fails ⟨Nat.le_of_ble_eq_true rfl, Nat.le_of_ble_eq_true rfl⟩) ⟨(zJ_blind rI_blind), va_recv hK hP (ci := 4) (q0 := 0) rfl rfl, (zJ_at (rI_at hP hK hD))⟩ rfl rfl hl.1 rfl (lv_room (Nat.le_of_ble_eq_true rfl)) dX4_setWind_16 ⟨Nat.le_of_ble_eq_true rfl, Nat.le_of_ble_eq_true rfl⟩) hS (z_free hD hS hA) (fun H locs hP hD hS => ?_)
    refine lv_if_eq (tgt := 24) hx hb dX4_setWind_19 (by decide) (fun c_13 => ?_) (fun c_13 => ?_)
    · replace h := oi_t c_13 h
      refine lv_aload_n hx hb dX4_setWind_24 rfl (lv_at hl 0 rfl) ?_
      refine lv_iload_n hx hb dX4_setWind_25 rfl (lv_at hl 1 rfl) ?_
      refine va_put (D := D) (ci := 4) (v := .int p1) (ty := .int) (C := RX4) (T := TX4) (N := 28) hx hb hts hinX4 tyX4 tyX4_ok nmX4 hown hK hP hD hS 0 rfl rfl 26 (by decide) (hts _ (List.mem_of_getElem? (i := 1) rfl)) (fun _ h9 => h9) rfl (by decide +kernel) rfl rfl (Nat.le_of_ble_eq_true rfl) dX4_setWind_26 (fun H locs hP hD hS => ?_)
      replace hP : va_P D xcl (rW cy b (rsc u_11.2 26 p1)) H := hP
      replace hD : va_D A (rW cy b (rsc u_11.2 26 p1)) := hD
      obtain ⟨V_14, eV_15, h⟩ := ob_some h
      rw [Option.some.inj eV_15] at hP hD
      refine lv_aload_n hx hb dX4_setWind_29 rfl (lv_at hl 0 rfl) ?_
      obtain ⟨u_16, hg_17, h⟩ := ob_some h
      refine zcWi (va_runV (As := []) (rest := []) ⟨hx, hb, hml, hown, hts⟩ (c_X4_drops l D cy b V_14 _ hg_17) (cwV 0 hts gX4_setWind_X4_drops rfl rfl rfl hd_X4_drops ⟨Nat.le_of_ble_eq_true rfl, Nat.le_of_ble_eq_true rfl⟩) ⟨(zJ_blind rI_blind), va_recv hK hP (ci := 4) (q0 := 0) rfl rfl, (zJ_at (rI_at hP hK hD))⟩ rfl rfl hl.1 rfl (lv_room (Nat.le_of_ble_eq_true rfl)) dX4_setWind_30 ⟨Nat.le_of_ble_eq_true rfl, Nat.le_of_ble_eq_true rfl⟩) hS (z_free hD hS hA) (fun H locs hP hD hS => ?_)
      have h9 := Option.some.inj h
      subst h9
      exact W.iret (v := u_16.1) hx hb hr (fun t ht hW => ⟨⟨u_16.1, (), rfl, rfl, ⟨by rw [ht]; exact hP, hD⟩⟩, hS.F ht⟩) hS.2.2 dX4_setWind_33 hlocks
    · replace h := oi_f c_13 h
      refine lv_iconst (v := 0) hx hb dX4_setWind_22 (by decide) ?_
      have h9 := Option.some.inj h
      subst h9
      exact W.iret (v := 0) hx hb hr (fun t ht hW => ⟨⟨0, (), rfl, rfl, ⟨by rw [ht]; exact hP, hD⟩⟩, hS.F ht⟩) hS.2.2 dX4_setWind_23 hlocks
def f_X4_reaches (V : RV) (p1 : Int32) (p2 : Int32) (p3 : Int32) : Option (Int32) := ob (f_X4_away V p1 p2 p3) (fun u_1 => og (¬ (p1 < 0 ∨ 5 ≤ (p1).toNatClampNeg)) (og (¬ (p1 < 0 ∨ 5 ≤ (p1).toNatClampNeg)) (oi (((V.2.1 3 (p1).toNatClampNeg) * (V.2.1 3 (p1).toNatClampNeg)) < u_1) (some 0) (some 1))))
theorem hd_X4_reaches : yX4_reaches.cls = RX4 ∧ yX4_reaches.cls ≠ "java/lang/invoke/MethodHandle" ∧ yX4_reaches.cls ≠ "java/lang/invoke/VarHandle" ∧ (parseMethodDescriptor yX4_reaches.desc).map (fun d => d.parameters.length) = some 3 := by decide +kernel
set_option maxHeartbeats 4000000 in
set_option maxRecDepth 100000 in
theorem c_X4_reaches (l : Launch) (D : va_G) (cy : Nat → ClassId) (b : Nat → Nat) (V : RV) (p1 : Int32) (p2 : Int32) (p3 : Int32) {res : Int32} (h : f_X4_reaches V p1 p2 p3 = some res) : Met l yX4_reaches wsX4_reaches ({ frames := 1, cells := 0, slots := 0, locals := 23 } : Room) (va_Pc [.ref (b 0), .int p1, .int p2, .int p3] (rI D cy b V)) (vp_Si (fun r => r = res)) 0 0 (fun _ => False) := by
  refine Met.ofW (cc := cX4_reaches) (maxL := 4) (ret := (some .boolean)) (by decide) rfl ?_
  intro p e s m args below meth c s₁ B hml hv
  obtain ⟨rfl, hP, hK, hD⟩ := hv
  have hx := B.exec
  have hb := B.bytes
  have hr := B.returns
  have hts := atoms_spec (ws := wsX4_reaches) B.pre
  have hown : s.vm.findClass RX4 = some m.cls := findClass_of_methodNamed B.named
  have hlocks := B.notSynchronized
  have hl := lv_entry ([.ref (b 0), .int p1, .int p2, .int p3]) (n := 4) (Nat.le_of_ble_eq_true rfl)
  rw [lg_entry_eq]
  generalize (lg_sl ([.ref (b 0), .int p1, .int p2, .int p3]) ++ List.replicate (4 - (lg_sl ([.ref (b 0), .int p1, .int p2, .int p3])).length) Slot.unset).toArray = ls at hl ⊢
  have hl : lv_has ls 4 [(0, .ref (b 0)), (1, .int p1), (2, .int p2), (3, .int p3)] := hl
  have hinX4 : ∀ w ∈ wsX40, w ∈ wsX4_reaches := (fun _ h => (List.mem_cons_of_mem _ (List.mem_append_right _ h)))
  refine lv_aload_n hx hb dX4_reaches_0 rfl (lv_at hl 0 rfl) ?_
  refine lv_iload_n hx hb dX4_reaches_1 rfl (lv_at hl 1 rfl) ?_
  refine lv_iload_n hx hb dX4_reaches_2 rfl (lv_at hl 2 rfl) ?_
  refine lv_iload_n hx hb dX4_reaches_3 rfl (lv_at hl 3 rfl) ?_
  obtain ⟨u_1, hg_2, h⟩ := ob_some h
  refine zcSi (W.runV (As := [.int p1, .int p2, .int p3]) (rest := []) ⟨hx, hb, hml, hown, hts⟩ (c_X4_away l D cy b V p1 p2 p3 hg_2) (cwV 3 hts gX4_reaches_X4_away rfl rfl rfl hd_X4_away ⟨Nat.le_of_ble_eq_true rfl, Nat.le_of_ble_eq_true rfl⟩) ⟨rI_blind, va_recv hK hP (ci := 4) (q0 := 0) rfl rfl, (rI_at hP hK hD)⟩ rfl rfl hl.1 rfl (lv_room (Nat.le_of_ble_eq_true rfl)) dX4_reaches_4 ⟨Nat.le_of_ble_eq_true rfl, Nat.le_of_ble_eq_true rfl⟩) ?_
  refine lv_aload_n hx hb dX4_reaches_7 rfl (lv_at hl 0 rfl) ?_
  refine va_get (D := D) (ci := 4) (v := .ref (b 3)) (C := RX4) (T := TX4) (N := 28) hx hb hts hinX4 hown hK hP 0 rfl rfl 3 (by decide) (hts _ (List.mem_of_getElem? (i := 1) rfl)) (fun _ h9 => h9) rfl dX4_reaches_8 ?_
  refine lv_iload_n hx hb dX4_reaches_11 rfl (lv_at hl 1 rfl) ?_
  obtain ⟨g_3, h⟩ := og_some h
  refine va_iald hx hb hK hP 3 0 rfl rfl g_3 dX4_reaches_12 ?_
  refine lv_aload_n hx hb dX4_reaches_13 rfl (lv_at hl 0 rfl) ?_
  refine va_get (D := D) (ci := 4) (v := .ref (b 3)) (C := RX4) (T := TX4) (N := 28) hx hb hts hinX4 hown hK hP 0 rfl rfl 3 (by decide) (hts _ (List.mem_of_getElem? (i := 1) rfl)) (fun _ h9 => h9) rfl dX4_reaches_14 ?_
  refine lv_iload_n hx hb dX4_reaches_17 rfl (lv_at hl 1 rfl) ?_
  obtain ⟨g_4, h⟩ := og_some h
  refine va_iald hx hb hK hP 3 0 rfl rfl g_4 dX4_reaches_18 ?_
  refine lv_imul hx hb dX4_reaches_19 ?_
  refine lv_icmp_gt (tgt := 27) hx hb dX4_reaches_20 (by decide) (fun c_5 => ?_) (fun c_5 => ?_)
  · replace h := oi_t c_5 h
    refine lv_iconst (v := 0) hx hb dX4_reaches_27 (by decide) ?_
    have h9 := Option.some.inj h
    exact W.zret (v := 0) hx hb hr (by decide) (fun t ht hW => ⟨0, rfl, h9, ht⟩) (fun _ hq => absurd hq List.not_mem_nil) dX4_reaches_28 hlocks
  · replace h := oi_f c_5 h
    refine lv_iconst (v := 1) hx hb dX4_reaches_23 (by decide) ?_
    refine lv_goto (tgt := 28) hx hb dX4_reaches_24 (by decide) ?_
    have h9 := Option.some.inj h
    exact W.zret (v := 1) hx hb hr (by decide) (fun t ht hW => ⟨1, rfl, h9, ht⟩) (fun _ hq => absurd hq List.not_mem_nil) dX4_reaches_28 hlocks
def f_X4_isBetween (p1 : Int32) (p2 : Int32) (p3 : Int32) : Option (Int32) := oi (p3 ≤ p2) (ob (f_X4_in p1 p3 p2) (fun u_2 => og (u_2 &&& 1 = u_2) (some u_2))) (ob (f_X4_in p1 p2 p3) (fun u_5 => og (u_5 &&& 1 = u_5) (some u_5)))
theorem hd_X4_isBetween : yX4_isBetween.cls ≠ "java/lang/invoke/MethodHandle" ∧ yX4_isBetween.cls ≠ "java/lang/invoke/VarHandle" ∧ (parseMethodDescriptor yX4_isBetween.desc).map (fun d => d.parameters.length) = some 3 := by decide +kernel
set_option maxHeartbeats 4000000 in
set_option maxRecDepth 100000 in
theorem c_X4_isBetween (l : Launch) (p1 : Int32) (p2 : Int32) (p3 : Int32) {res : Int32} (h : f_X4_isBetween p1 p2 p3 = some res) : Met l yX4_isBetween wsX4_isBetween ({ frames := 1, cells := 0, slots := 0, locals := 22 } : Room) (va_Pc [.int p1, .int p2, .int p3] zT) (vp_Si (fun r => r = res)) 0 0 (fun _ => False) := by
  refine Met.ofW (cc := cX4_isBetween) (maxL := 3) (ret := (some .boolean)) (by decide) rfl ?_
  intro p e s m args below meth c s₁ B hml hv
  obtain ⟨rfl, -⟩ := hv
  have hx := B.exec
  have hb := B.bytes
  have hr := B.returns
  have hts := atoms_spec (ws := wsX4_isBetween) B.pre
  have hown : s.vm.findClass RX4 = some m.cls := findClass_of_methodNamed B.named
  have hlocks := B.notSynchronized
  have hl := lv_entry ([.int p1, .int p2, .int p3]) (n := 3) (Nat.le_of_ble_eq_true rfl)
  rw [lg_entry_eq]
  generalize (lg_sl ([.int p1, .int p2, .int p3]) ++ List.replicate (3 - (lg_sl ([.int p1, .int p2, .int p3])).length) Slot.unset).toArray = ls at hl ⊢
  have hl : lv_has ls 3 [(0, .int p1), (1, .int p2), (2, .int p3)] := hl
  refine lv_iload_n hx hb dX4_isBetween_0 rfl (lv_at hl 1 rfl) ?_
  refine lv_iload_n hx hb dX4_isBetween_1 rfl (lv_at hl 2 rfl) ?_
  refine lv_icmp_ge (tgt := 14) hx hb dX4_isBetween_2 (by decide) (fun c_1 => ?_) (fun c_1 => ?_)
  · replace h := oi_t c_1 h
    refine lv_iload_n hx hb dX4_isBetween_14 rfl (lv_at hl 0 rfl) ?_
    refine lv_iload_n hx hb dX4_isBetween_15 rfl (lv_at hl 2 rfl) ?_
    refine lv_iload_n hx hb dX4_isBetween_16 rfl (lv_at hl 1 rfl) ?_
    obtain ⟨u_2, hg_3, h⟩ := ob_some h
    refine zcSi (W.runS (As := [.int p1, .int p3, .int p2]) (rest := []) ⟨hx, hb, hml, hown, hts⟩ (c_X4_in l p1 p3 p2 hg_3) (va_cwS 3 hts gX4_isBetween_X4_in rfl rfl rfl hd_X4_in ⟨Nat.le_of_ble_eq_true rfl, Nat.le_of_ble_eq_true rfl⟩) ⟨zT_blind, zT_at⟩ rfl rfl hl.1 rfl (lv_room (Nat.le_of_ble_eq_true rfl)) dX4_isBetween_17 ⟨Nat.le_of_ble_eq_true rfl, Nat.le_of_ble_eq_true rfl⟩) ?_
    obtain ⟨g_4, h⟩ := og_some h
    have h9 := Option.some.inj h
    exact W.zret (v := u_2) hx hb hr (congrArg Value.int g_4) (fun t ht hW => ⟨u_2, rfl, h9, ht⟩) (fun _ hq => absurd hq List.not_mem_nil) dX4_isBetween_20 hlocks
  · replace h := oi_f c_1 h
    refine lv_iload_n hx hb dX4_isBetween_5 rfl (lv_at hl 0 rfl) ?_
    refine lv_iload_n hx hb dX4_isBetween_6 rfl (lv_at hl 1 rfl) ?_
    refine lv_iload_n hx hb dX4_isBetween_7 rfl (lv_at hl 2 rfl) ?_
    obtain ⟨u_5, hg_6, h⟩ := ob_some h
    refine zcSi (W.runS (As := [.int p1, .int p2, .int p3]) (rest := []) ⟨hx, hb, hml, hown, hts⟩ (c_X4_in l p1 p2 p3 hg_6) (va_cwS 3 hts gX4_isBetween_X4_in rfl rfl rfl hd_X4_in ⟨Nat.le_of_ble_eq_true rfl, Nat.le_of_ble_eq_true rfl⟩) ⟨zT_blind, zT_at⟩ rfl rfl hl.1 rfl (lv_room (Nat.le_of_ble_eq_true rfl)) dX4_isBetween_8 ⟨Nat.le_of_ble_eq_true rfl, Nat.le_of_ble_eq_true rfl⟩) ?_
    refine lv_goto (tgt := 20) hx hb dX4_isBetween_11 (by decide) ?_
    obtain ⟨g_7, h⟩ := og_some h
    have h9 := Option.some.inj h
    exact W.zret (v := u_5) hx hb hr (congrArg Value.int g_7) (fun t ht hW => ⟨u_5, rfl, h9, ht⟩) (fun _ hq => absurd hq List.not_mem_nil) dX4_isBetween_20 hlocks
def f_X4_air_6 : Nat → Int32 → Int32 → Int32 → Int32 → Int64 → Int32 → Option (Int64)
  | 0, _, _, _, _, _, _ => none
  | fu + 1, zx0, zx1, zx2, zx3, zx4, zx6 => oi (64 ≤ zx6) (some zx4) (ob (f_X4_isBetween (zx6 - zx6 / 8 * 8) (zx0 / 5) (zx2 / 5)) (fun u_2 => oi (u_2 = 0) (f_X4_air_6  fu zx0 zx1 zx2 zx3 zx4 (zx6 + 1)) (ob (f_X4_isBetween (zx6 / 8) (zx1 / 5) (zx3 / 5)) (fun u_5 => oi (u_5 = 0) (f_X4_air_6  fu zx0 zx1 zx2 zx3 zx4 (zx6 + 1)) (f_X4_air_6  fu zx0 zx1 zx2 zx3 (zx4 ||| (1 <<< (Int32.toInt64 zx6 &&& 63))) (zx6 + 1))))))
def f_X4_air (p1 : Int32) (p2 : Int32) (p3 : Int32) (p4 : Int32) : Option (Int64) := f_X4_air_6  FU p1 p2 p3 p4 0 0
theorem hd_X4_air : yX4_air.cls ≠ "java/lang/invoke/MethodHandle" ∧ yX4_air.cls ≠ "java/lang/invoke/VarHandle" ∧ (parseMethodDescriptor yX4_air.desc).map (fun d => d.parameters.length) = some 4 := by decide +kernel
set_option maxHeartbeats 4000000 in
set_option maxRecDepth 100000 in
theorem k_X4_air_6 {p : Program} {l : Launch} {e : Env} {s : State} {m : MethodId} {args : Array Value} {below : List Frame} {meth : Method} {c : Code} (hx : p.tables.exec = Jvm.exec) (hb : c.code = cX4_air) (hr : meth.sig.returnType = (some .long)) (hts : ∀ w ∈ wsX4_air, w.before args s = true) (hml : c.maxLocals = 8) (hown : s.vm.findClass RX4 = some m.cls) (hlocks : meth.locks = false) (res : Int64) : ∀ (fu : Nat) (zx0 : Int32) (zx1 : Int32) (zx2 : Int32) (zx3 : Int32) (zx4 : Int64) (zx6 : Int32)  (ls : Array Slot), f_X4_air_6  fu zx0 zx1 zx2 zx3 zx4 zx6 = some res → lv_has ls 8 [(0, .int zx0), (1, .int zx1), (2, .int zx2), (3, .int zx3), (4, .long (zx4)), (6, .int zx6)] → W p l e ({ frames := 2, cells := 0, slots := 0, locals := 44 } : Room) s m args below meth c s.heap [] 0 0 (MQ below (vp_Sl (fun r => r = res)) args s 0 0 (fun _ => False)) (F0 m 6 ls []) := by
  intro fu
  induction fu with
  | zero =>
    intro zx0 zx1 zx2 zx3 zx4 zx6  ls h hl
    cases h
  | succ fu ih =>
    intro zx0 zx1 zx2 zx3 zx4 zx6  ls h hl
    refine lv_iload hx hb dX4_air_6 (lv_at hl 5 rfl) ?_
    refine lv_bipush (v := 64) hx hb dX4_air_8 (by decide) ?_
    refine lv_icmp_ge (tgt := 66) hx hb dX4_air_10 (by decide) (fun c_1 => ?_) (fun c_1 => ?_)
    · replace h := oi_t c_1 h
      refine lv_lload hx hb dX4_air_66 (lv_at hl 4 rfl) ?_
      have h9 := Option.some.inj h
      exact W.lret (v := zx4) hx hb hr (fun t ht hW => ⟨zx4, rfl, h9, ht⟩) (fun _ hq => absurd hq List.not_mem_nil) dX4_air_68 hlocks
    · replace h := oi_f c_1 h
      refine lv_iload hx hb dX4_air_13 (lv_at hl 5 rfl) ?_
      refine lv_bipush (v := 8) hx hb dX4_air_15 (by decide) ?_
      refine lv_irem hx hb dX4_air_17 (by decide) ?_
      refine lv_iload_n hx hb dX4_air_18 rfl (lv_at hl 0 rfl) ?_
      refine lv_iconst (v := 5) hx hb dX4_air_19 (by decide) ?_
      refine lv_idiv hx hb dX4_air_20 (by decide) ?_
      refine lv_iload_n hx hb dX4_air_21 rfl (lv_at hl 2 rfl) ?_
      refine lv_iconst (v := 5) hx hb dX4_air_22 (by decide) ?_
      refine lv_idiv hx hb dX4_air_23 (by decide) ?_
      obtain ⟨u_2, hg_3, h⟩ := ob_some h
      refine zcSi (W.runS (As := [.int (zx6 - zx6 / 8 * 8), .int (zx0 / 5), .int (zx2 / 5)]) (rest := []) ⟨hx, hb, hml, hown, hts⟩ (c_X4_isBetween l (zx6 - zx6 / 8 * 8) (zx0 / 5) (zx2 / 5) hg_3) (va_cwS 3 hts gX4_air_X4_isBetween rfl rfl rfl hd_X4_isBetween ⟨Nat.le_of_ble_eq_true rfl, Nat.le_of_ble_eq_true rfl⟩) ⟨zT_blind, zT_at⟩ rfl rfl hl.1 rfl (lv_room (Nat.le_of_ble_eq_true rfl)) dX4_air_24 ⟨Nat.le_of_ble_eq_true rfl, Nat.le_of_ble_eq_true rfl⟩) ?_
      refine lv_istore (lv' := [(7, .int u_2), (0, .int zx0), (1, .int zx1), (2, .int zx2), (3, .int zx3), (4, .long (zx4)), (6, .int zx6)]) hx hb dX4_air_27 hl (by decide) rfl (fun ls hl => ?_)
      refine lv_iload hx hb dX4_air_29 (lv_at hl 0 rfl) ?_
      refine lv_if_eq (tgt := 60) hx hb dX4_air_31 (by decide) (fun c_4 => ?_) (fun c_4 => ?_)
      · replace h := oi_t c_4 h
        refine lv_iinc (v := zx6 + 1) (lv' := [(6, .int (zx6 + 1)), (7, .int u_2), (0, .int zx0), (1, .int zx1), (2, .int zx2), (3, .int zx3), (4, .long (zx4))]) hx hb dX4_air_60 hl (k := 6) rfl rfl (by decide) rfl (fun ls hl => ?_)
        refine lv_goto (tgt := 6) hx hb dX4_air_63 (by decide) ?_
        exact ih zx0 zx1 zx2 zx3 zx4 (zx6 + 1)  ls h (lv_sub hl [2, 3, 4, 5, 6, 0] rfl)
      · replace h := oi_f c_4 h
        refine lv_iload hx hb dX4_air_34 (lv_at hl 6 rfl) ?_
        refine lv_bipush (v := 8) hx hb dX4_air_36 (by decide) ?_
        refine lv_idiv hx hb dX4_air_38 (by decide) ?_
        refine lv_iload_n hx hb dX4_air_39 rfl (lv_at hl 2 rfl) ?_
        refine lv_iconst (v := 5) hx hb dX4_air_40 (by decide) ?_
        refine lv_idiv hx hb dX4_air_41 (by decide) ?_
        refine lv_iload_n hx hb dX4_air_42 rfl (lv_at hl 4 rfl) ?_
        refine lv_iconst (v := 5) hx hb dX4_air_43 (by decide) ?_
        refine lv_idiv hx hb dX4_air_44 (by decide) ?_
        obtain ⟨u_5, hg_6, h⟩ := ob_some h
        refine zcSi (W.runS (As := [.int (zx6 / 8), .int (zx1 / 5), .int (zx3 / 5)]) (rest := []) ⟨hx, hb, hml, hown, hts⟩ (c_X4_isBetween l (zx6 / 8) (zx1 / 5) (zx3 / 5) hg_6) (va_cwS 3 hts gX4_air_X4_isBetween rfl rfl rfl hd_X4_isBetween ⟨Nat.le_of_ble_eq_true rfl, Nat.le_of_ble_eq_true rfl⟩) ⟨zT_blind, zT_at⟩ rfl rfl hl.1 rfl (lv_room (Nat.le_of_ble_eq_true rfl)) dX4_air_45 ⟨Nat.le_of_ble_eq_true rfl, Nat.le_of_ble_eq_true rfl⟩) ?_
        refine lv_if_eq (tgt := 60) hx hb dX4_air_48 (by decide) (fun c_7 => ?_) (fun c_7 => ?_)
        · replace h := oi_t c_7 h
          refine lv_iinc (v := zx6 + 1) (lv' := [(6, .int (zx6 + 1)), (7, .int u_2), (0, .int zx0), (1, .int zx1), (2, .int zx2), (3, .int zx3), (4, .long (zx4))]) hx hb dX4_air_60 hl (k := 6) rfl rfl (by decide) rfl (fun ls hl => ?_)
          refine lv_goto (tgt := 6) hx hb dX4_air_63 (by decide) ?_
          exact ih zx0 zx1 zx2 zx3 zx4 (zx6 + 1)  ls h (lv_sub hl [2, 3, 4, 5, 6, 0] rfl)
        · replace h := oi_f c_7 h
          refine lv_lload hx hb dX4_air_51 (lv_at hl 5 rfl) ?_
          refine lv_lconst (v := 1) hx hb dX4_air_53 (by decide) ?_
          refine lv_iload hx hb dX4_air_54 (lv_at hl 6 rfl) ?_
          refine lv_lshl (v := 1 <<< (Int32.toInt64 zx6 &&& 63)) hx hb dX4_air_56 rfl ?_
          refine lv_lor hx hb dX4_air_57 ?_
          refine lv_lstore (lv' := [(4, .long (zx4 ||| (1 <<< (Int32.toInt64 zx6 &&& 63)))), (7, .int u_2), (0, .int zx0), (1, .int zx1), (2, .int zx2), (3, .int zx3), (6, .int zx6)]) hx hb dX4_air_58 hl (by decide) rfl (fun ls hl => ?_)
          refine lv_iinc (v := zx6 + 1) (lv' := [(6, .int (zx6 + 1)), (4, .long (zx4 ||| (1 <<< (Int32.toInt64 zx6 &&& 63)))), (7, .int u_2), (0, .int zx0), (1, .int zx1), (2, .int zx2), (3, .int zx3)]) hx hb dX4_air_60 hl (k := 6) rfl rfl (by decide) rfl (fun ls hl => ?_)
          refine lv_goto (tgt := 6) hx hb dX4_air_63 (by decide) ?_
          exact ih zx0 zx1 zx2 zx3 (zx4 ||| (1 <<< (Int32.toInt64 zx6 &&& 63))) (zx6 + 1)  ls h (lv_sub hl [3, 4, 5, 6, 1, 0] rfl)
set_option maxHeartbeats 4000000 in
set_option maxRecDepth 100000 in
theorem c_X4_air (l : Launch) (p1 : Int32) (p2 : Int32) (p3 : Int32) (p4 : Int32) {res : Int64} (h : f_X4_air p1 p2 p3 p4 = some res) : Met l yX4_air wsX4_air ({ frames := 2, cells := 0, slots := 0, locals := 44 } : Room) (va_Pc [.int p1, .int p2, .int p3, .int p4] zT) (vp_Sl (fun r => r = res)) 0 0 (fun _ => False) := by
  refine Met.ofW (cc := cX4_air) (maxL := 8) (ret := (some .long)) (by decide) rfl ?_
  intro p e s m args below meth c s₁ B hml hv
  obtain ⟨rfl, -⟩ := hv
  have hx := B.exec
  have hb := B.bytes
  have hr := B.returns
  have hts := atoms_spec (ws := wsX4_air) B.pre
  have hown : s.vm.findClass RX4 = some m.cls := findClass_of_methodNamed B.named
  have hlocks := B.notSynchronized
  have hl := lv_entry ([.int p1, .int p2, .int p3, .int p4]) (n := 8) (Nat.le_of_ble_eq_true rfl)
  rw [lg_entry_eq]
  generalize (lg_sl ([.int p1, .int p2, .int p3, .int p4]) ++ List.replicate (8 - (lg_sl ([.int p1, .int p2, .int p3, .int p4])).length) Slot.unset).toArray = ls at hl ⊢
  have hl : lv_has ls 8 [(0, .int p1), (1, .int p2), (2, .int p3), (3, .int p4)] := hl
  refine lv_lconst (v := 0) hx hb dX4_air_0 (by decide) ?_
  refine lv_lstore (lv' := [(4, .long (0)), (0, .int p1), (1, .int p2), (2, .int p3), (3, .int p4)]) hx hb dX4_air_1 hl (by decide) rfl (fun ls hl => ?_)
  refine lv_iconst (v := 0) hx hb dX4_air_3 (by decide) ?_
  refine lv_istore (lv' := [(6, .int 0), (4, .long (0)), (0, .int p1), (1, .int p2), (2, .int p3), (3, .int p4)]) hx hb dX4_air_4 hl (by decide) rfl (fun ls hl => ?_)
  exact k_X4_air_6 hx hb hr hts hml hown hlocks _ _ p1 p2 p3 p4 0 0  ls h (lv_sub hl [2, 3, 4, 5, 1, 0] rfl)
def f_X4_lays (V : RV) (p1 : Int32) (p2 : Int32) (p3 : Int32) (p4 : Int32) (p5 : Int32) (p6 : Int32) (p7 : Int32) : Option (RV) := og (¬ ((V.1 7) < 0 ∨ 40 ≤ (V.1 7).toNatClampNeg)) (ob (some (rar V 8 (V.1 7).toNatClampNeg p1)) (fun V_2 => og (¬ ((V_2.1 7) < 0 ∨ 40 ≤ (V_2.1 7).toNatClampNeg)) (ob (some (rar V_2 9 (V_2.1 7).toNatClampNeg p2)) (fun V_5 => og (¬ ((V_5.1 7) < 0 ∨ 40 ≤ (V_5.1 7).toNatClampNeg)) (ob (some (rar V_5 10 (V_5.1 7).toNatClampNeg p3)) (fun V_8 => og (¬ ((V_8.1 7) < 0 ∨ 40 ≤ (V_8.1 7).toNatClampNeg)) (ob (some (rar V_8 11 (V_8.1 7).toNatClampNeg p4)) (fun V_11 => og (¬ ((V_11.1 7) < 0 ∨ 40 ≤ (V_11.1 7).toNatClampNeg)) (ob (some (rar V_11 12 (V_11.1 7).toNatClampNeg p5)) (fun V_14 => og (¬ ((V_14.1 7) < 0 ∨ 40 ≤ (V_14.1 7).toNatClampNeg)) (ob (some (rar V_14 13 (V_14.1 7).toNatClampNeg p6)) (fun V_17 => og (¬ ((V_17.1 7) < 0 ∨ 40 ≤ (V_17.1 7).toNatClampNeg)) (ob (some (rar V_17 14 (V_17.1 7).toNatClampNeg (vp_nar .char 119))) (fun V_20 => og (¬ ((V_20.1 7) < 0 ∨ 40 ≤ (V_20.1 7).toNatClampNeg)) (ob (some (rar V_20 17 (V_20.1 7).toNatClampNeg p7)) (fun V_23 => ob (f_X4_air p1 p2 p3 p4) (fun u_25 => og (¬ ((V_23.1 7) < 0 ∨ 40 ≤ (V_23.1 7).toNatClampNeg)) (ob (some (rlg V_23 (V_23.1 7).toNatClampNeg u_25)) (fun V_28 => ob (some (rsc V_28 7 ((V_28.1 7) + 1))) (fun V_30 => some V_30))))))))))))))))))))
theorem hd_X4_lays : yX4_lays.cls = RX4 ∧ yX4_lays.cls ≠ "java/lang/invoke/MethodHandle" ∧ yX4_lays.cls ≠ "java/lang/invoke/VarHandle" ∧ (parseMethodDescriptor yX4_lays.desc).map (fun d => d.parameters.length) = some 7 := by decide +kernel
set_option maxHeartbeats 4000000 in
set_option maxRecDepth 100000 in
theorem c_X4_lays (l : Launch) (D : va_G) (cy : Nat → ClassId) (b : Nat → Nat) (V : RV) (sz : Nat) (p1 : Int32) (p2 : Int32) (p3 : Int32) (p4 : Int32) (p5 : Int32) (p6 : Int32) (p7 : Int32) {res : RV} (h : f_X4_lays V p1 p2 p3 p4 p5 p6 p7 = some res) : Met l yX4_lays wsX4_lays ({ frames := 3, cells := 0, slots := 0, locals := 71 } : Room) (va_Pc [.ref (b 0), .int p1, .int p2, .int p3, .int p4, .int p5, .int p6, .int p7] (zJ sz (rI D cy b V))) (va_Qv (fun (_ : Unit) => True) (fun _ t => va_P D xcl (rW cy b res) t.heap ∧ va_D (va_A (rW cy b V) sz) (rW cy b res)) (va_A (rW cy b V) sz)) 0 0 (va_A (rW cy b V) sz) := by
  refine Met.ofW (cc := cX4_lays) (maxL := 8) (ret := none) (by decide) rfl ?_
  intro p e s m args below meth c s₁ B hml hv
  obtain ⟨rfl, hsz, hP, hK, hD0⟩ := hv
  have hx := B.exec
  have hb := B.bytes
  have hr := B.returns
  have hts := atoms_spec (ws := wsX4_lays) B.pre
  have hown : s.vm.findClass RX4 = some m.cls := findClass_of_methodNamed B.named
  have hlocks := B.notSynchronized
  subst hsz
  have hD := hD0.self (sz := s.heap.size)
  generalize hAe : va_A (rW cy b V) s.heap.size = A at hD ⊢
  have hA : ∀ q : Nat, s.heap.size ≤ q → A q := fun q h => by rw [← hAe]; exact Or.inr h
  have hS : va_S A s.heap s.heap [] := va_S.rf
  have hl := lv_entry ([.ref (b 0), .int p1, .int p2, .int p3, .int p4, .int p5, .int p6, .int p7]) (n := 8) (Nat.le_of_ble_eq_true rfl)
  rw [lg_entry_eq]
  generalize (lg_sl ([.ref (b 0), .int p1, .int p2, .int p3, .int p4, .int p5, .int p6, .int p7]) ++ List.replicate (8 - (lg_sl ([.ref (b 0), .int p1, .int p2, .int p3, .int p4, .int p5, .int p6, .int p7])).length) Slot.unset).toArray = ls at hl ⊢
  have hl : lv_has ls 8 [(0, .ref (b 0)), (1, .int p1), (2, .int p2), (3, .int p3), (4, .int p4), (5, .int p5), (6, .int p6), (7, .int p7)] := hl
  have hinX4 : ∀ w ∈ wsX40, w ∈ wsX4_lays := (fun _ h => (List.mem_cons_of_mem _ (List.mem_append_right _ h)))
  revert hP hS
  intro hP hS
  refine lv_aload_n hx hb dX4_lays_0 rfl (lv_at hl 0 rfl) ?_
  refine va_get (D := D) (ci := 4) (v := .ref (b 8)) (C := RX4) (T := TX4) (N := 28) hx hb hts hinX4 hown hK hP 0 rfl rfl 8 (by decide) (hts _ (List.mem_of_getElem? (i := 1) rfl)) (fun _ h9 => h9) rfl dX4_lays_1 ?_
  refine lv_aload_n hx hb dX4_lays_4 rfl (lv_at hl 0 rfl) ?_
  refine va_get (D := D) (ci := 4) (v := .int (V.1 7)) (C := RX4) (T := TX4) (N := 28) hx hb hts hinX4 hown hK hP 0 rfl rfl 7 (by decide) (hts _ (List.mem_of_getElem? (i := 2) rfl)) (fun _ h9 => h9) rfl dX4_lays_5 ?_
  refine lv_iload_n hx hb dX4_lays_8 rfl (lv_at hl 1 rfl) ?_
  obtain ⟨g_1, h⟩ := og_some h
  refine va_iast hx hb hK hP hD hS 7 0 rfl rfl g_1 dX4_lays_9 (fun H locs hP hD hS => ?_)
  replace hP : va_P D xcl (rW cy b (rar V 8 (V.1 7).toNatClampNeg p1)) H := hP
  replace hD : va_D A (rW cy b (rar V 8 (V.1 7).toNatClampNeg p1)) := hD
  obtain ⟨V_2, eV_3, h⟩ := ob_some h
  rw [Option.some.inj eV_3] at hP hD
  refine lv_aload_n hx hb dX4_lays_10 rfl (lv_at hl 0 rfl) ?_
  refine va_get (D := D) (ci := 4) (v := .ref (b 9)) (C := RX4) (T := TX4) (N := 28) hx hb hts hinX4 hown hK hP 0 rfl rfl 9 (by decide) (hts _ (List.mem_of_getElem? (i := 3) rfl)) (fun _ h9 => h9) rfl dX4_lays_11 ?_
  refine lv_aload_n hx hb dX4_lays_14 rfl (lv_at hl 0 rfl) ?_
  refine va_get (D := D) (ci := 4) (v := .int (V_2.1 7)) (C := RX4) (T := TX4) (N := 28) hx hb hts hinX4 hown hK hP 0 rfl rfl 7 (by decide) (hts _ (List.mem_of_getElem? (i := 2) rfl)) (fun _ h9 => h9) rfl dX4_lays_15 ?_
  refine lv_iload_n hx hb dX4_lays_18 rfl (lv_at hl 2 rfl) ?_
  obtain ⟨g_4, h⟩ := og_some h
  refine va_iast hx hb hK hP hD hS 8 0 rfl rfl g_4 dX4_lays_19 (fun H locs hP hD hS => ?_)
  replace hP : va_P D xcl (rW cy b (rar V_2 9 (V_2.1 7).toNatClampNeg p2)) H := hP
  replace hD : va_D A (rW cy b (rar V_2 9 (V_2.1 7).toNatClampNeg p2)) := hD
  obtain ⟨V_5, eV_6, h⟩ := ob_some h
  rw [Option.some.inj eV_6] at hP hD
  refine lv_aload_n hx hb dX4_lays_20 rfl (lv_at hl 0 rfl) ?_
  refine va_get (D := D) (ci := 4) (v := .ref (b 10)) (C := RX4) (T := TX4) (N := 28) hx hb hts hinX4 hown hK hP 0 rfl rfl 10 (by decide) (hts _ (List.mem_of_getElem? (i := 4) rfl)) (fun _ h9 => h9) rfl dX4_lays_21 ?_
  refine lv_aload_n hx hb dX4_lays_24 rfl (lv_at hl 0 rfl) ?_
  refine va_get (D := D) (ci := 4) (v := .int (V_5.1 7)) (C := RX4) (T := TX4) (N := 28) hx hb hts hinX4 hown hK hP 0 rfl rfl 7 (by decide) (hts _ (List.mem_of_getElem? (i := 2) rfl)) (fun _ h9 => h9) rfl dX4_lays_25 ?_
  refine lv_iload_n hx hb dX4_lays_28 rfl (lv_at hl 3 rfl) ?_
  obtain ⟨g_7, h⟩ := og_some h
  refine va_iast hx hb hK hP hD hS 9 0 rfl rfl g_7 dX4_lays_29 (fun H locs hP hD hS => ?_)
  replace hP : va_P D xcl (rW cy b (rar V_5 10 (V_5.1 7).toNatClampNeg p3)) H := hP
  replace hD : va_D A (rW cy b (rar V_5 10 (V_5.1 7).toNatClampNeg p3)) := hD
  obtain ⟨V_8, eV_9, h⟩ := ob_some h
  rw [Option.some.inj eV_9] at hP hD
  refine lv_aload_n hx hb dX4_lays_30 rfl (lv_at hl 0 rfl) ?_
  refine va_get (D := D) (ci := 4) (v := .ref (b 11)) (C := RX4) (T := TX4) (N := 28) hx hb hts hinX4 hown hK hP 0 rfl rfl 11 (by decide) (hts _ (List.mem_of_getElem? (i := 5) rfl)) (fun _ h9 => h9) rfl dX4_lays_31 ?_
  refine lv_aload_n hx hb dX4_lays_34 rfl (lv_at hl 0 rfl) ?_
  refine va_get (D := D) (ci := 4) (v := .int (V_8.1 7)) (C := RX4) (T := TX4) (N := 28) hx hb hts hinX4 hown hK hP 0 rfl rfl 7 (by decide) (hts _ (List.mem_of_getElem? (i := 2) rfl)) (fun _ h9 => h9) rfl dX4_lays_35 ?_
  refine lv_iload hx hb dX4_lays_38 (lv_at hl 4 rfl) ?_
  obtain ⟨g_10, h⟩ := og_some h
  refine va_iast hx hb hK hP hD hS 10 0 rfl rfl g_10 dX4_lays_40 (fun H locs hP hD hS => ?_)
  replace hP : va_P D xcl (rW cy b (rar V_8 11 (V_8.1 7).toNatClampNeg p4)) H := hP
  replace hD : va_D A (rW cy b (rar V_8 11 (V_8.1 7).toNatClampNeg p4)) := hD
  obtain ⟨V_11, eV_12, h⟩ := ob_some h
  rw [Option.some.inj eV_12] at hP hD
  refine lv_aload_n hx hb dX4_lays_41 rfl (lv_at hl 0 rfl) ?_
  refine va_get (D := D) (ci := 4) (v := .ref (b 12)) (C := RX4) (T := TX4) (N := 28) hx hb hts hinX4 hown hK hP 0 rfl rfl 12 (by decide) (hts _ (List.mem_of_getElem? (i := 6) rfl)) (fun _ h9 => h9) rfl dX4_lays_42 ?_
  refine lv_aload_n hx hb dX4_lays_45 rfl (lv_at hl 0 rfl) ?_
  refine va_get (D := D) (ci := 4) (v := .int (V_11.1 7)) (C := RX4) (T := TX4) (N := 28) hx hb hts hinX4 hown hK hP 0 rfl rfl 7 (by decide) (hts _ (List.mem_of_getElem? (i := 2) rfl)) (fun _ h9 => h9) rfl dX4_lays_46 ?_
  refine lv_iload hx hb dX4_lays_49 (lv_at hl 5 rfl) ?_
  obtain ⟨g_13, h⟩ := og_some h
  refine va_iast hx hb hK hP hD hS 11 0 rfl rfl g_13 dX4_lays_51 (fun H locs hP hD hS => ?_)
  replace hP : va_P D xcl (rW cy b (rar V_11 12 (V_11.1 7).toNatClampNeg p5)) H := hP
  replace hD : va_D A (rW cy b (rar V_11 12 (V_11.1 7).toNatClampNeg p5)) := hD
  obtain ⟨V_14, eV_15, h⟩ := ob_some h
  rw [Option.some.inj eV_15] at hP hD
  refine lv_aload_n hx hb dX4_lays_52 rfl (lv_at hl 0 rfl) ?_
  refine va_get (D := D) (ci := 4) (v := .ref (b 13)) (C := RX4) (T := TX4) (N := 28) hx hb hts hinX4 hown hK hP 0 rfl rfl 13 (by decide) (hts _ (List.mem_of_getElem? (i := 7) rfl)) (fun _ h9 => h9) rfl dX4_lays_53 ?_
  refine lv_aload_n hx hb dX4_lays_56 rfl (lv_at hl 0 rfl) ?_
  refine va_get (D := D) (ci := 4) (v := .int (V_14.1 7)) (C := RX4) (T := TX4) (N := 28) hx hb hts hinX4 hown hK hP 0 rfl rfl 7 (by decide) (hts _ (List.mem_of_getElem? (i := 2) rfl)) (fun _ h9 => h9) rfl dX4_lays_57 ?_
  refine lv_iload hx hb dX4_lays_60 (lv_at hl 6 rfl) ?_
  obtain ⟨g_16, h⟩ := og_some h
  refine va_iast hx hb hK hP hD hS 12 0 rfl rfl g_16 dX4_lays_62 (fun H locs hP hD hS => ?_)
  replace hP : va_P D xcl (rW cy b (rar V_14 13 (V_14.1 7).toNatClampNeg p6)) H := hP
  replace hD : va_D A (rW cy b (rar V_14 13 (V_14.1 7).toNatClampNeg p6)) := hD
  obtain ⟨V_17, eV_18, h⟩ := ob_some h
  rw [Option.some.inj eV_18] at hP hD
  refine lv_aload_n hx hb dX4_lays_63 rfl (lv_at hl 0 rfl) ?_
  refine va_get (D := D) (ci := 4) (v := .ref (b 14)) (C := RX4) (T := TX4) (N := 28) hx hb hts hinX4 hown hK hP 0 rfl rfl 14 (by decide) (hts _ (List.mem_of_getElem? (i := 8) rfl)) (fun _ h9 => h9) rfl dX4_lays_64 ?_
  refine lv_aload_n hx hb dX4_lays_67 rfl (lv_at hl 0 rfl) ?_
  refine va_get (D := D) (ci := 4) (v := .int (V_17.1 7)) (C := RX4) (T := TX4) (N := 28) hx hb hts hinX4 hown hK hP 0 rfl rfl 7 (by decide) (hts _ (List.mem_of_getElem? (i := 2) rfl)) (fun _ h9 => h9) rfl dX4_lays_68 ?_
  refine lv_bipush (v := 119) hx hb dX4_lays_71 (by decide) ?_
  obtain ⟨g_19, h⟩ := og_some h
  refine va_cast hx hb hK hP hD hS 13 3 rfl rfl g_19 dX4_lays_73 (fun H locs hP hD hS => ?_)
  replace hP : va_P D xcl (rW cy b (rar V_17 14 (V_17.1 7).toNatClampNeg (vp_nar .char 119))) H := hP
  replace hD : va_D A (rW cy b (rar V_17 14 (V_17.1 7).toNatClampNeg (vp_nar .char 119))) := hD
  obtain ⟨V_20, eV_21, h⟩ := ob_some h
  rw [Option.some.inj eV_21] at hP hD
  refine lv_aload_n hx hb dX4_lays_74 rfl (lv_at hl 0 rfl) ?_
  refine va_get (D := D) (ci := 4) (v := .ref (b 17)) (C := RX4) (T := TX4) (N := 28) hx hb hts hinX4 hown hK hP 0 rfl rfl 17 (by decide) (hts _ (List.mem_of_getElem? (i := 9) rfl)) (fun _ h9 => h9) rfl dX4_lays_75 ?_
  refine lv_aload_n hx hb dX4_lays_78 rfl (lv_at hl 0 rfl) ?_
  refine va_get (D := D) (ci := 4) (v := .int (V_20.1 7)) (C := RX4) (T := TX4) (N := 28) hx hb hts hinX4 hown hK hP 0 rfl rfl 7 (by decide) (hts _ (List.mem_of_getElem? (i := 2) rfl)) (fun _ h9 => h9) rfl dX4_lays_79 ?_
  refine lv_iload hx hb dX4_lays_82 (lv_at hl 7 rfl) ?_
  obtain ⟨g_22, h⟩ := og_some h
  refine va_iast hx hb hK hP hD hS 16 0 rfl rfl g_22 dX4_lays_84 (fun H locs hP hD hS => ?_)
  replace hP : va_P D xcl (rW cy b (rar V_20 17 (V_20.1 7).toNatClampNeg p7)) H := hP
  replace hD : va_D A (rW cy b (rar V_20 17 (V_20.1 7).toNatClampNeg p7)) := hD
  obtain ⟨V_23, eV_24, h⟩ := ob_some h
  rw [Option.some.inj eV_24] at hP hD
  refine lv_aload_n hx hb dX4_lays_85 rfl (lv_at hl 0 rfl) ?_
  refine va_get (D := D) (ci := 4) (v := .ref (b 18)) (C := RX4) (T := TX4) (N := 28) hx hb hts hinX4 hown hK hP 0 rfl rfl 18 (by decide) (hts _ (List.mem_of_getElem? (i := 10) rfl)) (fun _ h9 => h9) rfl dX4_lays_86 ?_
  refine lv_aload_n hx hb dX4_lays_89 rfl (lv_at hl 0 rfl) ?_
  refine va_get (D := D) (ci := 4) (v := .int (V_23.1 7)) (C := RX4) (T := TX4) (N := 28) hx hb hts hinX4 hown hK hP 0 rfl rfl 7 (by decide) (hts _ (List.mem_of_getElem? (i := 2) rfl)) (fun _ h9 => h9) rfl dX4_lays_90 ?_
  refine lv_iload_n hx hb dX4_lays_93 rfl (lv_at hl 1 rfl) ?_
  refine lv_iload_n hx hb dX4_lays_94 rfl (lv_at hl 2 rfl) ?_
  refine lv_iload_n hx hb dX4_lays_95 rfl (lv_at hl 3 rfl) ?_
  refine lv_iload hx hb dX4_lays_96 (lv_at hl 4 rfl) ?_
  obtain ⟨u_25, hg_26, h⟩ := ob_some h
  refine zcSl (W.runS (As := [.int p1, .int p2, .int p3, .int p4]) (rest := [.int (V_23.1 7), .ref (b 18)]) ⟨hx, hb, hml, hown, hts⟩ (c_X4_air l p1 p2 p3 p4 hg_26) (va_cwS 4 hts gX4_lays_X4_air rfl rfl rfl hd_X4_air ⟨Nat.le_of_ble_eq_true rfl, Nat.le_of_ble_eq_true rfl⟩) ⟨zT_blind, zT_at⟩ rfl rfl hl.1 rfl (lv_room (Nat.le_of_ble_eq_true rfl)) dX4_lays_98 ⟨Nat.le_of_ble_eq_true rfl, Nat.le_of_ble_eq_true rfl⟩) ?_
  obtain ⟨g_27, h⟩ := og_some h
  refine va_last hx hb hK hP hD hS 17 1 rfl rfl g_27 dX4_lays_101 (fun H locs hP hD hS => ?_)
  replace hP : va_P D xcl (rW cy b (rlg V_23 (V_23.1 7).toNatClampNeg u_25)) H := hP
  replace hD : va_D A (rW cy b (rlg V_23 (V_23.1 7).toNatClampNeg u_25)) := hD
  obtain ⟨V_28, eV_29, h⟩ := ob_some h
  rw [Option.some.inj eV_29] at hP hD
  refine lv_aload_n hx hb dX4_lays_102 rfl (lv_at hl 0 rfl) ?_
  refine lv_dup hx hb dX4_lays_103 rfl ?_
  refine va_get (D := D) (ci := 4) (v := .int (V_28.1 7)) (C := RX4) (T := TX4) (N := 28) hx hb hts hinX4 hown hK hP 0 rfl rfl 7 (by decide) (hts _ (List.mem_of_getElem? (i := 2) rfl)) (fun _ h9 => h9) rfl dX4_lays_104 ?_
  refine lv_iconst (v := 1) hx hb dX4_lays_107 (by decide) ?_
  refine lv_iadd hx hb dX4_lays_108 ?_
  refine va_put (D := D) (ci := 4) (v := .int ((V_28.1 7) + 1)) (ty := .int) (C := RX4) (T := TX4) (N := 28) hx hb hts hinX4 tyX4 tyX4_ok nmX4 hown hK hP hD hS 0 rfl rfl 7 (by decide) (hts _ (List.mem_of_getElem? (i := 2) rfl)) (fun _ h9 => h9) rfl (by decide +kernel) rfl rfl (Nat.le_of_ble_eq_true rfl) dX4_lays_109 (fun H locs hP hD hS => ?_)
  replace hP : va_P D xcl (rW cy b (rsc V_28 7 ((V_28.1 7) + 1))) H := hP
  replace hD : va_D A (rW cy b (rsc V_28 7 ((V_28.1 7) + 1))) := hD
  obtain ⟨V_30, eV_31, h⟩ := ob_some h
  rw [Option.some.inj eV_31] at hP hD
  have h9 := Option.some.inj h
  subst h9
  exact W.vret hx hb hr (fun t ht hW => ⟨⟨(), rfl, trivial, ⟨by rw [ht]; exact hP, hD⟩⟩, hS.F ht⟩) hS.2.2 dX4_lays_112 hlocks
def f_X4_isLift (p1 : Int32) (p2 : Int32) (p3 : Int32) (p4 : Int32) (p5 : Int32) (p6 : Int32) : Option (Int32) := ob (f_X4_isPlace p1 p2) (fun u_1 => oi (u_1 = 0) (some 0) (ob (f_X4_isPlace p3 p4) (fun u_4 => oi (u_4 = 0) (some 0) (ob (f_X4_in p5 1 999) (fun u_7 => oi (u_7 = 0) (some 0) (ob (f_X4_in p6 1 60) (fun u_10 => oi (u_10 = 0) (some 0) (some 1))))))))
theorem hd_X4_isLift : yX4_isLift.cls ≠ "java/lang/invoke/MethodHandle" ∧ yX4_isLift.cls ≠ "java/lang/invoke/VarHandle" ∧ (parseMethodDescriptor yX4_isLift.desc).map (fun d => d.parameters.length) = some 6 := by decide +kernel
set_option maxHeartbeats 4000000 in
set_option maxRecDepth 100000 in
theorem c_X4_isLift (l : Launch) (p1 : Int32) (p2 : Int32) (p3 : Int32) (p4 : Int32) (p5 : Int32) (p6 : Int32) {res : Int32} (h : f_X4_isLift p1 p2 p3 p4 p5 p6 = some res) : Met l yX4_isLift wsX4_isLift ({ frames := 2, cells := 0, slots := 0, locals := 43 } : Room) (va_Pc [.int p1, .int p2, .int p3, .int p4, .int p5, .int p6] zT) (vp_Si (fun r => r = res)) 0 0 (fun _ => False) := by
  refine Met.ofW (cc := cX4_isLift) (maxL := 6) (ret := (some .boolean)) (by decide) rfl ?_
  intro p e s m args below meth c s₁ B hml hv
  obtain ⟨rfl, -⟩ := hv
  have hx := B.exec
  have hb := B.bytes
  have hr := B.returns
  have hts := atoms_spec (ws := wsX4_isLift) B.pre
  have hown : s.vm.findClass RX4 = some m.cls := findClass_of_methodNamed B.named
  have hlocks := B.notSynchronized
  have hl := lv_entry ([.int p1, .int p2, .int p3, .int p4, .int p5, .int p6]) (n := 6) (Nat.le_of_ble_eq_true rfl)
  rw [lg_entry_eq]
  generalize (lg_sl ([.int p1, .int p2, .int p3, .int p4, .int p5, .int p6]) ++ List.replicate (6 - (lg_sl ([.int p1, .int p2, .int p3, .int p4, .int p5, .int p6])).length) Slot.unset).toArray = ls at hl ⊢
  have hl : lv_has ls 6 [(0, .int p1), (1, .int p2), (2, .int p3), (3, .int p4), (4, .int p5), (5, .int p6)] := hl
  refine lv_iload_n hx hb dX4_isLift_0 rfl (lv_at hl 0 rfl) ?_
  refine lv_iload_n hx hb dX4_isLift_1 rfl (lv_at hl 1 rfl) ?_
  obtain ⟨u_1, hg_2, h⟩ := ob_some h
  refine zcSi (W.runS (As := [.int p1, .int p2]) (rest := []) ⟨hx, hb, hml, hown, hts⟩ (c_X4_isPlace l p1 p2 hg_2) (va_cwS 2 hts gX4_isLift_X4_isPlace rfl rfl rfl hd_X4_isPlace ⟨Nat.le_of_ble_eq_true rfl, Nat.le_of_ble_eq_true rfl⟩) ⟨zT_blind, zT_at⟩ rfl rfl hl.1 rfl (lv_room (Nat.le_of_ble_eq_true rfl)) dX4_isLift_2 ⟨Nat.le_of_ble_eq_true rfl, Nat.le_of_ble_eq_true rfl⟩) ?_
  refine lv_if_eq (tgt := 43) hx hb dX4_isLift_5 (by decide) (fun c_3 => ?_) (fun c_3 => ?_)
  · replace h := oi_t c_3 h
    refine lv_iconst (v := 0) hx hb dX4_isLift_43 (by decide) ?_
    have h9 := Option.some.inj h
    exact W.zret (v := 0) hx hb hr (by decide) (fun t ht hW => ⟨0, rfl, h9, ht⟩) (fun _ hq => absurd hq List.not_mem_nil) dX4_isLift_44 hlocks
  · replace h := oi_f c_3 h
    refine lv_iload_n hx hb dX4_isLift_8 rfl (lv_at hl 2 rfl) ?_
    refine lv_iload_n hx hb dX4_isLift_9 rfl (lv_at hl 3 rfl) ?_
    obtain ⟨u_4, hg_5, h⟩ := ob_some h
    refine zcSi (W.runS (As := [.int p3, .int p4]) (rest := []) ⟨hx, hb, hml, hown, hts⟩ (c_X4_isPlace l p3 p4 hg_5) (va_cwS 2 hts gX4_isLift_X4_isPlace rfl rfl rfl hd_X4_isPlace ⟨Nat.le_of_ble_eq_true rfl, Nat.le_of_ble_eq_true rfl⟩) ⟨zT_blind, zT_at⟩ rfl rfl hl.1 rfl (lv_room (Nat.le_of_ble_eq_true rfl)) dX4_isLift_10 ⟨Nat.le_of_ble_eq_true rfl, Nat.le_of_ble_eq_true rfl⟩) ?_
    refine lv_if_eq (tgt := 43) hx hb dX4_isLift_13 (by decide) (fun c_6 => ?_) (fun c_6 => ?_)
    · replace h := oi_t c_6 h
      refine lv_iconst (v := 0) hx hb dX4_isLift_43 (by decide) ?_
      have h9 := Option.some.inj h
      exact W.zret (v := 0) hx hb hr (by decide) (fun t ht hW => ⟨0, rfl, h9, ht⟩) (fun _ hq => absurd hq List.not_mem_nil) dX4_isLift_44 hlocks
    · replace h := oi_f c_6 h
      refine lv_iload hx hb dX4_isLift_16 (lv_at hl 4 rfl) ?_
      refine lv_iconst (v := 1) hx hb dX4_isLift_18 (by decide) ?_
      refine lv_sipush (v := 999) hx hb dX4_isLift_19 (by decide) ?_
      obtain ⟨u_7, hg_8, h⟩ := ob_some h
      refine zcSi (W.runS (As := [.int p5, .int 1, .int 999]) (rest := []) ⟨hx, hb, hml, hown, hts⟩ (c_X4_in l p5 1 999 hg_8) (va_cwS 3 hts gX4_isLift_X4_in rfl rfl rfl hd_X4_in ⟨Nat.le_of_ble_eq_true rfl, Nat.le_of_ble_eq_true rfl⟩) ⟨zT_blind, zT_at⟩ rfl rfl hl.1 rfl (lv_room (Nat.le_of_ble_eq_true rfl)) dX4_isLift_22 ⟨Nat.le_of_ble_eq_true rfl, Nat.le_of_ble_eq_true rfl⟩) ?_
      refine lv_if_eq (tgt := 43) hx hb dX4_isLift_25 (by decide) (fun c_9 => ?_) (fun c_9 => ?_)
      · replace h := oi_t c_9 h
        refine lv_iconst (v := 0) hx hb dX4_isLift_43 (by decide) ?_
        have h9 := Option.some.inj h
        exact W.zret (v := 0) hx hb hr (by decide) (fun t ht hW => ⟨0, rfl, h9, ht⟩) (fun _ hq => absurd hq List.not_mem_nil) dX4_isLift_44 hlocks
      · replace h := oi_f c_9 h
        refine lv_iload hx hb dX4_isLift_28 (lv_at hl 5 rfl) ?_
        refine lv_iconst (v := 1) hx hb dX4_isLift_30 (by decide) ?_
        refine lv_bipush (v := 60) hx hb dX4_isLift_31 (by decide) ?_
        obtain ⟨u_10, hg_11, h⟩ := ob_some h
        refine zcSi (W.runS (As := [.int p6, .int 1, .int 60]) (rest := []) ⟨hx, hb, hml, hown, hts⟩ (c_X4_in l p6 1 60 hg_11) (va_cwS 3 hts gX4_isLift_X4_in rfl rfl rfl hd_X4_in ⟨Nat.le_of_ble_eq_true rfl, Nat.le_of_ble_eq_true rfl⟩) ⟨zT_blind, zT_at⟩ rfl rfl hl.1 rfl (lv_room (Nat.le_of_ble_eq_true rfl)) dX4_isLift_33 ⟨Nat.le_of_ble_eq_true rfl, Nat.le_of_ble_eq_true rfl⟩) ?_
        refine lv_if_eq (tgt := 43) hx hb dX4_isLift_36 (by decide) (fun c_12 => ?_) (fun c_12 => ?_)
        · replace h := oi_t c_12 h
          refine lv_iconst (v := 0) hx hb dX4_isLift_43 (by decide) ?_
          have h9 := Option.some.inj h
          exact W.zret (v := 0) hx hb hr (by decide) (fun t ht hW => ⟨0, rfl, h9, ht⟩) (fun _ hq => absurd hq List.not_mem_nil) dX4_isLift_44 hlocks
        · replace h := oi_f c_12 h
          refine lv_iconst (v := 1) hx hb dX4_isLift_39 (by decide) ?_
          refine lv_goto (tgt := 44) hx hb dX4_isLift_40 (by decide) ?_
          have h9 := Option.some.inj h
          exact W.zret (v := 1) hx hb hr (by decide) (fun t ht hW => ⟨1, rfl, h9, ht⟩) (fun _ hq => absurd hq List.not_mem_nil) dX4_isLift_44 hlocks
def f_X4_addLift (V : RV) (p1 : Int32) (p2 : Int32) (p3 : Int32) (p4 : Int32) (p5 : Int32) (p6 : Int32) : Option (Int32 × RV) := ob (f_X4_isLift p1 p2 p3 p4 p5 p6) (fun u_1 => oi (u_1 = 0) (ob (f_X4_fails V 1) (fun u_15 => oi (u_15.1 = 0) (ob (f_X4_lays u_15.2 p1 p2 p3 p4 p5 p6 (-1)) (fun u_18 => some ((u_18.1 7) - 1, u_18))) (some (0, u_15.2)))) (oi ((V.1 7) = 40) (ob (f_X4_fails V 2) (fun u_10 => oi (u_10.1 = 0) (ob (f_X4_lays u_10.2 p1 p2 p3 p4 p5 p6 (-1)) (fun u_13 => some ((u_13.1 7) - 1, u_13))) (some (0, u_10.2)))) (ob (f_X4_fails V 0) (fun u_5 => oi (u_5.1 = 0) (ob (f_X4_lays u_5.2 p1 p2 p3 p4 p5 p6 (-1)) (fun u_8 => some ((u_8.1 7) - 1, u_8))) (some (0, u_5.2))))))
theorem hd_X4_addLift : yX4_addLift.cls = RX4 ∧ yX4_addLift.cls ≠ "java/lang/invoke/MethodHandle" ∧ yX4_addLift.cls ≠ "java/lang/invoke/VarHandle" ∧ (parseMethodDescriptor yX4_addLift.desc).map (fun d => d.parameters.length) = some 6 := by decide +kernel
set_option maxHeartbeats 4000000 in
set_option maxRecDepth 100000 in
theorem c_X4_addLift (l : Launch) (D : va_G) (cy : Nat → ClassId) (b : Nat → Nat) (V : RV) (sz : Nat) (p1 : Int32) (p2 : Int32) (p3 : Int32) (p4 : Int32) (p5 : Int32) (p6 : Int32) {res : Int32 × RV} (h : f_X4_addLift V p1 p2 p3 p4 p5 p6 = some res) : Met l yX4_addLift wsX4_addLift ({ frames := 4, cells := 0, slots := 0, locals := 98 } : Room) (va_Pc [.ref (b 0), .int p1, .int p2, .int p3, .int p4, .int p5, .int p6] (zJ sz (rI D cy b V))) (va_Qi (fun r (_ : Unit) => r = res.1) (fun _ t => va_P D xcl (rW cy b res.2) t.heap ∧ va_D (va_A (rW cy b V) sz) (rW cy b res.2)) (va_A (rW cy b V) sz)) 0 0 (va_A (rW cy b V) sz) := by
  refine Met.ofW (cc := cX4_addLift) (maxL := 7) (ret := (some .int)) (by decide) rfl ?_
  intro p e s m args below meth c s₁ B hml hv
  obtain ⟨rfl, hsz, hP, hK, hD0⟩ := hv
  have hx := B.exec
  have hb := B.bytes
  have hr := B.returns
  have hts := atoms_spec (ws := wsX4_addLift) B.pre
  have hown : s.vm.findClass RX4 = some m.cls := findClass_of_methodNamed B.named
  have hlocks := B.notSynchronized
  subst hsz
  have hD := hD0.self (sz := s.heap.size)
  generalize hAe : va_A (rW cy b V) s.heap.size = A at hD ⊢
  have hA : ∀ q : Nat, s.heap.size ≤ q → A q := fun q h => by rw [← hAe]; exact Or.inr h
  have hS : va_S A s.heap s.heap [] := va_S.rf
  have hl := lv_entry ([.ref (b 0), .int p1, .int p2, .int p3, .int p4, .int p5, .int p6]) (n := 7) (Nat.le_of_ble_eq_true rfl)
  rw [lg_entry_eq]
  generalize (lg_sl ([.ref (b 0), .int p1, .int p2, .int p3, .int p4, .int p5, .int p6]) ++ List.replicate (7 - (lg_sl ([.ref (b 0), .int p1, .int p2, .int p3, .int p4, .int p5, .int p6])).length) Slot.unset).toArray = ls at hl ⊢
  have hl : lv_has ls 7 [(0, .ref (b 0)), (1, .int p1), (2, .int p2), (3, .int p3), (4, .int p4), (5, .int p5), (6, .int p6)] := hl
  have hinX4 : ∀ w ∈ wsX40, w ∈ wsX4_addLift := (fun _ h => (List.mem_cons_of_mem _ (List.mem_append_right _ h)))
  revert hP hS
  intro hP hS
  refine lv_aload_n hx hb dX4_addLift_0 rfl (lv_at hl 0 rfl) ?_
  refine lv_iload_n hx hb dX4_addLift_1 rfl (lv_at hl 1 rfl) ?_
  refine lv_iload_n hx hb dX4_addLift_2 rfl (lv_at hl 2 rfl) ?_
  refine lv_iload_n hx hb dX4_addLift_3 rfl (lv_at hl 3 rfl) ?_
  refine lv_iload hx hb dX4_addLift_4 (lv_at hl 4 rfl) ?_
  refine lv_iload hx hb dX4_addLift_6 (lv_at hl 5 rfl) ?_
  refine lv_iload hx hb dX4_addLift_8 (lv_at hl 6 rfl) ?_
  obtain ⟨u_1, hg_2, h⟩ := ob_some h
  refine zcSi (W.runS (As := [.int p1, .int p2, .int p3, .int p4, .int p5, .int p6]) (rest := [.ref (b 0)]) ⟨hx, hb, hml, hown, hts⟩ (c_X4_isLift l p1 p2 p3 p4 p5 p6 hg_2) (va_cwS 6 hts gX4_addLift_X4_isLift rfl rfl rfl hd_X4_isLift ⟨Nat.le_of_ble_eq_true rfl, Nat.le_of_ble_eq_true rfl⟩) ⟨zT_blind, zT_at⟩ rfl rfl hl.1 rfl (lv_room (Nat.le_of_ble_eq_true rfl)) dX4_addLift_10 ⟨Nat.le_of_ble_eq_true rfl, Nat.le_of_ble_eq_true rfl⟩) ?_
  refine lv_if_ne (tgt := 20) hx hb dX4_addLift_13 (by decide) (fun c_3 => ?_) (fun c_3 => ?_)
  · replace h := oi_f c_3 h
    refine lv_aload_n hx hb dX4_addLift_20 rfl (lv_at hl 0 rfl) ?_
    refine va_get (D := D) (ci := 4) (v := .int (V.1 7)) (C := RX4) (T := TX4) (N := 28) hx hb hts hinX4 hown hK hP 0 rfl rfl 7 (by decide) (hts _ (List.mem_of_getElem? (i := 1) rfl)) (fun _ h9 => h9) rfl dX4_addLift_21 ?_
    refine lv_bipush (v := 40) hx hb dX4_addLift_24 (by decide) ?_
    refine lv_icmp_ne (tgt := 33) hx hb dX4_addLift_26 (by decide) (fun c_4 => ?_) (fun c_4 => ?_)
    · replace h := oi_f c_4 h
      refine lv_iconst (v := 0) hx hb dX4_addLift_33 (by decide) ?_
      obtain ⟨u_5, hg_6, h⟩ := ob_some h
      refine zcWi (va_runV (As := [.int 0]) (rest := []) ⟨hx, hb, hml, hown, hts⟩ (c_X4_fails l D cy b V _ 0 hg_6) (cwV 1 hts gX4_addLift_X4_fails rfl rfl rfl hd_X4_fails ⟨Nat.le_of_ble_eq_true rfl, Nat.le_of_ble_eq_true rfl⟩) ⟨(zJ_blind rI_blind), va_recv hK hP (ci := 4) (q0 := 0) rfl rfl, (zJ_at (rI_at hP hK hD))⟩ rfl rfl hl.1 rfl (lv_room (Nat.le_of_ble_eq_true rfl)) dX4_addLift_34 ⟨Nat.le_of_ble_eq_true rfl, Nat.le_of_ble_eq_true rfl⟩) hS (z_free hD hS hA) (fun H locs hP hD hS => ?_)
      refine lv_if_eq (tgt := 42) hx hb dX4_addLift_37 (by decide) (fun c_7 => ?_) (fun c_7 => ?_)
      · replace h := oi_t c_7 h
        refine lv_aload_n hx hb dX4_addLift_42 rfl (lv_at hl 0 rfl) ?_
        refine lv_iload_n hx hb dX4_addLift_43 rfl (lv_at hl 1 rfl) ?_
        refine lv_iload_n hx hb dX4_addLift_44 rfl (lv_at hl 2 rfl) ?_
        refine lv_iload_n hx hb dX4_addLift_45 rfl (lv_at hl 3 rfl) ?_
        refine lv_iload hx hb dX4_addLift_46 (lv_at hl 4 rfl) ?_
        refine lv_iload hx hb dX4_addLift_48 (lv_at hl 5 rfl) ?_
        refine lv_iload hx hb dX4_addLift_50 (lv_at hl 6 rfl) ?_
        refine lv_iconst (v := (-1)) hx hb dX4_addLift_52 (by decide) ?_
        obtain ⟨u_8, hg_9, h⟩ := ob_some h
        refine zcWv (va_runV (As := [.int p1, .int p2, .int p3, .int p4, .int p5, .int p6, .int ((-1))]) (rest := []) ⟨hx, hb, hml, hown, hts⟩ (c_X4_lays l D cy b u_5.2 _ p1 p2 p3 p4 p5 p6 (-1) hg_9) (cwV 7 hts gX4_addLift_X4_lays rfl rfl rfl hd_X4_lays ⟨Nat.le_of_ble_eq_true rfl, Nat.le_of_ble_eq_true rfl⟩) ⟨(zJ_blind rI_blind), va_recv hK hP (ci := 4) (q0 := 0) rfl rfl, (zJ_at (rI_at hP hK hD))⟩ rfl rfl hl.1 rfl (lv_room (Nat.le_of_ble_eq_true rfl)) dX4_addLift_53 ⟨Nat.le_of_ble_eq_true rfl, Nat.le_of_ble_eq_true rfl⟩) hS (z_free hD hS hA) (fun H locs hP hD hS => ?_)
        refine lv_aload_n hx hb dX4_addLift_56 rfl (lv_at hl 0 rfl) ?_
        refine va_get (D := D) (ci := 4) (v := .int (u_8.1 7)) (C := RX4) (T := TX4) (N := 28) hx hb hts hinX4 hown hK hP 0 rfl rfl 7 (by decide) (hts _ (List.mem_of_getElem? (i := 1) rfl)) (fun _ h9 => h9) rfl dX4_addLift_57 ?_
        refine lv_iconst (v := 1) hx hb dX4_addLift_60 (by decide) ?_
        refine lv_isub hx hb dX4_addLift_61 ?_
        have h9 := Option.some.inj h
        subst h9
        exact W.iret (v := (u_8.1 7) - 1) hx hb hr (fun t ht hW => ⟨⟨(u_8.1 7) - 1, (), rfl, rfl, ⟨by rw [ht]; exact hP, hD⟩⟩, hS.F ht⟩) hS.2.2 dX4_addLift_62 hlocks
      · replace h := oi_f c_7 h
        refine lv_iconst (v := 0) hx hb dX4_addLift_40 (by decide) ?_
        have h9 := Option.some.inj h
        subst h9
        exact W.iret (v := 0) hx hb hr (fun t ht hW => ⟨⟨0, (), rfl, rfl, ⟨by rw [ht]; exact hP, hD⟩⟩, hS.F ht⟩) hS.2.2 dX4_addLift_41 hlocks
    · replace h := oi_t c_4 h
      refine lv_iconst (v := 2) hx hb dX4_addLift_29 (by decide) ?_
      refine lv_goto (tgt := 34) hx hb dX4_addLift_30 (by decide) ?_
      obtain ⟨u_10, hg_11, h⟩ := ob_some h
      refine zcWi (va_runV (As := [.int 2]) (rest := []) ⟨hx, hb, hml, hown, hts⟩ (c_X4_fails l D cy b V _ 2 hg_11) (cwV 1 hts gX4_addLift_X4_fails rfl rfl rfl hd_X4_fails ⟨Nat.le_of_ble_eq_true rfl, Nat.le_of_ble_eq_true rfl⟩) ⟨(zJ_blind rI_blind), va_recv hK hP (ci := 4) (q0 := 0) rfl rfl, (zJ_at (rI_at hP hK hD))⟩ rfl rfl hl.1 rfl (lv_room (Nat.le_of_ble_eq_true rfl)) dX4_addLift_34 ⟨Nat.le_of_ble_eq_true rfl, Nat.le_of_ble_eq_true rfl⟩) hS (z_free hD hS hA) (fun H locs hP hD hS => ?_)
      refine lv_if_eq (tgt := 42) hx hb dX4_addLift_37 (by decide) (fun c_12 => ?_) (fun c_12 => ?_)
      · replace h := oi_t c_12 h
        refine lv_aload_n hx hb dX4_addLift_42 rfl (lv_at hl 0 rfl) ?_
        refine lv_iload_n hx hb dX4_addLift_43 rfl (lv_at hl 1 rfl) ?_
        refine lv_iload_n hx hb dX4_addLift_44 rfl (lv_at hl 2 rfl) ?_
        refine lv_iload_n hx hb dX4_addLift_45 rfl (lv_at hl 3 rfl) ?_
        refine lv_iload hx hb dX4_addLift_46 (lv_at hl 4 rfl) ?_
        refine lv_iload hx hb dX4_addLift_48 (lv_at hl 5 rfl) ?_
        refine lv_iload hx hb dX4_addLift_50 (lv_at hl 6 rfl) ?_
        refine lv_iconst (v := (-1)) hx hb dX4_addLift_52 (by decide) ?_
        obtain ⟨u_13, hg_14, h⟩ := ob_some h
        refine zcWv (va_runV (As := [.int p1, .int p2, .int p3, .int p4, .int p5, .int p6, .int ((-1))]) (rest := []) ⟨hx, hb, hml, hown, hts⟩ (c_X4_lays l D cy b u_10.2 _ p1 p2 p3 p4 p5 p6 (-1) hg_14) (cwV 7 hts gX4_addLift_X4_lays rfl rfl rfl hd_X4_lays ⟨Nat.le_of_ble_eq_true rfl, Nat.le_of_ble_eq_true rfl⟩) ⟨(zJ_blind rI_blind), va_recv hK hP (ci := 4) (q0 := 0) rfl rfl, (zJ_at (rI_at hP hK hD))⟩ rfl rfl hl.1 rfl (lv_room (Nat.le_of_ble_eq_true rfl)) dX4_addLift_53 ⟨Nat.le_of_ble_eq_true rfl, Nat.le_of_ble_eq_true rfl⟩) hS (z_free hD hS hA) (fun H locs hP hD hS => ?_)
        refine lv_aload_n hx hb dX4_addLift_56 rfl (lv_at hl 0 rfl) ?_
        refine va_get (D := D) (ci := 4) (v := .int (u_13.1 7)) (C := RX4) (T := TX4) (N := 28) hx hb hts hinX4 hown hK hP 0 rfl rfl 7 (by decide) (hts _ (List.mem_of_getElem? (i := 1) rfl)) (fun _ h9 => h9) rfl dX4_addLift_57 ?_
        refine lv_iconst (v := 1) hx hb dX4_addLift_60 (by decide) ?_
        refine lv_isub hx hb dX4_addLift_61 ?_
        have h9 := Option.some.inj h
        subst h9
        exact W.iret (v := (u_13.1 7) - 1) hx hb hr (fun t ht hW => ⟨⟨(u_13.1 7) - 1, (), rfl, rfl, ⟨by rw [ht]; exact hP, hD⟩⟩, hS.F ht⟩) hS.2.2 dX4_addLift_62 hlocks
      · replace h := oi_f c_12 h
        refine lv_iconst (v := 0) hx hb dX4_addLift_40 (by decide) ?_
        have h9 := Option.some.inj h
        subst h9
        exact W.iret (v := 0) hx hb hr (fun t ht hW => ⟨⟨0, (), rfl, rfl, ⟨by rw [ht]; exact hP, hD⟩⟩, hS.F ht⟩) hS.2.2 dX4_addLift_41 hlocks
  · replace h := oi_t c_3 h
    refine lv_iconst (v := 1) hx hb dX4_addLift_16 (by decide) ?_
    refine lv_goto (tgt := 34) hx hb dX4_addLift_17 (by decide) ?_
    obtain ⟨u_15, hg_16, h⟩ := ob_some h
    refine zcWi (va_runV (As := [.int 1]) (rest := []) ⟨hx, hb, hml, hown, hts⟩ (c_X4_fails l D cy b V _ 1 hg_16) (cwV 1 hts gX4_addLift_X4_fails rfl rfl rfl hd_X4_fails ⟨Nat.le_of_ble_eq_true rfl, Nat.le_of_ble_eq_true rfl⟩) ⟨(zJ_blind rI_blind), va_recv hK hP (ci := 4) (q0 := 0) rfl rfl, (zJ_at (rI_at hP hK hD))⟩ rfl rfl hl.1 rfl (lv_room (Nat.le_of_ble_eq_true rfl)) dX4_addLift_34 ⟨Nat.le_of_ble_eq_true rfl, Nat.le_of_ble_eq_true rfl⟩) hS (z_free hD hS hA) (fun H locs hP hD hS => ?_)
    refine lv_if_eq (tgt := 42) hx hb dX4_addLift_37 (by decide) (fun c_17 => ?_) (fun c_17 => ?_)
    · replace h := oi_t c_17 h
      refine lv_aload_n hx hb dX4_addLift_42 rfl (lv_at hl 0 rfl) ?_
      refine lv_iload_n hx hb dX4_addLift_43 rfl (lv_at hl 1 rfl) ?_
      refine lv_iload_n hx hb dX4_addLift_44 rfl (lv_at hl 2 rfl) ?_
      refine lv_iload_n hx hb dX4_addLift_45 rfl (lv_at hl 3 rfl) ?_
      refine lv_iload hx hb dX4_addLift_46 (lv_at hl 4 rfl) ?_
      refine lv_iload hx hb dX4_addLift_48 (lv_at hl 5 rfl) ?_
      refine lv_iload hx hb dX4_addLift_50 (lv_at hl 6 rfl) ?_
      refine lv_iconst (v := (-1)) hx hb dX4_addLift_52 (by decide) ?_
      obtain ⟨u_18, hg_19, h⟩ := ob_some h
      refine zcWv (va_runV (As := [.int p1, .int p2, .int p3, .int p4, .int p5, .int p6, .int ((-1))]) (rest := []) ⟨hx, hb, hml, hown, hts⟩ (c_X4_lays l D cy b u_15.2 _ p1 p2 p3 p4 p5 p6 (-1) hg_19) (cwV 7 hts gX4_addLift_X4_lays rfl rfl rfl hd_X4_lays ⟨Nat.le_of_ble_eq_true rfl, Nat.le_of_ble_eq_true rfl⟩) ⟨(zJ_blind rI_blind), va_recv hK hP (ci := 4) (q0 := 0) rfl rfl, (zJ_at (rI_at hP hK hD))⟩ rfl rfl hl.1 rfl (lv_room (Nat.le_of_ble_eq_true rfl)) dX4_addLift_53 ⟨Nat.le_of_ble_eq_true rfl, Nat.le_of_ble_eq_true rfl⟩) hS (z_free hD hS hA) (fun H locs hP hD hS => ?_)
      refine lv_aload_n hx hb dX4_addLift_56 rfl (lv_at hl 0 rfl) ?_
      refine va_get (D := D) (ci := 4) (v := .int (u_18.1 7)) (C := RX4) (T := TX4) (N := 28) hx hb hts hinX4 hown hK hP 0 rfl rfl 7 (by decide) (hts _ (List.mem_of_getElem? (i := 1) rfl)) (fun _ h9 => h9) rfl dX4_addLift_57 ?_
      refine lv_iconst (v := 1) hx hb dX4_addLift_60 (by decide) ?_
      refine lv_isub hx hb dX4_addLift_61 ?_
      have h9 := Option.some.inj h
      subst h9
      exact W.iret (v := (u_18.1 7) - 1) hx hb hr (fun t ht hW => ⟨⟨(u_18.1 7) - 1, (), rfl, rfl, ⟨by rw [ht]; exact hP, hD⟩⟩, hS.F ht⟩) hS.2.2 dX4_addLift_62 hlocks
    · replace h := oi_f c_17 h
      refine lv_iconst (v := 0) hx hb dX4_addLift_40 (by decide) ?_
      have h9 := Option.some.inj h
      subst h9
      exact W.iret (v := 0) hx hb hr (fun t ht hW => ⟨⟨0, (), rfl, rfl, ⟨by rw [ht]; exact hP, hD⟩⟩, hS.F ht⟩) hS.2.2 dX4_addLift_41 hlocks
def f_X4_addPour_126 : RV → Nat → Int32 → Int32 → Int32 → Int32 → Int32 → Int32 → Int32 → Int32 → Option (Int32 × RV)
  | _, 0, _, _, _, _, _, _, _, _ => none
  | V, fu + 1, zx1, zx2, zx3, zx4, zx5, zx6, zx7, zx10 => oi (zx7 ≤ zx10) (ob (some (rsc V 19 ((V.1 19) + 1))) (fun V_17 => some ((V_17.1 19) - 1, V_17))) (ob (f_X4_lays V zx1 zx2 zx3 zx4 zx5 zx6 (V.1 19)) (fun u_19 => f_X4_addPour_126 u_19 fu zx1 zx2 zx3 zx4 zx5 zx6 zx7 (zx10 + 1)))
def f_X4_addPour (V : RV) (p1 : Int32) (p2 : Int32) (p3 : Int32) (p4 : Int32) (p5 : Int32) (p6 : Int32) (p7 : Int32) (p8 : Int32) : Option (Int32 × RV) := ob (f_X4_isLift p1 p2 p3 p4 p5 p6) (fun u_1 => oi (u_1 = 0) (ob (f_X4_fails V 1) (fun u_4 => oi (u_4.1 = 0) (og (¬ ((u_4.2.1 19) < 0 ∨ 6 ≤ (u_4.2.1 19).toNatClampNeg)) (ob (some (rar u_4.2 20 (u_4.2.1 19).toNatClampNeg (u_4.2.1 7))) (fun V_8 => og (¬ ((V_8.1 19) < 0 ∨ 6 ≤ (V_8.1 19).toNatClampNeg)) (ob (some (rar V_8 21 (V_8.1 19).toNatClampNeg p7)) (fun V_11 => og (¬ ((V_11.1 19) < 0 ∨ 6 ≤ (V_11.1 19).toNatClampNeg)) (ob (some (rar V_11 22 (V_11.1 19).toNatClampNeg p8)) (fun V_14 => f_X4_addPour_126 V_14 FU p1 p2 p3 p4 p5 p6 p7 0))))))) (some (0, u_4.2)))) (ob (f_X4_in p7 2 8) (fun u_21 => oi (u_21 = 0) (ob (f_X4_fails V 1) (fun u_24 => oi (u_24.1 = 0) (og (¬ ((u_24.2.1 19) < 0 ∨ 6 ≤ (u_24.2.1 19).toNatClampNeg)) (ob (some (rar u_24.2 20 (u_24.2.1 19).toNatClampNeg (u_24.2.1 7))) (fun V_28 => og (¬ ((V_28.1 19) < 0 ∨ 6 ≤ (V_28.1 19).toNatClampNeg)) (ob (some (rar V_28 21 (V_28.1 19).toNatClampNeg p7)) (fun V_31 => og (¬ ((V_31.1 19) < 0 ∨ 6 ≤ (V_31.1 19).toNatClampNeg)) (ob (some (rar V_31 22 (V_31.1 19).toNatClampNeg p8)) (fun V_34 => f_X4_addPour_126 V_34 FU p1 p2 p3 p4 p5 p6 p7 0))))))) (some (0, u_24.2)))) (ob (f_X4_in p8 0 60) (fun u_36 => oi (u_36 = 0) (ob (f_X4_fails V 1) (fun u_39 => oi (u_39.1 = 0) (og (¬ ((u_39.2.1 19) < 0 ∨ 6 ≤ (u_39.2.1 19).toNatClampNeg)) (ob (some (rar u_39.2 20 (u_39.2.1 19).toNatClampNeg (u_39.2.1 7))) (fun V_43 => og (¬ ((V_43.1 19) < 0 ∨ 6 ≤ (V_43.1 19).toNatClampNeg)) (ob (some (rar V_43 21 (V_43.1 19).toNatClampNeg p7)) (fun V_46 => og (¬ ((V_46.1 19) < 0 ∨ 6 ≤ (V_46.1 19).toNatClampNeg)) (ob (some (rar V_46 22 (V_46.1 19).toNatClampNeg p8)) (fun V_49 => f_X4_addPour_126 V_49 FU p1 p2 p3 p4 p5 p6 p7 0))))))) (some (0, u_39.2)))) (oi ((V.1 19) = 6) (ob (f_X4_fails V 2) (fun u_52 => oi (u_52.1 = 0) (og (¬ ((u_52.2.1 19) < 0 ∨ 6 ≤ (u_52.2.1 19).toNatClampNeg)) (ob (some (rar u_52.2 20 (u_52.2.1 19).toNatClampNeg (u_52.2.1 7))) (fun V_56 => og (¬ ((V_56.1 19) < 0 ∨ 6 ≤ (V_56.1 19).toNatClampNeg)) (ob (some (rar V_56 21 (V_56.1 19).toNatClampNeg p7)) (fun V_59 => og (¬ ((V_59.1 19) < 0 ∨ 6 ≤ (V_59.1 19).toNatClampNeg)) (ob (some (rar V_59 22 (V_59.1 19).toNatClampNeg p8)) (fun V_62 => f_X4_addPour_126 V_62 FU p1 p2 p3 p4 p5 p6 p7 0))))))) (some (0, u_52.2)))) (oi (((V.1 7) + p7) ≤ 40) (ob (f_X4_fails V 0) (fun u_65 => oi (u_65.1 = 0) (og (¬ ((u_65.2.1 19) < 0 ∨ 6 ≤ (u_65.2.1 19).toNatClampNeg)) (ob (some (rar u_65.2 20 (u_65.2.1 19).toNatClampNeg (u_65.2.1 7))) (fun V_69 => og (¬ ((V_69.1 19) < 0 ∨ 6 ≤ (V_69.1 19).toNatClampNeg)) (ob (some (rar V_69 21 (V_69.1 19).toNatClampNeg p7)) (fun V_72 => og (¬ ((V_72.1 19) < 0 ∨ 6 ≤ (V_72.1 19).toNatClampNeg)) (ob (some (rar V_72 22 (V_72.1 19).toNatClampNeg p8)) (fun V_75 => f_X4_addPour_126 V_75 FU p1 p2 p3 p4 p5 p6 p7 0))))))) (some (0, u_65.2)))) (ob (f_X4_fails V 2) (fun u_77 => oi (u_77.1 = 0) (og (¬ ((u_77.2.1 19) < 0 ∨ 6 ≤ (u_77.2.1 19).toNatClampNeg)) (ob (some (rar u_77.2 20 (u_77.2.1 19).toNatClampNeg (u_77.2.1 7))) (fun V_81 => og (¬ ((V_81.1 19) < 0 ∨ 6 ≤ (V_81.1 19).toNatClampNeg)) (ob (some (rar V_81 21 (V_81.1 19).toNatClampNeg p7)) (fun V_84 => og (¬ ((V_84.1 19) < 0 ∨ 6 ≤ (V_84.1 19).toNatClampNeg)) (ob (some (rar V_84 22 (V_84.1 19).toNatClampNeg p8)) (fun V_87 => f_X4_addPour_126 V_87 FU p1 p2 p3 p4 p5 p6 p7 0))))))) (some (0, u_77.2)))))))))))
theorem hd_X4_addPour : yX4_addPour.cls = RX4 ∧ yX4_addPour.cls ≠ "java/lang/invoke/MethodHandle" ∧ yX4_addPour.cls ≠ "java/lang/invoke/VarHandle" ∧ (parseMethodDescriptor yX4_addPour.desc).map (fun d => d.parameters.length) = some 8 := by decide +kernel
set_option maxHeartbeats 4000000 in
set_option maxRecDepth 100000 in
theorem k_X4_addPour_126 {p : Program} {l : Launch} {e : Env} {s : State} {m : MethodId} {args : Array Value} {below : List Frame} {meth : Method} {c : Code} {D : va_G} {cy : Nat → ClassId} {b : Nat → Nat} {A : Nat → Prop} (hx : p.tables.exec = Jvm.exec) (hb : c.code = cX4_addPour) (hr : meth.sig.returnType = (some .int)) (hts : ∀ w ∈ wsX4_addPour, w.before args s = true) (hml : c.maxLocals = 11) (hown : s.vm.findClass RX4 = some m.cls) (hlocks : meth.locks = false) (hK : va_K D xcl (xty cy) s) (hA : ∀ q, s.heap.size ≤ q → A q) (res : Int32 × RV) : ∀ (fu : Nat) (zx1 : Int32) (zx2 : Int32) (zx3 : Int32) (zx4 : Int32) (zx5 : Int32) (zx6 : Int32) (zx7 : Int32) (zx10 : Int32) (V : RV) (H : Heap) (locs : List Loc)  (ls : Array Slot), f_X4_addPour_126 V fu zx1 zx2 zx3 zx4 zx5 zx6 zx7 zx10 = some res → va_P D xcl (rW cy b V) H → va_D A (rW cy b V) → va_S A s.heap H locs → lv_has ls 11 [(0, .ref (b 0)), (1, .int zx1), (2, .int zx2), (3, .int zx3), (4, .int zx4), (5, .int zx5), (6, .int zx6), (7, .int zx7), (10, .int zx10)] → W p l e ({ frames := 4, cells := 0, slots := 0, locals := 98 } : Room) s m args below meth c H locs 0 0 (MQ below (va_Qi (fun r (_ : Unit) => r = res.1) (fun _ t => va_P D xcl (rW cy b res.2) t.heap ∧ va_D A (rW cy b res.2)) A) args s 0 0 (A)) (F0 m 126 ls []) := by
  have hinX4 : ∀ w ∈ wsX40, w ∈ wsX4_addPour := (fun _ h => (List.mem_cons_of_mem _ (List.mem_append_right _ h)))
  intro fu
  induction fu with
  | zero =>
    intro zx1 zx2 zx3 zx4 zx5 zx6 zx7 zx10 V H locs  ls h hP hD hS hl
    cases h
  | succ fu ih =>
    intro zx1 zx2 zx3 zx4 zx5 zx6 zx7 zx10 V H locs  ls h hP hD hS hl
    refine lv_iload hx hb dX4_addPour_126 (lv_at hl 8 rfl) ?_
    refine lv_iload hx hb dX4_addPour_128 (lv_at hl 7 rfl) ?_
    refine lv_icmp_ge (tgt := 156) hx hb dX4_addPour_130 (by decide) (fun c_16 => ?_) (fun c_16 => ?_)
    · replace h := oi_t c_16 h
      refine lv_aload_n hx hb dX4_addPour_156 rfl (lv_at hl 0 rfl) ?_
      refine lv_dup hx hb dX4_addPour_157 rfl ?_
      refine va_get (D := D) (ci := 4) (v := .int (V.1 19)) (C := RX4) (T := TX4) (N := 28) hx hb hts hinX4 hown hK hP 0 rfl rfl 19 (by decide) (hts _ (List.mem_of_getElem? (i := 1) rfl)) (fun _ h9 => h9) rfl dX4_addPour_158 ?_
      refine lv_iconst (v := 1) hx hb dX4_addPour_161 (by decide) ?_
      refine lv_iadd hx hb dX4_addPour_162 ?_
      refine va_put (D := D) (ci := 4) (v := .int ((V.1 19) + 1)) (ty := .int) (C := RX4) (T := TX4) (N := 28) hx hb hts hinX4 tyX4 tyX4_ok nmX4 hown hK hP hD hS 0 rfl rfl 19 (by decide) (hts _ (List.mem_of_getElem? (i := 1) rfl)) (fun _ h9 => h9) rfl (by decide +kernel) rfl rfl (Nat.le_of_ble_eq_true rfl) dX4_addPour_163 (fun H locs hP hD hS => ?_)
      replace hP : va_P D xcl (rW cy b (rsc V 19 ((V.1 19) + 1))) H := hP
      replace hD : va_D A (rW cy b (rsc V 19 ((V.1 19) + 1))) := hD
      obtain ⟨V_17, eV_18, h⟩ := ob_some h
      rw [Option.some.inj eV_18] at hP hD
      refine lv_aload_n hx hb dX4_addPour_166 rfl (lv_at hl 0 rfl) ?_
      refine va_get (D := D) (ci := 4) (v := .int (V_17.1 19)) (C := RX4) (T := TX4) (N := 28) hx hb hts hinX4 hown hK hP 0 rfl rfl 19 (by decide) (hts _ (List.mem_of_getElem? (i := 1) rfl)) (fun _ h9 => h9) rfl dX4_addPour_167 ?_
      refine lv_iconst (v := 1) hx hb dX4_addPour_170 (by decide) ?_
      refine lv_isub hx hb dX4_addPour_171 ?_
      have h9 := Option.some.inj h
      subst h9
      exact W.iret (v := (V_17.1 19) - 1) hx hb hr (fun t ht hW => ⟨⟨(V_17.1 19) - 1, (), rfl, rfl, ⟨by rw [ht]; exact hP, hD⟩⟩, hS.F ht⟩) hS.2.2 dX4_addPour_172 hlocks
    · replace h := oi_f c_16 h
      refine lv_aload_n hx hb dX4_addPour_133 rfl (lv_at hl 0 rfl) ?_
      refine lv_iload_n hx hb dX4_addPour_134 rfl (lv_at hl 1 rfl) ?_
      refine lv_iload_n hx hb dX4_addPour_135 rfl (lv_at hl 2 rfl) ?_
      refine lv_iload_n hx hb dX4_addPour_136 rfl (lv_at hl 3 rfl) ?_
      refine lv_iload hx hb dX4_addPour_137 (lv_at hl 4 rfl) ?_
      refine lv_iload hx hb dX4_addPour_139 (lv_at hl 5 rfl) ?_
      refine lv_iload hx hb dX4_addPour_141 (lv_at hl 6 rfl) ?_
      refine lv_aload_n hx hb dX4_addPour_143 rfl (lv_at hl 0 rfl) ?_
      refine va_get (D := D) (ci := 4) (v := .int (V.1 19)) (C := RX4) (T := TX4) (N := 28) hx hb hts hinX4 hown hK hP 0 rfl rfl 19 (by decide) (hts _ (List.mem_of_getElem? (i := 1) rfl)) (fun _ h9 => h9) rfl dX4_addPour_144 ?_
      obtain ⟨u_19, hg_20, h⟩ := ob_some h
      refine zcWv (va_runV (As := [.int zx1, .int zx2, .int zx3, .int zx4, .int zx5, .int zx6, .int (V.1 19)]) (rest := []) ⟨hx, hb, hml, hown, hts⟩ (c_X4_lays l D cy b V _ zx1 zx2 zx3 zx4 zx5 zx6 (V.1 19) hg_20) (cwV 7 hts gX4_addPour_X4_lays rfl rfl rfl hd_X4_lays ⟨Nat.le_of_ble_eq_true rfl, Nat.le_of_ble_eq_true rfl⟩) ⟨(zJ_blind rI_blind), va_recv hK hP (ci := 4) (q0 := 0) rfl rfl, (zJ_at (rI_at hP hK hD))⟩ rfl rfl hl.1 rfl (lv_room (Nat.le_of_ble_eq_true rfl)) dX4_addPour_147 ⟨Nat.le_of_ble_eq_true rfl, Nat.le_of_ble_eq_true rfl⟩) hS (z_free hD hS hA) (fun H locs hP hD hS => ?_)
      refine lv_iinc (v := zx10 + 1) (lv' := [(10, .int (zx10 + 1)), (0, .ref (b 0)), (1, .int zx1), (2, .int zx2), (3, .int zx3), (4, .int zx4), (5, .int zx5), (6, .int zx6), (7, .int zx7)]) hx hb dX4_addPour_150 hl (k := 8) rfl rfl (by decide) rfl (fun ls hl => ?_)
      refine lv_goto (tgt := 126) hx hb dX4_addPour_153 (by decide) ?_
      exact ih zx1 zx2 zx3 zx4 zx5 zx6 zx7 (zx10 + 1) _ _ _  ls h hP hD hS (lv_sub hl [1, 2, 3, 4, 5, 6, 7, 8, 0] rfl)
set_option maxHeartbeats 4000000 in
set_option maxRecDepth 100000 in
theorem c_X4_addPour (l : Launch) (D : va_G) (cy : Nat → ClassId) (b : Nat → Nat) (V : RV) (sz : Nat) (p1 : Int32) (p2 : Int32) (p3 : Int32) (p4 : Int32) (p5 : Int32) (p6 : Int32) (p7 : Int32) (p8 : Int32) {res : Int32 × RV} (h : f_X4_addPour V p1 p2 p3 p4 p5 p6 p7 p8 = some res) : Met l yX4_addPour wsX4_addPour ({ frames := 4, cells := 0, slots := 0, locals := 98 } : Room) (va_Pc [.ref (b 0), .int p1, .int p2, .int p3, .int p4, .int p5, .int p6, .int p7, .int p8] (zJ sz (rI D cy b V))) (va_Qi (fun r (_ : Unit) => r = res.1) (fun _ t => va_P D xcl (rW cy b res.2) t.heap ∧ va_D (va_A (rW cy b V) sz) (rW cy b res.2)) (va_A (rW cy b V) sz)) 0 0 (va_A (rW cy b V) sz) := by
  refine Met.ofW (cc := cX4_addPour) (maxL := 11) (ret := (some .int)) (by decide) rfl ?_
  intro p e s m args below meth c s₁ B hml hv
  obtain ⟨rfl, hsz, hP, hK, hD0⟩ := hv
  have hx := B.exec
  have hb := B.bytes
  have hr := B.returns
  have hts := atoms_spec (ws := wsX4_addPour) B.pre
  have hown : s.vm.findClass RX4 = some m.cls := findClass_of_methodNamed B.named
  have hlocks := B.notSynchronized
  subst hsz
  have hD := hD0.self (sz := s.heap.size)
  generalize hAe : va_A (rW cy b V) s.heap.size = A at hD ⊢
  have hA : ∀ q : Nat, s.heap.size ≤ q → A q := fun q h => by rw [← hAe]; exact Or.inr h
  have hS : va_S A s.heap s.heap [] := va_S.rf
  have hl := lv_entry ([.ref (b 0), .int p1, .int p2, .int p3, .int p4, .int p5, .int p6, .int p7, .int p8]) (n := 11) (Nat.le_of_ble_eq_true rfl)
  rw [lg_entry_eq]
  generalize (lg_sl ([.ref (b 0), .int p1, .int p2, .int p3, .int p4, .int p5, .int p6, .int p7, .int p8]) ++ List.replicate (11 - (lg_sl ([.ref (b 0), .int p1, .int p2, .int p3, .int p4, .int p5, .int p6, .int p7, .int p8])).length) Slot.unset).toArray = ls at hl ⊢
  have hl : lv_has ls 11 [(0, .ref (b 0)), (1, .int p1), (2, .int p2), (3, .int p3), (4, .int p4), (5, .int p5), (6, .int p6), (7, .int p7), (8, .int p8)] := hl
  have hinX4 : ∀ w ∈ wsX40, w ∈ wsX4_addPour := (fun _ h => (List.mem_cons_of_mem _ (List.mem_append_right _ h)))
  revert hP hS
  intro hP hS
  refine lv_iload_n hx hb dX4_addPour_0 rfl (lv_at hl 1 rfl) ?_
  refine lv_iload_n hx hb dX4_addPour_1 rfl (lv_at hl 2 rfl) ?_
  refine lv_iload_n hx hb dX4_addPour_2 rfl (lv_at hl 3 rfl) ?_
  refine lv_iload hx hb dX4_addPour_3 (lv_at hl 4 rfl) ?_
  refine lv_iload hx hb dX4_addPour_5 (lv_at hl 5 rfl) ?_
  refine lv_iload hx hb dX4_addPour_7 (lv_at hl 6 rfl) ?_
  obtain ⟨u_1, hg_2, h⟩ := ob_some h
  refine zcSi (W.runS (As := [.int p1, .int p2, .int p3, .int p4, .int p5, .int p6]) (rest := []) ⟨hx, hb, hml, hown, hts⟩ (c_X4_isLift l p1 p2 p3 p4 p5 p6 hg_2) (va_cwS 6 hts gX4_addPour_X4_isLift rfl rfl rfl hd_X4_isLift ⟨Nat.le_of_ble_eq_true rfl, Nat.le_of_ble_eq_true rfl⟩) ⟨zT_blind, zT_at⟩ rfl rfl hl.1 rfl (lv_room (Nat.le_of_ble_eq_true rfl)) dX4_addPour_9 ⟨Nat.le_of_ble_eq_true rfl, Nat.le_of_ble_eq_true rfl⟩) ?_
  refine lv_if_eq (tgt := 41) hx hb dX4_addPour_12 (by decide) (fun c_3 => ?_) (fun c_3 => ?_)
  · replace h := oi_t c_3 h
    refine lv_iconst (v := 0) hx hb dX4_addPour_41 (by decide) ?_
    refine lv_istore (lv' := [(9, .int 0), (0, .ref (b 0)), (1, .int p1), (2, .int p2), (3, .int p3), (4, .int p4), (5, .int p5), (6, .int p6), (7, .int p7), (8, .int p8)]) hx hb dX4_addPour_42 hl (by decide) rfl (fun ls hl => ?_)
    refine lv_aload_n hx hb dX4_addPour_44 rfl (lv_at hl 1 rfl) ?_
    refine lv_iload hx hb dX4_addPour_45 (lv_at hl 0 rfl) ?_
    refine lv_if_ne (tgt := 54) hx hb dX4_addPour_47 (by decide) (fun c0 => absurd c0 (by decide)) (fun _ => ?_)
    refine lv_iconst (v := 1) hx hb dX4_addPour_50 (by decide) ?_
    refine lv_goto (tgt := 80) hx hb dX4_addPour_51 (by decide) ?_
    obtain ⟨u_4, hg_5, h⟩ := ob_some h
    refine zcWi (va_runV (As := [.int 1]) (rest := []) ⟨hx, hb, hml, hown, hts⟩ (c_X4_fails l D cy b V _ 1 hg_5) (cwV 1 hts gX4_addPour_X4_fails rfl rfl rfl hd_X4_fails ⟨Nat.le_of_ble_eq_true rfl, Nat.le_of_ble_eq_true rfl⟩) ⟨(zJ_blind rI_blind), va_recv hK hP (ci := 4) (q0 := 0) rfl rfl, (zJ_at (rI_at hP hK hD))⟩ rfl rfl hl.1 rfl (lv_room (Nat.le_of_ble_eq_true rfl)) dX4_addPour_80 ⟨Nat.le_of_ble_eq_true rfl, Nat.le_of_ble_eq_true rfl⟩) hS (z_free hD hS hA) (fun H locs hP hD hS => ?_)
    refine lv_if_eq (tgt := 88) hx hb dX4_addPour_83 (by decide) (fun c_6 => ?_) (fun c_6 => ?_)
    · replace h := oi_t c_6 h
      refine lv_aload_n hx hb dX4_addPour_88 rfl (lv_at hl 1 rfl) ?_
      refine va_get (D := D) (ci := 4) (v := .ref (b 20)) (C := RX4) (T := TX4) (N := 28) hx hb hts hinX4 hown hK hP 0 rfl rfl 20 (by decide) (hts _ (List.mem_of_getElem? (i := 3) rfl)) (fun _ h9 => h9) rfl dX4_addPour_89 ?_
      refine lv_aload_n hx hb dX4_addPour_92 rfl (lv_at hl 1 rfl) ?_
      refine va_get (D := D) (ci := 4) (v := .int (u_4.2.1 19)) (C := RX4) (T := TX4) (N := 28) hx hb hts hinX4 hown hK hP 0 rfl rfl 19 (by decide) (hts _ (List.mem_of_getElem? (i := 1) rfl)) (fun _ h9 => h9) rfl dX4_addPour_93 ?_
      refine lv_aload_n hx hb dX4_addPour_96 rfl (lv_at hl 1 rfl) ?_
      refine va_get (D := D) (ci := 4) (v := .int (u_4.2.1 7)) (C := RX4) (T := TX4) (N := 28) hx hb hts hinX4 hown hK hP 0 rfl rfl 7 (by decide) (hts _ (List.mem_of_getElem? (i := 2) rfl)) (fun _ h9 => h9) rfl dX4_addPour_97 ?_
      obtain ⟨g_7, h⟩ := og_some h
      refine va_iast hx hb hK hP hD hS 18 0 rfl rfl g_7 dX4_addPour_100 (fun H locs hP hD hS => ?_)
      replace hP : va_P D xcl (rW cy b (rar u_4.2 20 (u_4.2.1 19).toNatClampNeg (u_4.2.1 7))) H := hP
      replace hD : va_D A (rW cy b (rar u_4.2 20 (u_4.2.1 19).toNatClampNeg (u_4.2.1 7))) := hD
      obtain ⟨V_8, eV_9, h⟩ := ob_some h
      rw [Option.some.inj eV_9] at hP hD
      refine lv_aload_n hx hb dX4_addPour_101 rfl (lv_at hl 1 rfl) ?_
      refine va_get (D := D) (ci := 4) (v := .ref (b 21)) (C := RX4) (T := TX4) (N := 28) hx hb hts hinX4 hown hK hP 0 rfl rfl 21 (by decide) (hts _ (List.mem_of_getElem? (i := 4) rfl)) (fun _ h9 => h9) rfl dX4_addPour_102 ?_
      refine lv_aload_n hx hb dX4_addPour_105 rfl (lv_at hl 1 rfl) ?_
      refine va_get (D := D) (ci := 4) (v := .int (V_8.1 19)) (C := RX4) (T := TX4) (N := 28) hx hb hts hinX4 hown hK hP 0 rfl rfl 19 (by decide) (hts _ (List.mem_of_getElem? (i := 1) rfl)) (fun _ h9 => h9) rfl dX4_addPour_106 ?_
      refine lv_iload hx hb dX4_addPour_109 (lv_at hl 8 rfl) ?_
      obtain ⟨g_10, h⟩ := og_some h
      refine va_iast hx hb hK hP hD hS 19 0 rfl rfl g_10 dX4_addPour_111 (fun H locs hP hD hS => ?_)
      replace hP : va_P D xcl (rW cy b (rar V_8 21 (V_8.1 19).toNatClampNeg p7)) H := hP
      replace hD : va_D A (rW cy b (rar V_8 21 (V_8.1 19).toNatClampNeg p7)) := hD
      obtain ⟨V_11, eV_12, h⟩ := ob_some h
      rw [Option.some.inj eV_12] at hP hD
      refine lv_aload_n hx hb dX4_addPour_112 rfl (lv_at hl 1 rfl) ?_
      refine va_get (D := D) (ci := 4) (v := .ref (b 22)) (C := RX4) (T := TX4) (N := 28) hx hb hts hinX4 hown hK hP 0 rfl rfl 22 (by decide) (hts _ (List.mem_of_getElem? (i := 5) rfl)) (fun _ h9 => h9) rfl dX4_addPour_113 ?_
      refine lv_aload_n hx hb dX4_addPour_116 rfl (lv_at hl 1 rfl) ?_
      refine va_get (D := D) (ci := 4) (v := .int (V_11.1 19)) (C := RX4) (T := TX4) (N := 28) hx hb hts hinX4 hown hK hP 0 rfl rfl 19 (by decide) (hts _ (List.mem_of_getElem? (i := 1) rfl)) (fun _ h9 => h9) rfl dX4_addPour_117 ?_
      refine lv_iload hx hb dX4_addPour_120 (lv_at hl 9 rfl) ?_
      obtain ⟨g_13, h⟩ := og_some h
      refine va_iast hx hb hK hP hD hS 20 0 rfl rfl g_13 dX4_addPour_122 (fun H locs hP hD hS => ?_)
      replace hP : va_P D xcl (rW cy b (rar V_11 22 (V_11.1 19).toNatClampNeg p8)) H := hP
      replace hD : va_D A (rW cy b (rar V_11 22 (V_11.1 19).toNatClampNeg p8)) := hD
      obtain ⟨V_14, eV_15, h⟩ := ob_some h
      rw [Option.some.inj eV_15] at hP hD
      refine lv_iconst (v := 0) hx hb dX4_addPour_123 (by decide) ?_
      refine lv_istore (lv' := [(10, .int 0), (9, .int 0), (0, .ref (b 0)), (1, .int p1), (2, .int p2), (3, .int p3), (4, .int p4), (5, .int p5), (6, .int p6), (7, .int p7), (8, .int p8)]) hx hb dX4_addPour_124 hl (by decide) rfl (fun ls hl => ?_)
      exact k_X4_addPour_126 hx hb hr hts hml hown hlocks hK hA _ _ p1 p2 p3 p4 p5 p6 p7 0 _ _ _  ls h hP hD hS (lv_sub hl [2, 3, 4, 5, 6, 7, 8, 9, 0] rfl)
    · replace h := oi_f c_6 h
      refine lv_iconst (v := 0) hx hb dX4_addPour_86 (by decide) ?_
      have h9 := Option.some.inj h
      subst h9
      exact W.iret (v := 0) hx hb hr (fun t ht hW => ⟨⟨0, (), rfl, rfl, ⟨by rw [ht]; exact hP, hD⟩⟩, hS.F ht⟩) hS.2.2 dX4_addPour_87 hlocks
  · replace h := oi_f c_3 h
    refine lv_iload hx hb dX4_addPour_15 (lv_at hl 7 rfl) ?_
    refine lv_iconst (v := 2) hx hb dX4_addPour_17 (by decide) ?_
    refine lv_bipush (v := 8) hx hb dX4_addPour_18 (by decide) ?_
    obtain ⟨u_21, hg_22, h⟩ := ob_some h
    refine zcSi (W.runS (As := [.int p7, .int 2, .int 8]) (rest := []) ⟨hx, hb, hml, hown, hts⟩ (c_X4_in l p7 2 8 hg_22) (va_cwS 3 hts gX4_addPour_X4_in rfl rfl rfl hd_X4_in ⟨Nat.le_of_ble_eq_true rfl, Nat.le_of_ble_eq_true rfl⟩) ⟨zT_blind, zT_at⟩ rfl rfl hl.1 rfl (lv_room (Nat.le_of_ble_eq_true rfl)) dX4_addPour_20 ⟨Nat.le_of_ble_eq_true rfl, Nat.le_of_ble_eq_true rfl⟩) ?_
    refine lv_if_eq (tgt := 41) hx hb dX4_addPour_23 (by decide) (fun c_23 => ?_) (fun c_23 => ?_)
    · replace h := oi_t c_23 h
      refine lv_iconst (v := 0) hx hb dX4_addPour_41 (by decide) ?_
      refine lv_istore (lv' := [(9, .int 0), (0, .ref (b 0)), (1, .int p1), (2, .int p2), (3, .int p3), (4, .int p4), (5, .int p5), (6, .int p6), (7, .int p7), (8, .int p8)]) hx hb dX4_addPour_42 hl (by decide) rfl (fun ls hl => ?_)
      refine lv_aload_n hx hb dX4_addPour_44 rfl (lv_at hl 1 rfl) ?_
      refine lv_iload hx hb dX4_addPour_45 (lv_at hl 0 rfl) ?_
      refine lv_if_ne (tgt := 54) hx hb dX4_addPour_47 (by decide) (fun c0 => absurd c0 (by decide)) (fun _ => ?_)
      refine lv_iconst (v := 1) hx hb dX4_addPour_50 (by decide) ?_
      refine lv_goto (tgt := 80) hx hb dX4_addPour_51 (by decide) ?_
      obtain ⟨u_24, hg_25, h⟩ := ob_some h
      refine zcWi (va_runV (As := [.int 1]) (rest := []) ⟨hx, hb, hml, hown, hts⟩ (c_X4_fails l D cy b V _ 1 hg_25) (cwV 1 hts gX4_addPour_X4_fails rfl rfl rfl hd_X4_fails ⟨Nat.le_of_ble_eq_true rfl, Nat.le_of_ble_eq_true rfl⟩) ⟨(zJ_blind rI_blind), va_recv hK hP (ci := 4) (q0 := 0) rfl rfl, (zJ_at (rI_at hP hK hD))⟩ rfl rfl hl.1 rfl (lv_room (Nat.le_of_ble_eq_true rfl)) dX4_addPour_80 ⟨Nat.le_of_ble_eq_true rfl, Nat.le_of_ble_eq_true rfl⟩) hS (z_free hD hS hA) (fun H locs hP hD hS => ?_)
      refine lv_if_eq (tgt := 88) hx hb dX4_addPour_83 (by decide) (fun c_26 => ?_) (fun c_26 => ?_)
      · replace h := oi_t c_26 h
        refine lv_aload_n hx hb dX4_addPour_88 rfl (lv_at hl 1 rfl) ?_
        refine va_get (D := D) (ci := 4) (v := .ref (b 20)) (C := RX4) (T := TX4) (N := 28) hx hb hts hinX4 hown hK hP 0 rfl rfl 20 (by decide) (hts _ (List.mem_of_getElem? (i := 3) rfl)) (fun _ h9 => h9) rfl dX4_addPour_89 ?_
        refine lv_aload_n hx hb dX4_addPour_92 rfl (lv_at hl 1 rfl) ?_
        refine va_get (D := D) (ci := 4) (v := .int (u_24.2.1 19)) (C := RX4) (T := TX4) (N := 28) hx hb hts hinX4 hown hK hP 0 rfl rfl 19 (by decide) (hts _ (List.mem_of_getElem? (i := 1) rfl)) (fun _ h9 => h9) rfl dX4_addPour_93 ?_
        refine lv_aload_n hx hb dX4_addPour_96 rfl (lv_at hl 1 rfl) ?_
        refine va_get (D := D) (ci := 4) (v := .int (u_24.2.1 7)) (C := RX4) (T := TX4) (N := 28) hx hb hts hinX4 hown hK hP 0 rfl rfl 7 (by decide) (hts _ (List.mem_of_getElem? (i := 2) rfl)) (fun _ h9 => h9) rfl dX4_addPour_97 ?_
        obtain ⟨g_27, h⟩ := og_some h
        refine va_iast hx hb hK hP hD hS 18 0 rfl rfl g_27 dX4_addPour_100 (fun H locs hP hD hS => ?_)
        replace hP : va_P D xcl (rW cy b (rar u_24.2 20 (u_24.2.1 19).toNatClampNeg (u_24.2.1 7))) H := hP
        replace hD : va_D A (rW cy b (rar u_24.2 20 (u_24.2.1 19).toNatClampNeg (u_24.2.1 7))) := hD
        obtain ⟨V_28, eV_29, h⟩ := ob_some h
        rw [Option.some.inj eV_29] at hP hD
        refine lv_aload_n hx hb dX4_addPour_101 rfl (lv_at hl 1 rfl) ?_
        refine va_get (D := D) (ci := 4) (v := .ref (b 21)) (C := RX4) (T := TX4) (N := 28) hx hb hts hinX4 hown hK hP 0 rfl rfl 21 (by decide) (hts _ (List.mem_of_getElem? (i := 4) rfl)) (fun _ h9 => h9) rfl dX4_addPour_102 ?_
        refine lv_aload_n hx hb dX4_addPour_105 rfl (lv_at hl 1 rfl) ?_
        refine va_get (D := D) (ci := 4) (v := .int (V_28.1 19)) (C := RX4) (T := TX4) (N := 28) hx hb hts hinX4 hown hK hP 0 rfl rfl 19 (by decide) (hts _ (List.mem_of_getElem? (i := 1) rfl)) (fun _ h9 => h9) rfl dX4_addPour_106 ?_
        refine lv_iload hx hb dX4_addPour_109 (lv_at hl 8 rfl) ?_
        obtain ⟨g_30, h⟩ := og_some h
        refine va_iast hx hb hK hP hD hS 19 0 rfl rfl g_30 dX4_addPour_111 (fun H locs hP hD hS => ?_)
        replace hP : va_P D xcl (rW cy b (rar V_28 21 (V_28.1 19).toNatClampNeg p7)) H := hP
        replace hD : va_D A (rW cy b (rar V_28 21 (V_28.1 19).toNatClampNeg p7)) := hD
        obtain ⟨V_31, eV_32, h⟩ := ob_some h
        rw [Option.some.inj eV_32] at hP hD
        refine lv_aload_n hx hb dX4_addPour_112 rfl (lv_at hl 1 rfl) ?_
        refine va_get (D := D) (ci := 4) (v := .ref (b 22)) (C := RX4) (T := TX4) (N := 28) hx hb hts hinX4 hown hK hP 0 rfl rfl 22 (by decide) (hts _ (List.mem_of_getElem? (i := 5) rfl)) (fun _ h9 => h9) rfl dX4_addPour_113 ?_
        refine lv_aload_n hx hb dX4_addPour_116 rfl (lv_at hl 1 rfl) ?_
        refine va_get (D := D) (ci := 4) (v := .int (V_31.1 19)) (C := RX4) (T := TX4) (N := 28) hx hb hts hinX4 hown hK hP 0 rfl rfl 19 (by decide) (hts _ (List.mem_of_getElem? (i := 1) rfl)) (fun _ h9 => h9) rfl dX4_addPour_117 ?_
        refine lv_iload hx hb dX4_addPour_120 (lv_at hl 9 rfl) ?_
        obtain ⟨g_33, h⟩ := og_some h
        refine va_iast hx hb hK hP hD hS 20 0 rfl rfl g_33 dX4_addPour_122 (fun H locs hP hD hS => ?_)
        replace hP : va_P D xcl (rW cy b (rar V_31 22 (V_31.1 19).toNatClampNeg p8)) H := hP
        replace hD : va_D A (rW cy b (rar V_31 22 (V_31.1 19).toNatClampNeg p8)) := hD
        obtain ⟨V_34, eV_35, h⟩ := ob_some h
        rw [Option.some.inj eV_35] at hP hD
        refine lv_iconst (v := 0) hx hb dX4_addPour_123 (by decide) ?_
        refine lv_istore (lv' := [(10, .int 0), (9, .int 0), (0, .ref (b 0)), (1, .int p1), (2, .int p2), (3, .int p3), (4, .int p4), (5, .int p5), (6, .int p6), (7, .int p7), (8, .int p8)]) hx hb dX4_addPour_124 hl (by decide) rfl (fun ls hl => ?_)
        exact k_X4_addPour_126 hx hb hr hts hml hown hlocks hK hA _ _ p1 p2 p3 p4 p5 p6 p7 0 _ _ _  ls h hP hD hS (lv_sub hl [2, 3, 4, 5, 6, 7, 8, 9, 0] rfl)
      · replace h := oi_f c_26 h
        refine lv_iconst (v := 0) hx hb dX4_addPour_86 (by decide) ?_
        have h9 := Option.some.inj h
        subst h9
        exact W.iret (v := 0) hx hb hr (fun t ht hW => ⟨⟨0, (), rfl, rfl, ⟨by rw [ht]; exact hP, hD⟩⟩, hS.F ht⟩) hS.2.2 dX4_addPour_87 hlocks
    · replace h := oi_f c_23 h
      refine lv_iload hx hb dX4_addPour_26 (lv_at hl 8 rfl) ?_
      refine lv_iconst (v := 0) hx hb dX4_addPour_28 (by decide) ?_
      refine lv_bipush (v := 60) hx hb dX4_addPour_29 (by decide) ?_
      obtain ⟨u_36, hg_37, h⟩ := ob_some h
      refine zcSi (W.runS (As := [.int p8, .int 0, .int 60]) (rest := []) ⟨hx, hb, hml, hown, hts⟩ (c_X4_in l p8 0 60 hg_37) (va_cwS 3 hts gX4_addPour_X4_in rfl rfl rfl hd_X4_in ⟨Nat.le_of_ble_eq_true rfl, Nat.le_of_ble_eq_true rfl⟩) ⟨zT_blind, zT_at⟩ rfl rfl hl.1 rfl (lv_room (Nat.le_of_ble_eq_true rfl)) dX4_addPour_31 ⟨Nat.le_of_ble_eq_true rfl, Nat.le_of_ble_eq_true rfl⟩) ?_
      refine lv_if_eq (tgt := 41) hx hb dX4_addPour_34 (by decide) (fun c_38 => ?_) (fun c_38 => ?_)
      · replace h := oi_t c_38 h
        refine lv_iconst (v := 0) hx hb dX4_addPour_41 (by decide) ?_
        refine lv_istore (lv' := [(9, .int 0), (0, .ref (b 0)), (1, .int p1), (2, .int p2), (3, .int p3), (4, .int p4), (5, .int p5), (6, .int p6), (7, .int p7), (8, .int p8)]) hx hb dX4_addPour_42 hl (by decide) rfl (fun ls hl => ?_)
        refine lv_aload_n hx hb dX4_addPour_44 rfl (lv_at hl 1 rfl) ?_
        refine lv_iload hx hb dX4_addPour_45 (lv_at hl 0 rfl) ?_
        refine lv_if_ne (tgt := 54) hx hb dX4_addPour_47 (by decide) (fun c0 => absurd c0 (by decide)) (fun _ => ?_)
        refine lv_iconst (v := 1) hx hb dX4_addPour_50 (by decide) ?_
        refine lv_goto (tgt := 80) hx hb dX4_addPour_51 (by decide) ?_
        obtain ⟨u_39, hg_40, h⟩ := ob_some h
        refine zcWi (va_runV (As := [.int 1]) (rest := []) ⟨hx, hb, hml, hown, hts⟩ (c_X4_fails l D cy b V _ 1 hg_40) (cwV 1 hts gX4_addPour_X4_fails rfl rfl rfl hd_X4_fails ⟨Nat.le_of_ble_eq_true rfl, Nat.le_of_ble_eq_true rfl⟩) ⟨(zJ_blind rI_blind), va_recv hK hP (ci := 4) (q0 := 0) rfl rfl, (zJ_at (rI_at hP hK hD))⟩ rfl rfl hl.1 rfl (lv_room (Nat.le_of_ble_eq_true rfl)) dX4_addPour_80 ⟨Nat.le_of_ble_eq_true rfl, Nat.le_of_ble_eq_true rfl⟩) hS (z_free hD hS hA) (fun H locs hP hD hS => ?_)
        refine lv_if_eq (tgt := 88) hx hb dX4_addPour_83 (by decide) (fun c_41 => ?_) (fun c_41 => ?_)
        · replace h := oi_t c_41 h
          refine lv_aload_n hx hb dX4_addPour_88 rfl (lv_at hl 1 rfl) ?_
          refine va_get (D := D) (ci := 4) (v := .ref (b 20)) (C := RX4) (T := TX4) (N := 28) hx hb hts hinX4 hown hK hP 0 rfl rfl 20 (by decide) (hts _ (List.mem_of_getElem? (i := 3) rfl)) (fun _ h9 => h9) rfl dX4_addPour_89 ?_
          refine lv_aload_n hx hb dX4_addPour_92 rfl (lv_at hl 1 rfl) ?_
          refine va_get (D := D) (ci := 4) (v := .int (u_39.2.1 19)) (C := RX4) (T := TX4) (N := 28) hx hb hts hinX4 hown hK hP 0 rfl rfl 19 (by decide) (hts _ (List.mem_of_getElem? (i := 1) rfl)) (fun _ h9 => h9) rfl dX4_addPour_93 ?_
          refine lv_aload_n hx hb dX4_addPour_96 rfl (lv_at hl 1 rfl) ?_
          refine va_get (D := D) (ci := 4) (v := .int (u_39.2.1 7)) (C := RX4) (T := TX4) (N := 28) hx hb hts hinX4 hown hK hP 0 rfl rfl 7 (by decide) (hts _ (List.mem_of_getElem? (i := 2) rfl)) (fun _ h9 => h9) rfl dX4_addPour_97 ?_
          obtain ⟨g_42, h⟩ := og_some h
          refine va_iast hx hb hK hP hD hS 18 0 rfl rfl g_42 dX4_addPour_100 (fun H locs hP hD hS => ?_)
          replace hP : va_P D xcl (rW cy b (rar u_39.2 20 (u_39.2.1 19).toNatClampNeg (u_39.2.1 7))) H := hP
          replace hD : va_D A (rW cy b (rar u_39.2 20 (u_39.2.1 19).toNatClampNeg (u_39.2.1 7))) := hD
          obtain ⟨V_43, eV_44, h⟩ := ob_some h
          rw [Option.some.inj eV_44] at hP hD
          refine lv_aload_n hx hb dX4_addPour_101 rfl (lv_at hl 1 rfl) ?_
          refine va_get (D := D) (ci := 4) (v := .ref (b 21)) (C := RX4) (T := TX4) (N := 28) hx hb hts hinX4 hown hK hP 0 rfl rfl 21 (by decide) (hts _ (List.mem_of_getElem? (i := 4) rfl)) (fun _ h9 => h9) rfl dX4_addPour_102 ?_
          refine lv_aload_n hx hb dX4_addPour_105 rfl (lv_at hl 1 rfl) ?_
          refine va_get (D := D) (ci := 4) (v := .int (V_43.1 19)) (C := RX4) (T := TX4) (N := 28) hx hb hts hinX4 hown hK hP 0 rfl rfl 19 (by decide) (hts _ (List.mem_of_getElem? (i := 1) rfl)) (fun _ h9 => h9) rfl dX4_addPour_106 ?_
          refine lv_iload hx hb dX4_addPour_109 (lv_at hl 8 rfl) ?_
          obtain ⟨g_45, h⟩ := og_some h
          refine va_iast hx hb hK hP hD hS 19 0 rfl rfl g_45 dX4_addPour_111 (fun H locs hP hD hS => ?_)
          replace hP : va_P D xcl (rW cy b (rar V_43 21 (V_43.1 19).toNatClampNeg p7)) H := hP
          replace hD : va_D A (rW cy b (rar V_43 21 (V_43.1 19).toNatClampNeg p7)) := hD
          obtain ⟨V_46, eV_47, h⟩ := ob_some h
          rw [Option.some.inj eV_47] at hP hD
          refine lv_aload_n hx hb dX4_addPour_112 rfl (lv_at hl 1 rfl) ?_
          refine va_get (D := D) (ci := 4) (v := .ref (b 22)) (C := RX4) (T := TX4) (N := 28) hx hb hts hinX4 hown hK hP 0 rfl rfl 22 (by decide) (hts _ (List.mem_of_getElem? (i := 5) rfl)) (fun _ h9 => h9) rfl dX4_addPour_113 ?_
          refine lv_aload_n hx hb dX4_addPour_116 rfl (lv_at hl 1 rfl) ?_
          refine va_get (D := D) (ci := 4) (v := .int (V_46.1 19)) (C := RX4) (T := TX4) (N := 28) hx hb hts hinX4 hown hK hP 0 rfl rfl 19 (by decide) (hts _ (List.mem_of_getElem? (i := 1) rfl)) (fun _ h9 => h9) rfl dX4_addPour_117 ?_
          refine lv_iload hx hb dX4_addPour_120 (lv_at hl 9 rfl) ?_
          obtain ⟨g_48, h⟩ := og_some h
          refine va_iast hx hb hK hP hD hS 20 0 rfl rfl g_48 dX4_addPour_122 (fun H locs hP hD hS => ?_)
          replace hP : va_P D xcl (rW cy b (rar V_46 22 (V_46.1 19).toNatClampNeg p8)) H := hP
          replace hD : va_D A (rW cy b (rar V_46 22 (V_46.1 19).toNatClampNeg p8)) := hD
          obtain ⟨V_49, eV_50, h⟩ := ob_some h
          rw [Option.some.inj eV_50] at hP hD
          refine lv_iconst (v := 0) hx hb dX4_addPour_123 (by decide) ?_
          refine lv_istore (lv' := [(10, .int 0), (9, .int 0), (0, .ref (b 0)), (1, .int p1), (2, .int p2), (3, .int p3), (4, .int p4), (5, .int p5), (6, .int p6), (7, .int p7), (8, .int p8)]) hx hb dX4_addPour_124 hl (by decide) rfl (fun ls hl => ?_)
          exact k_X4_addPour_126 hx hb hr hts hml hown hlocks hK hA _ _ p1 p2 p3 p4 p5 p6 p7 0 _ _ _  ls h hP hD hS (lv_sub hl [2, 3, 4, 5, 6, 7, 8, 9, 0] rfl)
        · replace h := oi_f c_41 h
          refine lv_iconst (v := 0) hx hb dX4_addPour_86 (by decide) ?_
          have h9 := Option.some.inj h
          subst h9
          exact W.iret (v := 0) hx hb hr (fun t ht hW => ⟨⟨0, (), rfl, rfl, ⟨by rw [ht]; exact hP, hD⟩⟩, hS.F ht⟩) hS.2.2 dX4_addPour_87 hlocks
      · replace h := oi_f c_38 h
        refine lv_iconst (v := 1) hx hb dX4_addPour_37 (by decide) ?_
        refine lv_goto (tgt := 42) hx hb dX4_addPour_38 (by decide) ?_
        refine lv_istore (lv' := [(9, .int 1), (0, .ref (b 0)), (1, .int p1), (2, .int p2), (3, .int p3), (4, .int p4), (5, .int p5), (6, .int p6), (7, .int p7), (8, .int p8)]) hx hb dX4_addPour_42 hl (by decide) rfl (fun ls hl => ?_)
        refine lv_aload_n hx hb dX4_addPour_44 rfl (lv_at hl 1 rfl) ?_
        refine lv_iload hx hb dX4_addPour_45 (lv_at hl 0 rfl) ?_
        refine lv_if_ne (tgt := 54) hx hb dX4_addPour_47 (by decide) (fun _ => ?_) (fun c0 => absurd c0 (by decide))
        refine lv_aload_n hx hb dX4_addPour_54 rfl (lv_at hl 1 rfl) ?_
        refine va_get (D := D) (ci := 4) (v := .int (V.1 19)) (C := RX4) (T := TX4) (N := 28) hx hb hts hinX4 hown hK hP 0 rfl rfl 19 (by decide) (hts _ (List.mem_of_getElem? (i := 1) rfl)) (fun _ h9 => h9) rfl dX4_addPour_55 ?_
        refine lv_bipush (v := 6) hx hb dX4_addPour_58 (by decide) ?_
        refine lv_icmp_eq (tgt := 75) hx hb dX4_addPour_60 (by decide) (fun c_51 => ?_) (fun c_51 => ?_)
        · replace h := oi_t c_51 h
          refine lv_iconst (v := 2) hx hb dX4_addPour_75 (by decide) ?_
          refine lv_goto (tgt := 80) hx hb dX4_addPour_76 (by decide) ?_
          obtain ⟨u_52, hg_53, h⟩ := ob_some h
          refine zcWi (va_runV (As := [.int 2]) (rest := []) ⟨hx, hb, hml, hown, hts⟩ (c_X4_fails l D cy b V _ 2 hg_53) (cwV 1 hts gX4_addPour_X4_fails rfl rfl rfl hd_X4_fails ⟨Nat.le_of_ble_eq_true rfl, Nat.le_of_ble_eq_true rfl⟩) ⟨(zJ_blind rI_blind), va_recv hK hP (ci := 4) (q0 := 0) rfl rfl, (zJ_at (rI_at hP hK hD))⟩ rfl rfl hl.1 rfl (lv_room (Nat.le_of_ble_eq_true rfl)) dX4_addPour_80 ⟨Nat.le_of_ble_eq_true rfl, Nat.le_of_ble_eq_true rfl⟩) hS (z_free hD hS hA) (fun H locs hP hD hS => ?_)
          refine lv_if_eq (tgt := 88) hx hb dX4_addPour_83 (by decide) (fun c_54 => ?_) (fun c_54 => ?_)
          · replace h := oi_t c_54 h
            refine lv_aload_n hx hb dX4_addPour_88 rfl (lv_at hl 1 rfl) ?_
            refine va_get (D := D) (ci := 4) (v := .ref (b 20)) (C := RX4) (T := TX4) (N := 28) hx hb hts hinX4 hown hK hP 0 rfl rfl 20 (by decide) (hts _ (List.mem_of_getElem? (i := 3) rfl)) (fun _ h9 => h9) rfl dX4_addPour_89 ?_
            refine lv_aload_n hx hb dX4_addPour_92 rfl (lv_at hl 1 rfl) ?_
            refine va_get (D := D) (ci := 4) (v := .int (u_52.2.1 19)) (C := RX4) (T := TX4) (N := 28) hx hb hts hinX4 hown hK hP 0 rfl rfl 19 (by decide) (hts _ (List.mem_of_getElem? (i := 1) rfl)) (fun _ h9 => h9) rfl dX4_addPour_93 ?_
            refine lv_aload_n hx hb dX4_addPour_96 rfl (lv_at hl 1 rfl) ?_
            refine va_get (D := D) (ci := 4) (v := .int (u_52.2.1 7)) (C := RX4) (T := TX4) (N := 28) hx hb hts hinX4 hown hK hP 0 rfl rfl 7 (by decide) (hts _ (List.mem_of_getElem? (i := 2) rfl)) (fun _ h9 => h9) rfl dX4_addPour_97 ?_
            obtain ⟨g_55, h⟩ := og_some h
            refine va_iast hx hb hK hP hD hS 18 0 rfl rfl g_55 dX4_addPour_100 (fun H locs hP hD hS => ?_)
            replace hP : va_P D xcl (rW cy b (rar u_52.2 20 (u_52.2.1 19).toNatClampNeg (u_52.2.1 7))) H := hP
            replace hD : va_D A (rW cy b (rar u_52.2 20 (u_52.2.1 19).toNatClampNeg (u_52.2.1 7))) := hD
            obtain ⟨V_56, eV_57, h⟩ := ob_some h
            rw [Option.some.inj eV_57] at hP hD
            refine lv_aload_n hx hb dX4_addPour_101 rfl (lv_at hl 1 rfl) ?_
            refine va_get (D := D) (ci := 4) (v := .ref (b 21)) (C := RX4) (T := TX4) (N := 28) hx hb hts hinX4 hown hK hP 0 rfl rfl 21 (by decide) (hts _ (List.mem_of_getElem? (i := 4) rfl)) (fun _ h9 => h9) rfl dX4_addPour_102 ?_
            refine lv_aload_n hx hb dX4_addPour_105 rfl (lv_at hl 1 rfl) ?_
            refine va_get (D := D) (ci := 4) (v := .int (V_56.1 19)) (C := RX4) (T := TX4) (N := 28) hx hb hts hinX4 hown hK hP 0 rfl rfl 19 (by decide) (hts _ (List.mem_of_getElem? (i := 1) rfl)) (fun _ h9 => h9) rfl dX4_addPour_106 ?_
            refine lv_iload hx hb dX4_addPour_109 (lv_at hl 8 rfl) ?_
            obtain ⟨g_58, h⟩ := og_some h
            refine va_iast hx hb hK hP hD hS 19 0 rfl rfl g_58 dX4_addPour_111 (fun H locs hP hD hS => ?_)
            replace hP : va_P D xcl (rW cy b (rar V_56 21 (V_56.1 19).toNatClampNeg p7)) H := hP
            replace hD : va_D A (rW cy b (rar V_56 21 (V_56.1 19).toNatClampNeg p7)) := hD
            obtain ⟨V_59, eV_60, h⟩ := ob_some h
            rw [Option.some.inj eV_60] at hP hD
            refine lv_aload_n hx hb dX4_addPour_112 rfl (lv_at hl 1 rfl) ?_
            refine va_get (D := D) (ci := 4) (v := .ref (b 22)) (C := RX4) (T := TX4) (N := 28) hx hb hts hinX4 hown hK hP 0 rfl rfl 22 (by decide) (hts _ (List.mem_of_getElem? (i := 5) rfl)) (fun _ h9 => h9) rfl dX4_addPour_113 ?_
            refine lv_aload_n hx hb dX4_addPour_116 rfl (lv_at hl 1 rfl) ?_
            refine va_get (D := D) (ci := 4) (v := .int (V_59.1 19)) (C := RX4) (T := TX4) (N := 28) hx hb hts hinX4 hown hK hP 0 rfl rfl 19 (by decide) (hts _ (List.mem_of_getElem? (i := 1) rfl)) (fun _ h9 => h9) rfl dX4_addPour_117 ?_
            refine lv_iload hx hb dX4_addPour_120 (lv_at hl 9 rfl) ?_
            obtain ⟨g_61, h⟩ := og_some h
            refine va_iast hx hb hK hP hD hS 20 0 rfl rfl g_61 dX4_addPour_122 (fun H locs hP hD hS => ?_)
            replace hP : va_P D xcl (rW cy b (rar V_59 22 (V_59.1 19).toNatClampNeg p8)) H := hP
            replace hD : va_D A (rW cy b (rar V_59 22 (V_59.1 19).toNatClampNeg p8)) := hD
            obtain ⟨V_62, eV_63, h⟩ := ob_some h
            rw [Option.some.inj eV_63] at hP hD
            refine lv_iconst (v := 0) hx hb dX4_addPour_123 (by decide) ?_
            refine lv_istore (lv' := [(10, .int 0), (9, .int 1), (0, .ref (b 0)), (1, .int p1), (2, .int p2), (3, .int p3), (4, .int p4), (5, .int p5), (6, .int p6), (7, .int p7), (8, .int p8)]) hx hb dX4_addPour_124 hl (by decide) rfl (fun ls hl => ?_)
            exact k_X4_addPour_126 hx hb hr hts hml hown hlocks hK hA _ _ p1 p2 p3 p4 p5 p6 p7 0 _ _ _  ls h hP hD hS (lv_sub hl [2, 3, 4, 5, 6, 7, 8, 9, 0] rfl)
          · replace h := oi_f c_54 h
            refine lv_iconst (v := 0) hx hb dX4_addPour_86 (by decide) ?_
            have h9 := Option.some.inj h
            subst h9
            exact W.iret (v := 0) hx hb hr (fun t ht hW => ⟨⟨0, (), rfl, rfl, ⟨by rw [ht]; exact hP, hD⟩⟩, hS.F ht⟩) hS.2.2 dX4_addPour_87 hlocks
        · replace h := oi_f c_51 h
          refine lv_aload_n hx hb dX4_addPour_63 rfl (lv_at hl 1 rfl) ?_
          refine va_get (D := D) (ci := 4) (v := .int (V.1 7)) (C := RX4) (T := TX4) (N := 28) hx hb hts hinX4 hown hK hP 0 rfl rfl 7 (by decide) (hts _ (List.mem_of_getElem? (i := 2) rfl)) (fun _ h9 => h9) rfl dX4_addPour_64 ?_
          refine lv_iload hx hb dX4_addPour_67 (lv_at hl 8 rfl) ?_
          refine lv_iadd hx hb dX4_addPour_69 ?_
          refine lv_bipush (v := 40) hx hb dX4_addPour_70 (by decide) ?_
          refine lv_icmp_le (tgt := 79) hx hb dX4_addPour_72 (by decide) (fun c_64 => ?_) (fun c_64 => ?_)
          · replace h := oi_t c_64 h
            refine lv_iconst (v := 0) hx hb dX4_addPour_79 (by decide) ?_
            obtain ⟨u_65, hg_66, h⟩ := ob_some h
            refine zcWi (va_runV (As := [.int 0]) (rest := []) ⟨hx, hb, hml, hown, hts⟩ (c_X4_fails l D cy b V _ 0 hg_66) (cwV 1 hts gX4_addPour_X4_fails rfl rfl rfl hd_X4_fails ⟨Nat.le_of_ble_eq_true rfl, Nat.le_of_ble_eq_true rfl⟩) ⟨(zJ_blind rI_blind), va_recv hK hP (ci := 4) (q0 := 0) rfl rfl, (zJ_at (rI_at hP hK hD))⟩ rfl rfl hl.1 rfl (lv_room (Nat.le_of_ble_eq_true rfl)) dX4_addPour_80 ⟨Nat.le_of_ble_eq_true rfl, Nat.le_of_ble_eq_true rfl⟩) hS (z_free hD hS hA) (fun H locs hP hD hS => ?_)
            refine lv_if_eq (tgt := 88) hx hb dX4_addPour_83 (by decide) (fun c_67 => ?_) (fun c_67 => ?_)
            · replace h := oi_t c_67 h
              refine lv_aload_n hx hb dX4_addPour_88 rfl (lv_at hl 1 rfl) ?_
              refine va_get (D := D) (ci := 4) (v := .ref (b 20)) (C := RX4) (T := TX4) (N := 28) hx hb hts hinX4 hown hK hP 0 rfl rfl 20 (by decide) (hts _ (List.mem_of_getElem? (i := 3) rfl)) (fun _ h9 => h9) rfl dX4_addPour_89 ?_
              refine lv_aload_n hx hb dX4_addPour_92 rfl (lv_at hl 1 rfl) ?_
              refine va_get (D := D) (ci := 4) (v := .int (u_65.2.1 19)) (C := RX4) (T := TX4) (N := 28) hx hb hts hinX4 hown hK hP 0 rfl rfl 19 (by decide) (hts _ (List.mem_of_getElem? (i := 1) rfl)) (fun _ h9 => h9) rfl dX4_addPour_93 ?_
              refine lv_aload_n hx hb dX4_addPour_96 rfl (lv_at hl 1 rfl) ?_
              refine va_get (D := D) (ci := 4) (v := .int (u_65.2.1 7)) (C := RX4) (T := TX4) (N := 28) hx hb hts hinX4 hown hK hP 0 rfl rfl 7 (by decide) (hts _ (List.mem_of_getElem? (i := 2) rfl)) (fun _ h9 => h9) rfl dX4_addPour_97 ?_
              obtain ⟨g_68, h⟩ := og_some h
              refine va_iast hx hb hK hP hD hS 18 0 rfl rfl g_68 dX4_addPour_100 (fun H locs hP hD hS => ?_)
              replace hP : va_P D xcl (rW cy b (rar u_65.2 20 (u_65.2.1 19).toNatClampNeg (u_65.2.1 7))) H := hP
              replace hD : va_D A (rW cy b (rar u_65.2 20 (u_65.2.1 19).toNatClampNeg (u_65.2.1 7))) := hD
              obtain ⟨V_69, eV_70, h⟩ := ob_some h
              rw [Option.some.inj eV_70] at hP hD
              refine lv_aload_n hx hb dX4_addPour_101 rfl (lv_at hl 1 rfl) ?_
              refine va_get (D := D) (ci := 4) (v := .ref (b 21)) (C := RX4) (T := TX4) (N := 28) hx hb hts hinX4 hown hK hP 0 rfl rfl 21 (by decide) (hts _ (List.mem_of_getElem? (i := 4) rfl)) (fun _ h9 => h9) rfl dX4_addPour_102 ?_
              refine lv_aload_n hx hb dX4_addPour_105 rfl (lv_at hl 1 rfl) ?_
              refine va_get (D := D) (ci := 4) (v := .int (V_69.1 19)) (C := RX4) (T := TX4) (N := 28) hx hb hts hinX4 hown hK hP 0 rfl rfl 19 (by decide) (hts _ (List.mem_of_getElem? (i := 1) rfl)) (fun _ h9 => h9) rfl dX4_addPour_106 ?_
              refine lv_iload hx hb dX4_addPour_109 (lv_at hl 8 rfl) ?_
              obtain ⟨g_71, h⟩ := og_some h
              refine va_iast hx hb hK hP hD hS 19 0 rfl rfl g_71 dX4_addPour_111 (fun H locs hP hD hS => ?_)
              replace hP : va_P D xcl (rW cy b (rar V_69 21 (V_69.1 19).toNatClampNeg p7)) H := hP
              replace hD : va_D A (rW cy b (rar V_69 21 (V_69.1 19).toNatClampNeg p7)) := hD
              obtain ⟨V_72, eV_73, h⟩ := ob_some h
              rw [Option.some.inj eV_73] at hP hD
              refine lv_aload_n hx hb dX4_addPour_112 rfl (lv_at hl 1 rfl) ?_
              refine va_get (D := D) (ci := 4) (v := .ref (b 22)) (C := RX4) (T := TX4) (N := 28) hx hb hts hinX4 hown hK hP 0 rfl rfl 22 (by decide) (hts _ (List.mem_of_getElem? (i := 5) rfl)) (fun _ h9 => h9) rfl dX4_addPour_113 ?_
              refine lv_aload_n hx hb dX4_addPour_116 rfl (lv_at hl 1 rfl) ?_
              refine va_get (D := D) (ci := 4) (v := .int (V_72.1 19)) (C := RX4) (T := TX4) (N := 28) hx hb hts hinX4 hown hK hP 0 rfl rfl 19 (by decide) (hts _ (List.mem_of_getElem? (i := 1) rfl)) (fun _ h9 => h9) rfl dX4_addPour_117 ?_
              refine lv_iload hx hb dX4_addPour_120 (lv_at hl 9 rfl) ?_
              obtain ⟨g_74, h⟩ := og_some h
              refine va_iast hx hb hK hP hD hS 20 0 rfl rfl g_74 dX4_addPour_122 (fun H locs hP hD hS => ?_)
              replace hP : va_P D xcl (rW cy b (rar V_72 22 (V_72.1 19).toNatClampNeg p8)) H := hP
              replace hD : va_D A (rW cy b (rar V_72 22 (V_72.1 19).toNatClampNeg p8)) := hD
              obtain ⟨V_75, eV_76, h⟩ := ob_some h
              rw [Option.some.inj eV_76] at hP hD
              refine lv_iconst (v := 0) hx hb dX4_addPour_123 (by decide) ?_
              refine lv_istore (lv' := [(10, .int 0), (9, .int 1), (0, .ref (b 0)), (1, .int p1), (2, .int p2), (3, .int p3), (4, .int p4), (5, .int p5), (6, .int p6), (7, .int p7), (8, .int p8)]) hx hb dX4_addPour_124 hl (by decide) rfl (fun ls hl => ?_)
              exact k_X4_addPour_126 hx hb hr hts hml hown hlocks hK hA _ _ p1 p2 p3 p4 p5 p6 p7 0 _ _ _  ls h hP hD hS (lv_sub hl [2, 3, 4, 5, 6, 7, 8, 9, 0] rfl)
            · replace h := oi_f c_67 h
              refine lv_iconst (v := 0) hx hb dX4_addPour_86 (by decide) ?_
              have h9 := Option.some.inj h
              subst h9
              exact W.iret (v := 0) hx hb hr (fun t ht hW => ⟨⟨0, (), rfl, rfl, ⟨by rw [ht]; exact hP, hD⟩⟩, hS.F ht⟩) hS.2.2 dX4_addPour_87 hlocks
          · replace h := oi_f c_64 h
            refine lv_iconst (v := 2) hx hb dX4_addPour_75 (by decide) ?_
            refine lv_goto (tgt := 80) hx hb dX4_addPour_76 (by decide) ?_
            obtain ⟨u_77, hg_78, h⟩ := ob_some h
            refine zcWi (va_runV (As := [.int 2]) (rest := []) ⟨hx, hb, hml, hown, hts⟩ (c_X4_fails l D cy b V _ 2 hg_78) (cwV 1 hts gX4_addPour_X4_fails rfl rfl rfl hd_X4_fails ⟨Nat.le_of_ble_eq_true rfl, Nat.le_of_ble_eq_true rfl⟩) ⟨(zJ_blind rI_blind), va_recv hK hP (ci := 4) (q0 := 0) rfl rfl, (zJ_at (rI_at hP hK hD))⟩ rfl rfl hl.1 rfl (lv_room (Nat.le_of_ble_eq_true rfl)) dX4_addPour_80 ⟨Nat.le_of_ble_eq_true rfl, Nat.le_of_ble_eq_true rfl⟩) hS (z_free hD hS hA) (fun H locs hP hD hS => ?_)
            refine lv_if_eq (tgt := 88) hx hb dX4_addPour_83 (by decide) (fun c_79 => ?_) (fun c_79 => ?_)
            · replace h := oi_t c_79 h
              refine lv_aload_n hx hb dX4_addPour_88 rfl (lv_at hl 1 rfl) ?_
              refine va_get (D := D) (ci := 4) (v := .ref (b 20)) (C := RX4) (T := TX4) (N := 28) hx hb hts hinX4 hown hK hP 0 rfl rfl 20 (by decide) (hts _ (List.mem_of_getElem? (i := 3) rfl)) (fun _ h9 => h9) rfl dX4_addPour_89 ?_
              refine lv_aload_n hx hb dX4_addPour_92 rfl (lv_at hl 1 rfl) ?_
              refine va_get (D := D) (ci := 4) (v := .int (u_77.2.1 19)) (C := RX4) (T := TX4) (N := 28) hx hb hts hinX4 hown hK hP 0 rfl rfl 19 (by decide) (hts _ (List.mem_of_getElem? (i := 1) rfl)) (fun _ h9 => h9) rfl dX4_addPour_93 ?_
              refine lv_aload_n hx hb dX4_addPour_96 rfl (lv_at hl 1 rfl) ?_
              refine va_get (D := D) (ci := 4) (v := .int (u_77.2.1 7)) (C := RX4) (T := TX4) (N := 28) hx hb hts hinX4 hown hK hP 0 rfl rfl 7 (by decide) (hts _ (List.mem_of_getElem? (i := 2) rfl)) (fun _ h9 => h9) rfl dX4_addPour_97 ?_
              obtain ⟨g_80, h⟩ := og_some h
              refine va_iast hx hb hK hP hD hS 18 0 rfl rfl g_80 dX4_addPour_100 (fun H locs hP hD hS => ?_)
              replace hP : va_P D xcl (rW cy b (rar u_77.2 20 (u_77.2.1 19).toNatClampNeg (u_77.2.1 7))) H := hP
              replace hD : va_D A (rW cy b (rar u_77.2 20 (u_77.2.1 19).toNatClampNeg (u_77.2.1 7))) := hD
              obtain ⟨V_81, eV_82, h⟩ := ob_some h
              rw [Option.some.inj eV_82] at hP hD
              refine lv_aload_n hx hb dX4_addPour_101 rfl (lv_at hl 1 rfl) ?_
              refine va_get (D := D) (ci := 4) (v := .ref (b 21)) (C := RX4) (T := TX4) (N := 28) hx hb hts hinX4 hown hK hP 0 rfl rfl 21 (by decide) (hts _ (List.mem_of_getElem? (i := 4) rfl)) (fun _ h9 => h9) rfl dX4_addPour_102 ?_
              refine lv_aload_n hx hb dX4_addPour_105 rfl (lv_at hl 1 rfl) ?_
              refine va_get (D := D) (ci := 4) (v := .int (V_81.1 19)) (C := RX4) (T := TX4) (N := 28) hx hb hts hinX4 hown hK hP 0 rfl rfl 19 (by decide) (hts _ (List.mem_of_getElem? (i := 1) rfl)) (fun _ h9 => h9) rfl dX4_addPour_106 ?_
              refine lv_iload hx hb dX4_addPour_109 (lv_at hl 8 rfl) ?_
              obtain ⟨g_83, h⟩ := og_some h
              refine va_iast hx hb hK hP hD hS 19 0 rfl rfl g_83 dX4_addPour_111 (fun H locs hP hD hS => ?_)
              replace hP : va_P D xcl (rW cy b (rar V_81 21 (V_81.1 19).toNatClampNeg p7)) H := hP
              replace hD : va_D A (rW cy b (rar V_81 21 (V_81.1 19).toNatClampNeg p7)) := hD
              obtain ⟨V_84, eV_85, h⟩ := ob_some h
              rw [Option.some.inj eV_85] at hP hD
              refine lv_aload_n hx hb dX4_addPour_112 rfl (lv_at hl 1 rfl) ?_
              refine va_get (D := D) (ci := 4) (v := .ref (b 22)) (C := RX4) (T := TX4) (N := 28) hx hb hts hinX4 hown hK hP 0 rfl rfl 22 (by decide) (hts _ (List.mem_of_getElem? (i := 5) rfl)) (fun _ h9 => h9) rfl dX4_addPour_113 ?_
              refine lv_aload_n hx hb dX4_addPour_116 rfl (lv_at hl 1 rfl) ?_
              refine va_get (D := D) (ci := 4) (v := .int (V_84.1 19)) (C := RX4) (T := TX4) (N := 28) hx hb hts hinX4 hown hK hP 0 rfl rfl 19 (by decide) (hts _ (List.mem_of_getElem? (i := 1) rfl)) (fun _ h9 => h9) rfl dX4_addPour_117 ?_
              refine lv_iload hx hb dX4_addPour_120 (lv_at hl 9 rfl) ?_
              obtain ⟨g_86, h⟩ := og_some h
              refine va_iast hx hb hK hP hD hS 20 0 rfl rfl g_86 dX4_addPour_122 (fun H locs hP hD hS => ?_)
              replace hP : va_P D xcl (rW cy b (rar V_84 22 (V_84.1 19).toNatClampNeg p8)) H := hP
              replace hD : va_D A (rW cy b (rar V_84 22 (V_84.1 19).toNatClampNeg p8)) := hD
              obtain ⟨V_87, eV_88, h⟩ := ob_some h
              rw [Option.some.inj eV_88] at hP hD
              refine lv_iconst (v := 0) hx hb dX4_addPour_123 (by decide) ?_
              refine lv_istore (lv' := [(10, .int 0), (9, .int 1), (0, .ref (b 0)), (1, .int p1), (2, .int p2), (3, .int p3), (4, .int p4), (5, .int p5), (6, .int p6), (7, .int p7), (8, .int p8)]) hx hb dX4_addPour_124 hl (by decide) rfl (fun ls hl => ?_)
              exact k_X4_addPour_126 hx hb hr hts hml hown hlocks hK hA _ _ p1 p2 p3 p4 p5 p6 p7 0 _ _ _  ls h hP hD hS (lv_sub hl [2, 3, 4, 5, 6, 7, 8, 9, 0] rfl)
            · replace h := oi_f c_79 h
              refine lv_iconst (v := 0) hx hb dX4_addPour_86 (by decide) ?_
              have h9 := Option.some.inj h
              subst h9
              exact W.iret (v := 0) hx hb hr (fun t ht hW => ⟨⟨0, (), rfl, rfl, ⟨by rw [ht]; exact hP, hD⟩⟩, hS.F ht⟩) hS.2.2 dX4_addPour_87 hlocks
def f_X4_reachesBoth (V : RV) (p1 : Int32) (p2 : Int32) : Option (Int32) := og (¬ (p1 < 0 ∨ 40 ≤ (p1).toNatClampNeg)) (og (¬ (p1 < 0 ∨ 40 ≤ (p1).toNatClampNeg)) (ob (f_X4_reaches V p2 (V.2.1 8 (p1).toNatClampNeg) (V.2.1 9 (p1).toNatClampNeg)) (fun u_3 => oi (u_3 = 0) (some 0) (og (¬ (p1 < 0 ∨ 40 ≤ (p1).toNatClampNeg)) (og (¬ (p1 < 0 ∨ 40 ≤ (p1).toNatClampNeg)) (ob (f_X4_reaches V p2 (V.2.1 10 (p1).toNatClampNeg) (V.2.1 11 (p1).toNatClampNeg)) (fun u_8 => oi (u_8 = 0) (some 0) (some 1))))))))
theorem hd_X4_reachesBoth : yX4_reachesBoth.cls = RX4 ∧ yX4_reachesBoth.cls ≠ "java/lang/invoke/MethodHandle" ∧ yX4_reachesBoth.cls ≠ "java/lang/invoke/VarHandle" ∧ (parseMethodDescriptor yX4_reachesBoth.desc).map (fun d => d.parameters.length) = some 2 := by decide +kernel
set_option maxHeartbeats 4000000 in
set_option maxRecDepth 100000 in
theorem c_X4_reachesBoth (l : Launch) (D : va_G) (cy : Nat → ClassId) (b : Nat → Nat) (V : RV) (p1 : Int32) (p2 : Int32) {res : Int32} (h : f_X4_reachesBoth V p1 p2 = some res) : Met l yX4_reachesBoth wsX4_reachesBoth ({ frames := 2, cells := 0, slots := 0, locals := 46 } : Room) (va_Pc [.ref (b 0), .int p1, .int p2] (rI D cy b V)) (vp_Si (fun r => r = res)) 0 0 (fun _ => False) := by
  refine Met.ofW (cc := cX4_reachesBoth) (maxL := 3) (ret := (some .boolean)) (by decide) rfl ?_
  intro p e s m args below meth c s₁ B hml hv
  obtain ⟨rfl, hP, hK, hD⟩ := hv
  have hx := B.exec
  have hb := B.bytes
  have hr := B.returns
  have hts := atoms_spec (ws := wsX4_reachesBoth) B.pre
  have hown : s.vm.findClass RX4 = some m.cls := findClass_of_methodNamed B.named
  have hlocks := B.notSynchronized
  have hl := lv_entry ([.ref (b 0), .int p1, .int p2]) (n := 3) (Nat.le_of_ble_eq_true rfl)
  rw [lg_entry_eq]
  generalize (lg_sl ([.ref (b 0), .int p1, .int p2]) ++ List.replicate (3 - (lg_sl ([.ref (b 0), .int p1, .int p2])).length) Slot.unset).toArray = ls at hl ⊢
  have hl : lv_has ls 3 [(0, .ref (b 0)), (1, .int p1), (2, .int p2)] := hl
  have hinX4 : ∀ w ∈ wsX40, w ∈ wsX4_reachesBoth := (fun _ h => (List.mem_cons_of_mem _ (List.mem_append_right _ h)))
  refine lv_aload_n hx hb dX4_reachesBoth_0 rfl (lv_at hl 0 rfl) ?_
  refine lv_iload_n hx hb dX4_reachesBoth_1 rfl (lv_at hl 2 rfl) ?_
  refine lv_aload_n hx hb dX4_reachesBoth_2 rfl (lv_at hl 0 rfl) ?_
  refine va_get (D := D) (ci := 4) (v := .ref (b 8)) (C := RX4) (T := TX4) (N := 28) hx hb hts hinX4 hown hK hP 0 rfl rfl 8 (by decide) (hts _ (List.mem_of_getElem? (i := 1) rfl)) (fun _ h9 => h9) rfl dX4_reachesBoth_3 ?_
  refine lv_iload_n hx hb dX4_reachesBoth_6 rfl (lv_at hl 1 rfl) ?_
  obtain ⟨g_1, h⟩ := og_some h
  refine va_iald hx hb hK hP 7 0 rfl rfl g_1 dX4_reachesBoth_7 ?_
  refine lv_aload_n hx hb dX4_reachesBoth_8 rfl (lv_at hl 0 rfl) ?_
  refine va_get (D := D) (ci := 4) (v := .ref (b 9)) (C := RX4) (T := TX4) (N := 28) hx hb hts hinX4 hown hK hP 0 rfl rfl 9 (by decide) (hts _ (List.mem_of_getElem? (i := 2) rfl)) (fun _ h9 => h9) rfl dX4_reachesBoth_9 ?_
  refine lv_iload_n hx hb dX4_reachesBoth_12 rfl (lv_at hl 1 rfl) ?_
  obtain ⟨g_2, h⟩ := og_some h
  refine va_iald hx hb hK hP 8 0 rfl rfl g_2 dX4_reachesBoth_13 ?_
  obtain ⟨u_3, hg_4, h⟩ := ob_some h
  refine zcSi (W.runV (As := [.int p2, .int (V.2.1 8 (p1).toNatClampNeg), .int (V.2.1 9 (p1).toNatClampNeg)]) (rest := []) ⟨hx, hb, hml, hown, hts⟩ (c_X4_reaches l D cy b V p2 (V.2.1 8 (p1).toNatClampNeg) (V.2.1 9 (p1).toNatClampNeg) hg_4) (cwV 3 hts gX4_reachesBoth_X4_reaches rfl rfl rfl hd_X4_reaches ⟨Nat.le_of_ble_eq_true rfl, Nat.le_of_ble_eq_true rfl⟩) ⟨rI_blind, va_recv hK hP (ci := 4) (q0 := 0) rfl rfl, (rI_at hP hK hD)⟩ rfl rfl hl.1 rfl (lv_room (Nat.le_of_ble_eq_true rfl)) dX4_reachesBoth_14 ⟨Nat.le_of_ble_eq_true rfl, Nat.le_of_ble_eq_true rfl⟩) ?_
  refine lv_if_eq (tgt := 44) hx hb dX4_reachesBoth_17 (by decide) (fun c_5 => ?_) (fun c_5 => ?_)
  · replace h := oi_t c_5 h
    refine lv_iconst (v := 0) hx hb dX4_reachesBoth_44 (by decide) ?_
    have h9 := Option.some.inj h
    exact W.zret (v := 0) hx hb hr (by decide) (fun t ht hW => ⟨0, rfl, h9, ht⟩) (fun _ hq => absurd hq List.not_mem_nil) dX4_reachesBoth_45 hlocks
  · replace h := oi_f c_5 h
    refine lv_aload_n hx hb dX4_reachesBoth_20 rfl (lv_at hl 0 rfl) ?_
    refine lv_iload_n hx hb dX4_reachesBoth_21 rfl (lv_at hl 2 rfl) ?_
    refine lv_aload_n hx hb dX4_reachesBoth_22 rfl (lv_at hl 0 rfl) ?_
    refine va_get (D := D) (ci := 4) (v := .ref (b 10)) (C := RX4) (T := TX4) (N := 28) hx hb hts hinX4 hown hK hP 0 rfl rfl 10 (by decide) (hts _ (List.mem_of_getElem? (i := 3) rfl)) (fun _ h9 => h9) rfl dX4_reachesBoth_23 ?_
    refine lv_iload_n hx hb dX4_reachesBoth_26 rfl (lv_at hl 1 rfl) ?_
    obtain ⟨g_6, h⟩ := og_some h
    refine va_iald hx hb hK hP 9 0 rfl rfl g_6 dX4_reachesBoth_27 ?_
    refine lv_aload_n hx hb dX4_reachesBoth_28 rfl (lv_at hl 0 rfl) ?_
    refine va_get (D := D) (ci := 4) (v := .ref (b 11)) (C := RX4) (T := TX4) (N := 28) hx hb hts hinX4 hown hK hP 0 rfl rfl 11 (by decide) (hts _ (List.mem_of_getElem? (i := 4) rfl)) (fun _ h9 => h9) rfl dX4_reachesBoth_29 ?_
    refine lv_iload_n hx hb dX4_reachesBoth_32 rfl (lv_at hl 1 rfl) ?_
    obtain ⟨g_7, h⟩ := og_some h
    refine va_iald hx hb hK hP 10 0 rfl rfl g_7 dX4_reachesBoth_33 ?_
    obtain ⟨u_8, hg_9, h⟩ := ob_some h
    refine zcSi (W.runV (As := [.int p2, .int (V.2.1 10 (p1).toNatClampNeg), .int (V.2.1 11 (p1).toNatClampNeg)]) (rest := []) ⟨hx, hb, hml, hown, hts⟩ (c_X4_reaches l D cy b V p2 (V.2.1 10 (p1).toNatClampNeg) (V.2.1 11 (p1).toNatClampNeg) hg_9) (cwV 3 hts gX4_reachesBoth_X4_reaches rfl rfl rfl hd_X4_reaches ⟨Nat.le_of_ble_eq_true rfl, Nat.le_of_ble_eq_true rfl⟩) ⟨rI_blind, va_recv hK hP (ci := 4) (q0 := 0) rfl rfl, (rI_at hP hK hD)⟩ rfl rfl hl.1 rfl (lv_room (Nat.le_of_ble_eq_true rfl)) dX4_reachesBoth_34 ⟨Nat.le_of_ble_eq_true rfl, Nat.le_of_ble_eq_true rfl⟩) ?_
    refine lv_if_eq (tgt := 44) hx hb dX4_reachesBoth_37 (by decide) (fun c_10 => ?_) (fun c_10 => ?_)
    · replace h := oi_t c_10 h
      refine lv_iconst (v := 0) hx hb dX4_reachesBoth_44 (by decide) ?_
      have h9 := Option.some.inj h
      exact W.zret (v := 0) hx hb hr (by decide) (fun t ht hW => ⟨0, rfl, h9, ht⟩) (fun _ hq => absurd hq List.not_mem_nil) dX4_reachesBoth_45 hlocks
    · replace h := oi_f c_10 h
      refine lv_iconst (v := 1) hx hb dX4_reachesBoth_40 (by decide) ?_
      refine lv_goto (tgt := 45) hx hb dX4_reachesBoth_41 (by decide) ?_
      have h9 := Option.some.inj h
      exact W.zret (v := 1) hx hb hr (by decide) (fun t ht hW => ⟨1, rfl, h9, ht⟩) (fun _ hq => absurd hq List.not_mem_nil) dX4_reachesBoth_45 hlocks
def f_X4_isIn (V : RV) (p1 : Int32) (p2 : Int32) (p3 : Int32) : Option (Int32) := og (¬ (p1 < 0 ∨ 40 ≤ (p1).toNatClampNeg)) (oi ((V.2.1 14 (p1).toNatClampNeg) = 119) (some 0) (og (¬ (p1 < 0 ∨ 40 ≤ (p1).toNatClampNeg)) (oi ((p2 + p3) ≤ (V.2.1 16 (p1).toNatClampNeg)) (some 0) (og (¬ (p1 < 0 ∨ 40 ≤ (p1).toNatClampNeg)) (og (¬ (p1 < 0 ∨ 40 ≤ (p1).toNatClampNeg)) (oi (((V.2.1 16 (p1).toNatClampNeg) + (V.2.1 13 (p1).toNatClampNeg)) ≤ p2) (some 0) (some 1)))))))
theorem hd_X4_isIn : yX4_isIn.cls = RX4 ∧ yX4_isIn.cls ≠ "java/lang/invoke/MethodHandle" ∧ yX4_isIn.cls ≠ "java/lang/invoke/VarHandle" ∧ (parseMethodDescriptor yX4_isIn.desc).map (fun d => d.parameters.length) = some 3 := by decide +kernel
set_option maxHeartbeats 4000000 in
set_option maxRecDepth 100000 in
theorem c_X4_isIn (l : Launch) (D : va_G) (cy : Nat → ClassId) (b : Nat → Nat) (V : RV) (p1 : Int32) (p2 : Int32) (p3 : Int32) {res : Int32} (h : f_X4_isIn V p1 p2 p3 = some res) : Met l yX4_isIn wsX4_isIn ({ frames := 0, cells := 0, slots := 0, locals := 0 } : Room) (va_Pc [.ref (b 0), .int p1, .int p2, .int p3] (rI D cy b V)) (vp_Si (fun r => r = res)) 0 0 (fun _ => False) := by
  refine Met.ofW (cc := cX4_isIn) (maxL := 4) (ret := (some .boolean)) (by decide) rfl ?_
  intro p e s m args below meth c s₁ B hml hv
  obtain ⟨rfl, hP, hK, hD⟩ := hv
  have hx := B.exec
  have hb := B.bytes
  have hr := B.returns
  have hts := atoms_spec (ws := wsX4_isIn) B.pre
  have hown : s.vm.findClass RX4 = some m.cls := findClass_of_methodNamed B.named
  have hlocks := B.notSynchronized
  have hl := lv_entry ([.ref (b 0), .int p1, .int p2, .int p3]) (n := 4) (Nat.le_of_ble_eq_true rfl)
  rw [lg_entry_eq]
  generalize (lg_sl ([.ref (b 0), .int p1, .int p2, .int p3]) ++ List.replicate (4 - (lg_sl ([.ref (b 0), .int p1, .int p2, .int p3])).length) Slot.unset).toArray = ls at hl ⊢
  have hl : lv_has ls 4 [(0, .ref (b 0)), (1, .int p1), (2, .int p2), (3, .int p3)] := hl
  have hinX4 : ∀ w ∈ wsX40, w ∈ wsX4_isIn := (fun _ h => (List.mem_cons_of_mem _ (List.mem_append_right _ h)))
  refine lv_aload_n hx hb dX4_isIn_0 rfl (lv_at hl 0 rfl) ?_
  refine va_get (D := D) (ci := 4) (v := .ref (b 14)) (C := RX4) (T := TX4) (N := 28) hx hb hts hinX4 hown hK hP 0 rfl rfl 14 (by decide) (hts _ (List.mem_of_getElem? (i := 1) rfl)) (fun _ h9 => h9) rfl dX4_isIn_1 ?_
  refine lv_iload_n hx hb dX4_isIn_4 rfl (lv_at hl 1 rfl) ?_
  obtain ⟨g_1, h⟩ := og_some h
  refine va_cald hx hb hK hP 13 3 rfl rfl g_1 dX4_isIn_5 ?_
  refine lv_bipush (v := 119) hx hb dX4_isIn_6 (by decide) ?_
  refine lv_icmp_eq (tgt := 44) hx hb dX4_isIn_8 (by decide) (fun c_2 => ?_) (fun c_2 => ?_)
  · replace h := oi_t c_2 h
    refine lv_iconst (v := 0) hx hb dX4_isIn_44 (by decide) ?_
    have h9 := Option.some.inj h
    exact W.zret (v := 0) hx hb hr (by decide) (fun t ht hW => ⟨0, rfl, h9, ht⟩) (fun _ hq => absurd hq List.not_mem_nil) dX4_isIn_45 hlocks
  · replace h := oi_f c_2 h
    refine lv_aload_n hx hb dX4_isIn_11 rfl (lv_at hl 0 rfl) ?_
    refine va_get (D := D) (ci := 4) (v := .ref (b 16)) (C := RX4) (T := TX4) (N := 28) hx hb hts hinX4 hown hK hP 0 rfl rfl 16 (by decide) (hts _ (List.mem_of_getElem? (i := 2) rfl)) (fun _ h9 => h9) rfl dX4_isIn_12 ?_
    refine lv_iload_n hx hb dX4_isIn_15 rfl (lv_at hl 1 rfl) ?_
    obtain ⟨g_3, h⟩ := og_some h
    refine va_iald hx hb hK hP 15 0 rfl rfl g_3 dX4_isIn_16 ?_
    refine lv_iload_n hx hb dX4_isIn_17 rfl (lv_at hl 2 rfl) ?_
    refine lv_iload_n hx hb dX4_isIn_18 rfl (lv_at hl 3 rfl) ?_
    refine lv_iadd hx hb dX4_isIn_19 ?_
    refine lv_icmp_ge (tgt := 44) hx hb dX4_isIn_20 (by decide) (fun c_4 => ?_) (fun c_4 => ?_)
    · replace h := oi_t c_4 h
      refine lv_iconst (v := 0) hx hb dX4_isIn_44 (by decide) ?_
      have h9 := Option.some.inj h
      exact W.zret (v := 0) hx hb hr (by decide) (fun t ht hW => ⟨0, rfl, h9, ht⟩) (fun _ hq => absurd hq List.not_mem_nil) dX4_isIn_45 hlocks
    · replace h := oi_f c_4 h
      refine lv_iload_n hx hb dX4_isIn_23 rfl (lv_at hl 2 rfl) ?_
      refine lv_aload_n hx hb dX4_isIn_24 rfl (lv_at hl 0 rfl) ?_
      refine va_get (D := D) (ci := 4) (v := .ref (b 16)) (C := RX4) (T := TX4) (N := 28) hx hb hts hinX4 hown hK hP 0 rfl rfl 16 (by decide) (hts _ (List.mem_of_getElem? (i := 2) rfl)) (fun _ h9 => h9) rfl dX4_isIn_25 ?_
      refine lv_iload_n hx hb dX4_isIn_28 rfl (lv_at hl 1 rfl) ?_
      obtain ⟨g_5, h⟩ := og_some h
      refine va_iald hx hb hK hP 15 0 rfl rfl g_5 dX4_isIn_29 ?_
      refine lv_aload_n hx hb dX4_isIn_30 rfl (lv_at hl 0 rfl) ?_
      refine va_get (D := D) (ci := 4) (v := .ref (b 13)) (C := RX4) (T := TX4) (N := 28) hx hb hts hinX4 hown hK hP 0 rfl rfl 13 (by decide) (hts _ (List.mem_of_getElem? (i := 3) rfl)) (fun _ h9 => h9) rfl dX4_isIn_31 ?_
      refine lv_iload_n hx hb dX4_isIn_34 rfl (lv_at hl 1 rfl) ?_
      obtain ⟨g_6, h⟩ := og_some h
      refine va_iald hx hb hK hP 12 0 rfl rfl g_6 dX4_isIn_35 ?_
      refine lv_iadd hx hb dX4_isIn_36 ?_
      refine lv_icmp_ge (tgt := 44) hx hb dX4_isIn_37 (by decide) (fun c_7 => ?_) (fun c_7 => ?_)
      · replace h := oi_t c_7 h
        refine lv_iconst (v := 0) hx hb dX4_isIn_44 (by decide) ?_
        have h9 := Option.some.inj h
        exact W.zret (v := 0) hx hb hr (by decide) (fun t ht hW => ⟨0, rfl, h9, ht⟩) (fun _ hq => absurd hq List.not_mem_nil) dX4_isIn_45 hlocks
      · replace h := oi_f c_7 h
        refine lv_iconst (v := 1) hx hb dX4_isIn_40 (by decide) ?_
        refine lv_goto (tgt := 45) hx hb dX4_isIn_41 (by decide) ?_
        have h9 := Option.some.inj h
        exact W.zret (v := 1) hx hb hr (by decide) (fun t ht hW => ⟨1, rfl, h9, ht⟩) (fun _ hq => absurd hq List.not_mem_nil) dX4_isIn_45 hlocks
def f_X4_why_73 : RV → Nat → Int32 → Int32 → Int32 → Int32 → Int32 → Option (Int32)
  | _, 0, _, _, _, _, _ => none
  | V, fu + 1, zx1, zx2, zx3, zx4, zx5 => oi ((V.1 7) ≤ zx5) (oi (zx4 = 0) (some 45) (some 97)) (oi (zx5 = zx1) (f_X4_why_73 V fu zx1 zx2 zx3 zx4 (zx5 + 1)) (og (¬ (zx1 < 0 ∨ 40 ≤ (zx1).toNatClampNeg)) (ob (f_X4_isIn V zx5 zx3 (V.2.1 13 (zx1).toNatClampNeg)) (fun u_18 => oi (u_18 = 0) (f_X4_why_73 V fu zx1 zx2 zx3 zx4 (zx5 + 1)) (og (¬ (zx5 < 0 ∨ 40 ≤ (zx5).toNatClampNeg)) (oi ((V.2.1 15 (zx5).toNatClampNeg) = zx2) (some 99) (oi (zx4 = 0) (og (¬ (zx5 < 0 ∨ 40 ≤ (zx5).toNatClampNeg)) (og (¬ (zx1 < 0 ∨ 40 ≤ (zx1).toNatClampNeg)) (oi ((lg_cmp ((V.2.2 (zx5).toNatClampNeg) &&& (V.2.2 (zx1).toNatClampNeg)) 0) = 0) (f_X4_why_73 V fu zx1 zx2 zx3 0 (zx5 + 1)) (f_X4_why_73 V fu zx1 zx2 zx3 1 (zx5 + 1))))) (f_X4_why_73 V fu zx1 zx2 zx3 1 (zx5 + 1)))))))))
def f_X4_why (V : RV) (p1 : Int32) (p2 : Int32) (p3 : Int32) : Option (Int32) := ob (f_X4_reachesBoth V p1 p2) (fun u_1 => oi (u_1 = 0) (some 114) (ob (f_X4_isHeavy V p1 p2) (fun u_4 => oi (u_4 = 0) (oi (p3 < (V.1 25)) (some 109) (og (¬ (p1 < 0 ∨ 40 ≤ (p1).toNatClampNeg)) (oi (p3 ≤ (1440 - (V.2.1 13 (p1).toNatClampNeg))) (og (¬ (p1 < 0 ∨ 40 ≤ (p1).toNatClampNeg)) (ob (f_X4_hasPermit V p2 p3 (V.2.1 13 (p1).toNatClampNeg)) (fun u_11 => oi (u_11 = 0) (some 104) (f_X4_why_73 V FU p1 p2 p3 0 0)))) (some 109)))) (some 103))))
theorem hd_X4_why : yX4_why.cls = RX4 ∧ yX4_why.cls ≠ "java/lang/invoke/MethodHandle" ∧ yX4_why.cls ≠ "java/lang/invoke/VarHandle" ∧ (parseMethodDescriptor yX4_why.desc).map (fun d => d.parameters.length) = some 3 := by decide +kernel
set_option maxHeartbeats 4000000 in
set_option maxRecDepth 100000 in
theorem k_X4_why_73 {p : Program} {l : Launch} {e : Env} {s : State} {m : MethodId} {args : Array Value} {below : List Frame} {meth : Method} {c : Code} {D : va_G} {cy : Nat → ClassId} {b : Nat → Nat} {V : RV} (hx : p.tables.exec = Jvm.exec) (hb : c.code = cX4_why) (hr : meth.sig.returnType = (some .char)) (hts : ∀ w ∈ wsX4_why, w.before args s = true) (hml : c.maxLocals = 6) (hown : s.vm.findClass RX4 = some m.cls) (hlocks : meth.locks = false) (hK : va_K D xcl (xty cy) s) (hP : va_P D xcl (rW cy b V) s.heap) (hD : va_D (fun _ => True) (rW cy b V)) (res : Int32) : ∀ (fu : Nat) (zx1 : Int32) (zx2 : Int32) (zx3 : Int32) (zx4 : Int32) (zx5 : Int32)  (ls : Array Slot), f_X4_why_73 V fu zx1 zx2 zx3 zx4 zx5 = some res → lv_has ls 6 [(0, .ref (b 0)), (1, .int zx1), (2, .int zx2), (3, .int zx3), (4, .int zx4), (5, .int zx5)] → W p l e ({ frames := 3, cells := 0, slots := 0, locals := 70 } : Room) s m args below meth c s.heap [] 0 0 (MQ below (vp_Si (fun r => r = res)) args s 0 0 (fun _ => False)) (F0 m 73 ls []) := by
  have hinX4 : ∀ w ∈ wsX40, w ∈ wsX4_why := (fun _ h => (List.mem_cons_of_mem _ (List.mem_append_left _ (List.mem_append_right _ h))))
  intro fu
  induction fu with
  | zero =>
    intro zx1 zx2 zx3 zx4 zx5  ls h hl
    cases h
  | succ fu ih =>
    intro zx1 zx2 zx3 zx4 zx5  ls h hl
    refine lv_iload hx hb dX4_why_73 (lv_at hl 5 rfl) ?_
    refine lv_aload_n hx hb dX4_why_75 rfl (lv_at hl 0 rfl) ?_
    refine va_get (D := D) (ci := 4) (v := .int (V.1 7)) (C := RX4) (T := TX4) (N := 28) hx hb hts hinX4 hown hK hP 0 rfl rfl 7 (by decide) (hts _ (List.mem_of_getElem? (i := 3) rfl)) (fun _ h9 => h9) rfl dX4_why_76 ?_
    refine lv_icmp_ge (tgt := 158) hx hb dX4_why_79 (by decide) (fun c_14 => ?_) (fun c_14 => ?_)
    · replace h := oi_t c_14 h
      refine lv_iload hx hb dX4_why_158 (lv_at hl 4 rfl) ?_
      refine lv_if_eq (tgt := 168) hx hb dX4_why_160 (by decide) (fun c_15 => ?_) (fun c_15 => ?_)
      · replace h := oi_t c_15 h
        refine lv_bipush (v := 45) hx hb dX4_why_168 (by decide) ?_
        have h9 := Option.some.inj h
        exact W.zret (v := 45) hx hb hr (by decide) (fun t ht hW => ⟨45, rfl, h9, ht⟩) (fun _ hq => absurd hq List.not_mem_nil) dX4_why_170 hlocks
      · replace h := oi_f c_15 h
        refine lv_bipush (v := 97) hx hb dX4_why_163 (by decide) ?_
        refine lv_goto (tgt := 170) hx hb dX4_why_165 (by decide) ?_
        have h9 := Option.some.inj h
        exact W.zret (v := 97) hx hb hr (by decide) (fun t ht hW => ⟨97, rfl, h9, ht⟩) (fun _ hq => absurd hq List.not_mem_nil) dX4_why_170 hlocks
    · replace h := oi_f c_14 h
      refine lv_iload hx hb dX4_why_82 (lv_at hl 5 rfl) ?_
      refine lv_iload_n hx hb dX4_why_84 rfl (lv_at hl 1 rfl) ?_
      refine lv_icmp_eq (tgt := 152) hx hb dX4_why_85 (by decide) (fun c_16 => ?_) (fun c_16 => ?_)
      · replace h := oi_t c_16 h
        refine lv_iinc (v := zx5 + 1) (lv' := [(5, .int (zx5 + 1)), (0, .ref (b 0)), (1, .int zx1), (2, .int zx2), (3, .int zx3), (4, .int zx4)]) hx hb dX4_why_152 hl (k := 5) rfl rfl (by decide) rfl (fun ls hl => ?_)
        refine lv_goto (tgt := 73) hx hb dX4_why_155 (by decide) ?_
        exact ih zx1 zx2 zx3 zx4 (zx5 + 1)  ls h (lv_sub hl [1, 2, 3, 4, 5, 0] rfl)
      · replace h := oi_f c_16 h
        refine lv_aload_n hx hb dX4_why_88 rfl (lv_at hl 0 rfl) ?_
        refine lv_iload hx hb dX4_why_89 (lv_at hl 5 rfl) ?_
        refine lv_iload_n hx hb dX4_why_91 rfl (lv_at hl 3 rfl) ?_
        refine lv_aload_n hx hb dX4_why_92 rfl (lv_at hl 0 rfl) ?_
        refine va_get (D := D) (ci := 4) (v := .ref (b 13)) (C := RX4) (T := TX4) (N := 28) hx hb hts hinX4 hown hK hP 0 rfl rfl 13 (by decide) (hts _ (List.mem_of_getElem? (i := 2) rfl)) (fun _ h9 => h9) rfl dX4_why_93 ?_
        refine lv_iload_n hx hb dX4_why_96 rfl (lv_at hl 1 rfl) ?_
        obtain ⟨g_17, h⟩ := og_some h
        refine va_iald hx hb hK hP 12 0 rfl rfl g_17 dX4_why_97 ?_
        obtain ⟨u_18, hg_19, h⟩ := ob_some h
        refine zcSi (W.runV (As := [.int zx5, .int zx3, .int (V.2.1 13 (zx1).toNatClampNeg)]) (rest := []) ⟨hx, hb, hml, hown, hts⟩ (c_X4_isIn l D cy b V zx5 zx3 (V.2.1 13 (zx1).toNatClampNeg) hg_19) (cwV 3 hts gX4_why_X4_isIn rfl rfl rfl hd_X4_isIn ⟨Nat.le_of_ble_eq_true rfl, Nat.le_of_ble_eq_true rfl⟩) ⟨rI_blind, va_recv hK hP (ci := 4) (q0 := 0) rfl rfl, (rI_at hP hK hD)⟩ rfl rfl hl.1 rfl (lv_room (Nat.le_of_ble_eq_true rfl)) dX4_why_98 ⟨Nat.le_of_ble_eq_true rfl, Nat.le_of_ble_eq_true rfl⟩) ?_
        refine lv_if_ne (tgt := 107) hx hb dX4_why_101 (by decide) (fun c_20 => ?_) (fun c_20 => ?_)
        · replace h := oi_f c_20 h
          refine lv_aload_n hx hb dX4_why_107 rfl (lv_at hl 0 rfl) ?_
          refine va_get (D := D) (ci := 4) (v := .ref (b 15)) (C := RX4) (T := TX4) (N := 28) hx hb hts hinX4 hown hK hP 0 rfl rfl 15 (by decide) (hts _ (List.mem_of_getElem? (i := 4) rfl)) (fun _ h9 => h9) rfl dX4_why_108 ?_
          refine lv_iload hx hb dX4_why_111 (lv_at hl 5 rfl) ?_
          obtain ⟨g_21, h⟩ := og_some h
          refine va_iald hx hb hK hP 14 0 rfl rfl g_21 dX4_why_113 ?_
          refine lv_iload_n hx hb dX4_why_114 rfl (lv_at hl 2 rfl) ?_
          refine lv_icmp_ne (tgt := 121) hx hb dX4_why_115 (by decide) (fun c_22 => ?_) (fun c_22 => ?_)
          · replace h := oi_f c_22 h
            refine lv_iload hx hb dX4_why_121 (lv_at hl 4 rfl) ?_
            refine lv_if_ne (tgt := 145) hx hb dX4_why_123 (by decide) (fun c_23 => ?_) (fun c_23 => ?_)
            · replace h := oi_f c_23 h
              refine lv_iconst (v := 1) hx hb dX4_why_145 (by decide) ?_
              refine lv_goto (tgt := 150) hx hb dX4_why_146 (by decide) ?_
              refine lv_istore (lv' := [(4, .int 1), (0, .ref (b 0)), (1, .int zx1), (2, .int zx2), (3, .int zx3), (5, .int zx5)]) hx hb dX4_why_150 hl (by decide) rfl (fun ls hl => ?_)
              refine lv_iinc (v := zx5 + 1) (lv' := [(5, .int (zx5 + 1)), (4, .int 1), (0, .ref (b 0)), (1, .int zx1), (2, .int zx2), (3, .int zx3)]) hx hb dX4_why_152 hl (k := 5) rfl rfl (by decide) rfl (fun ls hl => ?_)
              refine lv_goto (tgt := 73) hx hb dX4_why_155 (by decide) ?_
              exact ih zx1 zx2 zx3 1 (zx5 + 1)  ls h (lv_sub hl [2, 3, 4, 5, 1, 0] rfl)
            · replace h := oi_t c_23 h
              refine lv_aload_n hx hb dX4_why_126 rfl (lv_at hl 0 rfl) ?_
              refine va_get (D := D) (ci := 4) (v := .ref (b 18)) (C := RX4) (T := TX4) (N := 28) hx hb hts hinX4 hown hK hP 0 rfl rfl 18 (by decide) (hts _ (List.mem_of_getElem? (i := 5) rfl)) (fun _ h9 => h9) rfl dX4_why_127 ?_
              refine lv_iload hx hb dX4_why_130 (lv_at hl 5 rfl) ?_
              obtain ⟨g_24, h⟩ := og_some h
              refine va_lald hx hb hK hP 17 1 rfl rfl g_24 dX4_why_132 ?_
              refine lv_aload_n hx hb dX4_why_133 rfl (lv_at hl 0 rfl) ?_
              refine va_get (D := D) (ci := 4) (v := .ref (b 18)) (C := RX4) (T := TX4) (N := 28) hx hb hts hinX4 hown hK hP 0 rfl rfl 18 (by decide) (hts _ (List.mem_of_getElem? (i := 5) rfl)) (fun _ h9 => h9) rfl dX4_why_134 ?_
              refine lv_iload_n hx hb dX4_why_137 rfl (lv_at hl 1 rfl) ?_
              obtain ⟨g_25, h⟩ := og_some h
              refine va_lald hx hb hK hP 17 1 rfl rfl g_25 dX4_why_138 ?_
              refine lv_land hx hb dX4_why_139 ?_
              refine lv_lconst (v := 0) hx hb dX4_why_140 (by decide) ?_
              refine W.lcmp hx hb dX4_why_141 ?_
              refine lv_if_eq (tgt := 149) hx hb dX4_why_142 (by decide) (fun c_26 => ?_) (fun c_26 => ?_)
              · replace h := oi_t c_26 h
                refine lv_iconst (v := 0) hx hb dX4_why_149 (by decide) ?_
                refine lv_istore (lv' := [(4, .int 0), (0, .ref (b 0)), (1, .int zx1), (2, .int zx2), (3, .int zx3), (5, .int zx5)]) hx hb dX4_why_150 hl (by decide) rfl (fun ls hl => ?_)
                refine lv_iinc (v := zx5 + 1) (lv' := [(5, .int (zx5 + 1)), (4, .int 0), (0, .ref (b 0)), (1, .int zx1), (2, .int zx2), (3, .int zx3)]) hx hb dX4_why_152 hl (k := 5) rfl rfl (by decide) rfl (fun ls hl => ?_)
                refine lv_goto (tgt := 73) hx hb dX4_why_155 (by decide) ?_
                exact ih zx1 zx2 zx3 0 (zx5 + 1)  ls h (lv_sub hl [2, 3, 4, 5, 1, 0] rfl)
              · replace h := oi_f c_26 h
                refine lv_iconst (v := 1) hx hb dX4_why_145 (by decide) ?_
                refine lv_goto (tgt := 150) hx hb dX4_why_146 (by decide) ?_
                refine lv_istore (lv' := [(4, .int 1), (0, .ref (b 0)), (1, .int zx1), (2, .int zx2), (3, .int zx3), (5, .int zx5)]) hx hb dX4_why_150 hl (by decide) rfl (fun ls hl => ?_)
                refine lv_iinc (v := zx5 + 1) (lv' := [(5, .int (zx5 + 1)), (4, .int 1), (0, .ref (b 0)), (1, .int zx1), (2, .int zx2), (3, .int zx3)]) hx hb dX4_why_152 hl (k := 5) rfl rfl (by decide) rfl (fun ls hl => ?_)
                refine lv_goto (tgt := 73) hx hb dX4_why_155 (by decide) ?_
                exact ih zx1 zx2 zx3 1 (zx5 + 1)  ls h (lv_sub hl [2, 3, 4, 5, 1, 0] rfl)
          · replace h := oi_t c_22 h
            refine lv_bipush (v := 99) hx hb dX4_why_118 (by decide) ?_
            have h9 := Option.some.inj h
            exact W.zret (v := 99) hx hb hr (by decide) (fun t ht hW => ⟨99, rfl, h9, ht⟩) (fun _ hq => absurd hq List.not_mem_nil) dX4_why_120 hlocks
        · replace h := oi_t c_20 h
          refine lv_goto (tgt := 152) hx hb dX4_why_104 (by decide) ?_
          refine lv_iinc (v := zx5 + 1) (lv' := [(5, .int (zx5 + 1)), (0, .ref (b 0)), (1, .int zx1), (2, .int zx2), (3, .int zx3), (4, .int zx4)]) hx hb dX4_why_152 hl (k := 5) rfl rfl (by decide) rfl (fun ls hl => ?_)
          refine lv_goto (tgt := 73) hx hb dX4_why_155 (by decide) ?_
          exact ih zx1 zx2 zx3 zx4 (zx5 + 1)  ls h (lv_sub hl [1, 2, 3, 4, 5, 0] rfl)
set_option maxHeartbeats 4000000 in
set_option maxRecDepth 100000 in
theorem c_X4_why (l : Launch) (D : va_G) (cy : Nat → ClassId) (b : Nat → Nat) (V : RV) (p1 : Int32) (p2 : Int32) (p3 : Int32) {res : Int32} (h : f_X4_why V p1 p2 p3 = some res) : Met l yX4_why wsX4_why ({ frames := 3, cells := 0, slots := 0, locals := 70 } : Room) (va_Pc [.ref (b 0), .int p1, .int p2, .int p3] (rI D cy b V)) (vp_Si (fun r => r = res)) 0 0 (fun _ => False) := by
  refine Met.ofW (cc := cX4_why) (maxL := 6) (ret := (some .char)) (by decide) rfl ?_
  intro p e s m args below meth c s₁ B hml hv
  obtain ⟨rfl, hP, hK, hD⟩ := hv
  have hx := B.exec
  have hb := B.bytes
  have hr := B.returns
  have hts := atoms_spec (ws := wsX4_why) B.pre
  have hown : s.vm.findClass RX4 = some m.cls := findClass_of_methodNamed B.named
  have hlocks := B.notSynchronized
  have hl := lv_entry ([.ref (b 0), .int p1, .int p2, .int p3]) (n := 6) (Nat.le_of_ble_eq_true rfl)
  rw [lg_entry_eq]
  generalize (lg_sl ([.ref (b 0), .int p1, .int p2, .int p3]) ++ List.replicate (6 - (lg_sl ([.ref (b 0), .int p1, .int p2, .int p3])).length) Slot.unset).toArray = ls at hl ⊢
  have hl : lv_has ls 6 [(0, .ref (b 0)), (1, .int p1), (2, .int p2), (3, .int p3)] := hl
  have hinX4 : ∀ w ∈ wsX40, w ∈ wsX4_why := (fun _ h => (List.mem_cons_of_mem _ (List.mem_append_left _ (List.mem_append_right _ h))))
  refine lv_aload_n hx hb dX4_why_0 rfl (lv_at hl 0 rfl) ?_
  refine lv_iload_n hx hb dX4_why_1 rfl (lv_at hl 1 rfl) ?_
  refine lv_iload_n hx hb dX4_why_2 rfl (lv_at hl 2 rfl) ?_
  obtain ⟨u_1, hg_2, h⟩ := ob_some h
  refine zcSi (W.runV (As := [.int p1, .int p2]) (rest := []) ⟨hx, hb, hml, hown, hts⟩ (c_X4_reachesBoth l D cy b V p1 p2 hg_2) (cwV 2 hts gX4_why_X4_reachesBoth rfl rfl rfl hd_X4_reachesBoth ⟨Nat.le_of_ble_eq_true rfl, Nat.le_of_ble_eq_true rfl⟩) ⟨rI_blind, va_recv hK hP (ci := 4) (q0 := 0) rfl rfl, (rI_at hP hK hD)⟩ rfl rfl hl.1 rfl (lv_room (Nat.le_of_ble_eq_true rfl)) dX4_why_3 ⟨Nat.le_of_ble_eq_true rfl, Nat.le_of_ble_eq_true rfl⟩) ?_
  refine lv_if_ne (tgt := 12) hx hb dX4_why_6 (by decide) (fun c_3 => ?_) (fun c_3 => ?_)
  · replace h := oi_f c_3 h
    refine lv_aload_n hx hb dX4_why_12 rfl (lv_at hl 0 rfl) ?_
    refine lv_iload_n hx hb dX4_why_13 rfl (lv_at hl 1 rfl) ?_
    refine lv_iload_n hx hb dX4_why_14 rfl (lv_at hl 2 rfl) ?_
    obtain ⟨u_4, hg_5, h⟩ := ob_some h
    refine zcSi (W.runV (As := [.int p1, .int p2]) (rest := []) ⟨hx, hb, hml, hown, hts⟩ (c_X4_isHeavy l D cy b V p1 p2 hg_5) (cwV 2 hts gX4_why_X4_isHeavy rfl rfl rfl hd_X4_isHeavy ⟨Nat.le_of_ble_eq_true rfl, Nat.le_of_ble_eq_true rfl⟩) ⟨rI_blind, va_recv hK hP (ci := 4) (q0 := 0) rfl rfl, (rI_at hP hK hD)⟩ rfl rfl hl.1 rfl (lv_room (Nat.le_of_ble_eq_true rfl)) dX4_why_15 ⟨Nat.le_of_ble_eq_true rfl, Nat.le_of_ble_eq_true rfl⟩) ?_
    refine lv_if_eq (tgt := 24) hx hb dX4_why_18 (by decide) (fun c_6 => ?_) (fun c_6 => ?_)
    · replace h := oi_t c_6 h
      refine lv_iload_n hx hb dX4_why_24 rfl (lv_at hl 3 rfl) ?_
      refine lv_aload_n hx hb dX4_why_25 rfl (lv_at hl 0 rfl) ?_
      refine va_get (D := D) (ci := 4) (v := .int (V.1 25)) (C := RX4) (T := TX4) (N := 28) hx hb hts hinX4 hown hK hP 0 rfl rfl 25 (by decide) (hts _ (List.mem_of_getElem? (i := 1) rfl)) (fun _ h9 => h9) rfl dX4_why_26 ?_
      refine lv_icmp_lt (tgt := 46) hx hb dX4_why_29 (by decide) (fun c_7 => ?_) (fun c_7 => ?_)
      · replace h := oi_t c_7 h
        refine lv_bipush (v := 109) hx hb dX4_why_46 (by decide) ?_
        have h9 := Option.some.inj h
        exact W.zret (v := 109) hx hb hr (by decide) (fun t ht hW => ⟨109, rfl, h9, ht⟩) (fun _ hq => absurd hq List.not_mem_nil) dX4_why_48 hlocks
      · replace h := oi_f c_7 h
        refine lv_iload_n hx hb dX4_why_32 rfl (lv_at hl 3 rfl) ?_
        refine lv_sipush (v := 1440) hx hb dX4_why_33 (by decide) ?_
        refine lv_aload_n hx hb dX4_why_36 rfl (lv_at hl 0 rfl) ?_
        refine va_get (D := D) (ci := 4) (v := .ref (b 13)) (C := RX4) (T := TX4) (N := 28) hx hb hts hinX4 hown hK hP 0 rfl rfl 13 (by decide) (hts _ (List.mem_of_getElem? (i := 2) rfl)) (fun _ h9 => h9) rfl dX4_why_37 ?_
        refine lv_iload_n hx hb dX4_why_40 rfl (lv_at hl 1 rfl) ?_
        obtain ⟨g_8, h⟩ := og_some h
        refine va_iald hx hb hK hP 12 0 rfl rfl g_8 dX4_why_41 ?_
        refine lv_isub hx hb dX4_why_42 ?_
        refine lv_icmp_le (tgt := 49) hx hb dX4_why_43 (by decide) (fun c_9 => ?_) (fun c_9 => ?_)
        · replace h := oi_t c_9 h
          refine lv_aload_n hx hb dX4_why_49 rfl (lv_at hl 0 rfl) ?_
          refine lv_iload_n hx hb dX4_why_50 rfl (lv_at hl 2 rfl) ?_
          refine lv_iload_n hx hb dX4_why_51 rfl (lv_at hl 3 rfl) ?_
          refine lv_aload_n hx hb dX4_why_52 rfl (lv_at hl 0 rfl) ?_
          refine va_get (D := D) (ci := 4) (v := .ref (b 13)) (C := RX4) (T := TX4) (N := 28) hx hb hts hinX4 hown hK hP 0 rfl rfl 13 (by decide) (hts _ (List.mem_of_getElem? (i := 2) rfl)) (fun _ h9 => h9) rfl dX4_why_53 ?_
          refine lv_iload_n hx hb dX4_why_56 rfl (lv_at hl 1 rfl) ?_
          obtain ⟨g_10, h⟩ := og_some h
          refine va_iald hx hb hK hP 12 0 rfl rfl g_10 dX4_why_57 ?_
          obtain ⟨u_11, hg_12, h⟩ := ob_some h
          refine zcSi (W.runV (As := [.int p2, .int p3, .int (V.2.1 13 (p1).toNatClampNeg)]) (rest := []) ⟨hx, hb, hml, hown, hts⟩ (c_X4_hasPermit l D cy b V p2 p3 (V.2.1 13 (p1).toNatClampNeg) hg_12) (cwV 3 hts gX4_why_X4_hasPermit rfl rfl rfl hd_X4_hasPermit ⟨Nat.le_of_ble_eq_true rfl, Nat.le_of_ble_eq_true rfl⟩) ⟨rI_blind, va_recv hK hP (ci := 4) (q0 := 0) rfl rfl, (rI_at hP hK hD)⟩ rfl rfl hl.1 rfl (lv_room (Nat.le_of_ble_eq_true rfl)) dX4_why_58 ⟨Nat.le_of_ble_eq_true rfl, Nat.le_of_ble_eq_true rfl⟩) ?_
          refine lv_if_ne (tgt := 67) hx hb dX4_why_61 (by decide) (fun c_13 => ?_) (fun c_13 => ?_)
          · replace h := oi_f c_13 h
            refine lv_iconst (v := 0) hx hb dX4_why_67 (by decide) ?_
            refine lv_istore (lv' := [(4, .int 0), (0, .ref (b 0)), (1, .int p1), (2, .int p2), (3, .int p3)]) hx hb dX4_why_68 hl (by decide) rfl (fun ls hl => ?_)
            refine lv_iconst (v := 0) hx hb dX4_why_70 (by decide) ?_
            refine lv_istore (lv' := [(5, .int 0), (4, .int 0), (0, .ref (b 0)), (1, .int p1), (2, .int p2), (3, .int p3)]) hx hb dX4_why_71 hl (by decide) rfl (fun ls hl => ?_)
            exact k_X4_why_73 hx hb hr hts hml hown hlocks hK hP hD _ _ p1 p2 p3 0 0  ls h (lv_sub hl [2, 3, 4, 5, 1, 0] rfl)
          · replace h := oi_t c_13 h
            refine lv_bipush (v := 104) hx hb dX4_why_64 (by decide) ?_
            have h9 := Option.some.inj h
            exact W.zret (v := 104) hx hb hr (by decide) (fun t ht hW => ⟨104, rfl, h9, ht⟩) (fun _ hq => absurd hq List.not_mem_nil) dX4_why_66 hlocks
        · replace h := oi_f c_9 h
          refine lv_bipush (v := 109) hx hb dX4_why_46 (by decide) ?_
          have h9 := Option.some.inj h
          exact W.zret (v := 109) hx hb hr (by decide) (fun t ht hW => ⟨109, rfl, h9, ht⟩) (fun _ hq => absurd hq List.not_mem_nil) dX4_why_48 hlocks
    · replace h := oi_f c_6 h
      refine lv_bipush (v := 103) hx hb dX4_why_21 (by decide) ?_
      have h9 := Option.some.inj h
      exact W.zret (v := 103) hx hb hr (by decide) (fun t ht hW => ⟨103, rfl, h9, ht⟩) (fun _ hq => absurd hq List.not_mem_nil) dX4_why_23 hlocks
  · replace h := oi_t c_3 h
    refine lv_bipush (v := 114) hx hb dX4_why_9 (by decide) ?_
    have h9 := Option.some.inj h
    exact W.zret (v := 114) hx hb hr (by decide) (fun t ht hW => ⟨114, rfl, h9, ht⟩) (fun _ hq => absurd hq List.not_mem_nil) dX4_why_11 hlocks
def f_X4_isOpen_30 : RV → Nat → Int32 → Int32 → Int32 → Int32 → Option (Int32)
  | _, 0, _, _, _, _ => none
  | V, fu + 1, zx1, zx2, zx3, zx4 => oi ((V.1 7) ≤ zx4) (some 1) (oi (zx4 = zx1) (f_X4_isOpen_30 V fu zx1 zx2 zx3 (zx4 + 1)) (ob (f_X4_isIn V zx4 zx3 1) (fun u_6 => oi (u_6 = 0) (f_X4_isOpen_30 V fu zx1 zx2 zx3 (zx4 + 1)) (og (¬ (zx4 < 0 ∨ 40 ≤ (zx4).toNatClampNeg)) (oi ((V.2.1 15 (zx4).toNatClampNeg) = zx2) (some 0) (og (¬ (zx4 < 0 ∨ 40 ≤ (zx4).toNatClampNeg)) (og (¬ (zx1 < 0 ∨ 40 ≤ (zx1).toNatClampNeg)) (oi ((lg_cmp ((V.2.2 (zx4).toNatClampNeg) &&& (V.2.2 (zx1).toNatClampNeg)) 0) = 0) (f_X4_isOpen_30 V fu zx1 zx2 zx3 (zx4 + 1)) (some 0)))))))))
def f_X4_isOpen (V : RV) (p1 : Int32) (p2 : Int32) (p3 : Int32) : Option (Int32) := oi (p3 < (V.1 25)) (some 0) (og (¬ (((24 * p2) + (p3 / 60)) < 0 ∨ 120 ≤ ((24 * p2) + (p3 / 60)).toNatClampNeg)) (oi ((V.2.1 6 ((24 * p2) + (p3 / 60)).toNatClampNeg) = 0) (some 0) (f_X4_isOpen_30 V FU p1 p2 p3 0)))
theorem hd_X4_isOpen : yX4_isOpen.cls = RX4 ∧ yX4_isOpen.cls ≠ "java/lang/invoke/MethodHandle" ∧ yX4_isOpen.cls ≠ "java/lang/invoke/VarHandle" ∧ (parseMethodDescriptor yX4_isOpen.desc).map (fun d => d.parameters.length) = some 3 := by decide +kernel
set_option maxHeartbeats 4000000 in
set_option maxRecDepth 100000 in
theorem k_X4_isOpen_30 {p : Program} {l : Launch} {e : Env} {s : State} {m : MethodId} {args : Array Value} {below : List Frame} {meth : Method} {c : Code} {D : va_G} {cy : Nat → ClassId} {b : Nat → Nat} {V : RV} (hx : p.tables.exec = Jvm.exec) (hb : c.code = cX4_isOpen) (hr : meth.sig.returnType = (some .boolean)) (hts : ∀ w ∈ wsX4_isOpen, w.before args s = true) (hml : c.maxLocals = 5) (hown : s.vm.findClass RX4 = some m.cls) (hlocks : meth.locks = false) (hK : va_K D xcl (xty cy) s) (hP : va_P D xcl (rW cy b V) s.heap) (hD : va_D (fun _ => True) (rW cy b V)) (res : Int32) : ∀ (fu : Nat) (zx1 : Int32) (zx2 : Int32) (zx3 : Int32) (zx4 : Int32)  (ls : Array Slot), f_X4_isOpen_30 V fu zx1 zx2 zx3 zx4 = some res → lv_has ls 5 [(0, .ref (b 0)), (1, .int zx1), (2, .int zx2), (3, .int zx3), (4, .int zx4)] → W p l e ({ frames := 1, cells := 0, slots := 0, locals := 23 } : Room) s m args below meth c s.heap [] 0 0 (MQ below (vp_Si (fun r => r = res)) args s 0 0 (fun _ => False)) (F0 m 30 ls []) := by
  have hinX4 : ∀ w ∈ wsX40, w ∈ wsX4_isOpen := (fun _ h => (List.mem_cons_of_mem _ (List.mem_append_right _ h)))
  intro fu
  induction fu with
  | zero =>
    intro zx1 zx2 zx3 zx4  ls h hl
    cases h
  | succ fu ih =>
    intro zx1 zx2 zx3 zx4  ls h hl
    refine lv_iload hx hb dX4_isOpen_30 (lv_at hl 4 rfl) ?_
    refine lv_aload_n hx hb dX4_isOpen_32 rfl (lv_at hl 0 rfl) ?_
    refine va_get (D := D) (ci := 4) (v := .int (V.1 7)) (C := RX4) (T := TX4) (N := 28) hx hb hts hinX4 hown hK hP 0 rfl rfl 7 (by decide) (hts _ (List.mem_of_getElem? (i := 3) rfl)) (fun _ h9 => h9) rfl dX4_isOpen_33 ?_
    refine lv_icmp_ge (tgt := 94) hx hb dX4_isOpen_36 (by decide) (fun c_4 => ?_) (fun c_4 => ?_)
    · replace h := oi_t c_4 h
      refine lv_iconst (v := 1) hx hb dX4_isOpen_94 (by decide) ?_
      have h9 := Option.some.inj h
      exact W.zret (v := 1) hx hb hr (by decide) (fun t ht hW => ⟨1, rfl, h9, ht⟩) (fun _ hq => absurd hq List.not_mem_nil) dX4_isOpen_95 hlocks
    · replace h := oi_f c_4 h
      refine lv_iload hx hb dX4_isOpen_39 (lv_at hl 4 rfl) ?_
      refine lv_iload_n hx hb dX4_isOpen_41 rfl (lv_at hl 1 rfl) ?_
      refine lv_icmp_eq (tgt := 88) hx hb dX4_isOpen_42 (by decide) (fun c_5 => ?_) (fun c_5 => ?_)
      · replace h := oi_t c_5 h
        refine lv_iinc (v := zx4 + 1) (lv' := [(4, .int (zx4 + 1)), (0, .ref (b 0)), (1, .int zx1), (2, .int zx2), (3, .int zx3)]) hx hb dX4_isOpen_88 hl (k := 4) rfl rfl (by decide) rfl (fun ls hl => ?_)
        refine lv_goto (tgt := 30) hx hb dX4_isOpen_91 (by decide) ?_
        exact ih zx1 zx2 zx3 (zx4 + 1)  ls h (lv_sub hl [1, 2, 3, 4, 0] rfl)
      · replace h := oi_f c_5 h
        refine lv_aload_n hx hb dX4_isOpen_45 rfl (lv_at hl 0 rfl) ?_
        refine lv_iload hx hb dX4_isOpen_46 (lv_at hl 4 rfl) ?_
        refine lv_iload_n hx hb dX4_isOpen_48 rfl (lv_at hl 3 rfl) ?_
        refine lv_iconst (v := 1) hx hb dX4_isOpen_49 (by decide) ?_
        obtain ⟨u_6, hg_7, h⟩ := ob_some h
        refine zcSi (W.runV (As := [.int zx4, .int zx3, .int 1]) (rest := []) ⟨hx, hb, hml, hown, hts⟩ (c_X4_isIn l D cy b V zx4 zx3 1 hg_7) (cwV 3 hts gX4_isOpen_X4_isIn rfl rfl rfl hd_X4_isIn ⟨Nat.le_of_ble_eq_true rfl, Nat.le_of_ble_eq_true rfl⟩) ⟨rI_blind, va_recv hK hP (ci := 4) (q0 := 0) rfl rfl, (rI_at hP hK hD)⟩ rfl rfl hl.1 rfl (lv_room (Nat.le_of_ble_eq_true rfl)) dX4_isOpen_50 ⟨Nat.le_of_ble_eq_true rfl, Nat.le_of_ble_eq_true rfl⟩) ?_
        refine lv_if_eq (tgt := 88) hx hb dX4_isOpen_53 (by decide) (fun c_8 => ?_) (fun c_8 => ?_)
        · replace h := oi_t c_8 h
          refine lv_iinc (v := zx4 + 1) (lv' := [(4, .int (zx4 + 1)), (0, .ref (b 0)), (1, .int zx1), (2, .int zx2), (3, .int zx3)]) hx hb dX4_isOpen_88 hl (k := 4) rfl rfl (by decide) rfl (fun ls hl => ?_)
          refine lv_goto (tgt := 30) hx hb dX4_isOpen_91 (by decide) ?_
          exact ih zx1 zx2 zx3 (zx4 + 1)  ls h (lv_sub hl [1, 2, 3, 4, 0] rfl)
        · replace h := oi_f c_8 h
          refine lv_aload_n hx hb dX4_isOpen_56 rfl (lv_at hl 0 rfl) ?_
          refine va_get (D := D) (ci := 4) (v := .ref (b 15)) (C := RX4) (T := TX4) (N := 28) hx hb hts hinX4 hown hK hP 0 rfl rfl 15 (by decide) (hts _ (List.mem_of_getElem? (i := 4) rfl)) (fun _ h9 => h9) rfl dX4_isOpen_57 ?_
          refine lv_iload hx hb dX4_isOpen_60 (lv_at hl 4 rfl) ?_
          obtain ⟨g_9, h⟩ := og_some h
          refine va_iald hx hb hK hP 14 0 rfl rfl g_9 dX4_isOpen_62 ?_
          refine lv_iload_n hx hb dX4_isOpen_63 rfl (lv_at hl 2 rfl) ?_
          refine lv_icmp_eq (tgt := 86) hx hb dX4_isOpen_64 (by decide) (fun c_10 => ?_) (fun c_10 => ?_)
          · replace h := oi_t c_10 h
            refine lv_iconst (v := 0) hx hb dX4_isOpen_86 (by decide) ?_
            have h9 := Option.some.inj h
            exact W.zret (v := 0) hx hb hr (by decide) (fun t ht hW => ⟨0, rfl, h9, ht⟩) (fun _ hq => absurd hq List.not_mem_nil) dX4_isOpen_87 hlocks
          · replace h := oi_f c_10 h
            refine lv_aload_n hx hb dX4_isOpen_67 rfl (lv_at hl 0 rfl) ?_
            refine va_get (D := D) (ci := 4) (v := .ref (b 18)) (C := RX4) (T := TX4) (N := 28) hx hb hts hinX4 hown hK hP 0 rfl rfl 18 (by decide) (hts _ (List.mem_of_getElem? (i := 5) rfl)) (fun _ h9 => h9) rfl dX4_isOpen_68 ?_
            refine lv_iload hx hb dX4_isOpen_71 (lv_at hl 4 rfl) ?_
            obtain ⟨g_11, h⟩ := og_some h
            refine va_lald hx hb hK hP 17 1 rfl rfl g_11 dX4_isOpen_73 ?_
            refine lv_aload_n hx hb dX4_isOpen_74 rfl (lv_at hl 0 rfl) ?_
            refine va_get (D := D) (ci := 4) (v := .ref (b 18)) (C := RX4) (T := TX4) (N := 28) hx hb hts hinX4 hown hK hP 0 rfl rfl 18 (by decide) (hts _ (List.mem_of_getElem? (i := 5) rfl)) (fun _ h9 => h9) rfl dX4_isOpen_75 ?_
            refine lv_iload_n hx hb dX4_isOpen_78 rfl (lv_at hl 1 rfl) ?_
            obtain ⟨g_12, h⟩ := og_some h
            refine va_lald hx hb hK hP 17 1 rfl rfl g_12 dX4_isOpen_79 ?_
            refine lv_land hx hb dX4_isOpen_80 ?_
            refine lv_lconst (v := 0) hx hb dX4_isOpen_81 (by decide) ?_
            refine W.lcmp hx hb dX4_isOpen_82 ?_
            refine lv_if_eq (tgt := 88) hx hb dX4_isOpen_83 (by decide) (fun c_13 => ?_) (fun c_13 => ?_)
            · replace h := oi_t c_13 h
              refine lv_iinc (v := zx4 + 1) (lv' := [(4, .int (zx4 + 1)), (0, .ref (b 0)), (1, .int zx1), (2, .int zx2), (3, .int zx3)]) hx hb dX4_isOpen_88 hl (k := 4) rfl rfl (by decide) rfl (fun ls hl => ?_)
              refine lv_goto (tgt := 30) hx hb dX4_isOpen_91 (by decide) ?_
              exact ih zx1 zx2 zx3 (zx4 + 1)  ls h (lv_sub hl [1, 2, 3, 4, 0] rfl)
            · replace h := oi_f c_13 h
              refine lv_iconst (v := 0) hx hb dX4_isOpen_86 (by decide) ?_
              have h9 := Option.some.inj h
              exact W.zret (v := 0) hx hb hr (by decide) (fun t ht hW => ⟨0, rfl, h9, ht⟩) (fun _ hq => absurd hq List.not_mem_nil) dX4_isOpen_87 hlocks
set_option maxHeartbeats 4000000 in
set_option maxRecDepth 100000 in
theorem c_X4_isOpen (l : Launch) (D : va_G) (cy : Nat → ClassId) (b : Nat → Nat) (V : RV) (p1 : Int32) (p2 : Int32) (p3 : Int32) {res : Int32} (h : f_X4_isOpen V p1 p2 p3 = some res) : Met l yX4_isOpen wsX4_isOpen ({ frames := 1, cells := 0, slots := 0, locals := 23 } : Room) (va_Pc [.ref (b 0), .int p1, .int p2, .int p3] (rI D cy b V)) (vp_Si (fun r => r = res)) 0 0 (fun _ => False) := by
  refine Met.ofW (cc := cX4_isOpen) (maxL := 5) (ret := (some .boolean)) (by decide) rfl ?_
  intro p e s m args below meth c s₁ B hml hv
  obtain ⟨rfl, hP, hK, hD⟩ := hv
  have hx := B.exec
  have hb := B.bytes
  have hr := B.returns
  have hts := atoms_spec (ws := wsX4_isOpen) B.pre
  have hown : s.vm.findClass RX4 = some m.cls := findClass_of_methodNamed B.named
  have hlocks := B.notSynchronized
  have hl := lv_entry ([.ref (b 0), .int p1, .int p2, .int p3]) (n := 5) (Nat.le_of_ble_eq_true rfl)
  rw [lg_entry_eq]
  generalize (lg_sl ([.ref (b 0), .int p1, .int p2, .int p3]) ++ List.replicate (5 - (lg_sl ([.ref (b 0), .int p1, .int p2, .int p3])).length) Slot.unset).toArray = ls at hl ⊢
  have hl : lv_has ls 5 [(0, .ref (b 0)), (1, .int p1), (2, .int p2), (3, .int p3)] := hl
  have hinX4 : ∀ w ∈ wsX40, w ∈ wsX4_isOpen := (fun _ h => (List.mem_cons_of_mem _ (List.mem_append_right _ h)))
  refine lv_iload_n hx hb dX4_isOpen_0 rfl (lv_at hl 3 rfl) ?_
  refine lv_aload_n hx hb dX4_isOpen_1 rfl (lv_at hl 0 rfl) ?_
  refine va_get (D := D) (ci := 4) (v := .int (V.1 25)) (C := RX4) (T := TX4) (N := 28) hx hb hts hinX4 hown hK hP 0 rfl rfl 25 (by decide) (hts _ (List.mem_of_getElem? (i := 1) rfl)) (fun _ h9 => h9) rfl dX4_isOpen_2 ?_
  refine lv_icmp_lt (tgt := 25) hx hb dX4_isOpen_5 (by decide) (fun c_1 => ?_) (fun c_1 => ?_)
  · replace h := oi_t c_1 h
    refine lv_iconst (v := 0) hx hb dX4_isOpen_25 (by decide) ?_
    have h9 := Option.some.inj h
    exact W.zret (v := 0) hx hb hr (by decide) (fun t ht hW => ⟨0, rfl, h9, ht⟩) (fun _ hq => absurd hq List.not_mem_nil) dX4_isOpen_26 hlocks
  · replace h := oi_f c_1 h
    refine lv_aload_n hx hb dX4_isOpen_8 rfl (lv_at hl 0 rfl) ?_
    refine va_get (D := D) (ci := 4) (v := .ref (b 6)) (C := RX4) (T := TX4) (N := 28) hx hb hts hinX4 hown hK hP 0 rfl rfl 6 (by decide) (hts _ (List.mem_of_getElem? (i := 2) rfl)) (fun _ h9 => h9) rfl dX4_isOpen_9 ?_
    refine lv_bipush (v := 24) hx hb dX4_isOpen_12 (by decide) ?_
    refine lv_iload_n hx hb dX4_isOpen_14 rfl (lv_at hl 2 rfl) ?_
    refine lv_imul hx hb dX4_isOpen_15 ?_
    refine lv_iload_n hx hb dX4_isOpen_16 rfl (lv_at hl 3 rfl) ?_
    refine lv_bipush (v := 60) hx hb dX4_isOpen_17 (by decide) ?_
    refine lv_idiv hx hb dX4_isOpen_19 (by decide) ?_
    refine lv_iadd hx hb dX4_isOpen_20 ?_
    obtain ⟨g_2, h⟩ := og_some h
    refine va_zald hx hb hK hP 6 2 rfl rfl g_2 dX4_isOpen_21 ?_
    refine lv_if_ne (tgt := 27) hx hb dX4_isOpen_22 (by decide) (fun c_3 => ?_) (fun c_3 => ?_)
    · replace h := oi_f c_3 h
      refine lv_iconst (v := 0) hx hb dX4_isOpen_27 (by decide) ?_
      refine lv_istore (lv' := [(4, .int 0), (0, .ref (b 0)), (1, .int p1), (2, .int p2), (3, .int p3)]) hx hb dX4_isOpen_28 hl (by decide) rfl (fun ls hl => ?_)
      exact k_X4_isOpen_30 hx hb hr hts hml hown hlocks hK hP hD _ _ p1 p2 p3 0  ls h (lv_sub hl [1, 2, 3, 4, 0] rfl)
    · replace h := oi_t c_3 h
      refine lv_iconst (v := 0) hx hb dX4_isOpen_25 (by decide) ?_
      have h9 := Option.some.inj h
      exact W.zret (v := 0) hx hb hr (by decide) (fun t ht hW => ⟨0, rfl, h9, ht⟩) (fun _ hq => absurd hq List.not_mem_nil) dX4_isOpen_26 hlocks
def f_X4_looks_38 : RV → Nat → Int32 → Int32 → Int32 → Int32 → Option (RV)
  | _, 0, _, _, _, _ => none
  | V, fu + 1, zx1, zx2, zx3, zx4 => oi (zx4 < 0) (some V) (oi (zx3 = 0) (og (¬ (zx4 < 0 ∨ 1441 ≤ (zx4).toNatClampNeg)) (ob (some (rar V 23 (zx4).toNatClampNeg 0)) (fun V_10 => f_X4_looks_38 V_10 fu zx1 zx2 zx3 (zx4 + (-1))))) (ob (f_X4_isOpen V zx1 zx2 zx4) (fun u_12 => oi (u_12 = 0) (og (¬ (zx4 < 0 ∨ 1441 ≤ (zx4).toNatClampNeg)) (ob (some (rar V 23 (zx4).toNatClampNeg 0)) (fun V_16 => f_X4_looks_38 V_16 fu zx1 zx2 zx3 (zx4 + (-1))))) (og (¬ ((zx4 + 1) < 0 ∨ 1441 ≤ (zx4 + 1).toNatClampNeg)) (og (¬ (zx4 < 0 ∨ 1441 ≤ (zx4).toNatClampNeg)) (ob (some (rar V 23 (zx4).toNatClampNeg ((V.2.1 23 (zx4 + 1).toNatClampNeg) + 1))) (fun V_20 => f_X4_looks_38 V_20 fu zx1 zx2 zx3 (zx4 + (-1)))))))))
def f_X4_looks (V : RV) (p1 : Int32) (p2 : Int32) : Option (RV) := ob (f_X4_reachesBoth V p1 p2) (fun u_1 => oi (u_1 = 0) (og (¬ ((1440 : Int32) < 0 ∨ 1441 ≤ ((1440 : Int32)).toNatClampNeg)) (ob (some (rar V 23 (1440 : Int32).toNatClampNeg 0)) (fun V_5 => f_X4_looks_38 V_5 FU p1 p2 0 1439))) (ob (f_X4_isHeavy V p1 p2) (fun u_22 => oi (u_22 = 0) (og (¬ ((1440 : Int32) < 0 ∨ 1441 ≤ ((1440 : Int32)).toNatClampNeg)) (ob (some (rar V 23 (1440 : Int32).toNatClampNeg 0)) (fun V_29 => f_X4_looks_38 V_29 FU p1 p2 1 1439))) (og (¬ ((1440 : Int32) < 0 ∨ 1441 ≤ ((1440 : Int32)).toNatClampNeg)) (ob (some (rar V 23 (1440 : Int32).toNatClampNeg 0)) (fun V_26 => f_X4_looks_38 V_26 FU p1 p2 0 1439))))))
theorem hd_X4_looks : yX4_looks.cls = RX4 ∧ yX4_looks.cls ≠ "java/lang/invoke/MethodHandle" ∧ yX4_looks.cls ≠ "java/lang/invoke/VarHandle" ∧ (parseMethodDescriptor yX4_looks.desc).map (fun d => d.parameters.length) = some 2 := by decide +kernel
set_option maxHeartbeats 4000000 in
set_option maxRecDepth 100000 in
theorem k_X4_looks_38 {p : Program} {l : Launch} {e : Env} {s : State} {m : MethodId} {args : Array Value} {below : List Frame} {meth : Method} {c : Code} {D : va_G} {cy : Nat → ClassId} {b : Nat → Nat} {A : Nat → Prop} (hx : p.tables.exec = Jvm.exec) (hb : c.code = cX4_looks) (hr : meth.sig.returnType = none) (hts : ∀ w ∈ wsX4_looks, w.before args s = true) (hml : c.maxLocals = 5) (hown : s.vm.findClass RX4 = some m.cls) (hlocks : meth.locks = false) (hK : va_K D xcl (xty cy) s) (hA : ∀ q, s.heap.size ≤ q → A q) (res : RV) : ∀ (fu : Nat) (zx1 : Int32) (zx2 : Int32) (zx3 : Int32) (zx4 : Int32) (V : RV) (H : Heap) (locs : List Loc)  (ls : Array Slot), f_X4_looks_38 V fu zx1 zx2 zx3 zx4 = some res → va_P D xcl (rW cy b V) H → va_D A (rW cy b V) → va_S A s.heap H locs → lv_has ls 5 [(0, .ref (b 0)), (1, .int zx1), (2, .int zx2), (3, .int zx3), (4, .int zx4)] → W p l e ({ frames := 3, cells := 0, slots := 0, locals := 70 } : Room) s m args below meth c H locs 0 0 (MQ below (va_Qv (fun (_ : Unit) => True) (fun _ t => va_P D xcl (rW cy b res) t.heap ∧ va_D A (rW cy b res)) A) args s 0 0 (A)) (F0 m 38 ls []) := by
  have hinX4 : ∀ w ∈ wsX40, w ∈ wsX4_looks := (fun _ h => (List.mem_cons_of_mem _ (List.mem_append_left _ (List.mem_append_right _ h))))
  intro fu
  induction fu with
  | zero =>
    intro zx1 zx2 zx3 zx4 V H locs  ls h hP hD hS hl
    cases h
  | succ fu ih =>
    intro zx1 zx2 zx3 zx4 V H locs  ls h hP hD hS hl
    refine lv_iload hx hb dX4_looks_38 (lv_at hl 4 rfl) ?_
    refine lv_if_lt (tgt := 86) hx hb dX4_looks_40 (by decide) (fun c_7 => ?_) (fun c_7 => ?_)
    · replace h := oi_t c_7 h
      have h9 := Option.some.inj h
      subst h9
      exact W.vret hx hb hr (fun t ht hW => ⟨⟨(), rfl, trivial, ⟨by rw [ht]; exact hP, hD⟩⟩, hS.F ht⟩) hS.2.2 dX4_looks_86 hlocks
    · replace h := oi_f c_7 h
      refine lv_aload_n hx hb dX4_looks_43 rfl (lv_at hl 0 rfl) ?_
      refine va_get (D := D) (ci := 4) (v := .ref (b 23)) (C := RX4) (T := TX4) (N := 28) hx hb hts hinX4 hown hK hP 0 rfl rfl 23 (by decide) (hts _ (List.mem_of_getElem? (i := 1) rfl)) (fun _ h9 => h9) rfl dX4_looks_44 ?_
      refine lv_iload hx hb dX4_looks_47 (lv_at hl 4 rfl) ?_
      refine lv_iload_n hx hb dX4_looks_49 rfl (lv_at hl 3 rfl) ?_
      refine lv_if_eq (tgt := 78) hx hb dX4_looks_50 (by decide) (fun c_8 => ?_) (fun c_8 => ?_)
      · replace h := oi_t c_8 h
        refine lv_iconst (v := 0) hx hb dX4_looks_78 (by decide) ?_
        obtain ⟨g_9, h⟩ := og_some h
        refine va_iast hx hb hK hP hD hS 21 0 rfl rfl g_9 dX4_looks_79 (fun H locs hP hD hS => ?_)
        replace hP : va_P D xcl (rW cy b (rar V 23 (zx4).toNatClampNeg 0)) H := hP
        replace hD : va_D A (rW cy b (rar V 23 (zx4).toNatClampNeg 0)) := hD
        obtain ⟨V_10, eV_11, h⟩ := ob_some h
        rw [Option.some.inj eV_11] at hP hD
        refine lv_iinc (v := zx4 + (-1)) (lv' := [(4, .int (zx4 + (-1))), (0, .ref (b 0)), (1, .int zx1), (2, .int zx2), (3, .int zx3)]) hx hb dX4_looks_80 hl (k := 4) rfl rfl (by decide) rfl (fun ls hl => ?_)
        refine lv_goto (tgt := 38) hx hb dX4_looks_83 (by decide) ?_
        exact ih zx1 zx2 zx3 (zx4 + (-1)) _ _ _  ls h hP hD hS (lv_sub hl [1, 2, 3, 4, 0] rfl)
      · replace h := oi_f c_8 h
        refine lv_aload_n hx hb dX4_looks_53 rfl (lv_at hl 0 rfl) ?_
        refine lv_iload_n hx hb dX4_looks_54 rfl (lv_at hl 1 rfl) ?_
        refine lv_iload_n hx hb dX4_looks_55 rfl (lv_at hl 2 rfl) ?_
        refine lv_iload hx hb dX4_looks_56 (lv_at hl 4 rfl) ?_
        obtain ⟨u_12, hg_13, h⟩ := ob_some h
        refine zcSi (W.runV (As := [.int zx1, .int zx2, .int zx4]) (rest := [.int zx4, .ref (b 23)]) ⟨hx, hb, hml, hown, hts⟩ (c_X4_isOpen l D cy b V zx1 zx2 zx4 hg_13) (cwV 3 hts gX4_looks_X4_isOpen rfl rfl rfl hd_X4_isOpen ⟨Nat.le_of_ble_eq_true rfl, Nat.le_of_ble_eq_true rfl⟩) ⟨rI_blind, va_recv hK hP (ci := 4) (q0 := 0) rfl rfl, (rI_at hP hK hD)⟩ rfl rfl hl.1 rfl (lv_room (Nat.le_of_ble_eq_true rfl)) dX4_looks_58 ⟨Nat.le_of_ble_eq_true rfl, Nat.le_of_ble_eq_true rfl⟩) ?_
        refine lv_if_eq (tgt := 78) hx hb dX4_looks_61 (by decide) (fun c_14 => ?_) (fun c_14 => ?_)
        · replace h := oi_t c_14 h
          refine lv_iconst (v := 0) hx hb dX4_looks_78 (by decide) ?_
          obtain ⟨g_15, h⟩ := og_some h
          refine va_iast hx hb hK hP hD hS 21 0 rfl rfl g_15 dX4_looks_79 (fun H locs hP hD hS => ?_)
          replace hP : va_P D xcl (rW cy b (rar V 23 (zx4).toNatClampNeg 0)) H := hP
          replace hD : va_D A (rW cy b (rar V 23 (zx4).toNatClampNeg 0)) := hD
          obtain ⟨V_16, eV_17, h⟩ := ob_some h
          rw [Option.some.inj eV_17] at hP hD
          refine lv_iinc (v := zx4 + (-1)) (lv' := [(4, .int (zx4 + (-1))), (0, .ref (b 0)), (1, .int zx1), (2, .int zx2), (3, .int zx3)]) hx hb dX4_looks_80 hl (k := 4) rfl rfl (by decide) rfl (fun ls hl => ?_)
          refine lv_goto (tgt := 38) hx hb dX4_looks_83 (by decide) ?_
          exact ih zx1 zx2 zx3 (zx4 + (-1)) _ _ _  ls h hP hD hS (lv_sub hl [1, 2, 3, 4, 0] rfl)
        · replace h := oi_f c_14 h
          refine lv_aload_n hx hb dX4_looks_64 rfl (lv_at hl 0 rfl) ?_
          refine va_get (D := D) (ci := 4) (v := .ref (b 23)) (C := RX4) (T := TX4) (N := 28) hx hb hts hinX4 hown hK hP 0 rfl rfl 23 (by decide) (hts _ (List.mem_of_getElem? (i := 1) rfl)) (fun _ h9 => h9) rfl dX4_looks_65 ?_
          refine lv_iload hx hb dX4_looks_68 (lv_at hl 4 rfl) ?_
          refine lv_iconst (v := 1) hx hb dX4_looks_70 (by decide) ?_
          refine lv_iadd hx hb dX4_looks_71 ?_
          obtain ⟨g_18, h⟩ := og_some h
          refine va_iald hx hb hK hP 21 0 rfl rfl g_18 dX4_looks_72 ?_
          refine lv_iconst (v := 1) hx hb dX4_looks_73 (by decide) ?_
          refine lv_iadd hx hb dX4_looks_74 ?_
          refine lv_goto (tgt := 79) hx hb dX4_looks_75 (by decide) ?_
          obtain ⟨g_19, h⟩ := og_some h
          refine va_iast hx hb hK hP hD hS 21 0 rfl rfl g_19 dX4_looks_79 (fun H locs hP hD hS => ?_)
          replace hP : va_P D xcl (rW cy b (rar V 23 (zx4).toNatClampNeg ((V.2.1 23 (zx4 + 1).toNatClampNeg) + 1))) H := hP
          replace hD : va_D A (rW cy b (rar V 23 (zx4).toNatClampNeg ((V.2.1 23 (zx4 + 1).toNatClampNeg) + 1))) := hD
          obtain ⟨V_20, eV_21, h⟩ := ob_some h
          rw [Option.some.inj eV_21] at hP hD
          refine lv_iinc (v := zx4 + (-1)) (lv' := [(4, .int (zx4 + (-1))), (0, .ref (b 0)), (1, .int zx1), (2, .int zx2), (3, .int zx3)]) hx hb dX4_looks_80 hl (k := 4) rfl rfl (by decide) rfl (fun ls hl => ?_)
          refine lv_goto (tgt := 38) hx hb dX4_looks_83 (by decide) ?_
          exact ih zx1 zx2 zx3 (zx4 + (-1)) _ _ _  ls h hP hD hS (lv_sub hl [1, 2, 3, 4, 0] rfl)
set_option maxHeartbeats 4000000 in
set_option maxRecDepth 100000 in
theorem c_X4_looks (l : Launch) (D : va_G) (cy : Nat → ClassId) (b : Nat → Nat) (V : RV) (sz : Nat) (p1 : Int32) (p2 : Int32) {res : RV} (h : f_X4_looks V p1 p2 = some res) : Met l yX4_looks wsX4_looks ({ frames := 3, cells := 0, slots := 0, locals := 70 } : Room) (va_Pc [.ref (b 0), .int p1, .int p2] (zJ sz (rI D cy b V))) (va_Qv (fun (_ : Unit) => True) (fun _ t => va_P D xcl (rW cy b res) t.heap ∧ va_D (va_A (rW cy b V) sz) (rW cy b res)) (va_A (rW cy b V) sz)) 0 0 (va_A (rW cy b V) sz) := by
  refine Met.ofW (cc := cX4_looks) (maxL := 5) (ret := none) (by decide) rfl ?_
  intro p e s m args below meth c s₁ B hml hv
  obtain ⟨rfl, hsz, hP, hK, hD0⟩ := hv
  have hx := B.exec
  have hb := B.bytes
  have hr := B.returns
  have hts := atoms_spec (ws := wsX4_looks) B.pre
  have hown : s.vm.findClass RX4 = some m.cls := findClass_of_methodNamed B.named
  have hlocks := B.notSynchronized
  subst hsz
  have hD := hD0.self (sz := s.heap.size)
  generalize hAe : va_A (rW cy b V) s.heap.size = A at hD ⊢
  have hA : ∀ q : Nat, s.heap.size ≤ q → A q := fun q h => by rw [← hAe]; exact Or.inr h
  have hS : va_S A s.heap s.heap [] := va_S.rf
  have hl := lv_entry ([.ref (b 0), .int p1, .int p2]) (n := 5) (Nat.le_of_ble_eq_true rfl)
  rw [lg_entry_eq]
  generalize (lg_sl ([.ref (b 0), .int p1, .int p2]) ++ List.replicate (5 - (lg_sl ([.ref (b 0), .int p1, .int p2])).length) Slot.unset).toArray = ls at hl ⊢
  have hl : lv_has ls 5 [(0, .ref (b 0)), (1, .int p1), (2, .int p2)] := hl
  have hinX4 : ∀ w ∈ wsX40, w ∈ wsX4_looks := (fun _ h => (List.mem_cons_of_mem _ (List.mem_append_left _ (List.mem_append_right _ h))))
  revert hP hS
  intro hP hS
  refine lv_aload_n hx hb dX4_looks_0 rfl (lv_at hl 0 rfl) ?_
  refine lv_iload_n hx hb dX4_looks_1 rfl (lv_at hl 1 rfl) ?_
  refine lv_iload_n hx hb dX4_looks_2 rfl (lv_at hl 2 rfl) ?_
  obtain ⟨u_1, hg_2, h⟩ := ob_some h
  refine zcSi (W.runV (As := [.int p1, .int p2]) (rest := []) ⟨hx, hb, hml, hown, hts⟩ (c_X4_reachesBoth l D cy b V p1 p2 hg_2) (cwV 2 hts gX4_looks_X4_reachesBoth rfl rfl rfl hd_X4_reachesBoth ⟨Nat.le_of_ble_eq_true rfl, Nat.le_of_ble_eq_true rfl⟩) ⟨rI_blind, va_recv hK hP (ci := 4) (q0 := 0) rfl rfl, (rI_at hP hK hD)⟩ rfl rfl hl.1 rfl (lv_room (Nat.le_of_ble_eq_true rfl)) dX4_looks_3 ⟨Nat.le_of_ble_eq_true rfl, Nat.le_of_ble_eq_true rfl⟩) ?_
  refine lv_if_eq (tgt := 22) hx hb dX4_looks_6 (by decide) (fun c_3 => ?_) (fun c_3 => ?_)
  · replace h := oi_t c_3 h
    refine lv_iconst (v := 0) hx hb dX4_looks_22 (by decide) ?_
    refine lv_istore_n (lv' := [(3, .int 0), (0, .ref (b 0)), (1, .int p1), (2, .int p2)]) hx hb dX4_looks_23 rfl hl (by decide) rfl (fun ls hl => ?_)
    refine lv_aload_n hx hb dX4_looks_24 rfl (lv_at hl 1 rfl) ?_
    refine va_get (D := D) (ci := 4) (v := .ref (b 23)) (C := RX4) (T := TX4) (N := 28) hx hb hts hinX4 hown hK hP 0 rfl rfl 23 (by decide) (hts _ (List.mem_of_getElem? (i := 1) rfl)) (fun _ h9 => h9) rfl dX4_looks_25 ?_
    refine lv_sipush (v := 1440) hx hb dX4_looks_28 (by decide) ?_
    refine lv_iconst (v := 0) hx hb dX4_looks_31 (by decide) ?_
    obtain ⟨g_4, h⟩ := og_some h
    refine va_iast hx hb hK hP hD hS 21 0 rfl rfl g_4 dX4_looks_32 (fun H locs hP hD hS => ?_)
    replace hP : va_P D xcl (rW cy b (rar V 23 (1440 : Int32).toNatClampNeg 0)) H := hP
    replace hD : va_D A (rW cy b (rar V 23 (1440 : Int32).toNatClampNeg 0)) := hD
    obtain ⟨V_5, eV_6, h⟩ := ob_some h
    rw [Option.some.inj eV_6] at hP hD
    refine lv_sipush (v := 1439) hx hb dX4_looks_33 (by decide) ?_
    refine lv_istore (lv' := [(4, .int 1439), (3, .int 0), (0, .ref (b 0)), (1, .int p1), (2, .int p2)]) hx hb dX4_looks_36 hl (by decide) rfl (fun ls hl => ?_)
    exact k_X4_looks_38 hx hb hr hts hml hown hlocks hK hA _ _ p1 p2 0 1439 _ _ _  ls h hP hD hS (lv_sub hl [2, 3, 4, 1, 0] rfl)
  · replace h := oi_f c_3 h
    refine lv_aload_n hx hb dX4_looks_9 rfl (lv_at hl 0 rfl) ?_
    refine lv_iload_n hx hb dX4_looks_10 rfl (lv_at hl 1 rfl) ?_
    refine lv_iload_n hx hb dX4_looks_11 rfl (lv_at hl 2 rfl) ?_
    obtain ⟨u_22, hg_23, h⟩ := ob_some h
    refine zcSi (W.runV (As := [.int p1, .int p2]) (rest := []) ⟨hx, hb, hml, hown, hts⟩ (c_X4_isHeavy l D cy b V p1 p2 hg_23) (cwV 2 hts gX4_looks_X4_isHeavy rfl rfl rfl hd_X4_isHeavy ⟨Nat.le_of_ble_eq_true rfl, Nat.le_of_ble_eq_true rfl⟩) ⟨rI_blind, va_recv hK hP (ci := 4) (q0 := 0) rfl rfl, (rI_at hP hK hD)⟩ rfl rfl hl.1 rfl (lv_room (Nat.le_of_ble_eq_true rfl)) dX4_looks_12 ⟨Nat.le_of_ble_eq_true rfl, Nat.le_of_ble_eq_true rfl⟩) ?_
    refine lv_if_ne (tgt := 22) hx hb dX4_looks_15 (by decide) (fun c_24 => ?_) (fun c_24 => ?_)
    · replace h := oi_f c_24 h
      refine lv_iconst (v := 0) hx hb dX4_looks_22 (by decide) ?_
      refine lv_istore_n (lv' := [(3, .int 0), (0, .ref (b 0)), (1, .int p1), (2, .int p2)]) hx hb dX4_looks_23 rfl hl (by decide) rfl (fun ls hl => ?_)
      refine lv_aload_n hx hb dX4_looks_24 rfl (lv_at hl 1 rfl) ?_
      refine va_get (D := D) (ci := 4) (v := .ref (b 23)) (C := RX4) (T := TX4) (N := 28) hx hb hts hinX4 hown hK hP 0 rfl rfl 23 (by decide) (hts _ (List.mem_of_getElem? (i := 1) rfl)) (fun _ h9 => h9) rfl dX4_looks_25 ?_
      refine lv_sipush (v := 1440) hx hb dX4_looks_28 (by decide) ?_
      refine lv_iconst (v := 0) hx hb dX4_looks_31 (by decide) ?_
      obtain ⟨g_25, h⟩ := og_some h
      refine va_iast hx hb hK hP hD hS 21 0 rfl rfl g_25 dX4_looks_32 (fun H locs hP hD hS => ?_)
      replace hP : va_P D xcl (rW cy b (rar V 23 (1440 : Int32).toNatClampNeg 0)) H := hP
      replace hD : va_D A (rW cy b (rar V 23 (1440 : Int32).toNatClampNeg 0)) := hD
      obtain ⟨V_26, eV_27, h⟩ := ob_some h
      rw [Option.some.inj eV_27] at hP hD
      refine lv_sipush (v := 1439) hx hb dX4_looks_33 (by decide) ?_
      refine lv_istore (lv' := [(4, .int 1439), (3, .int 0), (0, .ref (b 0)), (1, .int p1), (2, .int p2)]) hx hb dX4_looks_36 hl (by decide) rfl (fun ls hl => ?_)
      exact k_X4_looks_38 hx hb hr hts hml hown hlocks hK hA _ _ p1 p2 0 1439 _ _ _  ls h hP hD hS (lv_sub hl [2, 3, 4, 1, 0] rfl)
    · replace h := oi_t c_24 h
      refine lv_iconst (v := 1) hx hb dX4_looks_18 (by decide) ?_
      refine lv_goto (tgt := 23) hx hb dX4_looks_19 (by decide) ?_
      refine lv_istore_n (lv' := [(3, .int 1), (0, .ref (b 0)), (1, .int p1), (2, .int p2)]) hx hb dX4_looks_23 rfl hl (by decide) rfl (fun ls hl => ?_)
      refine lv_aload_n hx hb dX4_looks_24 rfl (lv_at hl 1 rfl) ?_
      refine va_get (D := D) (ci := 4) (v := .ref (b 23)) (C := RX4) (T := TX4) (N := 28) hx hb hts hinX4 hown hK hP 0 rfl rfl 23 (by decide) (hts _ (List.mem_of_getElem? (i := 1) rfl)) (fun _ h9 => h9) rfl dX4_looks_25 ?_
      refine lv_sipush (v := 1440) hx hb dX4_looks_28 (by decide) ?_
      refine lv_iconst (v := 0) hx hb dX4_looks_31 (by decide) ?_
      obtain ⟨g_28, h⟩ := og_some h
      refine va_iast hx hb hK hP hD hS 21 0 rfl rfl g_28 dX4_looks_32 (fun H locs hP hD hS => ?_)
      replace hP : va_P D xcl (rW cy b (rar V 23 (1440 : Int32).toNatClampNeg 0)) H := hP
      replace hD : va_D A (rW cy b (rar V 23 (1440 : Int32).toNatClampNeg 0)) := hD
      obtain ⟨V_29, eV_30, h⟩ := ob_some h
      rw [Option.some.inj eV_30] at hP hD
      refine lv_sipush (v := 1439) hx hb dX4_looks_33 (by decide) ?_
      refine lv_istore (lv' := [(4, .int 1439), (3, .int 1), (0, .ref (b 0)), (1, .int p1), (2, .int p2)]) hx hb dX4_looks_36 hl (by decide) rfl (fun ls hl => ?_)
      exact k_X4_looks_38 hx hb hr hts hml hown hlocks hK hA _ _ p1 p2 1 1439 _ _ _  ls h hP hD hS (lv_sub hl [2, 3, 4, 1, 0] rfl)
def f_X4_fitsFrom_2 : RV → Nat → Int32 → Int32 → Option (Int32)
  | _, 0, _, _ => none
  | V, fu + 1, zx1, zx3 => oi (1440 ≤ zx3) (some (-1)) (og (¬ (zx3 < 0 ∨ 1441 ≤ (zx3).toNatClampNeg)) (og (¬ (zx1 < 0 ∨ 40 ≤ (zx1).toNatClampNeg)) (oi ((V.2.1 23 (zx3).toNatClampNeg) < (V.2.1 13 (zx1).toNatClampNeg)) (f_X4_fitsFrom_2 V fu zx1 (zx3 + 1)) (some zx3))))
def f_X4_fitsFrom (V : RV) (p1 : Int32) (p2 : Int32) : Option (Int32) := f_X4_fitsFrom_2 V FU p1 p2
theorem hd_X4_fitsFrom : yX4_fitsFrom.cls = RX4 ∧ yX4_fitsFrom.cls ≠ "java/lang/invoke/MethodHandle" ∧ yX4_fitsFrom.cls ≠ "java/lang/invoke/VarHandle" ∧ (parseMethodDescriptor yX4_fitsFrom.desc).map (fun d => d.parameters.length) = some 2 := by decide +kernel
set_option maxHeartbeats 4000000 in
set_option maxRecDepth 100000 in
theorem k_X4_fitsFrom_2 {p : Program} {l : Launch} {e : Env} {s : State} {m : MethodId} {args : Array Value} {below : List Frame} {meth : Method} {c : Code} {D : va_G} {cy : Nat → ClassId} {b : Nat → Nat} {V : RV} (hx : p.tables.exec = Jvm.exec) (hb : c.code = cX4_fitsFrom) (hr : meth.sig.returnType = (some .int)) (hts : ∀ w ∈ wsX4_fitsFrom, w.before args s = true) (hml : c.maxLocals = 4) (hown : s.vm.findClass RX4 = some m.cls) (hlocks : meth.locks = false) (hK : va_K D xcl (xty cy) s) (hP : va_P D xcl (rW cy b V) s.heap) (hD : va_D (fun _ => True) (rW cy b V)) (res : Int32) : ∀ (fu : Nat) (zx1 : Int32) (zx3 : Int32)  (ls : Array Slot), f_X4_fitsFrom_2 V fu zx1 zx3 = some res → lv_has ls 4 [(0, .ref (b 0)), (1, .int zx1), (3, .int zx3)] → W p l e ({ frames := 0, cells := 0, slots := 0, locals := 0 } : Room) s m args below meth c s.heap [] 0 0 (MQ below (vp_Si (fun r => r = res)) args s 0 0 (fun _ => False)) (F0 m 2 ls []) := by
  have hinX4 : ∀ w ∈ wsX40, w ∈ wsX4_fitsFrom := (fun _ h => (List.mem_cons_of_mem _ (List.mem_append_right _ h)))
  intro fu
  induction fu with
  | zero =>
    intro zx1 zx3  ls h hl
    cases h
  | succ fu ih =>
    intro zx1 zx3  ls h hl
    refine lv_iload_n hx hb dX4_fitsFrom_2 rfl (lv_at hl 2 rfl) ?_
    refine lv_sipush (v := 1440) hx hb dX4_fitsFrom_3 (by decide) ?_
    refine lv_icmp_ge (tgt := 32) hx hb dX4_fitsFrom_6 (by decide) (fun c_1 => ?_) (fun c_1 => ?_)
    · replace h := oi_t c_1 h
      refine lv_iconst (v := (-1)) hx hb dX4_fitsFrom_32 (by decide) ?_
      have h9 := Option.some.inj h
      exact W.iret (v := (-1)) hx hb hr (fun t ht hW => ⟨(-1), rfl, h9, ht⟩) (fun _ hq => absurd hq List.not_mem_nil) dX4_fitsFrom_33 hlocks
    · replace h := oi_f c_1 h
      refine lv_aload_n hx hb dX4_fitsFrom_9 rfl (lv_at hl 0 rfl) ?_
      refine va_get (D := D) (ci := 4) (v := .ref (b 23)) (C := RX4) (T := TX4) (N := 28) hx hb hts hinX4 hown hK hP 0 rfl rfl 23 (by decide) (hts _ (List.mem_of_getElem? (i := 1) rfl)) (fun _ h9 => h9) rfl dX4_fitsFrom_10 ?_
      refine lv_iload_n hx hb dX4_fitsFrom_13 rfl (lv_at hl 2 rfl) ?_
      obtain ⟨g_2, h⟩ := og_some h
      refine va_iald hx hb hK hP 21 0 rfl rfl g_2 dX4_fitsFrom_14 ?_
      refine lv_aload_n hx hb dX4_fitsFrom_15 rfl (lv_at hl 0 rfl) ?_
      refine va_get (D := D) (ci := 4) (v := .ref (b 13)) (C := RX4) (T := TX4) (N := 28) hx hb hts hinX4 hown hK hP 0 rfl rfl 13 (by decide) (hts _ (List.mem_of_getElem? (i := 2) rfl)) (fun _ h9 => h9) rfl dX4_fitsFrom_16 ?_
      refine lv_iload_n hx hb dX4_fitsFrom_19 rfl (lv_at hl 1 rfl) ?_
      obtain ⟨g_3, h⟩ := og_some h
      refine va_iald hx hb hK hP 12 0 rfl rfl g_3 dX4_fitsFrom_20 ?_
      refine lv_icmp_lt (tgt := 26) hx hb dX4_fitsFrom_21 (by decide) (fun c_4 => ?_) (fun c_4 => ?_)
      · replace h := oi_t c_4 h
        refine lv_iinc (v := zx3 + 1) (lv' := [(3, .int (zx3 + 1)), (0, .ref (b 0)), (1, .int zx1)]) hx hb dX4_fitsFrom_26 hl (k := 2) rfl rfl (by decide) rfl (fun ls hl => ?_)
        refine lv_goto (tgt := 2) hx hb dX4_fitsFrom_29 (by decide) ?_
        exact ih zx1 (zx3 + 1)  ls h (lv_sub hl [1, 2, 0] rfl)
      · replace h := oi_f c_4 h
        refine lv_iload_n hx hb dX4_fitsFrom_24 rfl (lv_at hl 2 rfl) ?_
        have h9 := Option.some.inj h
        exact W.iret (v := zx3) hx hb hr (fun t ht hW => ⟨zx3, rfl, h9, ht⟩) (fun _ hq => absurd hq List.not_mem_nil) dX4_fitsFrom_25 hlocks
set_option maxHeartbeats 4000000 in
set_option maxRecDepth 100000 in
theorem c_X4_fitsFrom (l : Launch) (D : va_G) (cy : Nat → ClassId) (b : Nat → Nat) (V : RV) (p1 : Int32) (p2 : Int32) {res : Int32} (h : f_X4_fitsFrom V p1 p2 = some res) : Met l yX4_fitsFrom wsX4_fitsFrom ({ frames := 0, cells := 0, slots := 0, locals := 0 } : Room) (va_Pc [.ref (b 0), .int p1, .int p2] (rI D cy b V)) (vp_Si (fun r => r = res)) 0 0 (fun _ => False) := by
  refine Met.ofW (cc := cX4_fitsFrom) (maxL := 4) (ret := (some .int)) (by decide) rfl ?_
  intro p e s m args below meth c s₁ B hml hv
  obtain ⟨rfl, hP, hK, hD⟩ := hv
  have hx := B.exec
  have hb := B.bytes
  have hr := B.returns
  have hts := atoms_spec (ws := wsX4_fitsFrom) B.pre
  have hown : s.vm.findClass RX4 = some m.cls := findClass_of_methodNamed B.named
  have hlocks := B.notSynchronized
  have hl := lv_entry ([.ref (b 0), .int p1, .int p2]) (n := 4) (Nat.le_of_ble_eq_true rfl)
  rw [lg_entry_eq]
  generalize (lg_sl ([.ref (b 0), .int p1, .int p2]) ++ List.replicate (4 - (lg_sl ([.ref (b 0), .int p1, .int p2])).length) Slot.unset).toArray = ls at hl ⊢
  have hl : lv_has ls 4 [(0, .ref (b 0)), (1, .int p1), (2, .int p2)] := hl
  refine lv_iload_n hx hb dX4_fitsFrom_0 rfl (lv_at hl 2 rfl) ?_
  refine lv_istore_n (lv' := [(3, .int p2), (0, .ref (b 0)), (1, .int p1), (2, .int p2)]) hx hb dX4_fitsFrom_1 rfl hl (by decide) rfl (fun ls hl => ?_)
  exact k_X4_fitsFrom_2 hx hb hr hts hml hown hlocks hK hP hD _ _ p1 p2  ls h (lv_sub hl [1, 2, 0] rfl)
def f_X4_first (V : RV) (p1 : Int32) (p2 : Int32) : Option (Int32 × RV) := ob (f_X4_looks V p1 p2) (fun u_1 => ob (f_X4_fitsFrom u_1 p1 0) (fun u_3 => some (u_3, u_1)))
theorem hd_X4_first : yX4_first.cls = RX4 ∧ yX4_first.cls ≠ "java/lang/invoke/MethodHandle" ∧ yX4_first.cls ≠ "java/lang/invoke/VarHandle" ∧ (parseMethodDescriptor yX4_first.desc).map (fun d => d.parameters.length) = some 2 := by decide +kernel
set_option maxHeartbeats 4000000 in
set_option maxRecDepth 100000 in
theorem c_X4_first (l : Launch) (D : va_G) (cy : Nat → ClassId) (b : Nat → Nat) (V : RV) (sz : Nat) (p1 : Int32) (p2 : Int32) {res : Int32 × RV} (h : f_X4_first V p1 p2 = some res) : Met l yX4_first wsX4_first ({ frames := 4, cells := 0, slots := 0, locals := 94 } : Room) (va_Pc [.ref (b 0), .int p1, .int p2] (zJ sz (rI D cy b V))) (va_Qi (fun r (_ : Unit) => r = res.1) (fun _ t => va_P D xcl (rW cy b res.2) t.heap ∧ va_D (va_A (rW cy b V) sz) (rW cy b res.2)) (va_A (rW cy b V) sz)) 0 0 (va_A (rW cy b V) sz) := by
  refine Met.ofW (cc := cX4_first) (maxL := 3) (ret := (some .int)) (by decide) rfl ?_
  intro p e s m args below meth c s₁ B hml hv
  obtain ⟨rfl, hsz, hP, hK, hD0⟩ := hv
  have hx := B.exec
  have hb := B.bytes
  have hr := B.returns
  have hts := atoms_spec (ws := wsX4_first) B.pre
  have hown : s.vm.findClass RX4 = some m.cls := findClass_of_methodNamed B.named
  have hlocks := B.notSynchronized
  subst hsz
  have hD := hD0.self (sz := s.heap.size)
  generalize hAe : va_A (rW cy b V) s.heap.size = A at hD ⊢
  have hA : ∀ q : Nat, s.heap.size ≤ q → A q := fun q h => by rw [← hAe]; exact Or.inr h
  have hS : va_S A s.heap s.heap [] := va_S.rf
  have hl := lv_entry ([.ref (b 0), .int p1, .int p2]) (n := 3) (Nat.le_of_ble_eq_true rfl)
  rw [lg_entry_eq]
  generalize (lg_sl ([.ref (b 0), .int p1, .int p2]) ++ List.replicate (3 - (lg_sl ([.ref (b 0), .int p1, .int p2])).length) Slot.unset).toArray = ls at hl ⊢
  have hl : lv_has ls 3 [(0, .ref (b 0)), (1, .int p1), (2, .int p2)] := hl
  revert hP hS
  intro hP hS
  refine lv_aload_n hx hb dX4_first_0 rfl (lv_at hl 0 rfl) ?_
  refine lv_iload_n hx hb dX4_first_1 rfl (lv_at hl 1 rfl) ?_
  refine lv_iload_n hx hb dX4_first_2 rfl (lv_at hl 2 rfl) ?_
  obtain ⟨u_1, hg_2, h⟩ := ob_some h
  refine zcWv (va_runV (As := [.int p1, .int p2]) (rest := []) ⟨hx, hb, hml, hown, hts⟩ (c_X4_looks l D cy b V _ p1 p2 hg_2) (cwV 2 hts gX4_first_X4_looks rfl rfl rfl hd_X4_looks ⟨Nat.le_of_ble_eq_true rfl, Nat.le_of_ble_eq_true rfl⟩) ⟨(zJ_blind rI_blind), va_recv hK hP (ci := 4) (q0 := 0) rfl rfl, (zJ_at (rI_at hP hK hD))⟩ rfl rfl hl.1 rfl (lv_room (Nat.le_of_ble_eq_true rfl)) dX4_first_3 ⟨Nat.le_of_ble_eq_true rfl, Nat.le_of_ble_eq_true rfl⟩) hS (z_free hD hS hA) (fun H locs hP hD hS => ?_)
  refine lv_aload_n hx hb dX4_first_6 rfl (lv_at hl 0 rfl) ?_
  refine lv_iload_n hx hb dX4_first_7 rfl (lv_at hl 1 rfl) ?_
  refine lv_iconst (v := 0) hx hb dX4_first_8 (by decide) ?_
  obtain ⟨u_3, hg_4, h⟩ := ob_some h
  refine zcSi (W.runV (As := [.int p1, .int 0]) (rest := []) ⟨hx, hb, hml, hown, hts⟩ (c_X4_fitsFrom l D cy b u_1 p1 0 hg_4) (cwV 2 hts gX4_first_X4_fitsFrom rfl rfl rfl hd_X4_fitsFrom ⟨Nat.le_of_ble_eq_true rfl, Nat.le_of_ble_eq_true rfl⟩) ⟨rI_blind, va_recv hK hP (ci := 4) (q0 := 0) rfl rfl, (rI_at hP hK hD)⟩ rfl rfl hl.1 rfl (lv_room (Nat.le_of_ble_eq_true rfl)) dX4_first_9 ⟨Nat.le_of_ble_eq_true rfl, Nat.le_of_ble_eq_true rfl⟩) ?_
  have h9 := Option.some.inj h
  subst h9
  exact W.iret (v := u_3) hx hb hr (fun t ht hW => ⟨⟨u_3, (), rfl, rfl, ⟨by rw [ht]; exact hP, hD⟩⟩, hS.F ht⟩) hS.2.2 dX4_first_12 hlocks
def f_X4_takes (V : RV) (p1 : Int32) (p2 : Int32) (p3 : Int32) : Option (RV) := og (¬ (p1 < 0 ∨ 40 ≤ (p1).toNatClampNeg)) (ob (some (rar V 14 (p1).toNatClampNeg (vp_nar .char 112))) (fun V_2 => og (¬ (p1 < 0 ∨ 40 ≤ (p1).toNatClampNeg)) (ob (some (rar V_2 15 (p1).toNatClampNeg p2)) (fun V_5 => og (¬ (p1 < 0 ∨ 40 ≤ (p1).toNatClampNeg)) (ob (some (rar V_5 16 (p1).toNatClampNeg p3)) (fun V_8 => some V_8))))))
theorem hd_X4_takes : yX4_takes.cls = RX4 ∧ yX4_takes.cls ≠ "java/lang/invoke/MethodHandle" ∧ yX4_takes.cls ≠ "java/lang/invoke/VarHandle" ∧ (parseMethodDescriptor yX4_takes.desc).map (fun d => d.parameters.length) = some 3 := by decide +kernel
set_option maxHeartbeats 4000000 in
set_option maxRecDepth 100000 in
theorem c_X4_takes (l : Launch) (D : va_G) (cy : Nat → ClassId) (b : Nat → Nat) (V : RV) (sz : Nat) (p1 : Int32) (p2 : Int32) (p3 : Int32) {res : RV} (h : f_X4_takes V p1 p2 p3 = some res) : Met l yX4_takes wsX4_takes ({ frames := 0, cells := 0, slots := 0, locals := 0 } : Room) (va_Pc [.ref (b 0), .int p1, .int p2, .int p3] (zJ sz (rI D cy b V))) (va_Qv (fun (_ : Unit) => True) (fun _ t => va_P D xcl (rW cy b res) t.heap ∧ va_D (va_A (rW cy b V) sz) (rW cy b res)) (va_A (rW cy b V) sz)) 0 0 (va_A (rW cy b V) sz) := by
  refine Met.ofW (cc := cX4_takes) (maxL := 4) (ret := none) (by decide) rfl ?_
  intro p e s m args below meth c s₁ B hml hv
  obtain ⟨rfl, hsz, hP, hK, hD0⟩ := hv
  have hx := B.exec
  have hb := B.bytes
  have hr := B.returns
  have hts := atoms_spec (ws := wsX4_takes) B.pre
  have hown : s.vm.findClass RX4 = some m.cls := findClass_of_methodNamed B.named
  have hlocks := B.notSynchronized
  subst hsz
  have hD := hD0.self (sz := s.heap.size)
  generalize hAe : va_A (rW cy b V) s.heap.size = A at hD ⊢
  have hA : ∀ q : Nat, s.heap.size ≤ q → A q := fun q h => by rw [← hAe]; exact Or.inr h
  have hS : va_S A s.heap s.heap [] := va_S.rf
  have hl := lv_entry ([.ref (b 0), .int p1, .int p2, .int p3]) (n := 4) (Nat.le_of_ble_eq_true rfl)
  rw [lg_entry_eq]
  generalize (lg_sl ([.ref (b 0), .int p1, .int p2, .int p3]) ++ List.replicate (4 - (lg_sl ([.ref (b 0), .int p1, .int p2, .int p3])).length) Slot.unset).toArray = ls at hl ⊢
  have hl : lv_has ls 4 [(0, .ref (b 0)), (1, .int p1), (2, .int p2), (3, .int p3)] := hl
  have hinX4 : ∀ w ∈ wsX40, w ∈ wsX4_takes := (fun _ h => (List.mem_cons_of_mem _ (List.mem_append_right _ h)))
  revert hP hS
  intro hP hS
  refine lv_aload_n hx hb dX4_takes_0 rfl (lv_at hl 0 rfl) ?_
  refine va_get (D := D) (ci := 4) (v := .ref (b 14)) (C := RX4) (T := TX4) (N := 28) hx hb hts hinX4 hown hK hP 0 rfl rfl 14 (by decide) (hts _ (List.mem_of_getElem? (i := 1) rfl)) (fun _ h9 => h9) rfl dX4_takes_1 ?_
  refine lv_iload_n hx hb dX4_takes_4 rfl (lv_at hl 1 rfl) ?_
  refine lv_bipush (v := 112) hx hb dX4_takes_5 (by decide) ?_
  obtain ⟨g_1, h⟩ := og_some h
  refine va_cast hx hb hK hP hD hS 13 3 rfl rfl g_1 dX4_takes_7 (fun H locs hP hD hS => ?_)
  replace hP : va_P D xcl (rW cy b (rar V 14 (p1).toNatClampNeg (vp_nar .char 112))) H := hP
  replace hD : va_D A (rW cy b (rar V 14 (p1).toNatClampNeg (vp_nar .char 112))) := hD
  obtain ⟨V_2, eV_3, h⟩ := ob_some h
  rw [Option.some.inj eV_3] at hP hD
  refine lv_aload_n hx hb dX4_takes_8 rfl (lv_at hl 0 rfl) ?_
  refine va_get (D := D) (ci := 4) (v := .ref (b 15)) (C := RX4) (T := TX4) (N := 28) hx hb hts hinX4 hown hK hP 0 rfl rfl 15 (by decide) (hts _ (List.mem_of_getElem? (i := 2) rfl)) (fun _ h9 => h9) rfl dX4_takes_9 ?_
  refine lv_iload_n hx hb dX4_takes_12 rfl (lv_at hl 1 rfl) ?_
  refine lv_iload_n hx hb dX4_takes_13 rfl (lv_at hl 2 rfl) ?_
  obtain ⟨g_4, h⟩ := og_some h
  refine va_iast hx hb hK hP hD hS 14 0 rfl rfl g_4 dX4_takes_14 (fun H locs hP hD hS => ?_)
  replace hP : va_P D xcl (rW cy b (rar V_2 15 (p1).toNatClampNeg p2)) H := hP
  replace hD : va_D A (rW cy b (rar V_2 15 (p1).toNatClampNeg p2)) := hD
  obtain ⟨V_5, eV_6, h⟩ := ob_some h
  rw [Option.some.inj eV_6] at hP hD
  refine lv_aload_n hx hb dX4_takes_15 rfl (lv_at hl 0 rfl) ?_
  refine va_get (D := D) (ci := 4) (v := .ref (b 16)) (C := RX4) (T := TX4) (N := 28) hx hb hts hinX4 hown hK hP 0 rfl rfl 16 (by decide) (hts _ (List.mem_of_getElem? (i := 3) rfl)) (fun _ h9 => h9) rfl dX4_takes_16 ?_
  refine lv_iload_n hx hb dX4_takes_19 rfl (lv_at hl 1 rfl) ?_
  refine lv_iload_n hx hb dX4_takes_20 rfl (lv_at hl 3 rfl) ?_
  obtain ⟨g_7, h⟩ := og_some h
  refine va_iast hx hb hK hP hD hS 15 0 rfl rfl g_7 dX4_takes_21 (fun H locs hP hD hS => ?_)
  replace hP : va_P D xcl (rW cy b (rar V_5 16 (p1).toNatClampNeg p3)) H := hP
  replace hD : va_D A (rW cy b (rar V_5 16 (p1).toNatClampNeg p3)) := hD
  obtain ⟨V_8, eV_9, h⟩ := ob_some h
  rw [Option.some.inj eV_9] at hP hD
  have h9 := Option.some.inj h
  subst h9
  exact W.vret hx hb hr (fun t ht hW => ⟨⟨(), rfl, trivial, ⟨by rw [ht]; exact hP, hD⟩⟩, hS.F ht⟩) hS.2.2 dX4_takes_22 hlocks
def f_X4_isNoPair (V : RV) (p1 : Int32) (p2 : Int32) : Option (Int32 × RV) := ob (f_X4_isNoLift V p1) (fun u_1 => oi (u_1 = 0) (ob (f_X4_isNoCrane V p2) (fun u_7 => oi (u_7 = 0) (ob (f_X4_fails V 0) (fun u_10 => og (u_10.1 &&& 1 = u_10.1) (some (u_10.1, u_10.2)))) (ob (f_X4_fails V 1) (fun u_13 => og (u_13.1 &&& 1 = u_13.1) (some (u_13.1, u_13.2)))))) (ob (f_X4_fails V 1) (fun u_4 => og (u_4.1 &&& 1 = u_4.1) (some (u_4.1, u_4.2)))))
theorem hd_X4_isNoPair : yX4_isNoPair.cls = RX4 ∧ yX4_isNoPair.cls ≠ "java/lang/invoke/MethodHandle" ∧ yX4_isNoPair.cls ≠ "java/lang/invoke/VarHandle" ∧ (parseMethodDescriptor yX4_isNoPair.desc).map (fun d => d.parameters.length) = some 2 := by decide +kernel
set_option maxHeartbeats 4000000 in
set_option maxRecDepth 100000 in
theorem c_X4_isNoPair (l : Launch) (D : va_G) (cy : Nat → ClassId) (b : Nat → Nat) (V : RV) (sz : Nat) (p1 : Int32) (p2 : Int32) {res : Int32 × RV} (h : f_X4_isNoPair V p1 p2 = some res) : Met l yX4_isNoPair wsX4_isNoPair ({ frames := 2, cells := 0, slots := 0, locals := 43 } : Room) (va_Pc [.ref (b 0), .int p1, .int p2] (zJ sz (rI D cy b V))) (va_Qi (fun r (_ : Unit) => r = res.1) (fun _ t => va_P D xcl (rW cy b res.2) t.heap ∧ va_D (va_A (rW cy b V) sz) (rW cy b res.2)) (va_A (rW cy b V) sz)) 0 0 (va_A (rW cy b V) sz) := by
  refine Met.ofW (cc := cX4_isNoPair) (maxL := 3) (ret := (some .boolean)) (by decide) rfl ?_
  intro p e s m args below meth c s₁ B hml hv
  obtain ⟨rfl, hsz, hP, hK, hD0⟩ := hv
  have hx := B.exec
  have hb := B.bytes
  have hr := B.returns
  have hts := atoms_spec (ws := wsX4_isNoPair) B.pre
  have hown : s.vm.findClass RX4 = some m.cls := findClass_of_methodNamed B.named
  have hlocks := B.notSynchronized
  subst hsz
  have hD := hD0.self (sz := s.heap.size)
  generalize hAe : va_A (rW cy b V) s.heap.size = A at hD ⊢
  have hA : ∀ q : Nat, s.heap.size ≤ q → A q := fun q h => by rw [← hAe]; exact Or.inr h
  have hS : va_S A s.heap s.heap [] := va_S.rf
  have hl := lv_entry ([.ref (b 0), .int p1, .int p2]) (n := 3) (Nat.le_of_ble_eq_true rfl)
  rw [lg_entry_eq]
  generalize (lg_sl ([.ref (b 0), .int p1, .int p2]) ++ List.replicate (3 - (lg_sl ([.ref (b 0), .int p1, .int p2])).length) Slot.unset).toArray = ls at hl ⊢
  have hl : lv_has ls 3 [(0, .ref (b 0)), (1, .int p1), (2, .int p2)] := hl
  revert hP hS
  intro hP hS
  refine lv_aload_n hx hb dX4_isNoPair_0 rfl (lv_at hl 0 rfl) ?_
  refine lv_aload_n hx hb dX4_isNoPair_1 rfl (lv_at hl 0 rfl) ?_
  refine lv_iload_n hx hb dX4_isNoPair_2 rfl (lv_at hl 1 rfl) ?_
  obtain ⟨u_1, hg_2, h⟩ := ob_some h
  refine zcSi (W.runV (As := [.int p1]) (rest := [.ref (b 0)]) ⟨hx, hb, hml, hown, hts⟩ (c_X4_isNoLift l D cy b V p1 hg_2) (cwV 1 hts gX4_isNoPair_X4_isNoLift rfl rfl rfl hd_X4_isNoLift ⟨Nat.le_of_ble_eq_true rfl, Nat.le_of_ble_eq_true rfl⟩) ⟨rI_blind, va_recv hK hP (ci := 4) (q0 := 0) rfl rfl, (rI_at hP hK hD)⟩ rfl rfl hl.1 rfl (lv_room (Nat.le_of_ble_eq_true rfl)) dX4_isNoPair_3 ⟨Nat.le_of_ble_eq_true rfl, Nat.le_of_ble_eq_true rfl⟩) ?_
  refine lv_if_ne (tgt := 17) hx hb dX4_isNoPair_6 (by decide) (fun c_3 => ?_) (fun c_3 => ?_)
  · replace h := oi_f c_3 h
    refine lv_iconst (v := 1) hx hb dX4_isNoPair_17 (by decide) ?_
    refine lv_goto (tgt := 22) hx hb dX4_isNoPair_18 (by decide) ?_
    obtain ⟨u_4, hg_5, h⟩ := ob_some h
    refine zcWi (va_runV (As := [.int 1]) (rest := []) ⟨hx, hb, hml, hown, hts⟩ (c_X4_fails l D cy b V _ 1 hg_5) (cwV 1 hts gX4_isNoPair_X4_fails rfl rfl rfl hd_X4_fails ⟨Nat.le_of_ble_eq_true rfl, Nat.le_of_ble_eq_true rfl⟩) ⟨(zJ_blind rI_blind), va_recv hK hP (ci := 4) (q0 := 0) rfl rfl, (zJ_at (rI_at hP hK hD))⟩ rfl rfl hl.1 rfl (lv_room (Nat.le_of_ble_eq_true rfl)) dX4_isNoPair_22 ⟨Nat.le_of_ble_eq_true rfl, Nat.le_of_ble_eq_true rfl⟩) hS (z_free hD hS hA) (fun H locs hP hD hS => ?_)
    obtain ⟨g_6, h⟩ := og_some h
    have h9 := Option.some.inj h
    subst h9
    exact W.zret (v := u_4.1) hx hb hr (congrArg Value.int g_6) (fun t ht hW => ⟨⟨u_4.1, (), rfl, rfl, ⟨by rw [ht]; exact hP, hD⟩⟩, hS.F ht⟩) hS.2.2 dX4_isNoPair_25 hlocks
  · replace h := oi_t c_3 h
    refine lv_aload_n hx hb dX4_isNoPair_9 rfl (lv_at hl 0 rfl) ?_
    refine lv_iload_n hx hb dX4_isNoPair_10 rfl (lv_at hl 2 rfl) ?_
    obtain ⟨u_7, hg_8, h⟩ := ob_some h
    refine zcSi (W.runV (As := [.int p2]) (rest := [.ref (b 0)]) ⟨hx, hb, hml, hown, hts⟩ (c_X4_isNoCrane l D cy b V p2 hg_8) (cwV 1 hts gX4_isNoPair_X4_isNoCrane rfl rfl rfl hd_X4_isNoCrane ⟨Nat.le_of_ble_eq_true rfl, Nat.le_of_ble_eq_true rfl⟩) ⟨rI_blind, va_recv hK hP (ci := 4) (q0 := 0) rfl rfl, (rI_at hP hK hD)⟩ rfl rfl hl.1 rfl (lv_room (Nat.le_of_ble_eq_true rfl)) dX4_isNoPair_11 ⟨Nat.le_of_ble_eq_true rfl, Nat.le_of_ble_eq_true rfl⟩) ?_
    refine lv_if_eq (tgt := 21) hx hb dX4_isNoPair_14 (by decide) (fun c_9 => ?_) (fun c_9 => ?_)
    · replace h := oi_t c_9 h
      refine lv_iconst (v := 0) hx hb dX4_isNoPair_21 (by decide) ?_
      obtain ⟨u_10, hg_11, h⟩ := ob_some h
      refine zcWi (va_runV (As := [.int 0]) (rest := []) ⟨hx, hb, hml, hown, hts⟩ (c_X4_fails l D cy b V _ 0 hg_11) (cwV 1 hts gX4_isNoPair_X4_fails rfl rfl rfl hd_X4_fails ⟨Nat.le_of_ble_eq_true rfl, Nat.le_of_ble_eq_true rfl⟩) ⟨(zJ_blind rI_blind), va_recv hK hP (ci := 4) (q0 := 0) rfl rfl, (zJ_at (rI_at hP hK hD))⟩ rfl rfl hl.1 rfl (lv_room (Nat.le_of_ble_eq_true rfl)) dX4_isNoPair_22 ⟨Nat.le_of_ble_eq_true rfl, Nat.le_of_ble_eq_true rfl⟩) hS (z_free hD hS hA) (fun H locs hP hD hS => ?_)
      obtain ⟨g_12, h⟩ := og_some h
      have h9 := Option.some.inj h
      subst h9
      exact W.zret (v := u_10.1) hx hb hr (congrArg Value.int g_12) (fun t ht hW => ⟨⟨u_10.1, (), rfl, rfl, ⟨by rw [ht]; exact hP, hD⟩⟩, hS.F ht⟩) hS.2.2 dX4_isNoPair_25 hlocks
    · replace h := oi_f c_9 h
      refine lv_iconst (v := 1) hx hb dX4_isNoPair_17 (by decide) ?_
      refine lv_goto (tgt := 22) hx hb dX4_isNoPair_18 (by decide) ?_
      obtain ⟨u_13, hg_14, h⟩ := ob_some h
      refine zcWi (va_runV (As := [.int 1]) (rest := []) ⟨hx, hb, hml, hown, hts⟩ (c_X4_fails l D cy b V _ 1 hg_14) (cwV 1 hts gX4_isNoPair_X4_fails rfl rfl rfl hd_X4_fails ⟨Nat.le_of_ble_eq_true rfl, Nat.le_of_ble_eq_true rfl⟩) ⟨(zJ_blind rI_blind), va_recv hK hP (ci := 4) (q0 := 0) rfl rfl, (zJ_at (rI_at hP hK hD))⟩ rfl rfl hl.1 rfl (lv_room (Nat.le_of_ble_eq_true rfl)) dX4_isNoPair_22 ⟨Nat.le_of_ble_eq_true rfl, Nat.le_of_ble_eq_true rfl⟩) hS (z_free hD hS hA) (fun H locs hP hD hS => ?_)
      obtain ⟨g_15, h⟩ := og_some h
      have h9 := Option.some.inj h
      subst h9
      exact W.zret (v := u_13.1) hx hb hr (congrArg Value.int g_15) (fun t ht hW => ⟨⟨u_13.1, (), rfl, rfl, ⟨by rw [ht]; exact hP, hD⟩⟩, hS.F ht⟩) hS.2.2 dX4_isNoPair_25 hlocks
def f_X4_isBound (V : RV) (p1 : Int32) (p2 : Int32) : Option (Int32 × RV) := ob (f_X4_isNoPair V p1 p2) (fun u_1 => oi (u_1.1 = 0) (og (¬ (p1 < 0 ∨ 40 ≤ (p1).toNatClampNeg)) (oi ((u_1.2.2.1 14 (p1).toNatClampNeg) = 119) (og (¬ (p1 < 0 ∨ 40 ≤ (p1).toNatClampNeg)) (oi ((u_1.2.2.1 17 (p1).toNatClampNeg) < 0) (ob (f_X4_fails u_1.2 0) (fun u_11 => oi (u_11.1 = 0) (some (0, u_11.2)) (some (1, u_11.2)))) (ob (f_X4_fails u_1.2 2) (fun u_14 => oi (u_14.1 = 0) (some (0, u_14.2)) (some (1, u_14.2)))))) (ob (f_X4_fails u_1.2 2) (fun u_6 => oi (u_6.1 = 0) (some (0, u_6.2)) (some (1, u_6.2)))))) (some (1, u_1.2)))
theorem hd_X4_isBound : yX4_isBound.cls = RX4 ∧ yX4_isBound.cls ≠ "java/lang/invoke/MethodHandle" ∧ yX4_isBound.cls ≠ "java/lang/invoke/VarHandle" ∧ (parseMethodDescriptor yX4_isBound.desc).map (fun d => d.parameters.length) = some 2 := by decide +kernel
set_option maxHeartbeats 4000000 in
set_option maxRecDepth 100000 in
theorem c_X4_isBound (l : Launch) (D : va_G) (cy : Nat → ClassId) (b : Nat → Nat) (V : RV) (sz : Nat) (p1 : Int32) (p2 : Int32) {res : Int32 × RV} (h : f_X4_isBound V p1 p2 = some res) : Met l yX4_isBound wsX4_isBound ({ frames := 3, cells := 0, slots := 0, locals := 65 } : Room) (va_Pc [.ref (b 0), .int p1, .int p2] (zJ sz (rI D cy b V))) (va_Qi (fun r (_ : Unit) => r = res.1) (fun _ t => va_P D xcl (rW cy b res.2) t.heap ∧ va_D (va_A (rW cy b V) sz) (rW cy b res.2)) (va_A (rW cy b V) sz)) 0 0 (va_A (rW cy b V) sz) := by
  refine Met.ofW (cc := cX4_isBound) (maxL := 3) (ret := (some .boolean)) (by decide) rfl ?_
  intro p e s m args below meth c s₁ B hml hv
  obtain ⟨rfl, hsz, hP, hK, hD0⟩ := hv
  have hx := B.exec
  have hb := B.bytes
  have hr := B.returns
  have hts := atoms_spec (ws := wsX4_isBound) B.pre
  have hown : s.vm.findClass RX4 = some m.cls := findClass_of_methodNamed B.named
  have hlocks := B.notSynchronized
  subst hsz
  have hD := hD0.self (sz := s.heap.size)
  generalize hAe : va_A (rW cy b V) s.heap.size = A at hD ⊢
  have hA : ∀ q : Nat, s.heap.size ≤ q → A q := fun q h => by rw [← hAe]; exact Or.inr h
  have hS : va_S A s.heap s.heap [] := va_S.rf
  have hl := lv_entry ([.ref (b 0), .int p1, .int p2]) (n := 3) (Nat.le_of_ble_eq_true rfl)
  rw [lg_entry_eq]
  generalize (lg_sl ([.ref (b 0), .int p1, .int p2]) ++ List.replicate (3 - (lg_sl ([.ref (b 0), .int p1, .int p2])).length) Slot.unset).toArray = ls at hl ⊢
  have hl : lv_has ls 3 [(0, .ref (b 0)), (1, .int p1), (2, .int p2)] := hl
  have hinX4 : ∀ w ∈ wsX40, w ∈ wsX4_isBound := (fun _ h => (List.mem_cons_of_mem _ (List.mem_append_right _ h)))
  revert hP hS
  intro hP hS
  refine lv_aload_n hx hb dX4_isBound_0 rfl (lv_at hl 0 rfl) ?_
  refine lv_iload_n hx hb dX4_isBound_1 rfl (lv_at hl 1 rfl) ?_
  refine lv_iload_n hx hb dX4_isBound_2 rfl (lv_at hl 2 rfl) ?_
  obtain ⟨u_1, hg_2, h⟩ := ob_some h
  refine zcWi (va_runV (As := [.int p1, .int p2]) (rest := []) ⟨hx, hb, hml, hown, hts⟩ (c_X4_isNoPair l D cy b V _ p1 p2 hg_2) (cwV 2 hts gX4_isBound_X4_isNoPair rfl rfl rfl hd_X4_isNoPair ⟨Nat.le_of_ble_eq_true rfl, Nat.le_of_ble_eq_true rfl⟩) ⟨(zJ_blind rI_blind), va_recv hK hP (ci := 4) (q0 := 0) rfl rfl, (zJ_at (rI_at hP hK hD))⟩ rfl rfl hl.1 rfl (lv_room (Nat.le_of_ble_eq_true rfl)) dX4_isBound_3 ⟨Nat.le_of_ble_eq_true rfl, Nat.le_of_ble_eq_true rfl⟩) hS (z_free hD hS hA) (fun H locs hP hD hS => ?_)
  refine lv_if_ne (tgt := 41) hx hb dX4_isBound_6 (by decide) (fun c_3 => ?_) (fun c_3 => ?_)
  · replace h := oi_f c_3 h
    refine lv_iconst (v := 1) hx hb dX4_isBound_41 (by decide) ?_
    refine lv_goto (tgt := 46) hx hb dX4_isBound_42 (by decide) ?_
    have h9 := Option.some.inj h
    subst h9
    exact W.zret (v := 1) hx hb hr (by decide) (fun t ht hW => ⟨⟨1, (), rfl, rfl, ⟨by rw [ht]; exact hP, hD⟩⟩, hS.F ht⟩) hS.2.2 dX4_isBound_46 hlocks
  · replace h := oi_t c_3 h
    refine lv_aload_n hx hb dX4_isBound_9 rfl (lv_at hl 0 rfl) ?_
    refine lv_aload_n hx hb dX4_isBound_10 rfl (lv_at hl 0 rfl) ?_
    refine va_get (D := D) (ci := 4) (v := .ref (b 14)) (C := RX4) (T := TX4) (N := 28) hx hb hts hinX4 hown hK hP 0 rfl rfl 14 (by decide) (hts _ (List.mem_of_getElem? (i := 1) rfl)) (fun _ h9 => h9) rfl dX4_isBound_11 ?_
    refine lv_iload_n hx hb dX4_isBound_14 rfl (lv_at hl 1 rfl) ?_
    obtain ⟨g_4, h⟩ := og_some h
    refine va_cald hx hb hK hP 13 3 rfl rfl g_4 dX4_isBound_15 ?_
    refine lv_bipush (v := 119) hx hb dX4_isBound_16 (by decide) ?_
    refine lv_icmp_ne (tgt := 30) hx hb dX4_isBound_18 (by decide) (fun c_5 => ?_) (fun c_5 => ?_)
    · replace h := oi_f c_5 h
      refine lv_iconst (v := 2) hx hb dX4_isBound_30 (by decide) ?_
      refine lv_goto (tgt := 35) hx hb dX4_isBound_31 (by decide) ?_
      obtain ⟨u_6, hg_7, h⟩ := ob_some h
      refine zcWi (va_runV (As := [.int 2]) (rest := []) ⟨hx, hb, hml, hown, hts⟩ (c_X4_fails l D cy b u_1.2 _ 2 hg_7) (cwV 1 hts gX4_isBound_X4_fails rfl rfl rfl hd_X4_fails ⟨Nat.le_of_ble_eq_true rfl, Nat.le_of_ble_eq_true rfl⟩) ⟨(zJ_blind rI_blind), va_recv hK hP (ci := 4) (q0 := 0) rfl rfl, (zJ_at (rI_at hP hK hD))⟩ rfl rfl hl.1 rfl (lv_room (Nat.le_of_ble_eq_true rfl)) dX4_isBound_35 ⟨Nat.le_of_ble_eq_true rfl, Nat.le_of_ble_eq_true rfl⟩) hS (z_free hD hS hA) (fun H locs hP hD hS => ?_)
      refine lv_if_eq (tgt := 45) hx hb dX4_isBound_38 (by decide) (fun c_8 => ?_) (fun c_8 => ?_)
      · replace h := oi_t c_8 h
        refine lv_iconst (v := 0) hx hb dX4_isBound_45 (by decide) ?_
        have h9 := Option.some.inj h
        subst h9
        exact W.zret (v := 0) hx hb hr (by decide) (fun t ht hW => ⟨⟨0, (), rfl, rfl, ⟨by rw [ht]; exact hP, hD⟩⟩, hS.F ht⟩) hS.2.2 dX4_isBound_46 hlocks
      · replace h := oi_f c_8 h
        refine lv_iconst (v := 1) hx hb dX4_isBound_41 (by decide) ?_
        refine lv_goto (tgt := 46) hx hb dX4_isBound_42 (by decide) ?_
        have h9 := Option.some.inj h
        subst h9
        exact W.zret (v := 1) hx hb hr (by decide) (fun t ht hW => ⟨⟨1, (), rfl, rfl, ⟨by rw [ht]; exact hP, hD⟩⟩, hS.F ht⟩) hS.2.2 dX4_isBound_46 hlocks
    · replace h := oi_t c_5 h
      refine lv_aload_n hx hb dX4_isBound_21 rfl (lv_at hl 0 rfl) ?_
      refine va_get (D := D) (ci := 4) (v := .ref (b 17)) (C := RX4) (T := TX4) (N := 28) hx hb hts hinX4 hown hK hP 0 rfl rfl 17 (by decide) (hts _ (List.mem_of_getElem? (i := 2) rfl)) (fun _ h9 => h9) rfl dX4_isBound_22 ?_
      refine lv_iload_n hx hb dX4_isBound_25 rfl (lv_at hl 1 rfl) ?_
      obtain ⟨g_9, h⟩ := og_some h
      refine va_iald hx hb hK hP 16 0 rfl rfl g_9 dX4_isBound_26 ?_
      refine lv_if_lt (tgt := 34) hx hb dX4_isBound_27 (by decide) (fun c_10 => ?_) (fun c_10 => ?_)
      · replace h := oi_t c_10 h
        refine lv_iconst (v := 0) hx hb dX4_isBound_34 (by decide) ?_
        obtain ⟨u_11, hg_12, h⟩ := ob_some h
        refine zcWi (va_runV (As := [.int 0]) (rest := []) ⟨hx, hb, hml, hown, hts⟩ (c_X4_fails l D cy b u_1.2 _ 0 hg_12) (cwV 1 hts gX4_isBound_X4_fails rfl rfl rfl hd_X4_fails ⟨Nat.le_of_ble_eq_true rfl, Nat.le_of_ble_eq_true rfl⟩) ⟨(zJ_blind rI_blind), va_recv hK hP (ci := 4) (q0 := 0) rfl rfl, (zJ_at (rI_at hP hK hD))⟩ rfl rfl hl.1 rfl (lv_room (Nat.le_of_ble_eq_true rfl)) dX4_isBound_35 ⟨Nat.le_of_ble_eq_true rfl, Nat.le_of_ble_eq_true rfl⟩) hS (z_free hD hS hA) (fun H locs hP hD hS => ?_)
        refine lv_if_eq (tgt := 45) hx hb dX4_isBound_38 (by decide) (fun c_13 => ?_) (fun c_13 => ?_)
        · replace h := oi_t c_13 h
          refine lv_iconst (v := 0) hx hb dX4_isBound_45 (by decide) ?_
          have h9 := Option.some.inj h
          subst h9
          exact W.zret (v := 0) hx hb hr (by decide) (fun t ht hW => ⟨⟨0, (), rfl, rfl, ⟨by rw [ht]; exact hP, hD⟩⟩, hS.F ht⟩) hS.2.2 dX4_isBound_46 hlocks
        · replace h := oi_f c_13 h
          refine lv_iconst (v := 1) hx hb dX4_isBound_41 (by decide) ?_
          refine lv_goto (tgt := 46) hx hb dX4_isBound_42 (by decide) ?_
          have h9 := Option.some.inj h
          subst h9
          exact W.zret (v := 1) hx hb hr (by decide) (fun t ht hW => ⟨⟨1, (), rfl, rfl, ⟨by rw [ht]; exact hP, hD⟩⟩, hS.F ht⟩) hS.2.2 dX4_isBound_46 hlocks
      · replace h := oi_f c_10 h
        refine lv_iconst (v := 2) hx hb dX4_isBound_30 (by decide) ?_
        refine lv_goto (tgt := 35) hx hb dX4_isBound_31 (by decide) ?_
        obtain ⟨u_14, hg_15, h⟩ := ob_some h
        refine zcWi (va_runV (As := [.int 2]) (rest := []) ⟨hx, hb, hml, hown, hts⟩ (c_X4_fails l D cy b u_1.2 _ 2 hg_15) (cwV 1 hts gX4_isBound_X4_fails rfl rfl rfl hd_X4_fails ⟨Nat.le_of_ble_eq_true rfl, Nat.le_of_ble_eq_true rfl⟩) ⟨(zJ_blind rI_blind), va_recv hK hP (ci := 4) (q0 := 0) rfl rfl, (zJ_at (rI_at hP hK hD))⟩ rfl rfl hl.1 rfl (lv_room (Nat.le_of_ble_eq_true rfl)) dX4_isBound_35 ⟨Nat.le_of_ble_eq_true rfl, Nat.le_of_ble_eq_true rfl⟩) hS (z_free hD hS hA) (fun H locs hP hD hS => ?_)
        refine lv_if_eq (tgt := 45) hx hb dX4_isBound_38 (by decide) (fun c_16 => ?_) (fun c_16 => ?_)
        · replace h := oi_t c_16 h
          refine lv_iconst (v := 0) hx hb dX4_isBound_45 (by decide) ?_
          have h9 := Option.some.inj h
          subst h9
          exact W.zret (v := 0) hx hb hr (by decide) (fun t ht hW => ⟨⟨0, (), rfl, rfl, ⟨by rw [ht]; exact hP, hD⟩⟩, hS.F ht⟩) hS.2.2 dX4_isBound_46 hlocks
        · replace h := oi_f c_16 h
          refine lv_iconst (v := 1) hx hb dX4_isBound_41 (by decide) ?_
          refine lv_goto (tgt := 46) hx hb dX4_isBound_42 (by decide) ?_
          have h9 := Option.some.inj h
          subst h9
          exact W.zret (v := 1) hx hb hr (by decide) (fun t ht hW => ⟨⟨1, (), rfl, rfl, ⟨by rw [ht]; exact hP, hD⟩⟩, hS.F ht⟩) hS.2.2 dX4_isBound_46 hlocks
def f_X4_plan (V : RV) (p1 : Int32) (p2 : Int32) : Option (Int32 × RV) := ob (f_X4_isBound V p1 p2) (fun u_1 => oi (u_1.1 = 0) (ob (f_X4_first u_1.2 p1 p2) (fun u_4 => oi (0 ≤ u_4.1) (ob (f_X4_fails u_4.2 0) (fun u_7 => oi (u_7.1 = 0) (ob (f_X4_takes u_7.2 p1 p2 u_4.1) (fun u_10 => some (u_4.1, u_10))) (some (0, u_7.2)))) (ob (f_X4_fails u_4.2 3) (fun u_12 => oi (u_12.1 = 0) (ob (f_X4_takes u_12.2 p1 p2 u_4.1) (fun u_15 => some (u_4.1, u_15))) (some (0, u_12.2)))))) (some (0, u_1.2)))
theorem hd_X4_plan : yX4_plan.cls = RX4 ∧ yX4_plan.cls ≠ "java/lang/invoke/MethodHandle" ∧ yX4_plan.cls ≠ "java/lang/invoke/VarHandle" ∧ (parseMethodDescriptor yX4_plan.desc).map (fun d => d.parameters.length) = some 2 := by decide +kernel
set_option maxHeartbeats 4000000 in
set_option maxRecDepth 100000 in
theorem c_X4_plan (l : Launch) (D : va_G) (cy : Nat → ClassId) (b : Nat → Nat) (V : RV) (sz : Nat) (p1 : Int32) (p2 : Int32) {res : Int32 × RV} (h : f_X4_plan V p1 p2 = some res) : Met l yX4_plan wsX4_plan ({ frames := 5, cells := 0, slots := 0, locals := 116 } : Room) (va_Pc [.ref (b 0), .int p1, .int p2] (zJ sz (rI D cy b V))) (va_Qi (fun r (_ : Unit) => r = res.1) (fun _ t => va_P D xcl (rW cy b res.2) t.heap ∧ va_D (va_A (rW cy b V) sz) (rW cy b res.2)) (va_A (rW cy b V) sz)) 0 0 (va_A (rW cy b V) sz) := by
  refine Met.ofW (cc := cX4_plan) (maxL := 4) (ret := (some .int)) (by decide) rfl ?_
  intro p e s m args below meth c s₁ B hml hv
  obtain ⟨rfl, hsz, hP, hK, hD0⟩ := hv
  have hx := B.exec
  have hb := B.bytes
  have hr := B.returns
  have hts := atoms_spec (ws := wsX4_plan) B.pre
  have hown : s.vm.findClass RX4 = some m.cls := findClass_of_methodNamed B.named
  have hlocks := B.notSynchronized
  subst hsz
  have hD := hD0.self (sz := s.heap.size)
  generalize hAe : va_A (rW cy b V) s.heap.size = A at hD ⊢
  have hA : ∀ q : Nat, s.heap.size ≤ q → A q := fun q h => by rw [← hAe]; exact Or.inr h
  have hS : va_S A s.heap s.heap [] := va_S.rf
  have hl := lv_entry ([.ref (b 0), .int p1, .int p2]) (n := 4) (Nat.le_of_ble_eq_true rfl)
  rw [lg_entry_eq]
  generalize (lg_sl ([.ref (b 0), .int p1, .int p2]) ++ List.replicate (4 - (lg_sl ([.ref (b 0), .int p1, .int p2])).length) Slot.unset).toArray = ls at hl ⊢
  have hl : lv_has ls 4 [(0, .ref (b 0)), (1, .int p1), (2, .int p2)] := hl
  revert hP hS
  intro hP hS
  refine lv_aload_n hx hb dX4_plan_0 rfl (lv_at hl 0 rfl) ?_
  refine lv_iload_n hx hb dX4_plan_1 rfl (lv_at hl 1 rfl) ?_
  refine lv_iload_n hx hb dX4_plan_2 rfl (lv_at hl 2 rfl) ?_
  obtain ⟨u_1, hg_2, h⟩ := ob_some h
  refine zcWi (va_runV (As := [.int p1, .int p2]) (rest := []) ⟨hx, hb, hml, hown, hts⟩ (c_X4_isBound l D cy b V _ p1 p2 hg_2) (cwV 2 hts gX4_plan_X4_isBound rfl rfl rfl hd_X4_isBound ⟨Nat.le_of_ble_eq_true rfl, Nat.le_of_ble_eq_true rfl⟩) ⟨(zJ_blind rI_blind), va_recv hK hP (ci := 4) (q0 := 0) rfl rfl, (zJ_at (rI_at hP hK hD))⟩ rfl rfl hl.1 rfl (lv_room (Nat.le_of_ble_eq_true rfl)) dX4_plan_3 ⟨Nat.le_of_ble_eq_true rfl, Nat.le_of_ble_eq_true rfl⟩) hS (z_free hD hS hA) (fun H locs hP hD hS => ?_)
  refine lv_if_eq (tgt := 11) hx hb dX4_plan_6 (by decide) (fun c_3 => ?_) (fun c_3 => ?_)
  · replace h := oi_t c_3 h
    refine lv_aload_n hx hb dX4_plan_11 rfl (lv_at hl 0 rfl) ?_
    refine lv_iload_n hx hb dX4_plan_12 rfl (lv_at hl 1 rfl) ?_
    refine lv_iload_n hx hb dX4_plan_13 rfl (lv_at hl 2 rfl) ?_
    obtain ⟨u_4, hg_5, h⟩ := ob_some h
    refine zcWi (va_runV (As := [.int p1, .int p2]) (rest := []) ⟨hx, hb, hml, hown, hts⟩ (c_X4_first l D cy b u_1.2 _ p1 p2 hg_5) (cwV 2 hts gX4_plan_X4_first rfl rfl rfl hd_X4_first ⟨Nat.le_of_ble_eq_true rfl, Nat.le_of_ble_eq_true rfl⟩) ⟨(zJ_blind rI_blind), va_recv hK hP (ci := 4) (q0 := 0) rfl rfl, (zJ_at (rI_at hP hK hD))⟩ rfl rfl hl.1 rfl (lv_room (Nat.le_of_ble_eq_true rfl)) dX4_plan_14 ⟨Nat.le_of_ble_eq_true rfl, Nat.le_of_ble_eq_true rfl⟩) hS (z_free hD hS hA) (fun H locs hP hD hS => ?_)
    refine lv_istore_n (lv' := [(3, .int u_4.1), (0, .ref (b 0)), (1, .int p1), (2, .int p2)]) hx hb dX4_plan_17 rfl hl (by decide) rfl (fun ls hl => ?_)
    refine lv_aload_n hx hb dX4_plan_18 rfl (lv_at hl 1 rfl) ?_
    refine lv_iload_n hx hb dX4_plan_19 rfl (lv_at hl 0 rfl) ?_
    refine lv_if_ge (tgt := 27) hx hb dX4_plan_20 (by decide) (fun c_6 => ?_) (fun c_6 => ?_)
    · replace h := oi_t c_6 h
      refine lv_iconst (v := 0) hx hb dX4_plan_27 (by decide) ?_
      obtain ⟨u_7, hg_8, h⟩ := ob_some h
      refine zcWi (va_runV (As := [.int 0]) (rest := []) ⟨hx, hb, hml, hown, hts⟩ (c_X4_fails l D cy b u_4.2 _ 0 hg_8) (cwV 1 hts gX4_plan_X4_fails rfl rfl rfl hd_X4_fails ⟨Nat.le_of_ble_eq_true rfl, Nat.le_of_ble_eq_true rfl⟩) ⟨(zJ_blind rI_blind), va_recv hK hP (ci := 4) (q0 := 0) rfl rfl, (zJ_at (rI_at hP hK hD))⟩ rfl rfl hl.1 rfl (lv_room (Nat.le_of_ble_eq_true rfl)) dX4_plan_28 ⟨Nat.le_of_ble_eq_true rfl, Nat.le_of_ble_eq_true rfl⟩) hS (z_free hD hS hA) (fun H locs hP hD hS => ?_)
      refine lv_if_eq (tgt := 36) hx hb dX4_plan_31 (by decide) (fun c_9 => ?_) (fun c_9 => ?_)
      · replace h := oi_t c_9 h
        refine lv_aload_n hx hb dX4_plan_36 rfl (lv_at hl 1 rfl) ?_
        refine lv_iload_n hx hb dX4_plan_37 rfl (lv_at hl 2 rfl) ?_
        refine lv_iload_n hx hb dX4_plan_38 rfl (lv_at hl 3 rfl) ?_
        refine lv_iload_n hx hb dX4_plan_39 rfl (lv_at hl 0 rfl) ?_
        obtain ⟨u_10, hg_11, h⟩ := ob_some h
        refine zcWv (va_runV (As := [.int p1, .int p2, .int u_4.1]) (rest := []) ⟨hx, hb, hml, hown, hts⟩ (c_X4_takes l D cy b u_7.2 _ p1 p2 u_4.1 hg_11) (cwV 3 hts gX4_plan_X4_takes rfl rfl rfl hd_X4_takes ⟨Nat.le_of_ble_eq_true rfl, Nat.le_of_ble_eq_true rfl⟩) ⟨(zJ_blind rI_blind), va_recv hK hP (ci := 4) (q0 := 0) rfl rfl, (zJ_at (rI_at hP hK hD))⟩ rfl rfl hl.1 rfl (lv_room (Nat.le_of_ble_eq_true rfl)) dX4_plan_40 ⟨Nat.le_of_ble_eq_true rfl, Nat.le_of_ble_eq_true rfl⟩) hS (z_free hD hS hA) (fun H locs hP hD hS => ?_)
        refine lv_iload_n hx hb dX4_plan_43 rfl (lv_at hl 0 rfl) ?_
        have h9 := Option.some.inj h
        subst h9
        exact W.iret (v := u_4.1) hx hb hr (fun t ht hW => ⟨⟨u_4.1, (), rfl, rfl, ⟨by rw [ht]; exact hP, hD⟩⟩, hS.F ht⟩) hS.2.2 dX4_plan_44 hlocks
      · replace h := oi_f c_9 h
        refine lv_iconst (v := 0) hx hb dX4_plan_34 (by decide) ?_
        have h9 := Option.some.inj h
        subst h9
        exact W.iret (v := 0) hx hb hr (fun t ht hW => ⟨⟨0, (), rfl, rfl, ⟨by rw [ht]; exact hP, hD⟩⟩, hS.F ht⟩) hS.2.2 dX4_plan_35 hlocks
    · replace h := oi_f c_6 h
      refine lv_iconst (v := 3) hx hb dX4_plan_23 (by decide) ?_
      refine lv_goto (tgt := 28) hx hb dX4_plan_24 (by decide) ?_
      obtain ⟨u_12, hg_13, h⟩ := ob_some h
      refine zcWi (va_runV (As := [.int 3]) (rest := []) ⟨hx, hb, hml, hown, hts⟩ (c_X4_fails l D cy b u_4.2 _ 3 hg_13) (cwV 1 hts gX4_plan_X4_fails rfl rfl rfl hd_X4_fails ⟨Nat.le_of_ble_eq_true rfl, Nat.le_of_ble_eq_true rfl⟩) ⟨(zJ_blind rI_blind), va_recv hK hP (ci := 4) (q0 := 0) rfl rfl, (zJ_at (rI_at hP hK hD))⟩ rfl rfl hl.1 rfl (lv_room (Nat.le_of_ble_eq_true rfl)) dX4_plan_28 ⟨Nat.le_of_ble_eq_true rfl, Nat.le_of_ble_eq_true rfl⟩) hS (z_free hD hS hA) (fun H locs hP hD hS => ?_)
      refine lv_if_eq (tgt := 36) hx hb dX4_plan_31 (by decide) (fun c_14 => ?_) (fun c_14 => ?_)
      · replace h := oi_t c_14 h
        refine lv_aload_n hx hb dX4_plan_36 rfl (lv_at hl 1 rfl) ?_
        refine lv_iload_n hx hb dX4_plan_37 rfl (lv_at hl 2 rfl) ?_
        refine lv_iload_n hx hb dX4_plan_38 rfl (lv_at hl 3 rfl) ?_
        refine lv_iload_n hx hb dX4_plan_39 rfl (lv_at hl 0 rfl) ?_
        obtain ⟨u_15, hg_16, h⟩ := ob_some h
        refine zcWv (va_runV (As := [.int p1, .int p2, .int u_4.1]) (rest := []) ⟨hx, hb, hml, hown, hts⟩ (c_X4_takes l D cy b u_12.2 _ p1 p2 u_4.1 hg_16) (cwV 3 hts gX4_plan_X4_takes rfl rfl rfl hd_X4_takes ⟨Nat.le_of_ble_eq_true rfl, Nat.le_of_ble_eq_true rfl⟩) ⟨(zJ_blind rI_blind), va_recv hK hP (ci := 4) (q0 := 0) rfl rfl, (zJ_at (rI_at hP hK hD))⟩ rfl rfl hl.1 rfl (lv_room (Nat.le_of_ble_eq_true rfl)) dX4_plan_40 ⟨Nat.le_of_ble_eq_true rfl, Nat.le_of_ble_eq_true rfl⟩) hS (z_free hD hS hA) (fun H locs hP hD hS => ?_)
        refine lv_iload_n hx hb dX4_plan_43 rfl (lv_at hl 0 rfl) ?_
        have h9 := Option.some.inj h
        subst h9
        exact W.iret (v := u_4.1) hx hb hr (fun t ht hW => ⟨⟨u_4.1, (), rfl, rfl, ⟨by rw [ht]; exact hP, hD⟩⟩, hS.F ht⟩) hS.2.2 dX4_plan_44 hlocks
      · replace h := oi_f c_14 h
        refine lv_iconst (v := 0) hx hb dX4_plan_34 (by decide) ?_
        have h9 := Option.some.inj h
        subst h9
        exact W.iret (v := 0) hx hb hr (fun t ht hW => ⟨⟨0, (), rfl, rfl, ⟨by rw [ht]; exact hP, hD⟩⟩, hS.F ht⟩) hS.2.2 dX4_plan_35 hlocks
  · replace h := oi_f c_3 h
    refine lv_iconst (v := 0) hx hb dX4_plan_9 (by decide) ?_
    have h9 := Option.some.inj h
    subst h9
    exact W.iret (v := 0) hx hb hr (fun t ht hW => ⟨⟨0, (), rfl, rfl, ⟨by rw [ht]; exact hP, hD⟩⟩, hS.F ht⟩) hS.2.2 dX4_plan_10 hlocks
def f_X4_planAt (V : RV) (p1 : Int32) (p2 : Int32) (p3 : Int32) : Option (Int32 × RV) := ob (f_X4_isBound V p1 p2) (fun u_1 => oi (u_1.1 = 0) (ob (f_X4_why u_1.2 p1 p2 p3) (fun u_4 => oi (u_4 = 45) (ob (f_X4_fails u_1.2 0) (fun u_13 => oi (u_13.1 = 0) (ob (f_X4_takes u_13.2 p1 p2 p3) (fun u_16 => og (¬ (p1 < 0 ∨ 40 ≤ (p1).toNatClampNeg)) (some (p3 + (u_16.2.1 13 (p1).toNatClampNeg), u_16)))) (some (0, u_13.2)))) (ob (f_X4_fails u_1.2 3) (fun u_7 => oi (u_7.1 = 0) (ob (f_X4_takes u_7.2 p1 p2 p3) (fun u_10 => og (¬ (p1 < 0 ∨ 40 ≤ (p1).toNatClampNeg)) (some (p3 + (u_10.2.1 13 (p1).toNatClampNeg), u_10)))) (some (0, u_7.2)))))) (some (0, u_1.2)))
theorem hd_X4_planAt : yX4_planAt.cls = RX4 ∧ yX4_planAt.cls ≠ "java/lang/invoke/MethodHandle" ∧ yX4_planAt.cls ≠ "java/lang/invoke/VarHandle" ∧ (parseMethodDescriptor yX4_planAt.desc).map (fun d => d.parameters.length) = some 3 := by decide +kernel
set_option maxHeartbeats 4000000 in
set_option maxRecDepth 100000 in
theorem c_X4_planAt (l : Launch) (D : va_G) (cy : Nat → ClassId) (b : Nat → Nat) (V : RV) (sz : Nat) (p1 : Int32) (p2 : Int32) (p3 : Int32) {res : Int32 × RV} (h : f_X4_planAt V p1 p2 p3 = some res) : Met l yX4_planAt wsX4_planAt ({ frames := 4, cells := 0, slots := 0, locals := 95 } : Room) (va_Pc [.ref (b 0), .int p1, .int p2, .int p3] (zJ sz (rI D cy b V))) (va_Qi (fun r (_ : Unit) => r = res.1) (fun _ t => va_P D xcl (rW cy b res.2) t.heap ∧ va_D (va_A (rW cy b V) sz) (rW cy b res.2)) (va_A (rW cy b V) sz)) 0 0 (va_A (rW cy b V) sz) := by
  refine Met.ofW (cc := cX4_planAt) (maxL := 4) (ret := (some .int)) (by decide) rfl ?_
  intro p e s m args below meth c s₁ B hml hv
  obtain ⟨rfl, hsz, hP, hK, hD0⟩ := hv
  have hx := B.exec
  have hb := B.bytes
  have hr := B.returns
  have hts := atoms_spec (ws := wsX4_planAt) B.pre
  have hown : s.vm.findClass RX4 = some m.cls := findClass_of_methodNamed B.named
  have hlocks := B.notSynchronized
  subst hsz
  have hD := hD0.self (sz := s.heap.size)
  generalize hAe : va_A (rW cy b V) s.heap.size = A at hD ⊢
  have hA : ∀ q : Nat, s.heap.size ≤ q → A q := fun q h => by rw [← hAe]; exact Or.inr h
  have hS : va_S A s.heap s.heap [] := va_S.rf
  have hl := lv_entry ([.ref (b 0), .int p1, .int p2, .int p3]) (n := 4) (Nat.le_of_ble_eq_true rfl)
  rw [lg_entry_eq]
  generalize (lg_sl ([.ref (b 0), .int p1, .int p2, .int p3]) ++ List.replicate (4 - (lg_sl ([.ref (b 0), .int p1, .int p2, .int p3])).length) Slot.unset).toArray = ls at hl ⊢
  have hl : lv_has ls 4 [(0, .ref (b 0)), (1, .int p1), (2, .int p2), (3, .int p3)] := hl
  have hinX4 : ∀ w ∈ wsX40, w ∈ wsX4_planAt := (fun _ h => (List.mem_cons_of_mem _ (List.mem_append_left _ (List.mem_append_right _ h))))
  revert hP hS
  intro hP hS
  refine lv_aload_n hx hb dX4_planAt_0 rfl (lv_at hl 0 rfl) ?_
  refine lv_iload_n hx hb dX4_planAt_1 rfl (lv_at hl 1 rfl) ?_
  refine lv_iload_n hx hb dX4_planAt_2 rfl (lv_at hl 2 rfl) ?_
  obtain ⟨u_1, hg_2, h⟩ := ob_some h
  refine zcWi (va_runV (As := [.int p1, .int p2]) (rest := []) ⟨hx, hb, hml, hown, hts⟩ (c_X4_isBound l D cy b V _ p1 p2 hg_2) (cwV 2 hts gX4_planAt_X4_isBound rfl rfl rfl hd_X4_isBound ⟨Nat.le_of_ble_eq_true rfl, Nat.le_of_ble_eq_true rfl⟩) ⟨(zJ_blind rI_blind), va_recv hK hP (ci := 4) (q0 := 0) rfl rfl, (zJ_at (rI_at hP hK hD))⟩ rfl rfl hl.1 rfl (lv_room (Nat.le_of_ble_eq_true rfl)) dX4_planAt_3 ⟨Nat.le_of_ble_eq_true rfl, Nat.le_of_ble_eq_true rfl⟩) hS (z_free hD hS hA) (fun H locs hP hD hS => ?_)
  refine lv_if_ne (tgt := 33) hx hb dX4_planAt_6 (by decide) (fun c_3 => ?_) (fun c_3 => ?_)
  · replace h := oi_f c_3 h
    refine lv_iconst (v := 0) hx hb dX4_planAt_33 (by decide) ?_
    have h9 := Option.some.inj h
    subst h9
    exact W.iret (v := 0) hx hb hr (fun t ht hW => ⟨⟨0, (), rfl, rfl, ⟨by rw [ht]; exact hP, hD⟩⟩, hS.F ht⟩) hS.2.2 dX4_planAt_34 hlocks
  · replace h := oi_t c_3 h
    refine lv_aload_n hx hb dX4_planAt_9 rfl (lv_at hl 0 rfl) ?_
    refine lv_aload_n hx hb dX4_planAt_10 rfl (lv_at hl 0 rfl) ?_
    refine lv_iload_n hx hb dX4_planAt_11 rfl (lv_at hl 1 rfl) ?_
    refine lv_iload_n hx hb dX4_planAt_12 rfl (lv_at hl 2 rfl) ?_
    refine lv_iload_n hx hb dX4_planAt_13 rfl (lv_at hl 3 rfl) ?_
    obtain ⟨u_4, hg_5, h⟩ := ob_some h
    refine zcSi (W.runV (As := [.int p1, .int p2, .int p3]) (rest := [.ref (b 0)]) ⟨hx, hb, hml, hown, hts⟩ (c_X4_why l D cy b u_1.2 p1 p2 p3 hg_5) (cwV 3 hts gX4_planAt_X4_why rfl rfl rfl hd_X4_why ⟨Nat.le_of_ble_eq_true rfl, Nat.le_of_ble_eq_true rfl⟩) ⟨rI_blind, va_recv hK hP (ci := 4) (q0 := 0) rfl rfl, (rI_at hP hK hD)⟩ rfl rfl hl.1 rfl (lv_room (Nat.le_of_ble_eq_true rfl)) dX4_planAt_14 ⟨Nat.le_of_ble_eq_true rfl, Nat.le_of_ble_eq_true rfl⟩) ?_
    refine lv_bipush (v := 45) hx hb dX4_planAt_17 (by decide) ?_
    refine lv_icmp_ne (tgt := 26) hx hb dX4_planAt_19 (by decide) (fun c_6 => ?_) (fun c_6 => ?_)
    · replace h := oi_f c_6 h
      refine lv_iconst (v := 3) hx hb dX4_planAt_26 (by decide) ?_
      obtain ⟨u_7, hg_8, h⟩ := ob_some h
      refine zcWi (va_runV (As := [.int 3]) (rest := []) ⟨hx, hb, hml, hown, hts⟩ (c_X4_fails l D cy b u_1.2 _ 3 hg_8) (cwV 1 hts gX4_planAt_X4_fails rfl rfl rfl hd_X4_fails ⟨Nat.le_of_ble_eq_true rfl, Nat.le_of_ble_eq_true rfl⟩) ⟨(zJ_blind rI_blind), va_recv hK hP (ci := 4) (q0 := 0) rfl rfl, (zJ_at (rI_at hP hK hD))⟩ rfl rfl hl.1 rfl (lv_room (Nat.le_of_ble_eq_true rfl)) dX4_planAt_27 ⟨Nat.le_of_ble_eq_true rfl, Nat.le_of_ble_eq_true rfl⟩) hS (z_free hD hS hA) (fun H locs hP hD hS => ?_)
      refine lv_if_eq (tgt := 35) hx hb dX4_planAt_30 (by decide) (fun c_9 => ?_) (fun c_9 => ?_)
      · replace h := oi_t c_9 h
        refine lv_aload_n hx hb dX4_planAt_35 rfl (lv_at hl 0 rfl) ?_
        refine lv_iload_n hx hb dX4_planAt_36 rfl (lv_at hl 1 rfl) ?_
        refine lv_iload_n hx hb dX4_planAt_37 rfl (lv_at hl 2 rfl) ?_
        refine lv_iload_n hx hb dX4_planAt_38 rfl (lv_at hl 3 rfl) ?_
        obtain ⟨u_10, hg_11, h⟩ := ob_some h
        refine zcWv (va_runV (As := [.int p1, .int p2, .int p3]) (rest := []) ⟨hx, hb, hml, hown, hts⟩ (c_X4_takes l D cy b u_7.2 _ p1 p2 p3 hg_11) (cwV 3 hts gX4_planAt_X4_takes rfl rfl rfl hd_X4_takes ⟨Nat.le_of_ble_eq_true rfl, Nat.le_of_ble_eq_true rfl⟩) ⟨(zJ_blind rI_blind), va_recv hK hP (ci := 4) (q0 := 0) rfl rfl, (zJ_at (rI_at hP hK hD))⟩ rfl rfl hl.1 rfl (lv_room (Nat.le_of_ble_eq_true rfl)) dX4_planAt_39 ⟨Nat.le_of_ble_eq_true rfl, Nat.le_of_ble_eq_true rfl⟩) hS (z_free hD hS hA) (fun H locs hP hD hS => ?_)
        refine lv_iload_n hx hb dX4_planAt_42 rfl (lv_at hl 3 rfl) ?_
        refine lv_aload_n hx hb dX4_planAt_43 rfl (lv_at hl 0 rfl) ?_
        refine va_get (D := D) (ci := 4) (v := .ref (b 13)) (C := RX4) (T := TX4) (N := 28) hx hb hts hinX4 hown hK hP 0 rfl rfl 13 (by decide) (hts _ (List.mem_of_getElem? (i := 1) rfl)) (fun _ h9 => h9) rfl dX4_planAt_44 ?_
        refine lv_iload_n hx hb dX4_planAt_47 rfl (lv_at hl 1 rfl) ?_
        obtain ⟨g_12, h⟩ := og_some h
        refine va_iald hx hb hK hP 12 0 rfl rfl g_12 dX4_planAt_48 ?_
        refine lv_iadd hx hb dX4_planAt_49 ?_
        have h9 := Option.some.inj h
        subst h9
        exact W.iret (v := p3 + (u_10.2.1 13 (p1).toNatClampNeg)) hx hb hr (fun t ht hW => ⟨⟨p3 + (u_10.2.1 13 (p1).toNatClampNeg), (), rfl, rfl, ⟨by rw [ht]; exact hP, hD⟩⟩, hS.F ht⟩) hS.2.2 dX4_planAt_50 hlocks
      · replace h := oi_f c_9 h
        refine lv_iconst (v := 0) hx hb dX4_planAt_33 (by decide) ?_
        have h9 := Option.some.inj h
        subst h9
        exact W.iret (v := 0) hx hb hr (fun t ht hW => ⟨⟨0, (), rfl, rfl, ⟨by rw [ht]; exact hP, hD⟩⟩, hS.F ht⟩) hS.2.2 dX4_planAt_34 hlocks
    · replace h := oi_t c_6 h
      refine lv_iconst (v := 0) hx hb dX4_planAt_22 (by decide) ?_
      refine lv_goto (tgt := 27) hx hb dX4_planAt_23 (by decide) ?_
      obtain ⟨u_13, hg_14, h⟩ := ob_some h
      refine zcWi (va_runV (As := [.int 0]) (rest := []) ⟨hx, hb, hml, hown, hts⟩ (c_X4_fails l D cy b u_1.2 _ 0 hg_14) (cwV 1 hts gX4_planAt_X4_fails rfl rfl rfl hd_X4_fails ⟨Nat.le_of_ble_eq_true rfl, Nat.le_of_ble_eq_true rfl⟩) ⟨(zJ_blind rI_blind), va_recv hK hP (ci := 4) (q0 := 0) rfl rfl, (zJ_at (rI_at hP hK hD))⟩ rfl rfl hl.1 rfl (lv_room (Nat.le_of_ble_eq_true rfl)) dX4_planAt_27 ⟨Nat.le_of_ble_eq_true rfl, Nat.le_of_ble_eq_true rfl⟩) hS (z_free hD hS hA) (fun H locs hP hD hS => ?_)
      refine lv_if_eq (tgt := 35) hx hb dX4_planAt_30 (by decide) (fun c_15 => ?_) (fun c_15 => ?_)
      · replace h := oi_t c_15 h
        refine lv_aload_n hx hb dX4_planAt_35 rfl (lv_at hl 0 rfl) ?_
        refine lv_iload_n hx hb dX4_planAt_36 rfl (lv_at hl 1 rfl) ?_
        refine lv_iload_n hx hb dX4_planAt_37 rfl (lv_at hl 2 rfl) ?_
        refine lv_iload_n hx hb dX4_planAt_38 rfl (lv_at hl 3 rfl) ?_
        obtain ⟨u_16, hg_17, h⟩ := ob_some h
        refine zcWv (va_runV (As := [.int p1, .int p2, .int p3]) (rest := []) ⟨hx, hb, hml, hown, hts⟩ (c_X4_takes l D cy b u_13.2 _ p1 p2 p3 hg_17) (cwV 3 hts gX4_planAt_X4_takes rfl rfl rfl hd_X4_takes ⟨Nat.le_of_ble_eq_true rfl, Nat.le_of_ble_eq_true rfl⟩) ⟨(zJ_blind rI_blind), va_recv hK hP (ci := 4) (q0 := 0) rfl rfl, (zJ_at (rI_at hP hK hD))⟩ rfl rfl hl.1 rfl (lv_room (Nat.le_of_ble_eq_true rfl)) dX4_planAt_39 ⟨Nat.le_of_ble_eq_true rfl, Nat.le_of_ble_eq_true rfl⟩) hS (z_free hD hS hA) (fun H locs hP hD hS => ?_)
        refine lv_iload_n hx hb dX4_planAt_42 rfl (lv_at hl 3 rfl) ?_
        refine lv_aload_n hx hb dX4_planAt_43 rfl (lv_at hl 0 rfl) ?_
        refine va_get (D := D) (ci := 4) (v := .ref (b 13)) (C := RX4) (T := TX4) (N := 28) hx hb hts hinX4 hown hK hP 0 rfl rfl 13 (by decide) (hts _ (List.mem_of_getElem? (i := 1) rfl)) (fun _ h9 => h9) rfl dX4_planAt_44 ?_
        refine lv_iload_n hx hb dX4_planAt_47 rfl (lv_at hl 1 rfl) ?_
        obtain ⟨g_18, h⟩ := og_some h
        refine va_iald hx hb hK hP 12 0 rfl rfl g_18 dX4_planAt_48 ?_
        refine lv_iadd hx hb dX4_planAt_49 ?_
        have h9 := Option.some.inj h
        subst h9
        exact W.iret (v := p3 + (u_16.2.1 13 (p1).toNatClampNeg)) hx hb hr (fun t ht hW => ⟨⟨p3 + (u_16.2.1 13 (p1).toNatClampNeg), (), rfl, rfl, ⟨by rw [ht]; exact hP, hD⟩⟩, hS.F ht⟩) hS.2.2 dX4_planAt_50 hlocks
      · replace h := oi_f c_15 h
        refine lv_iconst (v := 0) hx hb dX4_planAt_33 (by decide) ?_
        have h9 := Option.some.inj h
        subst h9
        exact W.iret (v := 0) hx hb hr (fun t ht hW => ⟨⟨0, (), rfl, rfl, ⟨by rw [ht]; exact hP, hD⟩⟩, hS.F ht⟩) hS.2.2 dX4_planAt_34 hlocks
def f_X4_fitsAll_17 : RV → Nat → Int32 → Int32 → Int32 → Option (Int32 × RV)
  | _, 0, _, _, _ => none
  | V, fu + 1, zx1, zx3, zx4 => og (¬ (zx1 < 0 ∨ 6 ≤ (zx1).toNatClampNeg)) (oi ((V.2.1 21 (zx1).toNatClampNeg) ≤ zx4) (some (1, V)) (og (¬ ((zx4 - 1) < 0 ∨ 8 ≤ (zx4 - 1).toNatClampNeg)) (og (¬ (zx3 < 0 ∨ 40 ≤ (zx3).toNatClampNeg)) (ob (f_X4_fitsFrom V zx3 ((V.2.1 24 (zx4 - 1).toNatClampNeg) + (V.2.1 13 (zx3).toNatClampNeg))) (fun u_9 => og (¬ (zx4 < 0 ∨ 8 ≤ (zx4).toNatClampNeg)) (ob (some (rar V 24 (zx4).toNatClampNeg u_9)) (fun V_12 => og (¬ (zx4 < 0 ∨ 8 ≤ (zx4).toNatClampNeg)) (oi ((V_12.2.1 24 (zx4).toNatClampNeg) < 0) (some (0, V_12)) (og (¬ (zx4 < 0 ∨ 8 ≤ (zx4).toNatClampNeg)) (og (¬ (zx1 < 0 ∨ 6 ≤ (zx1).toNatClampNeg)) (oi (((V_12.2.1 24 (zx4).toNatClampNeg) - ((V.2.1 24 (zx4 - 1).toNatClampNeg) + (V.2.1 13 (zx3).toNatClampNeg))) ≤ (V_12.2.1 22 (zx1).toNatClampNeg)) (f_X4_fitsAll_17 V_12 fu zx1 zx3 (zx4 + 1)) (some (0, V_12)))))))))))))
def f_X4_fitsAll (V : RV) (p1 : Int32) (p2 : Int32) : Option (Int32 × RV) := og (¬ (p1 < 0 ∨ 6 ≤ (p1).toNatClampNeg)) (og (¬ ((0 : Int32) < 0 ∨ 8 ≤ ((0 : Int32)).toNatClampNeg)) (ob (some (rar V 24 (0 : Int32).toNatClampNeg p2)) (fun V_3 => f_X4_fitsAll_17 V_3 FU p1 (V.2.1 20 (p1).toNatClampNeg) 1)))
theorem hd_X4_fitsAll : yX4_fitsAll.cls = RX4 ∧ yX4_fitsAll.cls ≠ "java/lang/invoke/MethodHandle" ∧ yX4_fitsAll.cls ≠ "java/lang/invoke/VarHandle" ∧ (parseMethodDescriptor yX4_fitsAll.desc).map (fun d => d.parameters.length) = some 2 := by decide +kernel
set_option maxHeartbeats 4000000 in
set_option maxRecDepth 100000 in
theorem k_X4_fitsAll_17 {p : Program} {l : Launch} {e : Env} {s : State} {m : MethodId} {args : Array Value} {below : List Frame} {meth : Method} {c : Code} {D : va_G} {cy : Nat → ClassId} {b : Nat → Nat} {A : Nat → Prop} (hx : p.tables.exec = Jvm.exec) (hb : c.code = cX4_fitsAll) (hr : meth.sig.returnType = (some .boolean)) (hts : ∀ w ∈ wsX4_fitsAll, w.before args s = true) (hml : c.maxLocals = 6) (hown : s.vm.findClass RX4 = some m.cls) (hlocks : meth.locks = false) (hK : va_K D xcl (xty cy) s) (hA : ∀ q, s.heap.size ≤ q → A q) (res : Int32 × RV) : ∀ (fu : Nat) (zx1 : Int32) (zx3 : Int32) (zx4 : Int32) (V : RV) (H : Heap) (locs : List Loc)  (ls : Array Slot), f_X4_fitsAll_17 V fu zx1 zx3 zx4 = some res → va_P D xcl (rW cy b V) H → va_D A (rW cy b V) → va_S A s.heap H locs → lv_has ls 6 [(0, .ref (b 0)), (1, .int zx1), (3, .int zx3), (4, .int zx4)] → W p l e ({ frames := 1, cells := 0, slots := 0, locals := 23 } : Room) s m args below meth c H locs 0 0 (MQ below (va_Qi (fun r (_ : Unit) => r = res.1) (fun _ t => va_P D xcl (rW cy b res.2) t.heap ∧ va_D A (rW cy b res.2)) A) args s 0 0 (A)) (F0 m 17 ls []) := by
  have hinX4 : ∀ w ∈ wsX40, w ∈ wsX4_fitsAll := (fun _ h => (List.mem_cons_of_mem _ (List.mem_append_right _ h)))
  intro fu
  induction fu with
  | zero =>
    intro zx1 zx3 zx4 V H locs  ls h hP hD hS hl
    cases h
  | succ fu ih =>
    intro zx1 zx3 zx4 V H locs  ls h hP hD hS hl
    refine lv_iload hx hb dX4_fitsAll_17 (lv_at hl 3 rfl) ?_
    refine lv_aload_n hx hb dX4_fitsAll_19 rfl (lv_at hl 0 rfl) ?_
    refine va_get (D := D) (ci := 4) (v := .ref (b 21)) (C := RX4) (T := TX4) (N := 28) hx hb hts hinX4 hown hK hP 0 rfl rfl 21 (by decide) (hts _ (List.mem_of_getElem? (i := 3) rfl)) (fun _ h9 => h9) rfl dX4_fitsAll_20 ?_
    refine lv_iload_n hx hb dX4_fitsAll_23 rfl (lv_at hl 1 rfl) ?_
    obtain ⟨g_5, h⟩ := og_some h
    refine va_iald hx hb hK hP 19 0 rfl rfl g_5 dX4_fitsAll_24 ?_
    refine lv_icmp_ge (tgt := 97) hx hb dX4_fitsAll_25 (by decide) (fun c_6 => ?_) (fun c_6 => ?_)
    · replace h := oi_t c_6 h
      refine lv_iconst (v := 1) hx hb dX4_fitsAll_97 (by decide) ?_
      have h9 := Option.some.inj h
      subst h9
      exact W.zret (v := 1) hx hb hr (by decide) (fun t ht hW => ⟨⟨1, (), rfl, rfl, ⟨by rw [ht]; exact hP, hD⟩⟩, hS.F ht⟩) hS.2.2 dX4_fitsAll_98 hlocks
    · replace h := oi_f c_6 h
      refine lv_aload_n hx hb dX4_fitsAll_28 rfl (lv_at hl 0 rfl) ?_
      refine va_get (D := D) (ci := 4) (v := .ref (b 24)) (C := RX4) (T := TX4) (N := 28) hx hb hts hinX4 hown hK hP 0 rfl rfl 24 (by decide) (hts _ (List.mem_of_getElem? (i := 2) rfl)) (fun _ h9 => h9) rfl dX4_fitsAll_29 ?_
      refine lv_iload hx hb dX4_fitsAll_32 (lv_at hl 3 rfl) ?_
      refine lv_iconst (v := 1) hx hb dX4_fitsAll_34 (by decide) ?_
      refine lv_isub hx hb dX4_fitsAll_35 ?_
      obtain ⟨g_7, h⟩ := og_some h
      refine va_iald hx hb hK hP 22 0 rfl rfl g_7 dX4_fitsAll_36 ?_
      refine lv_aload_n hx hb dX4_fitsAll_37 rfl (lv_at hl 0 rfl) ?_
      refine va_get (D := D) (ci := 4) (v := .ref (b 13)) (C := RX4) (T := TX4) (N := 28) hx hb hts hinX4 hown hK hP 0 rfl rfl 13 (by decide) (hts _ (List.mem_of_getElem? (i := 4) rfl)) (fun _ h9 => h9) rfl dX4_fitsAll_38 ?_
      refine lv_iload_n hx hb dX4_fitsAll_41 rfl (lv_at hl 2 rfl) ?_
      obtain ⟨g_8, h⟩ := og_some h
      refine va_iald hx hb hK hP 12 0 rfl rfl g_8 dX4_fitsAll_42 ?_
      refine lv_iadd hx hb dX4_fitsAll_43 ?_
      refine lv_istore (lv' := [(5, .int ((V.2.1 24 (zx4 - 1).toNatClampNeg) + (V.2.1 13 (zx3).toNatClampNeg))), (0, .ref (b 0)), (1, .int zx1), (3, .int zx3), (4, .int zx4)]) hx hb dX4_fitsAll_44 hl (by decide) rfl (fun ls hl => ?_)
      refine lv_aload_n hx hb dX4_fitsAll_46 rfl (lv_at hl 1 rfl) ?_
      refine va_get (D := D) (ci := 4) (v := .ref (b 24)) (C := RX4) (T := TX4) (N := 28) hx hb hts hinX4 hown hK hP 0 rfl rfl 24 (by decide) (hts _ (List.mem_of_getElem? (i := 2) rfl)) (fun _ h9 => h9) rfl dX4_fitsAll_47 ?_
      refine lv_iload hx hb dX4_fitsAll_50 (lv_at hl 4 rfl) ?_
      refine lv_aload_n hx hb dX4_fitsAll_52 rfl (lv_at hl 1 rfl) ?_
      refine lv_iload_n hx hb dX4_fitsAll_53 rfl (lv_at hl 3 rfl) ?_
      refine lv_iload hx hb dX4_fitsAll_54 (lv_at hl 0 rfl) ?_
      obtain ⟨u_9, hg_10, h⟩ := ob_some h
      refine zcSi (W.runV (As := [.int zx3, .int ((V.2.1 24 (zx4 - 1).toNatClampNeg) + (V.2.1 13 (zx3).toNatClampNeg))]) (rest := [.int zx4, .ref (b 24)]) ⟨hx, hb, hml, hown, hts⟩ (c_X4_fitsFrom l D cy b V zx3 ((V.2.1 24 (zx4 - 1).toNatClampNeg) + (V.2.1 13 (zx3).toNatClampNeg)) hg_10) (cwV 2 hts gX4_fitsAll_X4_fitsFrom rfl rfl rfl hd_X4_fitsFrom ⟨Nat.le_of_ble_eq_true rfl, Nat.le_of_ble_eq_true rfl⟩) ⟨rI_blind, va_recv hK hP (ci := 4) (q0 := 0) rfl rfl, (rI_at hP hK hD)⟩ rfl rfl hl.1 rfl (lv_room (Nat.le_of_ble_eq_true rfl)) dX4_fitsAll_56 ⟨Nat.le_of_ble_eq_true rfl, Nat.le_of_ble_eq_true rfl⟩) ?_
      obtain ⟨g_11, h⟩ := og_some h
      refine va_iast hx hb hK hP hD hS 22 0 rfl rfl g_11 dX4_fitsAll_59 (fun H locs hP hD hS => ?_)
      replace hP : va_P D xcl (rW cy b (rar V 24 (zx4).toNatClampNeg u_9)) H := hP
      replace hD : va_D A (rW cy b (rar V 24 (zx4).toNatClampNeg u_9)) := hD
      obtain ⟨V_12, eV_13, h⟩ := ob_some h
      rw [Option.some.inj eV_13] at hP hD
      refine lv_aload_n hx hb dX4_fitsAll_60 rfl (lv_at hl 1 rfl) ?_
      refine va_get (D := D) (ci := 4) (v := .ref (b 24)) (C := RX4) (T := TX4) (N := 28) hx hb hts hinX4 hown hK hP 0 rfl rfl 24 (by decide) (hts _ (List.mem_of_getElem? (i := 2) rfl)) (fun _ h9 => h9) rfl dX4_fitsAll_61 ?_
      refine lv_iload hx hb dX4_fitsAll_64 (lv_at hl 4 rfl) ?_
      obtain ⟨g_14, h⟩ := og_some h
      refine va_iald hx hb hK hP 22 0 rfl rfl g_14 dX4_fitsAll_66 ?_
      refine lv_if_lt (tgt := 89) hx hb dX4_fitsAll_67 (by decide) (fun c_15 => ?_) (fun c_15 => ?_)
      · replace h := oi_t c_15 h
        refine lv_iconst (v := 0) hx hb dX4_fitsAll_89 (by decide) ?_
        have h9 := Option.some.inj h
        subst h9
        exact W.zret (v := 0) hx hb hr (by decide) (fun t ht hW => ⟨⟨0, (), rfl, rfl, ⟨by rw [ht]; exact hP, hD⟩⟩, hS.F ht⟩) hS.2.2 dX4_fitsAll_90 hlocks
      · replace h := oi_f c_15 h
        refine lv_aload_n hx hb dX4_fitsAll_70 rfl (lv_at hl 1 rfl) ?_
        refine va_get (D := D) (ci := 4) (v := .ref (b 24)) (C := RX4) (T := TX4) (N := 28) hx hb hts hinX4 hown hK hP 0 rfl rfl 24 (by decide) (hts _ (List.mem_of_getElem? (i := 2) rfl)) (fun _ h9 => h9) rfl dX4_fitsAll_71 ?_
        refine lv_iload hx hb dX4_fitsAll_74 (lv_at hl 4 rfl) ?_
        obtain ⟨g_16, h⟩ := og_some h
        refine va_iald hx hb hK hP 22 0 rfl rfl g_16 dX4_fitsAll_76 ?_
        refine lv_iload hx hb dX4_fitsAll_77 (lv_at hl 0 rfl) ?_
        refine lv_isub hx hb dX4_fitsAll_79 ?_
        refine lv_aload_n hx hb dX4_fitsAll_80 rfl (lv_at hl 1 rfl) ?_
        refine va_get (D := D) (ci := 4) (v := .ref (b 22)) (C := RX4) (T := TX4) (N := 28) hx hb hts hinX4 hown hK hP 0 rfl rfl 22 (by decide) (hts _ (List.mem_of_getElem? (i := 5) rfl)) (fun _ h9 => h9) rfl dX4_fitsAll_81 ?_
        refine lv_iload_n hx hb dX4_fitsAll_84 rfl (lv_at hl 2 rfl) ?_
        obtain ⟨g_17, h⟩ := og_some h
        refine va_iald hx hb hK hP 20 0 rfl rfl g_17 dX4_fitsAll_85 ?_
        refine lv_icmp_le (tgt := 91) hx hb dX4_fitsAll_86 (by decide) (fun c_18 => ?_) (fun c_18 => ?_)
        · replace h := oi_t c_18 h
          refine lv_iinc (v := zx4 + 1) (lv' := [(4, .int (zx4 + 1)), (5, .int ((V.2.1 24 (zx4 - 1).toNatClampNeg) + (V.2.1 13 (zx3).toNatClampNeg))), (0, .ref (b 0)), (1, .int zx1), (3, .int zx3)]) hx hb dX4_fitsAll_91 hl (k := 4) rfl rfl (by decide) rfl (fun ls hl => ?_)
          refine lv_goto (tgt := 17) hx hb dX4_fitsAll_94 (by decide) ?_
          exact ih zx1 zx3 (zx4 + 1) _ _ _  ls h hP hD hS (lv_sub hl [2, 3, 4, 0] rfl)
        · replace h := oi_f c_18 h
          refine lv_iconst (v := 0) hx hb dX4_fitsAll_89 (by decide) ?_
          have h9 := Option.some.inj h
          subst h9
          exact W.zret (v := 0) hx hb hr (by decide) (fun t ht hW => ⟨⟨0, (), rfl, rfl, ⟨by rw [ht]; exact hP, hD⟩⟩, hS.F ht⟩) hS.2.2 dX4_fitsAll_90 hlocks
set_option maxHeartbeats 4000000 in
set_option maxRecDepth 100000 in
theorem c_X4_fitsAll (l : Launch) (D : va_G) (cy : Nat → ClassId) (b : Nat → Nat) (V : RV) (sz : Nat) (p1 : Int32) (p2 : Int32) {res : Int32 × RV} (h : f_X4_fitsAll V p1 p2 = some res) : Met l yX4_fitsAll wsX4_fitsAll ({ frames := 1, cells := 0, slots := 0, locals := 23 } : Room) (va_Pc [.ref (b 0), .int p1, .int p2] (zJ sz (rI D cy b V))) (va_Qi (fun r (_ : Unit) => r = res.1) (fun _ t => va_P D xcl (rW cy b res.2) t.heap ∧ va_D (va_A (rW cy b V) sz) (rW cy b res.2)) (va_A (rW cy b V) sz)) 0 0 (va_A (rW cy b V) sz) := by
  refine Met.ofW (cc := cX4_fitsAll) (maxL := 6) (ret := (some .boolean)) (by decide) rfl ?_
  intro p e s m args below meth c s₁ B hml hv
  obtain ⟨rfl, hsz, hP, hK, hD0⟩ := hv
  have hx := B.exec
  have hb := B.bytes
  have hr := B.returns
  have hts := atoms_spec (ws := wsX4_fitsAll) B.pre
  have hown : s.vm.findClass RX4 = some m.cls := findClass_of_methodNamed B.named
  have hlocks := B.notSynchronized
  subst hsz
  have hD := hD0.self (sz := s.heap.size)
  generalize hAe : va_A (rW cy b V) s.heap.size = A at hD ⊢
  have hA : ∀ q : Nat, s.heap.size ≤ q → A q := fun q h => by rw [← hAe]; exact Or.inr h
  have hS : va_S A s.heap s.heap [] := va_S.rf
  have hl := lv_entry ([.ref (b 0), .int p1, .int p2]) (n := 6) (Nat.le_of_ble_eq_true rfl)
  rw [lg_entry_eq]
  generalize (lg_sl ([.ref (b 0), .int p1, .int p2]) ++ List.replicate (6 - (lg_sl ([.ref (b 0), .int p1, .int p2])).length) Slot.unset).toArray = ls at hl ⊢
  have hl : lv_has ls 6 [(0, .ref (b 0)), (1, .int p1), (2, .int p2)] := hl
  have hinX4 : ∀ w ∈ wsX40, w ∈ wsX4_fitsAll := (fun _ h => (List.mem_cons_of_mem _ (List.mem_append_right _ h)))
  revert hP hS
  intro hP hS
  refine lv_aload_n hx hb dX4_fitsAll_0 rfl (lv_at hl 0 rfl) ?_
  refine va_get (D := D) (ci := 4) (v := .ref (b 20)) (C := RX4) (T := TX4) (N := 28) hx hb hts hinX4 hown hK hP 0 rfl rfl 20 (by decide) (hts _ (List.mem_of_getElem? (i := 1) rfl)) (fun _ h9 => h9) rfl dX4_fitsAll_1 ?_
  refine lv_iload_n hx hb dX4_fitsAll_4 rfl (lv_at hl 1 rfl) ?_
  obtain ⟨g_1, h⟩ := og_some h
  refine va_iald hx hb hK hP 18 0 rfl rfl g_1 dX4_fitsAll_5 ?_
  refine lv_istore_n (lv' := [(3, .int (V.2.1 20 (p1).toNatClampNeg)), (0, .ref (b 0)), (1, .int p1), (2, .int p2)]) hx hb dX4_fitsAll_6 rfl hl (by decide) rfl (fun ls hl => ?_)
  refine lv_aload_n hx hb dX4_fitsAll_7 rfl (lv_at hl 1 rfl) ?_
  refine va_get (D := D) (ci := 4) (v := .ref (b 24)) (C := RX4) (T := TX4) (N := 28) hx hb hts hinX4 hown hK hP 0 rfl rfl 24 (by decide) (hts _ (List.mem_of_getElem? (i := 2) rfl)) (fun _ h9 => h9) rfl dX4_fitsAll_8 ?_
  refine lv_iconst (v := 0) hx hb dX4_fitsAll_11 (by decide) ?_
  refine lv_iload_n hx hb dX4_fitsAll_12 rfl (lv_at hl 3 rfl) ?_
  obtain ⟨g_2, h⟩ := og_some h
  refine va_iast hx hb hK hP hD hS 22 0 rfl rfl g_2 dX4_fitsAll_13 (fun H locs hP hD hS => ?_)
  replace hP : va_P D xcl (rW cy b (rar V 24 (0 : Int32).toNatClampNeg p2)) H := hP
  replace hD : va_D A (rW cy b (rar V 24 (0 : Int32).toNatClampNeg p2)) := hD
  obtain ⟨V_3, eV_4, h⟩ := ob_some h
  rw [Option.some.inj eV_4] at hP hD
  refine lv_iconst (v := 1) hx hb dX4_fitsAll_14 (by decide) ?_
  refine lv_istore (lv' := [(4, .int 1), (3, .int (V.2.1 20 (p1).toNatClampNeg)), (0, .ref (b 0)), (1, .int p1), (2, .int p2)]) hx hb dX4_fitsAll_15 hl (by decide) rfl (fun ls hl => ?_)
  exact k_X4_fitsAll_17 hx hb hr hts hml hown hlocks hK hA _ _ p1 (V.2.1 20 (p1).toNatClampNeg) 1 _ _ _  ls h hP hD hS (lv_sub hl [2, 3, 1, 0] rfl)
def f_X4_isWaiting_2 : RV → Nat → Int32 → Int32 → Option (Int32)
  | _, 0, _, _ => none
  | V, fu + 1, zx1, zx2 => og (¬ (zx1 < 0 ∨ 6 ≤ (zx1).toNatClampNeg)) (oi ((V.2.1 21 (zx1).toNatClampNeg) ≤ zx2) (some 1) (og (¬ (zx1 < 0 ∨ 6 ≤ (zx1).toNatClampNeg)) (og (¬ (((V.2.1 20 (zx1).toNatClampNeg) + zx2) < 0 ∨ 40 ≤ ((V.2.1 20 (zx1).toNatClampNeg) + zx2).toNatClampNeg)) (oi ((V.2.1 14 ((V.2.1 20 (zx1).toNatClampNeg) + zx2).toNatClampNeg) = 119) (f_X4_isWaiting_2 V fu zx1 (zx2 + 1)) (some 0)))))
def f_X4_isWaiting (V : RV) (p1 : Int32) : Option (Int32) := f_X4_isWaiting_2 V FU p1 0
theorem hd_X4_isWaiting : yX4_isWaiting.cls = RX4 ∧ yX4_isWaiting.cls ≠ "java/lang/invoke/MethodHandle" ∧ yX4_isWaiting.cls ≠ "java/lang/invoke/VarHandle" ∧ (parseMethodDescriptor yX4_isWaiting.desc).map (fun d => d.parameters.length) = some 1 := by decide +kernel
set_option maxHeartbeats 4000000 in
set_option maxRecDepth 100000 in
theorem k_X4_isWaiting_2 {p : Program} {l : Launch} {e : Env} {s : State} {m : MethodId} {args : Array Value} {below : List Frame} {meth : Method} {c : Code} {D : va_G} {cy : Nat → ClassId} {b : Nat → Nat} {V : RV} (hx : p.tables.exec = Jvm.exec) (hb : c.code = cX4_isWaiting) (hr : meth.sig.returnType = (some .boolean)) (hts : ∀ w ∈ wsX4_isWaiting, w.before args s = true) (hml : c.maxLocals = 3) (hown : s.vm.findClass RX4 = some m.cls) (hlocks : meth.locks = false) (hK : va_K D xcl (xty cy) s) (hP : va_P D xcl (rW cy b V) s.heap) (hD : va_D (fun _ => True) (rW cy b V)) (res : Int32) : ∀ (fu : Nat) (zx1 : Int32) (zx2 : Int32)  (ls : Array Slot), f_X4_isWaiting_2 V fu zx1 zx2 = some res → lv_has ls 3 [(0, .ref (b 0)), (1, .int zx1), (2, .int zx2)] → W p l e ({ frames := 0, cells := 0, slots := 0, locals := 0 } : Room) s m args below meth c s.heap [] 0 0 (MQ below (vp_Si (fun r => r = res)) args s 0 0 (fun _ => False)) (F0 m 2 ls []) := by
  have hinX4 : ∀ w ∈ wsX40, w ∈ wsX4_isWaiting := (fun _ h => (List.mem_cons_of_mem _ (List.mem_append_right _ h)))
  intro fu
  induction fu with
  | zero =>
    intro zx1 zx2  ls h hl
    cases h
  | succ fu ih =>
    intro zx1 zx2  ls h hl
    refine lv_iload_n hx hb dX4_isWaiting_2 rfl (lv_at hl 2 rfl) ?_
    refine lv_aload_n hx hb dX4_isWaiting_3 rfl (lv_at hl 0 rfl) ?_
    refine va_get (D := D) (ci := 4) (v := .ref (b 21)) (C := RX4) (T := TX4) (N := 28) hx hb hts hinX4 hown hK hP 0 rfl rfl 21 (by decide) (hts _ (List.mem_of_getElem? (i := 1) rfl)) (fun _ h9 => h9) rfl dX4_isWaiting_4 ?_
    refine lv_iload_n hx hb dX4_isWaiting_7 rfl (lv_at hl 1 rfl) ?_
    obtain ⟨g_1, h⟩ := og_some h
    refine va_iald hx hb hK hP 19 0 rfl rfl g_1 dX4_isWaiting_8 ?_
    refine lv_icmp_ge (tgt := 38) hx hb dX4_isWaiting_9 (by decide) (fun c_2 => ?_) (fun c_2 => ?_)
    · replace h := oi_t c_2 h
      refine lv_iconst (v := 1) hx hb dX4_isWaiting_38 (by decide) ?_
      have h9 := Option.some.inj h
      exact W.zret (v := 1) hx hb hr (by decide) (fun t ht hW => ⟨1, rfl, h9, ht⟩) (fun _ hq => absurd hq List.not_mem_nil) dX4_isWaiting_39 hlocks
    · replace h := oi_f c_2 h
      refine lv_aload_n hx hb dX4_isWaiting_12 rfl (lv_at hl 0 rfl) ?_
      refine va_get (D := D) (ci := 4) (v := .ref (b 14)) (C := RX4) (T := TX4) (N := 28) hx hb hts hinX4 hown hK hP 0 rfl rfl 14 (by decide) (hts _ (List.mem_of_getElem? (i := 2) rfl)) (fun _ h9 => h9) rfl dX4_isWaiting_13 ?_
      refine lv_aload_n hx hb dX4_isWaiting_16 rfl (lv_at hl 0 rfl) ?_
      refine va_get (D := D) (ci := 4) (v := .ref (b 20)) (C := RX4) (T := TX4) (N := 28) hx hb hts hinX4 hown hK hP 0 rfl rfl 20 (by decide) (hts _ (List.mem_of_getElem? (i := 3) rfl)) (fun _ h9 => h9) rfl dX4_isWaiting_17 ?_
      refine lv_iload_n hx hb dX4_isWaiting_20 rfl (lv_at hl 1 rfl) ?_
      obtain ⟨g_3, h⟩ := og_some h
      refine va_iald hx hb hK hP 18 0 rfl rfl g_3 dX4_isWaiting_21 ?_
      refine lv_iload_n hx hb dX4_isWaiting_22 rfl (lv_at hl 2 rfl) ?_
      refine lv_iadd hx hb dX4_isWaiting_23 ?_
      obtain ⟨g_4, h⟩ := og_some h
      refine va_cald hx hb hK hP 13 3 rfl rfl g_4 dX4_isWaiting_24 ?_
      refine lv_bipush (v := 119) hx hb dX4_isWaiting_25 (by decide) ?_
      refine lv_icmp_eq (tgt := 32) hx hb dX4_isWaiting_27 (by decide) (fun c_5 => ?_) (fun c_5 => ?_)
      · replace h := oi_t c_5 h
        refine lv_iinc (v := zx2 + 1) (lv' := [(2, .int (zx2 + 1)), (0, .ref (b 0)), (1, .int zx1)]) hx hb dX4_isWaiting_32 hl (k := 2) rfl rfl (by decide) rfl (fun ls hl => ?_)
        refine lv_goto (tgt := 2) hx hb dX4_isWaiting_35 (by decide) ?_
        exact ih zx1 (zx2 + 1)  ls h (lv_sub hl [1, 2, 0] rfl)
      · replace h := oi_f c_5 h
        refine lv_iconst (v := 0) hx hb dX4_isWaiting_30 (by decide) ?_
        have h9 := Option.some.inj h
        exact W.zret (v := 0) hx hb hr (by decide) (fun t ht hW => ⟨0, rfl, h9, ht⟩) (fun _ hq => absurd hq List.not_mem_nil) dX4_isWaiting_31 hlocks
set_option maxHeartbeats 4000000 in
set_option maxRecDepth 100000 in
theorem c_X4_isWaiting (l : Launch) (D : va_G) (cy : Nat → ClassId) (b : Nat → Nat) (V : RV) (p1 : Int32) {res : Int32} (h : f_X4_isWaiting V p1 = some res) : Met l yX4_isWaiting wsX4_isWaiting ({ frames := 0, cells := 0, slots := 0, locals := 0 } : Room) (va_Pc [.ref (b 0), .int p1] (rI D cy b V)) (vp_Si (fun r => r = res)) 0 0 (fun _ => False) := by
  refine Met.ofW (cc := cX4_isWaiting) (maxL := 3) (ret := (some .boolean)) (by decide) rfl ?_
  intro p e s m args below meth c s₁ B hml hv
  obtain ⟨rfl, hP, hK, hD⟩ := hv
  have hx := B.exec
  have hb := B.bytes
  have hr := B.returns
  have hts := atoms_spec (ws := wsX4_isWaiting) B.pre
  have hown : s.vm.findClass RX4 = some m.cls := findClass_of_methodNamed B.named
  have hlocks := B.notSynchronized
  have hl := lv_entry ([.ref (b 0), .int p1]) (n := 3) (Nat.le_of_ble_eq_true rfl)
  rw [lg_entry_eq]
  generalize (lg_sl ([.ref (b 0), .int p1]) ++ List.replicate (3 - (lg_sl ([.ref (b 0), .int p1])).length) Slot.unset).toArray = ls at hl ⊢
  have hl : lv_has ls 3 [(0, .ref (b 0)), (1, .int p1)] := hl
  refine lv_iconst (v := 0) hx hb dX4_isWaiting_0 (by decide) ?_
  refine lv_istore_n (lv' := [(2, .int 0), (0, .ref (b 0)), (1, .int p1)]) hx hb dX4_isWaiting_1 rfl hl (by decide) rfl (fun ls hl => ?_)
  exact k_X4_isWaiting_2 hx hb hr hts hml hown hlocks hK hP hD _ _ p1 0  ls h (lv_sub hl [1, 2, 0] rfl)
def f_X4_planPour_122 : RV → Nat → Int32 → Int32 → Int32 → Int32 → Option (Int32 × RV)
  | _, 0, _, _, _, _ => none
  | V, fu + 1, zx1, zx2, zx3, zx4 => og (¬ (zx1 < 0 ∨ 6 ≤ (zx1).toNatClampNeg)) (oi ((V.2.1 21 (zx1).toNatClampNeg) ≤ zx4) (some (zx3, V)) (og (¬ (zx1 < 0 ∨ 6 ≤ (zx1).toNatClampNeg)) (og (¬ (zx4 < 0 ∨ 8 ≤ (zx4).toNatClampNeg)) (ob (f_X4_takes V ((V.2.1 20 (zx1).toNatClampNeg) + zx4) zx2 (V.2.1 24 (zx4).toNatClampNeg)) (fun u_22 => f_X4_planPour_122 u_22 fu zx1 zx2 zx3 (zx4 + 1))))))
def f_X4_planPour_71 : RV → Nat → Int32 → Int32 → Int32 → Option (Int32 × RV)
  | _, 0, _, _, _ => none
  | V, fu + 1, zx1, zx2, zx3 => oi (zx3 < 0) (oi (0 ≤ zx3) (ob (f_X4_fails V 0) (fun u_15 => oi (u_15.1 = 0) (f_X4_planPour_122 u_15.2 FU zx1 zx2 zx3 0) (some (0, u_15.2)))) (ob (f_X4_fails V 3) (fun u_24 => oi (u_24.1 = 0) (f_X4_planPour_122 u_24.2 FU zx1 zx2 zx3 0) (some (0, u_24.2))))) (ob (f_X4_fitsAll V zx1 zx3) (fun u_27 => oi (u_27.1 = 0) (og (¬ (zx1 < 0 ∨ 6 ≤ (zx1).toNatClampNeg)) (ob (f_X4_fitsFrom u_27.2 (u_27.2.2.1 20 (zx1).toNatClampNeg) (zx3 + 1)) (fun u_38 => f_X4_planPour_71 u_27.2 fu zx1 zx2 u_38))) (oi (0 ≤ zx3) (ob (f_X4_fails u_27.2 0) (fun u_31 => oi (u_31.1 = 0) (f_X4_planPour_122 u_31.2 FU zx1 zx2 zx3 0) (some (0, u_31.2)))) (ob (f_X4_fails u_27.2 3) (fun u_34 => oi (u_34.1 = 0) (f_X4_planPour_122 u_34.2 FU zx1 zx2 zx3 0) (some (0, u_34.2)))))))
def f_X4_planPour (V : RV) (p1 : Int32) (p2 : Int32) : Option (Int32 × RV) := ob (f_X4_in p1 0 ((V.1 19) - 1)) (fun u_1 => oi (u_1 = 0) (ob (f_X4_fails V 1) (fun u_4 => oi (u_4.1 = 0) (og (¬ (p1 < 0 ∨ 6 ≤ (p1).toNatClampNeg)) (ob (f_X4_looks u_4.2 (u_4.2.2.1 20 (p1).toNatClampNeg) p2) (fun u_8 => og (¬ (p1 < 0 ∨ 6 ≤ (p1).toNatClampNeg)) (ob (f_X4_fitsFrom u_8 (u_8.2.1 20 (p1).toNatClampNeg) 0) (fun u_11 => f_X4_planPour_71 u_8 FU p1 p2 u_11))))) (some (0, u_4.2)))) (ob (f_X4_isNoCrane V p2) (fun u_40 => oi (u_40 = 0) (ob (f_X4_isWaiting V p1) (fun u_43 => oi (u_43 = 0) (ob (f_X4_fails V 2) (fun u_46 => oi (u_46.1 = 0) (og (¬ (p1 < 0 ∨ 6 ≤ (p1).toNatClampNeg)) (ob (f_X4_looks u_46.2 (u_46.2.2.1 20 (p1).toNatClampNeg) p2) (fun u_50 => og (¬ (p1 < 0 ∨ 6 ≤ (p1).toNatClampNeg)) (ob (f_X4_fitsFrom u_50 (u_50.2.1 20 (p1).toNatClampNeg) 0) (fun u_53 => f_X4_planPour_71 u_50 FU p1 p2 u_53))))) (some (0, u_46.2)))) (ob (f_X4_fails V 0) (fun u_55 => oi (u_55.1 = 0) (og (¬ (p1 < 0 ∨ 6 ≤ (p1).toNatClampNeg)) (ob (f_X4_looks u_55.2 (u_55.2.2.1 20 (p1).toNatClampNeg) p2) (fun u_59 => og (¬ (p1 < 0 ∨ 6 ≤ (p1).toNatClampNeg)) (ob (f_X4_fitsFrom u_59 (u_59.2.1 20 (p1).toNatClampNeg) 0) (fun u_62 => f_X4_planPour_71 u_59 FU p1 p2 u_62))))) (some (0, u_55.2)))))) (ob (f_X4_fails V 1) (fun u_64 => oi (u_64.1 = 0) (og (¬ (p1 < 0 ∨ 6 ≤ (p1).toNatClampNeg)) (ob (f_X4_looks u_64.2 (u_64.2.2.1 20 (p1).toNatClampNeg) p2) (fun u_68 => og (¬ (p1 < 0 ∨ 6 ≤ (p1).toNatClampNeg)) (ob (f_X4_fitsFrom u_68 (u_68.2.1 20 (p1).toNatClampNeg) 0) (fun u_71 => f_X4_planPour_71 u_68 FU p1 p2 u_71))))) (some (0, u_64.2)))))))
theorem hd_X4_planPour : yX4_planPour.cls = RX4 ∧ yX4_planPour.cls ≠ "java/lang/invoke/MethodHandle" ∧ yX4_planPour.cls ≠ "java/lang/invoke/VarHandle" ∧ (parseMethodDescriptor yX4_planPour.desc).map (fun d => d.parameters.length) = some 2 := by decide +kernel
set_option maxHeartbeats 4000000 in
set_option maxRecDepth 100000 in
theorem k_X4_planPour_122 {p : Program} {l : Launch} {e : Env} {s : State} {m : MethodId} {args : Array Value} {below : List Frame} {meth : Method} {c : Code} {D : va_G} {cy : Nat → ClassId} {b : Nat → Nat} {A : Nat → Prop} (hx : p.tables.exec = Jvm.exec) (hb : c.code = cX4_planPour) (hr : meth.sig.returnType = (some .int)) (hts : ∀ w ∈ wsX4_planPour, w.before args s = true) (hml : c.maxLocals = 5) (hown : s.vm.findClass RX4 = some m.cls) (hlocks : meth.locks = false) (hK : va_K D xcl (xty cy) s) (hA : ∀ q, s.heap.size ≤ q → A q) (res : Int32 × RV) : ∀ (fu : Nat) (zx1 : Int32) (zx2 : Int32) (zx3 : Int32) (zx4 : Int32) (V : RV) (H : Heap) (locs : List Loc)  (ls : Array Slot), f_X4_planPour_122 V fu zx1 zx2 zx3 zx4 = some res → va_P D xcl (rW cy b V) H → va_D A (rW cy b V) → va_S A s.heap H locs → lv_has ls 5 [(0, .ref (b 0)), (1, .int zx1), (2, .int zx2), (3, .int zx3), (4, .int zx4)] → W p l e ({ frames := 4, cells := 0, slots := 0, locals := 94 } : Room) s m args below meth c H locs 0 0 (MQ below (va_Qi (fun r (_ : Unit) => r = res.1) (fun _ t => va_P D xcl (rW cy b res.2) t.heap ∧ va_D A (rW cy b res.2)) A) args s 0 0 (A)) (F0 m 122 ls []) := by
  have hinX4 : ∀ w ∈ wsX40, w ∈ wsX4_planPour := (fun _ h => (List.mem_cons_of_mem _ (List.mem_append_left _ (List.mem_append_right _ h))))
  intro fu
  induction fu with
  | zero =>
    intro zx1 zx2 zx3 zx4 V H locs  ls h hP hD hS hl
    cases h
  | succ fu ih =>
    intro zx1 zx2 zx3 zx4 V H locs  ls h hP hD hS hl
    refine lv_iload hx hb dX4_planPour_122 (lv_at hl 4 rfl) ?_
    refine lv_aload_n hx hb dX4_planPour_124 rfl (lv_at hl 0 rfl) ?_
    refine va_get (D := D) (ci := 4) (v := .ref (b 21)) (C := RX4) (T := TX4) (N := 28) hx hb hts hinX4 hown hK hP 0 rfl rfl 21 (by decide) (hts _ (List.mem_of_getElem? (i := 3) rfl)) (fun _ h9 => h9) rfl dX4_planPour_125 ?_
    refine lv_iload_n hx hb dX4_planPour_128 rfl (lv_at hl 1 rfl) ?_
    obtain ⟨g_18, h⟩ := og_some h
    refine va_iald hx hb hK hP 19 0 rfl rfl g_18 dX4_planPour_129 ?_
    refine lv_icmp_ge (tgt := 160) hx hb dX4_planPour_130 (by decide) (fun c_19 => ?_) (fun c_19 => ?_)
    · replace h := oi_t c_19 h
      refine lv_iload_n hx hb dX4_planPour_160 rfl (lv_at hl 3 rfl) ?_
      have h9 := Option.some.inj h
      subst h9
      exact W.iret (v := zx3) hx hb hr (fun t ht hW => ⟨⟨zx3, (), rfl, rfl, ⟨by rw [ht]; exact hP, hD⟩⟩, hS.F ht⟩) hS.2.2 dX4_planPour_161 hlocks
    · replace h := oi_f c_19 h
      refine lv_aload_n hx hb dX4_planPour_133 rfl (lv_at hl 0 rfl) ?_
      refine lv_aload_n hx hb dX4_planPour_134 rfl (lv_at hl 0 rfl) ?_
      refine va_get (D := D) (ci := 4) (v := .ref (b 20)) (C := RX4) (T := TX4) (N := 28) hx hb hts hinX4 hown hK hP 0 rfl rfl 20 (by decide) (hts _ (List.mem_of_getElem? (i := 2) rfl)) (fun _ h9 => h9) rfl dX4_planPour_135 ?_
      refine lv_iload_n hx hb dX4_planPour_138 rfl (lv_at hl 1 rfl) ?_
      obtain ⟨g_20, h⟩ := og_some h
      refine va_iald hx hb hK hP 18 0 rfl rfl g_20 dX4_planPour_139 ?_
      refine lv_iload hx hb dX4_planPour_140 (lv_at hl 4 rfl) ?_
      refine lv_iadd hx hb dX4_planPour_142 ?_
      refine lv_iload_n hx hb dX4_planPour_143 rfl (lv_at hl 2 rfl) ?_
      refine lv_aload_n hx hb dX4_planPour_144 rfl (lv_at hl 0 rfl) ?_
      refine va_get (D := D) (ci := 4) (v := .ref (b 24)) (C := RX4) (T := TX4) (N := 28) hx hb hts hinX4 hown hK hP 0 rfl rfl 24 (by decide) (hts _ (List.mem_of_getElem? (i := 4) rfl)) (fun _ h9 => h9) rfl dX4_planPour_145 ?_
      refine lv_iload hx hb dX4_planPour_148 (lv_at hl 4 rfl) ?_
      obtain ⟨g_21, h⟩ := og_some h
      refine va_iald hx hb hK hP 22 0 rfl rfl g_21 dX4_planPour_150 ?_
      obtain ⟨u_22, hg_23, h⟩ := ob_some h
      refine zcWv (va_runV (As := [.int ((V.2.1 20 (zx1).toNatClampNeg) + zx4), .int zx2, .int (V.2.1 24 (zx4).toNatClampNeg)]) (rest := []) ⟨hx, hb, hml, hown, hts⟩ (c_X4_takes l D cy b V _ ((V.2.1 20 (zx1).toNatClampNeg) + zx4) zx2 (V.2.1 24 (zx4).toNatClampNeg) hg_23) (cwV 3 hts gX4_planPour_X4_takes rfl rfl rfl hd_X4_takes ⟨Nat.le_of_ble_eq_true rfl, Nat.le_of_ble_eq_true rfl⟩) ⟨(zJ_blind rI_blind), va_recv hK hP (ci := 4) (q0 := 0) rfl rfl, (zJ_at (rI_at hP hK hD))⟩ rfl rfl hl.1 rfl (lv_room (Nat.le_of_ble_eq_true rfl)) dX4_planPour_151 ⟨Nat.le_of_ble_eq_true rfl, Nat.le_of_ble_eq_true rfl⟩) hS (z_free hD hS hA) (fun H locs hP hD hS => ?_)
      refine lv_iinc (v := zx4 + 1) (lv' := [(4, .int (zx4 + 1)), (0, .ref (b 0)), (1, .int zx1), (2, .int zx2), (3, .int zx3)]) hx hb dX4_planPour_154 hl (k := 4) rfl rfl (by decide) rfl (fun ls hl => ?_)
      refine lv_goto (tgt := 122) hx hb dX4_planPour_157 (by decide) ?_
      exact ih zx1 zx2 zx3 (zx4 + 1) _ _ _  ls h hP hD hS (lv_sub hl [1, 2, 3, 4, 0] rfl)
set_option maxHeartbeats 4000000 in
set_option maxRecDepth 100000 in
theorem k_X4_planPour_71 {p : Program} {l : Launch} {e : Env} {s : State} {m : MethodId} {args : Array Value} {below : List Frame} {meth : Method} {c : Code} {D : va_G} {cy : Nat → ClassId} {b : Nat → Nat} {A : Nat → Prop} (hx : p.tables.exec = Jvm.exec) (hb : c.code = cX4_planPour) (hr : meth.sig.returnType = (some .int)) (hts : ∀ w ∈ wsX4_planPour, w.before args s = true) (hml : c.maxLocals = 5) (hown : s.vm.findClass RX4 = some m.cls) (hlocks : meth.locks = false) (hK : va_K D xcl (xty cy) s) (hA : ∀ q, s.heap.size ≤ q → A q) (res : Int32 × RV) : ∀ (fu : Nat) (zx1 : Int32) (zx2 : Int32) (zx3 : Int32) (V : RV) (H : Heap) (locs : List Loc)  (ls : Array Slot), f_X4_planPour_71 V fu zx1 zx2 zx3 = some res → va_P D xcl (rW cy b V) H → va_D A (rW cy b V) → va_S A s.heap H locs → lv_has ls 5 [(0, .ref (b 0)), (1, .int zx1), (2, .int zx2), (3, .int zx3)] → W p l e ({ frames := 4, cells := 0, slots := 0, locals := 94 } : Room) s m args below meth c H locs 0 0 (MQ below (va_Qi (fun r (_ : Unit) => r = res.1) (fun _ t => va_P D xcl (rW cy b res.2) t.heap ∧ va_D A (rW cy b res.2)) A) args s 0 0 (A)) (F0 m 71 ls []) := by
  have hinX4 : ∀ w ∈ wsX40, w ∈ wsX4_planPour := (fun _ h => (List.mem_cons_of_mem _ (List.mem_append_left _ (List.mem_append_right _ h))))
  intro fu
  induction fu with
  | zero =>
    intro zx1 zx2 zx3 V H locs  ls h hP hD hS hl
    cases h
  | succ fu ih =>
    intro zx1 zx2 zx3 V H locs  ls h hP hD hS hl
    refine lv_iload_n hx hb dX4_planPour_71 rfl (lv_at hl 3 rfl) ?_
    refine lv_if_lt (tgt := 101) hx hb dX4_planPour_72 (by decide) (fun c_13 => ?_) (fun c_13 => ?_)
    · replace h := oi_t c_13 h
      refine lv_aload_n hx hb dX4_planPour_101 rfl (lv_at hl 0 rfl) ?_
      refine lv_iload_n hx hb dX4_planPour_102 rfl (lv_at hl 3 rfl) ?_
      refine lv_if_ge (tgt := 110) hx hb dX4_planPour_103 (by decide) (fun c_14 => ?_) (fun c_14 => ?_)
      · replace h := oi_t c_14 h
        refine lv_iconst (v := 0) hx hb dX4_planPour_110 (by decide) ?_
        obtain ⟨u_15, hg_16, h⟩ := ob_some h
        refine zcWi (va_runV (As := [.int 0]) (rest := []) ⟨hx, hb, hml, hown, hts⟩ (c_X4_fails l D cy b V _ 0 hg_16) (cwV 1 hts gX4_planPour_X4_fails rfl rfl rfl hd_X4_fails ⟨Nat.le_of_ble_eq_true rfl, Nat.le_of_ble_eq_true rfl⟩) ⟨(zJ_blind rI_blind), va_recv hK hP (ci := 4) (q0 := 0) rfl rfl, (zJ_at (rI_at hP hK hD))⟩ rfl rfl hl.1 rfl (lv_room (Nat.le_of_ble_eq_true rfl)) dX4_planPour_111 ⟨Nat.le_of_ble_eq_true rfl, Nat.le_of_ble_eq_true rfl⟩) hS (z_free hD hS hA) (fun H locs hP hD hS => ?_)
        refine lv_if_eq (tgt := 119) hx hb dX4_planPour_114 (by decide) (fun c_17 => ?_) (fun c_17 => ?_)
        · replace h := oi_t c_17 h
          refine lv_iconst (v := 0) hx hb dX4_planPour_119 (by decide) ?_
          refine lv_istore (lv' := [(4, .int 0), (0, .ref (b 0)), (1, .int zx1), (2, .int zx2), (3, .int zx3)]) hx hb dX4_planPour_120 hl (by decide) rfl (fun ls hl => ?_)
          exact k_X4_planPour_122 hx hb hr hts hml hown hlocks hK hA _ _ zx1 zx2 zx3 0 _ _ _  ls h hP hD hS (lv_sub hl [1, 2, 3, 4, 0] rfl)
        · replace h := oi_f c_17 h
          refine lv_iconst (v := 0) hx hb dX4_planPour_117 (by decide) ?_
          have h9 := Option.some.inj h
          subst h9
          exact W.iret (v := 0) hx hb hr (fun t ht hW => ⟨⟨0, (), rfl, rfl, ⟨by rw [ht]; exact hP, hD⟩⟩, hS.F ht⟩) hS.2.2 dX4_planPour_118 hlocks
      · replace h := oi_f c_14 h
        refine lv_iconst (v := 3) hx hb dX4_planPour_106 (by decide) ?_
        refine lv_goto (tgt := 111) hx hb dX4_planPour_107 (by decide) ?_
        obtain ⟨u_24, hg_25, h⟩ := ob_some h
        refine zcWi (va_runV (As := [.int 3]) (rest := []) ⟨hx, hb, hml, hown, hts⟩ (c_X4_fails l D cy b V _ 3 hg_25) (cwV 1 hts gX4_planPour_X4_fails rfl rfl rfl hd_X4_fails ⟨Nat.le_of_ble_eq_true rfl, Nat.le_of_ble_eq_true rfl⟩) ⟨(zJ_blind rI_blind), va_recv hK hP (ci := 4) (q0 := 0) rfl rfl, (zJ_at (rI_at hP hK hD))⟩ rfl rfl hl.1 rfl (lv_room (Nat.le_of_ble_eq_true rfl)) dX4_planPour_111 ⟨Nat.le_of_ble_eq_true rfl, Nat.le_of_ble_eq_true rfl⟩) hS (z_free hD hS hA) (fun H locs hP hD hS => ?_)
        refine lv_if_eq (tgt := 119) hx hb dX4_planPour_114 (by decide) (fun c_26 => ?_) (fun c_26 => ?_)
        · replace h := oi_t c_26 h
          refine lv_iconst (v := 0) hx hb dX4_planPour_119 (by decide) ?_
          refine lv_istore (lv' := [(4, .int 0), (0, .ref (b 0)), (1, .int zx1), (2, .int zx2), (3, .int zx3)]) hx hb dX4_planPour_120 hl (by decide) rfl (fun ls hl => ?_)
          exact k_X4_planPour_122 hx hb hr hts hml hown hlocks hK hA _ _ zx1 zx2 zx3 0 _ _ _  ls h hP hD hS (lv_sub hl [1, 2, 3, 4, 0] rfl)
        · replace h := oi_f c_26 h
          refine lv_iconst (v := 0) hx hb dX4_planPour_117 (by decide) ?_
          have h9 := Option.some.inj h
          subst h9
          exact W.iret (v := 0) hx hb hr (fun t ht hW => ⟨⟨0, (), rfl, rfl, ⟨by rw [ht]; exact hP, hD⟩⟩, hS.F ht⟩) hS.2.2 dX4_planPour_118 hlocks
    · replace h := oi_f c_13 h
      refine lv_aload_n hx hb dX4_planPour_75 rfl (lv_at hl 0 rfl) ?_
      refine lv_iload_n hx hb dX4_planPour_76 rfl (lv_at hl 1 rfl) ?_
      refine lv_iload_n hx hb dX4_planPour_77 rfl (lv_at hl 3 rfl) ?_
      obtain ⟨u_27, hg_28, h⟩ := ob_some h
      refine zcWi (va_runV (As := [.int zx1, .int zx3]) (rest := []) ⟨hx, hb, hml, hown, hts⟩ (c_X4_fitsAll l D cy b V _ zx1 zx3 hg_28) (cwV 2 hts gX4_planPour_X4_fitsAll rfl rfl rfl hd_X4_fitsAll ⟨Nat.le_of_ble_eq_true rfl, Nat.le_of_ble_eq_true rfl⟩) ⟨(zJ_blind rI_blind), va_recv hK hP (ci := 4) (q0 := 0) rfl rfl, (zJ_at (rI_at hP hK hD))⟩ rfl rfl hl.1 rfl (lv_room (Nat.le_of_ble_eq_true rfl)) dX4_planPour_78 ⟨Nat.le_of_ble_eq_true rfl, Nat.le_of_ble_eq_true rfl⟩) hS (z_free hD hS hA) (fun H locs hP hD hS => ?_)
      refine lv_if_ne (tgt := 101) hx hb dX4_planPour_81 (by decide) (fun c_29 => ?_) (fun c_29 => ?_)
      · replace h := oi_f c_29 h
        refine lv_aload_n hx hb dX4_planPour_101 rfl (lv_at hl 0 rfl) ?_
        refine lv_iload_n hx hb dX4_planPour_102 rfl (lv_at hl 3 rfl) ?_
        refine lv_if_ge (tgt := 110) hx hb dX4_planPour_103 (by decide) (fun c_30 => ?_) (fun c_30 => ?_)
        · replace h := oi_t c_30 h
          refine lv_iconst (v := 0) hx hb dX4_planPour_110 (by decide) ?_
          obtain ⟨u_31, hg_32, h⟩ := ob_some h
          refine zcWi (va_runV (As := [.int 0]) (rest := []) ⟨hx, hb, hml, hown, hts⟩ (c_X4_fails l D cy b u_27.2 _ 0 hg_32) (cwV 1 hts gX4_planPour_X4_fails rfl rfl rfl hd_X4_fails ⟨Nat.le_of_ble_eq_true rfl, Nat.le_of_ble_eq_true rfl⟩) ⟨(zJ_blind rI_blind), va_recv hK hP (ci := 4) (q0 := 0) rfl rfl, (zJ_at (rI_at hP hK hD))⟩ rfl rfl hl.1 rfl (lv_room (Nat.le_of_ble_eq_true rfl)) dX4_planPour_111 ⟨Nat.le_of_ble_eq_true rfl, Nat.le_of_ble_eq_true rfl⟩) hS (z_free hD hS hA) (fun H locs hP hD hS => ?_)
          refine lv_if_eq (tgt := 119) hx hb dX4_planPour_114 (by decide) (fun c_33 => ?_) (fun c_33 => ?_)
          · replace h := oi_t c_33 h
            refine lv_iconst (v := 0) hx hb dX4_planPour_119 (by decide) ?_
            refine lv_istore (lv' := [(4, .int 0), (0, .ref (b 0)), (1, .int zx1), (2, .int zx2), (3, .int zx3)]) hx hb dX4_planPour_120 hl (by decide) rfl (fun ls hl => ?_)
            exact k_X4_planPour_122 hx hb hr hts hml hown hlocks hK hA _ _ zx1 zx2 zx3 0 _ _ _  ls h hP hD hS (lv_sub hl [1, 2, 3, 4, 0] rfl)
          · replace h := oi_f c_33 h
            refine lv_iconst (v := 0) hx hb dX4_planPour_117 (by decide) ?_
            have h9 := Option.some.inj h
            subst h9
            exact W.iret (v := 0) hx hb hr (fun t ht hW => ⟨⟨0, (), rfl, rfl, ⟨by rw [ht]; exact hP, hD⟩⟩, hS.F ht⟩) hS.2.2 dX4_planPour_118 hlocks
        · replace h := oi_f c_30 h
          refine lv_iconst (v := 3) hx hb dX4_planPour_106 (by decide) ?_
          refine lv_goto (tgt := 111) hx hb dX4_planPour_107 (by decide) ?_
          obtain ⟨u_34, hg_35, h⟩ := ob_some h
          refine zcWi (va_runV (As := [.int 3]) (rest := []) ⟨hx, hb, hml, hown, hts⟩ (c_X4_fails l D cy b u_27.2 _ 3 hg_35) (cwV 1 hts gX4_planPour_X4_fails rfl rfl rfl hd_X4_fails ⟨Nat.le_of_ble_eq_true rfl, Nat.le_of_ble_eq_true rfl⟩) ⟨(zJ_blind rI_blind), va_recv hK hP (ci := 4) (q0 := 0) rfl rfl, (zJ_at (rI_at hP hK hD))⟩ rfl rfl hl.1 rfl (lv_room (Nat.le_of_ble_eq_true rfl)) dX4_planPour_111 ⟨Nat.le_of_ble_eq_true rfl, Nat.le_of_ble_eq_true rfl⟩) hS (z_free hD hS hA) (fun H locs hP hD hS => ?_)
          refine lv_if_eq (tgt := 119) hx hb dX4_planPour_114 (by decide) (fun c_36 => ?_) (fun c_36 => ?_)
          · replace h := oi_t c_36 h
            refine lv_iconst (v := 0) hx hb dX4_planPour_119 (by decide) ?_
            refine lv_istore (lv' := [(4, .int 0), (0, .ref (b 0)), (1, .int zx1), (2, .int zx2), (3, .int zx3)]) hx hb dX4_planPour_120 hl (by decide) rfl (fun ls hl => ?_)
            exact k_X4_planPour_122 hx hb hr hts hml hown hlocks hK hA _ _ zx1 zx2 zx3 0 _ _ _  ls h hP hD hS (lv_sub hl [1, 2, 3, 4, 0] rfl)
          · replace h := oi_f c_36 h
            refine lv_iconst (v := 0) hx hb dX4_planPour_117 (by decide) ?_
            have h9 := Option.some.inj h
            subst h9
            exact W.iret (v := 0) hx hb hr (fun t ht hW => ⟨⟨0, (), rfl, rfl, ⟨by rw [ht]; exact hP, hD⟩⟩, hS.F ht⟩) hS.2.2 dX4_planPour_118 hlocks
      · replace h := oi_t c_29 h
        refine lv_aload_n hx hb dX4_planPour_84 rfl (lv_at hl 0 rfl) ?_
        refine lv_aload_n hx hb dX4_planPour_85 rfl (lv_at hl 0 rfl) ?_
        refine va_get (D := D) (ci := 4) (v := .ref (b 20)) (C := RX4) (T := TX4) (N := 28) hx hb hts hinX4 hown hK hP 0 rfl rfl 20 (by decide) (hts _ (List.mem_of_getElem? (i := 2) rfl)) (fun _ h9 => h9) rfl dX4_planPour_86 ?_
        refine lv_iload_n hx hb dX4_planPour_89 rfl (lv_at hl 1 rfl) ?_
        obtain ⟨g_37, h⟩ := og_some h
        refine va_iald hx hb hK hP 18 0 rfl rfl g_37 dX4_planPour_90 ?_
        refine lv_iload_n hx hb dX4_planPour_91 rfl (lv_at hl 3 rfl) ?_
        refine lv_iconst (v := 1) hx hb dX4_planPour_92 (by decide) ?_
        refine lv_iadd hx hb dX4_planPour_93 ?_
        obtain ⟨u_38, hg_39, h⟩ := ob_some h
        refine zcSi (W.runV (As := [.int (u_27.2.2.1 20 (zx1).toNatClampNeg), .int (zx3 + 1)]) (rest := []) ⟨hx, hb, hml, hown, hts⟩ (c_X4_fitsFrom l D cy b u_27.2 (u_27.2.2.1 20 (zx1).toNatClampNeg) (zx3 + 1) hg_39) (cwV 2 hts gX4_planPour_X4_fitsFrom rfl rfl rfl hd_X4_fitsFrom ⟨Nat.le_of_ble_eq_true rfl, Nat.le_of_ble_eq_true rfl⟩) ⟨rI_blind, va_recv hK hP (ci := 4) (q0 := 0) rfl rfl, (rI_at hP hK hD)⟩ rfl rfl hl.1 rfl (lv_room (Nat.le_of_ble_eq_true rfl)) dX4_planPour_94 ⟨Nat.le_of_ble_eq_true rfl, Nat.le_of_ble_eq_true rfl⟩) ?_
        refine lv_istore_n (lv' := [(3, .int u_38), (0, .ref (b 0)), (1, .int zx1), (2, .int zx2)]) hx hb dX4_planPour_97 rfl hl (by decide) rfl (fun ls hl => ?_)
        refine lv_goto (tgt := 71) hx hb dX4_planPour_98 (by decide) ?_
        exact ih zx1 zx2 u_38 _ _ _  ls h hP hD hS (lv_sub hl [1, 2, 3, 0] rfl)
set_option maxHeartbeats 4000000 in
set_option maxRecDepth 100000 in
theorem c_X4_planPour (l : Launch) (D : va_G) (cy : Nat → ClassId) (b : Nat → Nat) (V : RV) (sz : Nat) (p1 : Int32) (p2 : Int32) {res : Int32 × RV} (h : f_X4_planPour V p1 p2 = some res) : Met l yX4_planPour wsX4_planPour ({ frames := 4, cells := 0, slots := 0, locals := 94 } : Room) (va_Pc [.ref (b 0), .int p1, .int p2] (zJ sz (rI D cy b V))) (va_Qi (fun r (_ : Unit) => r = res.1) (fun _ t => va_P D xcl (rW cy b res.2) t.heap ∧ va_D (va_A (rW cy b V) sz) (rW cy b res.2)) (va_A (rW cy b V) sz)) 0 0 (va_A (rW cy b V) sz) := by
  refine Met.ofW (cc := cX4_planPour) (maxL := 5) (ret := (some .int)) (by decide) rfl ?_
  intro p e s m args below meth c s₁ B hml hv
  obtain ⟨rfl, hsz, hP, hK, hD0⟩ := hv
  have hx := B.exec
  have hb := B.bytes
  have hr := B.returns
  have hts := atoms_spec (ws := wsX4_planPour) B.pre
  have hown : s.vm.findClass RX4 = some m.cls := findClass_of_methodNamed B.named
  have hlocks := B.notSynchronized
  subst hsz
  have hD := hD0.self (sz := s.heap.size)
  generalize hAe : va_A (rW cy b V) s.heap.size = A at hD ⊢
  have hA : ∀ q : Nat, s.heap.size ≤ q → A q := fun q h => by rw [← hAe]; exact Or.inr h
  have hS : va_S A s.heap s.heap [] := va_S.rf
  have hl := lv_entry ([.ref (b 0), .int p1, .int p2]) (n := 5) (Nat.le_of_ble_eq_true rfl)
  rw [lg_entry_eq]
  generalize (lg_sl ([.ref (b 0), .int p1, .int p2]) ++ List.replicate (5 - (lg_sl ([.ref (b 0), .int p1, .int p2])).length) Slot.unset).toArray = ls at hl ⊢
  have hl : lv_has ls 5 [(0, .ref (b 0)), (1, .int p1), (2, .int p2)] := hl
  have hinX4 : ∀ w ∈ wsX40, w ∈ wsX4_planPour := (fun _ h => (List.mem_cons_of_mem _ (List.mem_append_left _ (List.mem_append_right _ h))))
  revert hP hS
  intro hP hS
  refine lv_aload_n hx hb dX4_planPour_0 rfl (lv_at hl 0 rfl) ?_
  refine lv_iload_n hx hb dX4_planPour_1 rfl (lv_at hl 1 rfl) ?_
  refine lv_iconst (v := 0) hx hb dX4_planPour_2 (by decide) ?_
  refine lv_aload_n hx hb dX4_planPour_3 rfl (lv_at hl 0 rfl) ?_
  refine va_get (D := D) (ci := 4) (v := .int (V.1 19)) (C := RX4) (T := TX4) (N := 28) hx hb hts hinX4 hown hK hP 0 rfl rfl 19 (by decide) (hts _ (List.mem_of_getElem? (i := 1) rfl)) (fun _ h9 => h9) rfl dX4_planPour_4 ?_
  refine lv_iconst (v := 1) hx hb dX4_planPour_7 (by decide) ?_
  refine lv_isub hx hb dX4_planPour_8 ?_
  obtain ⟨u_1, hg_2, h⟩ := ob_some h
  refine zcSi (W.runS (As := [.int p1, .int 0, .int ((V.1 19) - 1)]) (rest := [.ref (b 0)]) ⟨hx, hb, hml, hown, hts⟩ (c_X4_in l p1 0 ((V.1 19) - 1) hg_2) (va_cwS 3 hts gX4_planPour_X4_in rfl rfl rfl hd_X4_in ⟨Nat.le_of_ble_eq_true rfl, Nat.le_of_ble_eq_true rfl⟩) ⟨zT_blind, zT_at⟩ rfl rfl hl.1 rfl (lv_room (Nat.le_of_ble_eq_true rfl)) dX4_planPour_9 ⟨Nat.le_of_ble_eq_true rfl, Nat.le_of_ble_eq_true rfl⟩) ?_
  refine lv_if_eq (tgt := 23) hx hb dX4_planPour_12 (by decide) (fun c_3 => ?_) (fun c_3 => ?_)
  · replace h := oi_t c_3 h
    refine lv_iconst (v := 1) hx hb dX4_planPour_23 (by decide) ?_
    refine lv_goto (tgt := 40) hx hb dX4_planPour_24 (by decide) ?_
    obtain ⟨u_4, hg_5, h⟩ := ob_some h
    refine zcWi (va_runV (As := [.int 1]) (rest := []) ⟨hx, hb, hml, hown, hts⟩ (c_X4_fails l D cy b V _ 1 hg_5) (cwV 1 hts gX4_planPour_X4_fails rfl rfl rfl hd_X4_fails ⟨Nat.le_of_ble_eq_true rfl, Nat.le_of_ble_eq_true rfl⟩) ⟨(zJ_blind rI_blind), va_recv hK hP (ci := 4) (q0 := 0) rfl rfl, (zJ_at (rI_at hP hK hD))⟩ rfl rfl hl.1 rfl (lv_room (Nat.le_of_ble_eq_true rfl)) dX4_planPour_40 ⟨Nat.le_of_ble_eq_true rfl, Nat.le_of_ble_eq_true rfl⟩) hS (z_free hD hS hA) (fun H locs hP hD hS => ?_)
    refine lv_if_eq (tgt := 48) hx hb dX4_planPour_43 (by decide) (fun c_6 => ?_) (fun c_6 => ?_)
    · replace h := oi_t c_6 h
      refine lv_aload_n hx hb dX4_planPour_48 rfl (lv_at hl 0 rfl) ?_
      refine lv_aload_n hx hb dX4_planPour_49 rfl (lv_at hl 0 rfl) ?_
      refine va_get (D := D) (ci := 4) (v := .ref (b 20)) (C := RX4) (T := TX4) (N := 28) hx hb hts hinX4 hown hK hP 0 rfl rfl 20 (by decide) (hts _ (List.mem_of_getElem? (i := 2) rfl)) (fun _ h9 => h9) rfl dX4_planPour_50 ?_
      refine lv_iload_n hx hb dX4_planPour_53 rfl (lv_at hl 1 rfl) ?_
      obtain ⟨g_7, h⟩ := og_some h
      refine va_iald hx hb hK hP 18 0 rfl rfl g_7 dX4_planPour_54 ?_
      refine lv_iload_n hx hb dX4_planPour_55 rfl (lv_at hl 2 rfl) ?_
      obtain ⟨u_8, hg_9, h⟩ := ob_some h
      refine zcWv (va_runV (As := [.int (u_4.2.2.1 20 (p1).toNatClampNeg), .int p2]) (rest := []) ⟨hx, hb, hml, hown, hts⟩ (c_X4_looks l D cy b u_4.2 _ (u_4.2.2.1 20 (p1).toNatClampNeg) p2 hg_9) (cwV 2 hts gX4_planPour_X4_looks rfl rfl rfl hd_X4_looks ⟨Nat.le_of_ble_eq_true rfl, Nat.le_of_ble_eq_true rfl⟩) ⟨(zJ_blind rI_blind), va_recv hK hP (ci := 4) (q0 := 0) rfl rfl, (zJ_at (rI_at hP hK hD))⟩ rfl rfl hl.1 rfl (lv_room (Nat.le_of_ble_eq_true rfl)) dX4_planPour_56 ⟨Nat.le_of_ble_eq_true rfl, Nat.le_of_ble_eq_true rfl⟩) hS (z_free hD hS hA) (fun H locs hP hD hS => ?_)
      refine lv_aload_n hx hb dX4_planPour_59 rfl (lv_at hl 0 rfl) ?_
      refine lv_aload_n hx hb dX4_planPour_60 rfl (lv_at hl 0 rfl) ?_
      refine va_get (D := D) (ci := 4) (v := .ref (b 20)) (C := RX4) (T := TX4) (N := 28) hx hb hts hinX4 hown hK hP 0 rfl rfl 20 (by decide) (hts _ (List.mem_of_getElem? (i := 2) rfl)) (fun _ h9 => h9) rfl dX4_planPour_61 ?_
      refine lv_iload_n hx hb dX4_planPour_64 rfl (lv_at hl 1 rfl) ?_
      obtain ⟨g_10, h⟩ := og_some h
      refine va_iald hx hb hK hP 18 0 rfl rfl g_10 dX4_planPour_65 ?_
      refine lv_iconst (v := 0) hx hb dX4_planPour_66 (by decide) ?_
      obtain ⟨u_11, hg_12, h⟩ := ob_some h
      refine zcSi (W.runV (As := [.int (u_8.2.1 20 (p1).toNatClampNeg), .int 0]) (rest := []) ⟨hx, hb, hml, hown, hts⟩ (c_X4_fitsFrom l D cy b u_8 (u_8.2.1 20 (p1).toNatClampNeg) 0 hg_12) (cwV 2 hts gX4_planPour_X4_fitsFrom rfl rfl rfl hd_X4_fitsFrom ⟨Nat.le_of_ble_eq_true rfl, Nat.le_of_ble_eq_true rfl⟩) ⟨rI_blind, va_recv hK hP (ci := 4) (q0 := 0) rfl rfl, (rI_at hP hK hD)⟩ rfl rfl hl.1 rfl (lv_room (Nat.le_of_ble_eq_true rfl)) dX4_planPour_67 ⟨Nat.le_of_ble_eq_true rfl, Nat.le_of_ble_eq_true rfl⟩) ?_
      refine lv_istore_n (lv' := [(3, .int u_11), (0, .ref (b 0)), (1, .int p1), (2, .int p2)]) hx hb dX4_planPour_70 rfl hl (by decide) rfl (fun ls hl => ?_)
      exact k_X4_planPour_71 hx hb hr hts hml hown hlocks hK hA _ _ p1 p2 u_11 _ _ _  ls h hP hD hS (lv_sub hl [1, 2, 3, 0] rfl)
    · replace h := oi_f c_6 h
      refine lv_iconst (v := 0) hx hb dX4_planPour_46 (by decide) ?_
      have h9 := Option.some.inj h
      subst h9
      exact W.iret (v := 0) hx hb hr (fun t ht hW => ⟨⟨0, (), rfl, rfl, ⟨by rw [ht]; exact hP, hD⟩⟩, hS.F ht⟩) hS.2.2 dX4_planPour_47 hlocks
  · replace h := oi_f c_3 h
    refine lv_aload_n hx hb dX4_planPour_15 rfl (lv_at hl 0 rfl) ?_
    refine lv_iload_n hx hb dX4_planPour_16 rfl (lv_at hl 2 rfl) ?_
    obtain ⟨u_40, hg_41, h⟩ := ob_some h
    refine zcSi (W.runV (As := [.int p2]) (rest := [.ref (b 0)]) ⟨hx, hb, hml, hown, hts⟩ (c_X4_isNoCrane l D cy b V p2 hg_41) (cwV 1 hts gX4_planPour_X4_isNoCrane rfl rfl rfl hd_X4_isNoCrane ⟨Nat.le_of_ble_eq_true rfl, Nat.le_of_ble_eq_true rfl⟩) ⟨rI_blind, va_recv hK hP (ci := 4) (q0 := 0) rfl rfl, (rI_at hP hK hD)⟩ rfl rfl hl.1 rfl (lv_room (Nat.le_of_ble_eq_true rfl)) dX4_planPour_17 ⟨Nat.le_of_ble_eq_true rfl, Nat.le_of_ble_eq_true rfl⟩) ?_
    refine lv_if_eq (tgt := 27) hx hb dX4_planPour_20 (by decide) (fun c_42 => ?_) (fun c_42 => ?_)
    · replace h := oi_t c_42 h
      refine lv_aload_n hx hb dX4_planPour_27 rfl (lv_at hl 0 rfl) ?_
      refine lv_iload_n hx hb dX4_planPour_28 rfl (lv_at hl 1 rfl) ?_
      obtain ⟨u_43, hg_44, h⟩ := ob_some h
      refine zcSi (W.runV (As := [.int p1]) (rest := [.ref (b 0)]) ⟨hx, hb, hml, hown, hts⟩ (c_X4_isWaiting l D cy b V p1 hg_44) (cwV 1 hts gX4_planPour_X4_isWaiting rfl rfl rfl hd_X4_isWaiting ⟨Nat.le_of_ble_eq_true rfl, Nat.le_of_ble_eq_true rfl⟩) ⟨rI_blind, va_recv hK hP (ci := 4) (q0 := 0) rfl rfl, (rI_at hP hK hD)⟩ rfl rfl hl.1 rfl (lv_room (Nat.le_of_ble_eq_true rfl)) dX4_planPour_29 ⟨Nat.le_of_ble_eq_true rfl, Nat.le_of_ble_eq_true rfl⟩) ?_
      refine lv_if_eq (tgt := 39) hx hb dX4_planPour_32 (by decide) (fun c_45 => ?_) (fun c_45 => ?_)
      · replace h := oi_t c_45 h
        refine lv_iconst (v := 2) hx hb dX4_planPour_39 (by decide) ?_
        obtain ⟨u_46, hg_47, h⟩ := ob_some h
        refine zcWi (va_runV (As := [.int 2]) (rest := []) ⟨hx, hb, hml, hown, hts⟩ (c_X4_fails l D cy b V _ 2 hg_47) (cwV 1 hts gX4_planPour_X4_fails rfl rfl rfl hd_X4_fails ⟨Nat.le_of_ble_eq_true rfl, Nat.le_of_ble_eq_true rfl⟩) ⟨(zJ_blind rI_blind), va_recv hK hP (ci := 4) (q0 := 0) rfl rfl, (zJ_at (rI_at hP hK hD))⟩ rfl rfl hl.1 rfl (lv_room (Nat.le_of_ble_eq_true rfl)) dX4_planPour_40 ⟨Nat.le_of_ble_eq_true rfl, Nat.le_of_ble_eq_true rfl⟩) hS (z_free hD hS hA) (fun H locs hP hD hS => ?_)
        refine lv_if_eq (tgt := 48) hx hb dX4_planPour_43 (by decide) (fun c_48 => ?_) (fun c_48 => ?_)
        · replace h := oi_t c_48 h
          refine lv_aload_n hx hb dX4_planPour_48 rfl (lv_at hl 0 rfl) ?_
          refine lv_aload_n hx hb dX4_planPour_49 rfl (lv_at hl 0 rfl) ?_
          refine va_get (D := D) (ci := 4) (v := .ref (b 20)) (C := RX4) (T := TX4) (N := 28) hx hb hts hinX4 hown hK hP 0 rfl rfl 20 (by decide) (hts _ (List.mem_of_getElem? (i := 2) rfl)) (fun _ h9 => h9) rfl dX4_planPour_50 ?_
          refine lv_iload_n hx hb dX4_planPour_53 rfl (lv_at hl 1 rfl) ?_
          obtain ⟨g_49, h⟩ := og_some h
          refine va_iald hx hb hK hP 18 0 rfl rfl g_49 dX4_planPour_54 ?_
          refine lv_iload_n hx hb dX4_planPour_55 rfl (lv_at hl 2 rfl) ?_
          obtain ⟨u_50, hg_51, h⟩ := ob_some h
          refine zcWv (va_runV (As := [.int (u_46.2.2.1 20 (p1).toNatClampNeg), .int p2]) (rest := []) ⟨hx, hb, hml, hown, hts⟩ (c_X4_looks l D cy b u_46.2 _ (u_46.2.2.1 20 (p1).toNatClampNeg) p2 hg_51) (cwV 2 hts gX4_planPour_X4_looks rfl rfl rfl hd_X4_looks ⟨Nat.le_of_ble_eq_true rfl, Nat.le_of_ble_eq_true rfl⟩) ⟨(zJ_blind rI_blind), va_recv hK hP (ci := 4) (q0 := 0) rfl rfl, (zJ_at (rI_at hP hK hD))⟩ rfl rfl hl.1 rfl (lv_room (Nat.le_of_ble_eq_true rfl)) dX4_planPour_56 ⟨Nat.le_of_ble_eq_true rfl, Nat.le_of_ble_eq_true rfl⟩) hS (z_free hD hS hA) (fun H locs hP hD hS => ?_)
          refine lv_aload_n hx hb dX4_planPour_59 rfl (lv_at hl 0 rfl) ?_
          refine lv_aload_n hx hb dX4_planPour_60 rfl (lv_at hl 0 rfl) ?_
          refine va_get (D := D) (ci := 4) (v := .ref (b 20)) (C := RX4) (T := TX4) (N := 28) hx hb hts hinX4 hown hK hP 0 rfl rfl 20 (by decide) (hts _ (List.mem_of_getElem? (i := 2) rfl)) (fun _ h9 => h9) rfl dX4_planPour_61 ?_
          refine lv_iload_n hx hb dX4_planPour_64 rfl (lv_at hl 1 rfl) ?_
          obtain ⟨g_52, h⟩ := og_some h
          refine va_iald hx hb hK hP 18 0 rfl rfl g_52 dX4_planPour_65 ?_
          refine lv_iconst (v := 0) hx hb dX4_planPour_66 (by decide) ?_
          obtain ⟨u_53, hg_54, h⟩ := ob_some h
          refine zcSi (W.runV (As := [.int (u_50.2.1 20 (p1).toNatClampNeg), .int 0]) (rest := []) ⟨hx, hb, hml, hown, hts⟩ (c_X4_fitsFrom l D cy b u_50 (u_50.2.1 20 (p1).toNatClampNeg) 0 hg_54) (cwV 2 hts gX4_planPour_X4_fitsFrom rfl rfl rfl hd_X4_fitsFrom ⟨Nat.le_of_ble_eq_true rfl, Nat.le_of_ble_eq_true rfl⟩) ⟨rI_blind, va_recv hK hP (ci := 4) (q0 := 0) rfl rfl, (rI_at hP hK hD)⟩ rfl rfl hl.1 rfl (lv_room (Nat.le_of_ble_eq_true rfl)) dX4_planPour_67 ⟨Nat.le_of_ble_eq_true rfl, Nat.le_of_ble_eq_true rfl⟩) ?_
          refine lv_istore_n (lv' := [(3, .int u_53), (0, .ref (b 0)), (1, .int p1), (2, .int p2)]) hx hb dX4_planPour_70 rfl hl (by decide) rfl (fun ls hl => ?_)
          exact k_X4_planPour_71 hx hb hr hts hml hown hlocks hK hA _ _ p1 p2 u_53 _ _ _  ls h hP hD hS (lv_sub hl [1, 2, 3, 0] rfl)
        · replace h := oi_f c_48 h
          refine lv_iconst (v := 0) hx hb dX4_planPour_46 (by decide) ?_
          have h9 := Option.some.inj h
          subst h9
          exact W.iret (v := 0) hx hb hr (fun t ht hW => ⟨⟨0, (), rfl, rfl, ⟨by rw [ht]; exact hP, hD⟩⟩, hS.F ht⟩) hS.2.2 dX4_planPour_47 hlocks
      · replace h := oi_f c_45 h
        refine lv_iconst (v := 0) hx hb dX4_planPour_35 (by decide) ?_
        refine lv_goto (tgt := 40) hx hb dX4_planPour_36 (by decide) ?_
        obtain ⟨u_55, hg_56, h⟩ := ob_some h
        refine zcWi (va_runV (As := [.int 0]) (rest := []) ⟨hx, hb, hml, hown, hts⟩ (c_X4_fails l D cy b V _ 0 hg_56) (cwV 1 hts gX4_planPour_X4_fails rfl rfl rfl hd_X4_fails ⟨Nat.le_of_ble_eq_true rfl, Nat.le_of_ble_eq_true rfl⟩) ⟨(zJ_blind rI_blind), va_recv hK hP (ci := 4) (q0 := 0) rfl rfl, (zJ_at (rI_at hP hK hD))⟩ rfl rfl hl.1 rfl (lv_room (Nat.le_of_ble_eq_true rfl)) dX4_planPour_40 ⟨Nat.le_of_ble_eq_true rfl, Nat.le_of_ble_eq_true rfl⟩) hS (z_free hD hS hA) (fun H locs hP hD hS => ?_)
        refine lv_if_eq (tgt := 48) hx hb dX4_planPour_43 (by decide) (fun c_57 => ?_) (fun c_57 => ?_)
        · replace h := oi_t c_57 h
          refine lv_aload_n hx hb dX4_planPour_48 rfl (lv_at hl 0 rfl) ?_
          refine lv_aload_n hx hb dX4_planPour_49 rfl (lv_at hl 0 rfl) ?_
          refine va_get (D := D) (ci := 4) (v := .ref (b 20)) (C := RX4) (T := TX4) (N := 28) hx hb hts hinX4 hown hK hP 0 rfl rfl 20 (by decide) (hts _ (List.mem_of_getElem? (i := 2) rfl)) (fun _ h9 => h9) rfl dX4_planPour_50 ?_
          refine lv_iload_n hx hb dX4_planPour_53 rfl (lv_at hl 1 rfl) ?_
          obtain ⟨g_58, h⟩ := og_some h
          refine va_iald hx hb hK hP 18 0 rfl rfl g_58 dX4_planPour_54 ?_
          refine lv_iload_n hx hb dX4_planPour_55 rfl (lv_at hl 2 rfl) ?_
          obtain ⟨u_59, hg_60, h⟩ := ob_some h
          refine zcWv (va_runV (As := [.int (u_55.2.2.1 20 (p1).toNatClampNeg), .int p2]) (rest := []) ⟨hx, hb, hml, hown, hts⟩ (c_X4_looks l D cy b u_55.2 _ (u_55.2.2.1 20 (p1).toNatClampNeg) p2 hg_60) (cwV 2 hts gX4_planPour_X4_looks rfl rfl rfl hd_X4_looks ⟨Nat.le_of_ble_eq_true rfl, Nat.le_of_ble_eq_true rfl⟩) ⟨(zJ_blind rI_blind), va_recv hK hP (ci := 4) (q0 := 0) rfl rfl, (zJ_at (rI_at hP hK hD))⟩ rfl rfl hl.1 rfl (lv_room (Nat.le_of_ble_eq_true rfl)) dX4_planPour_56 ⟨Nat.le_of_ble_eq_true rfl, Nat.le_of_ble_eq_true rfl⟩) hS (z_free hD hS hA) (fun H locs hP hD hS => ?_)
          refine lv_aload_n hx hb dX4_planPour_59 rfl (lv_at hl 0 rfl) ?_
          refine lv_aload_n hx hb dX4_planPour_60 rfl (lv_at hl 0 rfl) ?_
          refine va_get (D := D) (ci := 4) (v := .ref (b 20)) (C := RX4) (T := TX4) (N := 28) hx hb hts hinX4 hown hK hP 0 rfl rfl 20 (by decide) (hts _ (List.mem_of_getElem? (i := 2) rfl)) (fun _ h9 => h9) rfl dX4_planPour_61 ?_
          refine lv_iload_n hx hb dX4_planPour_64 rfl (lv_at hl 1 rfl) ?_
          obtain ⟨g_61, h⟩ := og_some h
          refine va_iald hx hb hK hP 18 0 rfl rfl g_61 dX4_planPour_65 ?_
          refine lv_iconst (v := 0) hx hb dX4_planPour_66 (by decide) ?_
          obtain ⟨u_62, hg_63, h⟩ := ob_some h
          refine zcSi (W.runV (As := [.int (u_59.2.1 20 (p1).toNatClampNeg), .int 0]) (rest := []) ⟨hx, hb, hml, hown, hts⟩ (c_X4_fitsFrom l D cy b u_59 (u_59.2.1 20 (p1).toNatClampNeg) 0 hg_63) (cwV 2 hts gX4_planPour_X4_fitsFrom rfl rfl rfl hd_X4_fitsFrom ⟨Nat.le_of_ble_eq_true rfl, Nat.le_of_ble_eq_true rfl⟩) ⟨rI_blind, va_recv hK hP (ci := 4) (q0 := 0) rfl rfl, (rI_at hP hK hD)⟩ rfl rfl hl.1 rfl (lv_room (Nat.le_of_ble_eq_true rfl)) dX4_planPour_67 ⟨Nat.le_of_ble_eq_true rfl, Nat.le_of_ble_eq_true rfl⟩) ?_
          refine lv_istore_n (lv' := [(3, .int u_62), (0, .ref (b 0)), (1, .int p1), (2, .int p2)]) hx hb dX4_planPour_70 rfl hl (by decide) rfl (fun ls hl => ?_)
          exact k_X4_planPour_71 hx hb hr hts hml hown hlocks hK hA _ _ p1 p2 u_62 _ _ _  ls h hP hD hS (lv_sub hl [1, 2, 3, 0] rfl)
        · replace h := oi_f c_57 h
          refine lv_iconst (v := 0) hx hb dX4_planPour_46 (by decide) ?_
          have h9 := Option.some.inj h
          subst h9
          exact W.iret (v := 0) hx hb hr (fun t ht hW => ⟨⟨0, (), rfl, rfl, ⟨by rw [ht]; exact hP, hD⟩⟩, hS.F ht⟩) hS.2.2 dX4_planPour_47 hlocks
    · replace h := oi_f c_42 h
      refine lv_iconst (v := 1) hx hb dX4_planPour_23 (by decide) ?_
      refine lv_goto (tgt := 40) hx hb dX4_planPour_24 (by decide) ?_
      obtain ⟨u_64, hg_65, h⟩ := ob_some h
      refine zcWi (va_runV (As := [.int 1]) (rest := []) ⟨hx, hb, hml, hown, hts⟩ (c_X4_fails l D cy b V _ 1 hg_65) (cwV 1 hts gX4_planPour_X4_fails rfl rfl rfl hd_X4_fails ⟨Nat.le_of_ble_eq_true rfl, Nat.le_of_ble_eq_true rfl⟩) ⟨(zJ_blind rI_blind), va_recv hK hP (ci := 4) (q0 := 0) rfl rfl, (zJ_at (rI_at hP hK hD))⟩ rfl rfl hl.1 rfl (lv_room (Nat.le_of_ble_eq_true rfl)) dX4_planPour_40 ⟨Nat.le_of_ble_eq_true rfl, Nat.le_of_ble_eq_true rfl⟩) hS (z_free hD hS hA) (fun H locs hP hD hS => ?_)
      refine lv_if_eq (tgt := 48) hx hb dX4_planPour_43 (by decide) (fun c_66 => ?_) (fun c_66 => ?_)
      · replace h := oi_t c_66 h
        refine lv_aload_n hx hb dX4_planPour_48 rfl (lv_at hl 0 rfl) ?_
        refine lv_aload_n hx hb dX4_planPour_49 rfl (lv_at hl 0 rfl) ?_
        refine va_get (D := D) (ci := 4) (v := .ref (b 20)) (C := RX4) (T := TX4) (N := 28) hx hb hts hinX4 hown hK hP 0 rfl rfl 20 (by decide) (hts _ (List.mem_of_getElem? (i := 2) rfl)) (fun _ h9 => h9) rfl dX4_planPour_50 ?_
        refine lv_iload_n hx hb dX4_planPour_53 rfl (lv_at hl 1 rfl) ?_
        obtain ⟨g_67, h⟩ := og_some h
        refine va_iald hx hb hK hP 18 0 rfl rfl g_67 dX4_planPour_54 ?_
        refine lv_iload_n hx hb dX4_planPour_55 rfl (lv_at hl 2 rfl) ?_
        obtain ⟨u_68, hg_69, h⟩ := ob_some h
        refine zcWv (va_runV (As := [.int (u_64.2.2.1 20 (p1).toNatClampNeg), .int p2]) (rest := []) ⟨hx, hb, hml, hown, hts⟩ (c_X4_looks l D cy b u_64.2 _ (u_64.2.2.1 20 (p1).toNatClampNeg) p2 hg_69) (cwV 2 hts gX4_planPour_X4_looks rfl rfl rfl hd_X4_looks ⟨Nat.le_of_ble_eq_true rfl, Nat.le_of_ble_eq_true rfl⟩) ⟨(zJ_blind rI_blind), va_recv hK hP (ci := 4) (q0 := 0) rfl rfl, (zJ_at (rI_at hP hK hD))⟩ rfl rfl hl.1 rfl (lv_room (Nat.le_of_ble_eq_true rfl)) dX4_planPour_56 ⟨Nat.le_of_ble_eq_true rfl, Nat.le_of_ble_eq_true rfl⟩) hS (z_free hD hS hA) (fun H locs hP hD hS => ?_)
        refine lv_aload_n hx hb dX4_planPour_59 rfl (lv_at hl 0 rfl) ?_
        refine lv_aload_n hx hb dX4_planPour_60 rfl (lv_at hl 0 rfl) ?_
        refine va_get (D := D) (ci := 4) (v := .ref (b 20)) (C := RX4) (T := TX4) (N := 28) hx hb hts hinX4 hown hK hP 0 rfl rfl 20 (by decide) (hts _ (List.mem_of_getElem? (i := 2) rfl)) (fun _ h9 => h9) rfl dX4_planPour_61 ?_
        refine lv_iload_n hx hb dX4_planPour_64 rfl (lv_at hl 1 rfl) ?_
        obtain ⟨g_70, h⟩ := og_some h
        refine va_iald hx hb hK hP 18 0 rfl rfl g_70 dX4_planPour_65 ?_
        refine lv_iconst (v := 0) hx hb dX4_planPour_66 (by decide) ?_
        obtain ⟨u_71, hg_72, h⟩ := ob_some h
        refine zcSi (W.runV (As := [.int (u_68.2.1 20 (p1).toNatClampNeg), .int 0]) (rest := []) ⟨hx, hb, hml, hown, hts⟩ (c_X4_fitsFrom l D cy b u_68 (u_68.2.1 20 (p1).toNatClampNeg) 0 hg_72) (cwV 2 hts gX4_planPour_X4_fitsFrom rfl rfl rfl hd_X4_fitsFrom ⟨Nat.le_of_ble_eq_true rfl, Nat.le_of_ble_eq_true rfl⟩) ⟨rI_blind, va_recv hK hP (ci := 4) (q0 := 0) rfl rfl, (rI_at hP hK hD)⟩ rfl rfl hl.1 rfl (lv_room (Nat.le_of_ble_eq_true rfl)) dX4_planPour_67 ⟨Nat.le_of_ble_eq_true rfl, Nat.le_of_ble_eq_true rfl⟩) ?_
        refine lv_istore_n (lv' := [(3, .int u_71), (0, .ref (b 0)), (1, .int p1), (2, .int p2)]) hx hb dX4_planPour_70 rfl hl (by decide) rfl (fun ls hl => ?_)
        exact k_X4_planPour_71 hx hb hr hts hml hown hlocks hK hA _ _ p1 p2 u_71 _ _ _  ls h hP hD hS (lv_sub hl [1, 2, 3, 0] rfl)
      · replace h := oi_f c_66 h
        refine lv_iconst (v := 0) hx hb dX4_planPour_46 (by decide) ?_
        have h9 := Option.some.inj h
        subst h9
        exact W.iret (v := 0) hx hb hr (fun t ht hW => ⟨⟨0, (), rfl, rfl, ⟨by rw [ht]; exact hP, hD⟩⟩, hS.F ht⟩) hS.2.2 dX4_planPour_47 hlocks
def f_X4_unplan_37 : RV → Nat → Int32 → Int32 → Int32 → Option (Int32 × RV)
  | _, 0, _, _, _ => none
  | V, fu + 1, zx1, zx2, zx3 => oi ((V.1 7) ≤ zx3) (some (zx2, V)) (og (¬ (zx3 < 0 ∨ 40 ≤ (zx3).toNatClampNeg)) (oi ((V.2.1 14 (zx3).toNatClampNeg) = 112) (oi (zx3 = zx1) (og (¬ (zx3 < 0 ∨ 40 ≤ (zx3).toNatClampNeg)) (ob (some (rar V 14 (zx3).toNatClampNeg (vp_nar .char 119))) (fun V_14 => f_X4_unplan_37 V_14 fu zx1 (zx2 + 1) (zx3 + 1)))) (og (¬ (zx1 < 0 ∨ 40 ≤ (zx1).toNatClampNeg)) (oi ((V.2.1 17 (zx1).toNatClampNeg) < 0) (f_X4_unplan_37 V fu zx1 zx2 (zx3 + 1)) (og (¬ (zx3 < 0 ∨ 40 ≤ (zx3).toNatClampNeg)) (og (¬ (zx1 < 0 ∨ 40 ≤ (zx1).toNatClampNeg)) (oi ((V.2.1 17 (zx3).toNatClampNeg) = (V.2.1 17 (zx1).toNatClampNeg)) (og (¬ (zx3 < 0 ∨ 40 ≤ (zx3).toNatClampNeg)) (ob (some (rar V 14 (zx3).toNatClampNeg (vp_nar .char 119))) (fun V_22 => f_X4_unplan_37 V_22 fu zx1 (zx2 + 1) (zx3 + 1)))) (f_X4_unplan_37 V fu zx1 zx2 (zx3 + 1)))))))) (f_X4_unplan_37 V fu zx1 zx2 (zx3 + 1))))
def f_X4_unplan (V : RV) (p1 : Int32) : Option (Int32 × RV) := ob (f_X4_isNone V p1) (fun u_1 => oi (u_1.1 = 0) (og (¬ (p1 < 0 ∨ 40 ≤ (p1).toNatClampNeg)) (oi ((u_1.2.2.1 14 (p1).toNatClampNeg) = 112) (ob (f_X4_fails u_1.2 0) (fun u_6 => oi (u_6.1 = 0) (f_X4_unplan_37 u_6.2 FU p1 0 0) (some (0, u_6.2)))) (ob (f_X4_fails u_1.2 2) (fun u_24 => oi (u_24.1 = 0) (f_X4_unplan_37 u_24.2 FU p1 0 0) (some (0, u_24.2)))))) (some (0, u_1.2)))
theorem hd_X4_unplan : yX4_unplan.cls = RX4 ∧ yX4_unplan.cls ≠ "java/lang/invoke/MethodHandle" ∧ yX4_unplan.cls ≠ "java/lang/invoke/VarHandle" ∧ (parseMethodDescriptor yX4_unplan.desc).map (fun d => d.parameters.length) = some 1 := by decide +kernel
set_option maxHeartbeats 4000000 in
set_option maxRecDepth 100000 in
theorem k_X4_unplan_37 {p : Program} {l : Launch} {e : Env} {s : State} {m : MethodId} {args : Array Value} {below : List Frame} {meth : Method} {c : Code} {D : va_G} {cy : Nat → ClassId} {b : Nat → Nat} {A : Nat → Prop} (hx : p.tables.exec = Jvm.exec) (hb : c.code = cX4_unplan) (hr : meth.sig.returnType = (some .int)) (hts : ∀ w ∈ wsX4_unplan, w.before args s = true) (hml : c.maxLocals = 4) (hown : s.vm.findClass RX4 = some m.cls) (hlocks : meth.locks = false) (hK : va_K D xcl (xty cy) s) (hA : ∀ q, s.heap.size ≤ q → A q) (res : Int32 × RV) : ∀ (fu : Nat) (zx1 : Int32) (zx2 : Int32) (zx3 : Int32) (V : RV) (H : Heap) (locs : List Loc)  (ls : Array Slot), f_X4_unplan_37 V fu zx1 zx2 zx3 = some res → va_P D xcl (rW cy b V) H → va_D A (rW cy b V) → va_S A s.heap H locs → lv_has ls 4 [(0, .ref (b 0)), (1, .int zx1), (2, .int zx2), (3, .int zx3)] → W p l e ({ frames := 3, cells := 0, slots := 0, locals := 64 } : Room) s m args below meth c H locs 0 0 (MQ below (va_Qi (fun r (_ : Unit) => r = res.1) (fun _ t => va_P D xcl (rW cy b res.2) t.heap ∧ va_D A (rW cy b res.2)) A) args s 0 0 (A)) (F0 m 37 ls []) := by
  have hinX4 : ∀ w ∈ wsX40, w ∈ wsX4_unplan := (fun _ h => (List.mem_cons_of_mem _ (List.mem_append_right _ h)))
  intro fu
  induction fu with
  | zero =>
    intro zx1 zx2 zx3 V H locs  ls h hP hD hS hl
    cases h
  | succ fu ih =>
    intro zx1 zx2 zx3 V H locs  ls h hP hD hS hl
    refine lv_iload_n hx hb dX4_unplan_37 rfl (lv_at hl 3 rfl) ?_
    refine lv_aload_n hx hb dX4_unplan_38 rfl (lv_at hl 0 rfl) ?_
    refine va_get (D := D) (ci := 4) (v := .int (V.1 7)) (C := RX4) (T := TX4) (N := 28) hx hb hts hinX4 hown hK hP 0 rfl rfl 7 (by decide) (hts _ (List.mem_of_getElem? (i := 2) rfl)) (fun _ h9 => h9) rfl dX4_unplan_39 ?_
    refine lv_icmp_ge (tgt := 105) hx hb dX4_unplan_42 (by decide) (fun c_9 => ?_) (fun c_9 => ?_)
    · replace h := oi_t c_9 h
      refine lv_iload_n hx hb dX4_unplan_105 rfl (lv_at hl 2 rfl) ?_
      have h9 := Option.some.inj h
      subst h9
      exact W.iret (v := zx2) hx hb hr (fun t ht hW => ⟨⟨zx2, (), rfl, rfl, ⟨by rw [ht]; exact hP, hD⟩⟩, hS.F ht⟩) hS.2.2 dX4_unplan_106 hlocks
    · replace h := oi_f c_9 h
      refine lv_aload_n hx hb dX4_unplan_45 rfl (lv_at hl 0 rfl) ?_
      refine va_get (D := D) (ci := 4) (v := .ref (b 14)) (C := RX4) (T := TX4) (N := 28) hx hb hts hinX4 hown hK hP 0 rfl rfl 14 (by decide) (hts _ (List.mem_of_getElem? (i := 1) rfl)) (fun _ h9 => h9) rfl dX4_unplan_46 ?_
      refine lv_iload_n hx hb dX4_unplan_49 rfl (lv_at hl 3 rfl) ?_
      obtain ⟨g_10, h⟩ := og_some h
      refine va_cald hx hb hK hP 13 3 rfl rfl g_10 dX4_unplan_50 ?_
      refine lv_bipush (v := 112) hx hb dX4_unplan_51 (by decide) ?_
      refine lv_icmp_ne (tgt := 99) hx hb dX4_unplan_53 (by decide) (fun c_11 => ?_) (fun c_11 => ?_)
      · replace h := oi_f c_11 h
        refine lv_iinc (v := zx3 + 1) (lv' := [(3, .int (zx3 + 1)), (0, .ref (b 0)), (1, .int zx1), (2, .int zx2)]) hx hb dX4_unplan_99 hl (k := 3) rfl rfl (by decide) rfl (fun ls hl => ?_)
        refine lv_goto (tgt := 37) hx hb dX4_unplan_102 (by decide) ?_
        exact ih zx1 zx2 (zx3 + 1) _ _ _  ls h hP hD hS (lv_sub hl [1, 2, 3, 0] rfl)
      · replace h := oi_t c_11 h
        refine lv_iload_n hx hb dX4_unplan_56 rfl (lv_at hl 3 rfl) ?_
        refine lv_iload_n hx hb dX4_unplan_57 rfl (lv_at hl 1 rfl) ?_
        refine lv_icmp_eq (tgt := 88) hx hb dX4_unplan_58 (by decide) (fun c_12 => ?_) (fun c_12 => ?_)
        · replace h := oi_t c_12 h
          refine lv_aload_n hx hb dX4_unplan_88 rfl (lv_at hl 0 rfl) ?_
          refine va_get (D := D) (ci := 4) (v := .ref (b 14)) (C := RX4) (T := TX4) (N := 28) hx hb hts hinX4 hown hK hP 0 rfl rfl 14 (by decide) (hts _ (List.mem_of_getElem? (i := 1) rfl)) (fun _ h9 => h9) rfl dX4_unplan_89 ?_
          refine lv_iload_n hx hb dX4_unplan_92 rfl (lv_at hl 3 rfl) ?_
          refine lv_bipush (v := 119) hx hb dX4_unplan_93 (by decide) ?_
          obtain ⟨g_13, h⟩ := og_some h
          refine va_cast hx hb hK hP hD hS 13 3 rfl rfl g_13 dX4_unplan_95 (fun H locs hP hD hS => ?_)
          replace hP : va_P D xcl (rW cy b (rar V 14 (zx3).toNatClampNeg (vp_nar .char 119))) H := hP
          replace hD : va_D A (rW cy b (rar V 14 (zx3).toNatClampNeg (vp_nar .char 119))) := hD
          obtain ⟨V_14, eV_15, h⟩ := ob_some h
          rw [Option.some.inj eV_15] at hP hD
          refine lv_iinc (v := zx2 + 1) (lv' := [(2, .int (zx2 + 1)), (0, .ref (b 0)), (1, .int zx1), (3, .int zx3)]) hx hb dX4_unplan_96 hl (k := 2) rfl rfl (by decide) rfl (fun ls hl => ?_)
          refine lv_iinc (v := zx3 + 1) (lv' := [(3, .int (zx3 + 1)), (2, .int (zx2 + 1)), (0, .ref (b 0)), (1, .int zx1)]) hx hb dX4_unplan_99 hl (k := 3) rfl rfl (by decide) rfl (fun ls hl => ?_)
          refine lv_goto (tgt := 37) hx hb dX4_unplan_102 (by decide) ?_
          exact ih zx1 (zx2 + 1) (zx3 + 1) _ _ _  ls h hP hD hS (lv_sub hl [2, 3, 1, 0] rfl)
        · replace h := oi_f c_12 h
          refine lv_aload_n hx hb dX4_unplan_61 rfl (lv_at hl 0 rfl) ?_
          refine va_get (D := D) (ci := 4) (v := .ref (b 17)) (C := RX4) (T := TX4) (N := 28) hx hb hts hinX4 hown hK hP 0 rfl rfl 17 (by decide) (hts _ (List.mem_of_getElem? (i := 3) rfl)) (fun _ h9 => h9) rfl dX4_unplan_62 ?_
          refine lv_iload_n hx hb dX4_unplan_65 rfl (lv_at hl 1 rfl) ?_
          obtain ⟨g_16, h⟩ := og_some h
          refine va_iald hx hb hK hP 16 0 rfl rfl g_16 dX4_unplan_66 ?_
          refine lv_if_lt (tgt := 99) hx hb dX4_unplan_67 (by decide) (fun c_17 => ?_) (fun c_17 => ?_)
          · replace h := oi_t c_17 h
            refine lv_iinc (v := zx3 + 1) (lv' := [(3, .int (zx3 + 1)), (0, .ref (b 0)), (1, .int zx1), (2, .int zx2)]) hx hb dX4_unplan_99 hl (k := 3) rfl rfl (by decide) rfl (fun ls hl => ?_)
            refine lv_goto (tgt := 37) hx hb dX4_unplan_102 (by decide) ?_
            exact ih zx1 zx2 (zx3 + 1) _ _ _  ls h hP hD hS (lv_sub hl [1, 2, 3, 0] rfl)
          · replace h := oi_f c_17 h
            refine lv_aload_n hx hb dX4_unplan_70 rfl (lv_at hl 0 rfl) ?_
            refine va_get (D := D) (ci := 4) (v := .ref (b 17)) (C := RX4) (T := TX4) (N := 28) hx hb hts hinX4 hown hK hP 0 rfl rfl 17 (by decide) (hts _ (List.mem_of_getElem? (i := 3) rfl)) (fun _ h9 => h9) rfl dX4_unplan_71 ?_
            refine lv_iload_n hx hb dX4_unplan_74 rfl (lv_at hl 3 rfl) ?_
            obtain ⟨g_18, h⟩ := og_some h
            refine va_iald hx hb hK hP 16 0 rfl rfl g_18 dX4_unplan_75 ?_
            refine lv_aload_n hx hb dX4_unplan_76 rfl (lv_at hl 0 rfl) ?_
            refine va_get (D := D) (ci := 4) (v := .ref (b 17)) (C := RX4) (T := TX4) (N := 28) hx hb hts hinX4 hown hK hP 0 rfl rfl 17 (by decide) (hts _ (List.mem_of_getElem? (i := 3) rfl)) (fun _ h9 => h9) rfl dX4_unplan_77 ?_
            refine lv_iload_n hx hb dX4_unplan_80 rfl (lv_at hl 1 rfl) ?_
            obtain ⟨g_19, h⟩ := og_some h
            refine va_iald hx hb hK hP 16 0 rfl rfl g_19 dX4_unplan_81 ?_
            refine lv_icmp_eq (tgt := 88) hx hb dX4_unplan_82 (by decide) (fun c_20 => ?_) (fun c_20 => ?_)
            · replace h := oi_t c_20 h
              refine lv_aload_n hx hb dX4_unplan_88 rfl (lv_at hl 0 rfl) ?_
              refine va_get (D := D) (ci := 4) (v := .ref (b 14)) (C := RX4) (T := TX4) (N := 28) hx hb hts hinX4 hown hK hP 0 rfl rfl 14 (by decide) (hts _ (List.mem_of_getElem? (i := 1) rfl)) (fun _ h9 => h9) rfl dX4_unplan_89 ?_
              refine lv_iload_n hx hb dX4_unplan_92 rfl (lv_at hl 3 rfl) ?_
              refine lv_bipush (v := 119) hx hb dX4_unplan_93 (by decide) ?_
              obtain ⟨g_21, h⟩ := og_some h
              refine va_cast hx hb hK hP hD hS 13 3 rfl rfl g_21 dX4_unplan_95 (fun H locs hP hD hS => ?_)
              replace hP : va_P D xcl (rW cy b (rar V 14 (zx3).toNatClampNeg (vp_nar .char 119))) H := hP
              replace hD : va_D A (rW cy b (rar V 14 (zx3).toNatClampNeg (vp_nar .char 119))) := hD
              obtain ⟨V_22, eV_23, h⟩ := ob_some h
              rw [Option.some.inj eV_23] at hP hD
              refine lv_iinc (v := zx2 + 1) (lv' := [(2, .int (zx2 + 1)), (0, .ref (b 0)), (1, .int zx1), (3, .int zx3)]) hx hb dX4_unplan_96 hl (k := 2) rfl rfl (by decide) rfl (fun ls hl => ?_)
              refine lv_iinc (v := zx3 + 1) (lv' := [(3, .int (zx3 + 1)), (2, .int (zx2 + 1)), (0, .ref (b 0)), (1, .int zx1)]) hx hb dX4_unplan_99 hl (k := 3) rfl rfl (by decide) rfl (fun ls hl => ?_)
              refine lv_goto (tgt := 37) hx hb dX4_unplan_102 (by decide) ?_
              exact ih zx1 (zx2 + 1) (zx3 + 1) _ _ _  ls h hP hD hS (lv_sub hl [2, 3, 1, 0] rfl)
            · replace h := oi_f c_20 h
              refine lv_goto (tgt := 99) hx hb dX4_unplan_85 (by decide) ?_
              refine lv_iinc (v := zx3 + 1) (lv' := [(3, .int (zx3 + 1)), (0, .ref (b 0)), (1, .int zx1), (2, .int zx2)]) hx hb dX4_unplan_99 hl (k := 3) rfl rfl (by decide) rfl (fun ls hl => ?_)
              refine lv_goto (tgt := 37) hx hb dX4_unplan_102 (by decide) ?_
              exact ih zx1 zx2 (zx3 + 1) _ _ _  ls h hP hD hS (lv_sub hl [1, 2, 3, 0] rfl)
set_option maxHeartbeats 4000000 in
set_option maxRecDepth 100000 in
theorem c_X4_unplan (l : Launch) (D : va_G) (cy : Nat → ClassId) (b : Nat → Nat) (V : RV) (sz : Nat) (p1 : Int32) {res : Int32 × RV} (h : f_X4_unplan V p1 = some res) : Met l yX4_unplan wsX4_unplan ({ frames := 3, cells := 0, slots := 0, locals := 64 } : Room) (va_Pc [.ref (b 0), .int p1] (zJ sz (rI D cy b V))) (va_Qi (fun r (_ : Unit) => r = res.1) (fun _ t => va_P D xcl (rW cy b res.2) t.heap ∧ va_D (va_A (rW cy b V) sz) (rW cy b res.2)) (va_A (rW cy b V) sz)) 0 0 (va_A (rW cy b V) sz) := by
  refine Met.ofW (cc := cX4_unplan) (maxL := 4) (ret := (some .int)) (by decide) rfl ?_
  intro p e s m args below meth c s₁ B hml hv
  obtain ⟨rfl, hsz, hP, hK, hD0⟩ := hv
  have hx := B.exec
  have hb := B.bytes
  have hr := B.returns
  have hts := atoms_spec (ws := wsX4_unplan) B.pre
  have hown : s.vm.findClass RX4 = some m.cls := findClass_of_methodNamed B.named
  have hlocks := B.notSynchronized
  subst hsz
  have hD := hD0.self (sz := s.heap.size)
  generalize hAe : va_A (rW cy b V) s.heap.size = A at hD ⊢
  have hA : ∀ q : Nat, s.heap.size ≤ q → A q := fun q h => by rw [← hAe]; exact Or.inr h
  have hS : va_S A s.heap s.heap [] := va_S.rf
  have hl := lv_entry ([.ref (b 0), .int p1]) (n := 4) (Nat.le_of_ble_eq_true rfl)
  rw [lg_entry_eq]
  generalize (lg_sl ([.ref (b 0), .int p1]) ++ List.replicate (4 - (lg_sl ([.ref (b 0), .int p1])).length) Slot.unset).toArray = ls at hl ⊢
  have hl : lv_has ls 4 [(0, .ref (b 0)), (1, .int p1)] := hl
  have hinX4 : ∀ w ∈ wsX40, w ∈ wsX4_unplan := (fun _ h => (List.mem_cons_of_mem _ (List.mem_append_right _ h)))
  revert hP hS
  intro hP hS
  refine lv_aload_n hx hb dX4_unplan_0 rfl (lv_at hl 0 rfl) ?_
  refine lv_iload_n hx hb dX4_unplan_1 rfl (lv_at hl 1 rfl) ?_
  obtain ⟨u_1, hg_2, h⟩ := ob_some h
  refine zcWi (va_runV (As := [.int p1]) (rest := []) ⟨hx, hb, hml, hown, hts⟩ (c_X4_isNone l D cy b V _ p1 hg_2) (cwV 1 hts gX4_unplan_X4_isNone rfl rfl rfl hd_X4_isNone ⟨Nat.le_of_ble_eq_true rfl, Nat.le_of_ble_eq_true rfl⟩) ⟨(zJ_blind rI_blind), va_recv hK hP (ci := 4) (q0 := 0) rfl rfl, (zJ_at (rI_at hP hK hD))⟩ rfl rfl hl.1 rfl (lv_room (Nat.le_of_ble_eq_true rfl)) dX4_unplan_2 ⟨Nat.le_of_ble_eq_true rfl, Nat.le_of_ble_eq_true rfl⟩) hS (z_free hD hS hA) (fun H locs hP hD hS => ?_)
  refine lv_if_ne (tgt := 31) hx hb dX4_unplan_5 (by decide) (fun c_3 => ?_) (fun c_3 => ?_)
  · replace h := oi_f c_3 h
    refine lv_iconst (v := 0) hx hb dX4_unplan_31 (by decide) ?_
    have h9 := Option.some.inj h
    subst h9
    exact W.iret (v := 0) hx hb hr (fun t ht hW => ⟨⟨0, (), rfl, rfl, ⟨by rw [ht]; exact hP, hD⟩⟩, hS.F ht⟩) hS.2.2 dX4_unplan_32 hlocks
  · replace h := oi_t c_3 h
    refine lv_aload_n hx hb dX4_unplan_8 rfl (lv_at hl 0 rfl) ?_
    refine lv_aload_n hx hb dX4_unplan_9 rfl (lv_at hl 0 rfl) ?_
    refine va_get (D := D) (ci := 4) (v := .ref (b 14)) (C := RX4) (T := TX4) (N := 28) hx hb hts hinX4 hown hK hP 0 rfl rfl 14 (by decide) (hts _ (List.mem_of_getElem? (i := 1) rfl)) (fun _ h9 => h9) rfl dX4_unplan_10 ?_
    refine lv_iload_n hx hb dX4_unplan_13 rfl (lv_at hl 1 rfl) ?_
    obtain ⟨g_4, h⟩ := og_some h
    refine va_cald hx hb hK hP 13 3 rfl rfl g_4 dX4_unplan_14 ?_
    refine lv_bipush (v := 112) hx hb dX4_unplan_15 (by decide) ?_
    refine lv_icmp_eq (tgt := 24) hx hb dX4_unplan_17 (by decide) (fun c_5 => ?_) (fun c_5 => ?_)
    · replace h := oi_t c_5 h
      refine lv_iconst (v := 0) hx hb dX4_unplan_24 (by decide) ?_
      obtain ⟨u_6, hg_7, h⟩ := ob_some h
      refine zcWi (va_runV (As := [.int 0]) (rest := []) ⟨hx, hb, hml, hown, hts⟩ (c_X4_fails l D cy b u_1.2 _ 0 hg_7) (cwV 1 hts gX4_unplan_X4_fails rfl rfl rfl hd_X4_fails ⟨Nat.le_of_ble_eq_true rfl, Nat.le_of_ble_eq_true rfl⟩) ⟨(zJ_blind rI_blind), va_recv hK hP (ci := 4) (q0 := 0) rfl rfl, (zJ_at (rI_at hP hK hD))⟩ rfl rfl hl.1 rfl (lv_room (Nat.le_of_ble_eq_true rfl)) dX4_unplan_25 ⟨Nat.le_of_ble_eq_true rfl, Nat.le_of_ble_eq_true rfl⟩) hS (z_free hD hS hA) (fun H locs hP hD hS => ?_)
      refine lv_if_eq (tgt := 33) hx hb dX4_unplan_28 (by decide) (fun c_8 => ?_) (fun c_8 => ?_)
      · replace h := oi_t c_8 h
        refine lv_iconst (v := 0) hx hb dX4_unplan_33 (by decide) ?_
        refine lv_istore_n (lv' := [(2, .int 0), (0, .ref (b 0)), (1, .int p1)]) hx hb dX4_unplan_34 rfl hl (by decide) rfl (fun ls hl => ?_)
        refine lv_iconst (v := 0) hx hb dX4_unplan_35 (by decide) ?_
        refine lv_istore_n (lv' := [(3, .int 0), (2, .int 0), (0, .ref (b 0)), (1, .int p1)]) hx hb dX4_unplan_36 rfl hl (by decide) rfl (fun ls hl => ?_)
        exact k_X4_unplan_37 hx hb hr hts hml hown hlocks hK hA _ _ p1 0 0 _ _ _  ls h hP hD hS (lv_sub hl [2, 3, 1, 0] rfl)
      · replace h := oi_f c_8 h
        refine lv_iconst (v := 0) hx hb dX4_unplan_31 (by decide) ?_
        have h9 := Option.some.inj h
        subst h9
        exact W.iret (v := 0) hx hb hr (fun t ht hW => ⟨⟨0, (), rfl, rfl, ⟨by rw [ht]; exact hP, hD⟩⟩, hS.F ht⟩) hS.2.2 dX4_unplan_32 hlocks
    · replace h := oi_f c_5 h
      refine lv_iconst (v := 2) hx hb dX4_unplan_20 (by decide) ?_
      refine lv_goto (tgt := 25) hx hb dX4_unplan_21 (by decide) ?_
      obtain ⟨u_24, hg_25, h⟩ := ob_some h
      refine zcWi (va_runV (As := [.int 2]) (rest := []) ⟨hx, hb, hml, hown, hts⟩ (c_X4_fails l D cy b u_1.2 _ 2 hg_25) (cwV 1 hts gX4_unplan_X4_fails rfl rfl rfl hd_X4_fails ⟨Nat.le_of_ble_eq_true rfl, Nat.le_of_ble_eq_true rfl⟩) ⟨(zJ_blind rI_blind), va_recv hK hP (ci := 4) (q0 := 0) rfl rfl, (zJ_at (rI_at hP hK hD))⟩ rfl rfl hl.1 rfl (lv_room (Nat.le_of_ble_eq_true rfl)) dX4_unplan_25 ⟨Nat.le_of_ble_eq_true rfl, Nat.le_of_ble_eq_true rfl⟩) hS (z_free hD hS hA) (fun H locs hP hD hS => ?_)
      refine lv_if_eq (tgt := 33) hx hb dX4_unplan_28 (by decide) (fun c_26 => ?_) (fun c_26 => ?_)
      · replace h := oi_t c_26 h
        refine lv_iconst (v := 0) hx hb dX4_unplan_33 (by decide) ?_
        refine lv_istore_n (lv' := [(2, .int 0), (0, .ref (b 0)), (1, .int p1)]) hx hb dX4_unplan_34 rfl hl (by decide) rfl (fun ls hl => ?_)
        refine lv_iconst (v := 0) hx hb dX4_unplan_35 (by decide) ?_
        refine lv_istore_n (lv' := [(3, .int 0), (2, .int 0), (0, .ref (b 0)), (1, .int p1)]) hx hb dX4_unplan_36 rfl hl (by decide) rfl (fun ls hl => ?_)
        exact k_X4_unplan_37 hx hb hr hts hml hown hlocks hK hA _ _ p1 0 0 _ _ _  ls h hP hD hS (lv_sub hl [2, 3, 1, 0] rfl)
      · replace h := oi_f c_26 h
        refine lv_iconst (v := 0) hx hb dX4_unplan_31 (by decide) ?_
        have h9 := Option.some.inj h
        subst h9
        exact W.iret (v := 0) hx hb hr (fun t ht hW => ⟨⟨0, (), rfl, rfl, ⟨by rw [ht]; exact hP, hD⟩⟩, hS.F ht⟩) hS.2.2 dX4_unplan_32 hlocks
