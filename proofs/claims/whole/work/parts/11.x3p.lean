def f_X3_isFrom (p1 : Int32) (p2 : Int32) (p3 : Int32) : Option (Int32) := oi (p2 < p1) (some 0) (oi (p3 < p2) (some 0) (some 1))
theorem hd_X3_isFrom : yX3_isFrom.cls ≠ "java/lang/invoke/MethodHandle" ∧ yX3_isFrom.cls ≠ "java/lang/invoke/VarHandle" ∧ (parseMethodDescriptor yX3_isFrom.desc).map (fun d => d.parameters.length) = some 3 := by decide +kernel
set_option maxHeartbeats 4000000 in
set_option maxRecDepth 100000 in
theorem c_X3_isFrom (l : Launch) (p1 : Int32) (p2 : Int32) (p3 : Int32) {res : Int32} (h : f_X3_isFrom p1 p2 p3 = some res) : Met l yX3_isFrom wsX3_isFrom ({ frames := 0, cells := 0, slots := 0, locals := 0 } : Room) (va_Pc [.int p1, .int p2, .int p3] zT) (vp_Si (fun r => r = res)) 0 0 (fun _ => False) := by
  refine Met.ofW (cc := cX3_isFrom) (maxL := 3) (ret := (some .boolean)) (by decide) rfl ?_
  intro p e s m args below meth c s₁ B hml hv
  obtain ⟨rfl, -⟩ := hv
  have hx := B.exec
  have hb := B.bytes
  have hr := B.returns
  have hts := atoms_spec (ws := wsX3_isFrom) B.pre
  have hown : s.vm.findClass RX3 = some m.cls := findClass_of_methodNamed B.named
  have hlocks := B.notSynchronized
  have hl := lv_entry ([.int p1, .int p2, .int p3]) (n := 3) (Nat.le_of_ble_eq_true rfl)
  rw [lg_entry_eq]
  generalize (lg_sl ([.int p1, .int p2, .int p3]) ++ List.replicate (3 - (lg_sl ([.int p1, .int p2, .int p3])).length) Slot.unset).toArray = ls at hl ⊢
  have hl : lv_has ls 3 [(0, .int p1), (1, .int p2), (2, .int p3)] := hl
  refine lv_iload_n hx hb dX3_isFrom_0 rfl (lv_at hl 1 rfl) ?_
  refine lv_iload_n hx hb dX3_isFrom_1 rfl (lv_at hl 0 rfl) ?_
  refine lv_icmp_lt (tgt := 14) hx hb dX3_isFrom_2 (by decide) (fun c_1 => ?_) (fun c_1 => ?_)
  · replace h := oi_t c_1 h
    refine lv_iconst (v := 0) hx hb dX3_isFrom_14 (by decide) ?_
    have h9 := Option.some.inj h
    exact W.zret (v := 0) hx hb hr (by decide) (fun t ht hW => ⟨0, rfl, h9, ht⟩) (fun _ hq => absurd hq List.not_mem_nil) dX3_isFrom_15 hlocks
  · replace h := oi_f c_1 h
    refine lv_iload_n hx hb dX3_isFrom_5 rfl (lv_at hl 1 rfl) ?_
    refine lv_iload_n hx hb dX3_isFrom_6 rfl (lv_at hl 2 rfl) ?_
    refine lv_icmp_gt (tgt := 14) hx hb dX3_isFrom_7 (by decide) (fun c_2 => ?_) (fun c_2 => ?_)
    · replace h := oi_t c_2 h
      refine lv_iconst (v := 0) hx hb dX3_isFrom_14 (by decide) ?_
      have h9 := Option.some.inj h
      exact W.zret (v := 0) hx hb hr (by decide) (fun t ht hW => ⟨0, rfl, h9, ht⟩) (fun _ hq => absurd hq List.not_mem_nil) dX3_isFrom_15 hlocks
    · replace h := oi_f c_2 h
      refine lv_iconst (v := 1) hx hb dX3_isFrom_10 (by decide) ?_
      refine lv_goto (tgt := 15) hx hb dX3_isFrom_11 (by decide) ?_
      have h9 := Option.some.inj h
      exact W.zret (v := 1) hx hb hr (by decide) (fun t ht hW => ⟨1, rfl, h9, ht⟩) (fun _ hq => absurd hq List.not_mem_nil) dX3_isFrom_15 hlocks
def f_X3_isPlace (p1 : Int32) (p2 : Int32) : Option (Int32) := ob (f_X3_isFrom 0 p1 39) (fun u_1 => oi (u_1 = 0) (some 0) (ob (f_X3_isFrom 0 p2 39) (fun u_4 => oi (u_4 = 0) (some 0) (some 1))))
theorem hd_X3_isPlace : yX3_isPlace.cls ≠ "java/lang/invoke/MethodHandle" ∧ yX3_isPlace.cls ≠ "java/lang/invoke/VarHandle" ∧ (parseMethodDescriptor yX3_isPlace.desc).map (fun d => d.parameters.length) = some 2 := by decide +kernel
set_option maxHeartbeats 4000000 in
set_option maxRecDepth 100000 in
theorem c_X3_isPlace (l : Launch) (p1 : Int32) (p2 : Int32) {res : Int32} (h : f_X3_isPlace p1 p2 = some res) : Met l yX3_isPlace wsX3_isPlace ({ frames := 1, cells := 0, slots := 0, locals := 22 } : Room) (va_Pc [.int p1, .int p2] zT) (vp_Si (fun r => r = res)) 0 0 (fun _ => False) := by
  refine Met.ofW (cc := cX3_isPlace) (maxL := 2) (ret := (some .boolean)) (by decide) rfl ?_
  intro p e s m args below meth c s₁ B hml hv
  obtain ⟨rfl, -⟩ := hv
  have hx := B.exec
  have hb := B.bytes
  have hr := B.returns
  have hts := atoms_spec (ws := wsX3_isPlace) B.pre
  have hown : s.vm.findClass RX3 = some m.cls := findClass_of_methodNamed B.named
  have hlocks := B.notSynchronized
  have hl := lv_entry ([.int p1, .int p2]) (n := 2) (Nat.le_of_ble_eq_true rfl)
  rw [lg_entry_eq]
  generalize (lg_sl ([.int p1, .int p2]) ++ List.replicate (2 - (lg_sl ([.int p1, .int p2])).length) Slot.unset).toArray = ls at hl ⊢
  have hl : lv_has ls 2 [(0, .int p1), (1, .int p2)] := hl
  refine lv_iconst (v := 0) hx hb dX3_isPlace_0 (by decide) ?_
  refine lv_iload_n hx hb dX3_isPlace_1 rfl (lv_at hl 0 rfl) ?_
  refine lv_bipush (v := 39) hx hb dX3_isPlace_2 (by decide) ?_
  obtain ⟨u_1, hg_2, h⟩ := ob_some h
  refine zcSi (W.runS (As := [.int 0, .int p1, .int 39]) (rest := []) ⟨hx, hb, hml, hown, hts⟩ (c_X3_isFrom l 0 p1 39 hg_2) (va_cwS 3 hts gX3_isPlace_X3_isFrom rfl rfl rfl hd_X3_isFrom ⟨Nat.le_of_ble_eq_true rfl, Nat.le_of_ble_eq_true rfl⟩) ⟨zT_blind, zT_at⟩ rfl rfl hl.1 rfl (lv_room (Nat.le_of_ble_eq_true rfl)) dX3_isPlace_4 ⟨Nat.le_of_ble_eq_true rfl, Nat.le_of_ble_eq_true rfl⟩) ?_
  refine lv_if_eq (tgt := 24) hx hb dX3_isPlace_7 (by decide) (fun c_3 => ?_) (fun c_3 => ?_)
  · replace h := oi_t c_3 h
    refine lv_iconst (v := 0) hx hb dX3_isPlace_24 (by decide) ?_
    have h9 := Option.some.inj h
    exact W.zret (v := 0) hx hb hr (by decide) (fun t ht hW => ⟨0, rfl, h9, ht⟩) (fun _ hq => absurd hq List.not_mem_nil) dX3_isPlace_25 hlocks
  · replace h := oi_f c_3 h
    refine lv_iconst (v := 0) hx hb dX3_isPlace_10 (by decide) ?_
    refine lv_iload_n hx hb dX3_isPlace_11 rfl (lv_at hl 1 rfl) ?_
    refine lv_bipush (v := 39) hx hb dX3_isPlace_12 (by decide) ?_
    obtain ⟨u_4, hg_5, h⟩ := ob_some h
    refine zcSi (W.runS (As := [.int 0, .int p2, .int 39]) (rest := []) ⟨hx, hb, hml, hown, hts⟩ (c_X3_isFrom l 0 p2 39 hg_5) (va_cwS 3 hts gX3_isPlace_X3_isFrom rfl rfl rfl hd_X3_isFrom ⟨Nat.le_of_ble_eq_true rfl, Nat.le_of_ble_eq_true rfl⟩) ⟨zT_blind, zT_at⟩ rfl rfl hl.1 rfl (lv_room (Nat.le_of_ble_eq_true rfl)) dX3_isPlace_14 ⟨Nat.le_of_ble_eq_true rfl, Nat.le_of_ble_eq_true rfl⟩) ?_
    refine lv_if_eq (tgt := 24) hx hb dX3_isPlace_17 (by decide) (fun c_6 => ?_) (fun c_6 => ?_)
    · replace h := oi_t c_6 h
      refine lv_iconst (v := 0) hx hb dX3_isPlace_24 (by decide) ?_
      have h9 := Option.some.inj h
      exact W.zret (v := 0) hx hb hr (by decide) (fun t ht hW => ⟨0, rfl, h9, ht⟩) (fun _ hq => absurd hq List.not_mem_nil) dX3_isPlace_25 hlocks
    · replace h := oi_f c_6 h
      refine lv_iconst (v := 1) hx hb dX3_isPlace_20 (by decide) ?_
      refine lv_goto (tgt := 25) hx hb dX3_isPlace_21 (by decide) ?_
      have h9 := Option.some.inj h
      exact W.zret (v := 1) hx hb hr (by decide) (fun t ht hW => ⟨1, rfl, h9, ht⟩) (fun _ hq => absurd hq List.not_mem_nil) dX3_isPlace_25 hlocks
def f_X3_craneNumbered (n : Nat → Nat) (V : XV) (p1 : Int32) : Option ((Option Nat)) := oi (p1 < 0) (some none) (oi (5 ≤ p1) (some none) (og (¬ (p1 < 0 ∨ 5 ≤ (p1).toNatClampNeg)) (oc (n 0) (xref n 0 p1) (some none) (fun k_4 => some (some k_4)))))
theorem hd_X3_craneNumbered : yX3_craneNumbered.cls = RX3 ∧ yX3_craneNumbered.cls ≠ "java/lang/invoke/MethodHandle" ∧ yX3_craneNumbered.cls ≠ "java/lang/invoke/VarHandle" ∧ (parseMethodDescriptor yX3_craneNumbered.desc).map (fun d => d.parameters.length) = some 1 := by decide +kernel
set_option maxHeartbeats 4000000 in
set_option maxRecDepth 100000 in
theorem c_X3_craneNumbered (l : Launch) (D : va_G) (cy : Nat → ClassId) (a : XA) (n : Nat → Nat) (V : XV) (p1 : Int32) {res : (Option Nat)} (h : f_X3_craneNumbered n V p1 = some res) : Met l yX3_craneNumbered wsX3_craneNumbered ({ frames := 0, cells := 0, slots := 0, locals := 0 } : Room) (va_Pc [.ref (a.1 0), .int p1] (xI D cy a n V)) (va_Sq (fun r => r = Option.map (a.2 0) res)) 0 0 (fun _ => False) := by
  refine Met.ofW (cc := cX3_craneNumbered) (maxL := 2) (ret := (some (.object "Cranepool$Crane"))) (by decide) rfl ?_
  intro p e s m args below meth c s₁ B hml hv
  obtain ⟨rfl, hP, hK, hD⟩ := hv
  have hx := B.exec
  have hb := B.bytes
  have hr := B.returns
  have hts := atoms_spec (ws := wsX3_craneNumbered) B.pre
  have hown : s.vm.findClass RX3 = some m.cls := findClass_of_methodNamed B.named
  have hlocks := B.notSynchronized
  have hl := lv_entry ([.ref (a.1 0), .int p1]) (n := 2) (Nat.le_of_ble_eq_true rfl)
  rw [lg_entry_eq]
  generalize (lg_sl ([.ref (a.1 0), .int p1]) ++ List.replicate (2 - (lg_sl ([.ref (a.1 0), .int p1])).length) Slot.unset).toArray = ls at hl ⊢
  have hl : lv_has ls 2 [(0, .ref (a.1 0)), (1, .int p1)] := hl
  have hinX3 : ∀ w ∈ wsX30, w ∈ wsX3_craneNumbered := (fun _ h => (List.mem_cons_of_mem _ (List.mem_append_right _ h)))
  refine lv_iload_n hx hb dX3_craneNumbered_0 rfl (lv_at hl 1 rfl) ?_
  refine lv_if_lt (tgt := 22) hx hb dX3_craneNumbered_1 (by decide) (fun c_1 => ?_) (fun c_1 => ?_)
  · replace h := oi_t c_1 h
    refine lv_null hx hb dX3_craneNumbered_22 ?_
    have h9 := Option.some.inj h
    exact W.aret (v := .null) hx hb hr (Or.inl ⟨_, rfl⟩) (Or.inl rfl) (fun t ht hW => ⟨none, rfl, by rw [← h9]; rfl, ht⟩) (fun _ hq => absurd hq List.not_mem_nil) dX3_craneNumbered_23 hlocks
  · replace h := oi_f c_1 h
    refine lv_iload_n hx hb dX3_craneNumbered_4 rfl (lv_at hl 1 rfl) ?_
    refine lv_aload_n hx hb dX3_craneNumbered_5 rfl (lv_at hl 0 rfl) ?_
    refine va_get (D := D) (ci := 3) (v := .ref (a.1 1)) (C := RX3) (T := TX3) (N := 10) hx hb hts hinX3 hown hK hP 0 rfl rfl 0 (by decide) (hts _ (List.mem_of_getElem? (i := 1) rfl)) (fun _ h9 => h9) rfl dX3_craneNumbered_6 ?_
    refine va_alen (v := 5) hx hb hK hP 1 4 rfl rfl rfl dX3_craneNumbered_9 ?_
    refine lv_icmp_ge (tgt := 22) hx hb dX3_craneNumbered_10 (by decide) (fun c_2 => ?_) (fun c_2 => ?_)
    · replace h := oi_t c_2 h
      refine lv_null hx hb dX3_craneNumbered_22 ?_
      have h9 := Option.some.inj h
      exact W.aret (v := .null) hx hb hr (Or.inl ⟨_, rfl⟩) (Or.inl rfl) (fun t ht hW => ⟨none, rfl, by rw [← h9]; rfl, ht⟩) (fun _ hq => absurd hq List.not_mem_nil) dX3_craneNumbered_23 hlocks
    · replace h := oi_f c_2 h
      refine lv_aload_n hx hb dX3_craneNumbered_13 rfl (lv_at hl 0 rfl) ?_
      refine va_get (D := D) (ci := 3) (v := .ref (a.1 1)) (C := RX3) (T := TX3) (N := 10) hx hb hts hinX3 hown hK hP 0 rfl rfl 0 (by decide) (hts _ (List.mem_of_getElem? (i := 1) rfl)) (fun _ h9 => h9) rfl dX3_craneNumbered_14 ?_
      refine lv_iload_n hx hb dX3_craneNumbered_17 rfl (lv_at hl 1 rfl) ?_
      obtain ⟨g_3, h⟩ := og_some h
      rcases oc_some h with ⟨o_5, h⟩ | ⟨k_4, hk_4, o_5, h⟩
      · refine zaldn hx hb hK hP 1 4 rfl rfl g_3 o_5 dX3_craneNumbered_18 ?_
        refine lv_goto (tgt := 23) hx hb dX3_craneNumbered_19 (by decide) ?_
        have h9 := Option.some.inj h
        exact W.aret (v := .null) hx hb hr (Or.inl ⟨_, rfl⟩) (Or.inl rfl) (fun t ht hW => ⟨none, rfl, by rw [← h9]; rfl, ht⟩) (fun _ hq => absurd hq List.not_mem_nil) dX3_craneNumbered_23 hlocks
      · refine zalds hx hb hK hP 1 4 rfl rfl g_3 o_5 dX3_craneNumbered_18 ?_
        refine lv_goto (tgt := 23) hx hb dX3_craneNumbered_19 (by decide) ?_
        have h9 := Option.some.inj h
        exact W.aret (v := .ref (a.2 0 k_4)) hx hb hr (Or.inl ⟨_, rfl⟩) (Or.inr ⟨_, rfl⟩) (fun t ht hW => ⟨some (a.2 0 k_4), rfl, by rw [← h9]; rfl, ht⟩) (fun _ hq => absurd hq List.not_mem_nil) dX3_craneNumbered_23 hlocks
def f_X3_areHours (p1 : Int32) (p2 : Int32) : Option (Int32) := ob (f_X3_isFrom 0 p1 23) (fun u_1 => oi (u_1 = 0) (some 0) (ob (f_X3_isFrom 1 p2 (24 - p1)) (fun u_4 => oi (u_4 = 0) (some 0) (some 1))))
theorem hd_X3_areHours : yX3_areHours.cls ≠ "java/lang/invoke/MethodHandle" ∧ yX3_areHours.cls ≠ "java/lang/invoke/VarHandle" ∧ (parseMethodDescriptor yX3_areHours.desc).map (fun d => d.parameters.length) = some 2 := by decide +kernel
set_option maxHeartbeats 4000000 in
set_option maxRecDepth 100000 in
theorem c_X3_areHours (l : Launch) (p1 : Int32) (p2 : Int32) {res : Int32} (h : f_X3_areHours p1 p2 = some res) : Met l yX3_areHours wsX3_areHours ({ frames := 1, cells := 0, slots := 0, locals := 22 } : Room) (va_Pc [.int p1, .int p2] zT) (vp_Si (fun r => r = res)) 0 0 (fun _ => False) := by
  refine Met.ofW (cc := cX3_areHours) (maxL := 2) (ret := (some .boolean)) (by decide) rfl ?_
  intro p e s m args below meth c s₁ B hml hv
  obtain ⟨rfl, -⟩ := hv
  have hx := B.exec
  have hb := B.bytes
  have hr := B.returns
  have hts := atoms_spec (ws := wsX3_areHours) B.pre
  have hown : s.vm.findClass RX3 = some m.cls := findClass_of_methodNamed B.named
  have hlocks := B.notSynchronized
  have hl := lv_entry ([.int p1, .int p2]) (n := 2) (Nat.le_of_ble_eq_true rfl)
  rw [lg_entry_eq]
  generalize (lg_sl ([.int p1, .int p2]) ++ List.replicate (2 - (lg_sl ([.int p1, .int p2])).length) Slot.unset).toArray = ls at hl ⊢
  have hl : lv_has ls 2 [(0, .int p1), (1, .int p2)] := hl
  refine lv_iconst (v := 0) hx hb dX3_areHours_0 (by decide) ?_
  refine lv_iload_n hx hb dX3_areHours_1 rfl (lv_at hl 0 rfl) ?_
  refine lv_bipush (v := 23) hx hb dX3_areHours_2 (by decide) ?_
  obtain ⟨u_1, hg_2, h⟩ := ob_some h
  refine zcSi (W.runS (As := [.int 0, .int p1, .int 23]) (rest := []) ⟨hx, hb, hml, hown, hts⟩ (c_X3_isFrom l 0 p1 23 hg_2) (va_cwS 3 hts gX3_areHours_X3_isFrom rfl rfl rfl hd_X3_isFrom ⟨Nat.le_of_ble_eq_true rfl, Nat.le_of_ble_eq_true rfl⟩) ⟨zT_blind, zT_at⟩ rfl rfl hl.1 rfl (lv_room (Nat.le_of_ble_eq_true rfl)) dX3_areHours_4 ⟨Nat.le_of_ble_eq_true rfl, Nat.le_of_ble_eq_true rfl⟩) ?_
  refine lv_if_eq (tgt := 26) hx hb dX3_areHours_7 (by decide) (fun c_3 => ?_) (fun c_3 => ?_)
  · replace h := oi_t c_3 h
    refine lv_iconst (v := 0) hx hb dX3_areHours_26 (by decide) ?_
    have h9 := Option.some.inj h
    exact W.zret (v := 0) hx hb hr (by decide) (fun t ht hW => ⟨0, rfl, h9, ht⟩) (fun _ hq => absurd hq List.not_mem_nil) dX3_areHours_27 hlocks
  · replace h := oi_f c_3 h
    refine lv_iconst (v := 1) hx hb dX3_areHours_10 (by decide) ?_
    refine lv_iload_n hx hb dX3_areHours_11 rfl (lv_at hl 1 rfl) ?_
    refine lv_bipush (v := 24) hx hb dX3_areHours_12 (by decide) ?_
    refine lv_iload_n hx hb dX3_areHours_14 rfl (lv_at hl 0 rfl) ?_
    refine lv_isub hx hb dX3_areHours_15 ?_
    obtain ⟨u_4, hg_5, h⟩ := ob_some h
    refine zcSi (W.runS (As := [.int 1, .int p2, .int (24 - p1)]) (rest := []) ⟨hx, hb, hml, hown, hts⟩ (c_X3_isFrom l 1 p2 (24 - p1) hg_5) (va_cwS 3 hts gX3_areHours_X3_isFrom rfl rfl rfl hd_X3_isFrom ⟨Nat.le_of_ble_eq_true rfl, Nat.le_of_ble_eq_true rfl⟩) ⟨zT_blind, zT_at⟩ rfl rfl hl.1 rfl (lv_room (Nat.le_of_ble_eq_true rfl)) dX3_areHours_16 ⟨Nat.le_of_ble_eq_true rfl, Nat.le_of_ble_eq_true rfl⟩) ?_
    refine lv_if_eq (tgt := 26) hx hb dX3_areHours_19 (by decide) (fun c_6 => ?_) (fun c_6 => ?_)
    · replace h := oi_t c_6 h
      refine lv_iconst (v := 0) hx hb dX3_areHours_26 (by decide) ?_
      have h9 := Option.some.inj h
      exact W.zret (v := 0) hx hb hr (by decide) (fun t ht hW => ⟨0, rfl, h9, ht⟩) (fun _ hq => absurd hq List.not_mem_nil) dX3_areHours_27 hlocks
    · replace h := oi_f c_6 h
      refine lv_iconst (v := 1) hx hb dX3_areHours_22 (by decide) ?_
      refine lv_goto (tgt := 27) hx hb dX3_areHours_23 (by decide) ?_
      have h9 := Option.some.inj h
      exact W.zret (v := 1) hx hb hr (by decide) (fun t ht hW => ⟨1, rfl, h9, ht⟩) (fun _ hq => absurd hq List.not_mem_nil) dX3_areHours_27 hlocks
def f_X3_bitsOfHours (p1 : Int32) (p2 : Int32) : Option (Int32) := some (((1 <<< (p2 &&& 31)) - 1) <<< (p1 &&& 31))
theorem hd_X3_bitsOfHours : yX3_bitsOfHours.cls ≠ "java/lang/invoke/MethodHandle" ∧ yX3_bitsOfHours.cls ≠ "java/lang/invoke/VarHandle" ∧ (parseMethodDescriptor yX3_bitsOfHours.desc).map (fun d => d.parameters.length) = some 2 := by decide +kernel
set_option maxHeartbeats 4000000 in
set_option maxRecDepth 100000 in
theorem c_X3_bitsOfHours (l : Launch) (p1 : Int32) (p2 : Int32) {res : Int32} (h : f_X3_bitsOfHours p1 p2 = some res) : Met l yX3_bitsOfHours wsX3_bitsOfHours ({ frames := 0, cells := 0, slots := 0, locals := 0 } : Room) (va_Pc [.int p1, .int p2] zT) (vp_Si (fun r => r = res)) 0 0 (fun _ => False) := by
  refine Met.ofW (cc := cX3_bitsOfHours) (maxL := 2) (ret := (some .int)) (by decide) rfl ?_
  intro p e s m args below meth c s₁ B hml hv
  obtain ⟨rfl, -⟩ := hv
  have hx := B.exec
  have hb := B.bytes
  have hr := B.returns
  have hts := atoms_spec (ws := wsX3_bitsOfHours) B.pre
  have hown : s.vm.findClass RX3 = some m.cls := findClass_of_methodNamed B.named
  have hlocks := B.notSynchronized
  have hl := lv_entry ([.int p1, .int p2]) (n := 2) (Nat.le_of_ble_eq_true rfl)
  rw [lg_entry_eq]
  generalize (lg_sl ([.int p1, .int p2]) ++ List.replicate (2 - (lg_sl ([.int p1, .int p2])).length) Slot.unset).toArray = ls at hl ⊢
  have hl : lv_has ls 2 [(0, .int p1), (1, .int p2)] := hl
  refine lv_iconst (v := 1) hx hb dX3_bitsOfHours_0 (by decide) ?_
  refine lv_iload_n hx hb dX3_bitsOfHours_1 rfl (lv_at hl 1 rfl) ?_
  refine lv_ishl hx hb dX3_bitsOfHours_2 ?_
  refine lv_iconst (v := 1) hx hb dX3_bitsOfHours_3 (by decide) ?_
  refine lv_isub hx hb dX3_bitsOfHours_4 ?_
  refine lv_iload_n hx hb dX3_bitsOfHours_5 rfl (lv_at hl 0 rfl) ?_
  refine lv_ishl hx hb dX3_bitsOfHours_6 ?_
  have h9 := Option.some.inj h
  exact W.iret (v := ((1 <<< (p2 &&& 31)) - 1) <<< (p1 &&& 31)) hx hb hr (fun t ht hW => ⟨((1 <<< (p2 &&& 31)) - 1) <<< (p1 &&& 31), rfl, h9, ht⟩) (fun _ hq => absurd hq List.not_mem_nil) dX3_bitsOfHours_7 hlocks
def f_X3_stillFits (n : Nat → Nat) (V : XV) (p1 : Nat) : Option (Int32) := ob (f_X3_craneNumbered n V (V.1 1 p1 9)) (fun u_1 => oc (n 0) u_1 (some 0) (fun k_3 => ob (f_X0_bearsAtEnds n V k_3 p1 (V.2.2.1 6)) (fun u_5 => oi (u_5 = 0) (some 0) (ob (f_X1_end n V p1) (fun u_8 => ob (f_X0_lastClosedHour n V k_3 (V.1 1 p1 10) u_8) (fun u_10 => oi (u_10 = (-1)) (some 1) (some 0)))))))
theorem hd_X3_stillFits : yX3_stillFits.cls = RX3 ∧ yX3_stillFits.cls ≠ "java/lang/invoke/MethodHandle" ∧ yX3_stillFits.cls ≠ "java/lang/invoke/VarHandle" ∧ (parseMethodDescriptor yX3_stillFits.desc).map (fun d => d.parameters.length) = some 1 := by decide +kernel
set_option maxHeartbeats 4000000 in
set_option maxRecDepth 100000 in
theorem c_X3_stillFits (l : Launch) (D : va_G) (cy : Nat → ClassId) (a : XA) (n : Nat → Nat) (V : XV) (p1 : Nat) (hp1 : p1 < n 1) {res : Int32} (h : f_X3_stillFits n V p1 = some res) : Met l yX3_stillFits wsX3_stillFits ({ frames := 3, cells := 0, slots := 0, locals := 87 } : Room) (va_Pc [.ref (a.1 0), .ref (a.2 1 p1)] (xI D cy a n V)) (vp_Si (fun r => r = res)) 0 0 (fun _ => False) := by
  refine Met.ofW (cc := cX3_stillFits) (maxL := 3) (ret := (some .boolean)) (by decide) rfl ?_
  intro p e s m args below meth c s₁ B hml hv
  obtain ⟨rfl, hP, hK, hD⟩ := hv
  have hx := B.exec
  have hb := B.bytes
  have hr := B.returns
  have hts := atoms_spec (ws := wsX3_stillFits) B.pre
  have hown : s.vm.findClass RX3 = some m.cls := findClass_of_methodNamed B.named
  have hlocks := B.notSynchronized
  have hl := lv_entry ([.ref (a.1 0), .ref (a.2 1 p1)]) (n := 3) (Nat.le_of_ble_eq_true rfl)
  rw [lg_entry_eq]
  generalize (lg_sl ([.ref (a.1 0), .ref (a.2 1 p1)]) ++ List.replicate (3 - (lg_sl ([.ref (a.1 0), .ref (a.2 1 p1)])).length) Slot.unset).toArray = ls at hl ⊢
  have hl : lv_has ls 3 [(0, .ref (a.1 0)), (1, .ref (a.2 1 p1))] := hl
  have hinX1 : ∀ w ∈ wsX10, w ∈ wsX3_stillFits := (fun _ h => (List.mem_cons_of_mem _ (List.mem_append_left _ (List.mem_append_left _ (List.mem_append_left _ (List.mem_append_right _ h))))))
  have hinX3 : ∀ w ∈ wsX30, w ∈ wsX3_stillFits := (fun _ h => (List.mem_cons_of_mem _ (List.mem_append_left _ (List.mem_append_left _ (List.mem_append_right _ h)))))
  refine lv_aload_n hx hb dX3_stillFits_0 rfl (lv_at hl 0 rfl) ?_
  refine lv_aload_n hx hb dX3_stillFits_1 rfl (lv_at hl 1 rfl) ?_
  refine va_get (D := D) (ci := 1) (v := .int (V.1 1 p1 9)) (C := RX1) (T := TX1) (N := 11) hx hb hts hinX1 hown hK hP _ (xpos_li hp1) rfl 9 (by decide) (hts _ (List.mem_of_getElem? (i := 1) rfl)) (fun _ h9 => h9) rfl dX3_stillFits_2 ?_
  obtain ⟨u_1, hg_2, h⟩ := ob_some h
  rcases oc_some h with ⟨o_4, h⟩ | ⟨k_3, hk_3, o_4, h⟩
  · refine zcSqn (W.runV (As := [.int (V.1 1 p1 9)]) (rest := []) ⟨hx, hb, hml, hown, hts⟩ (c_X3_craneNumbered l D cy a n V (V.1 1 p1 9) hg_2) (cwV 1 hts gX3_stillFits_X3_craneNumbered rfl rfl rfl hd_X3_craneNumbered ⟨Nat.le_of_ble_eq_true rfl, Nat.le_of_ble_eq_true rfl⟩) ⟨xI_blind, va_recv hK hP (ci := 3) (q0 := 0) rfl rfl, (xI_at hP hK hD)⟩ rfl rfl hl.1 rfl (lv_room (Nat.le_of_ble_eq_true rfl)) dX3_stillFits_5 ⟨Nat.le_of_ble_eq_true rfl, Nat.le_of_ble_eq_true rfl⟩) o_4 ?_
    refine lv_astore_nN (lv' := [(2, .null), (0, .ref (a.1 0)), (1, .ref (a.2 1 p1))]) hx hb dX3_stillFits_8 rfl hl (by decide) rfl (fun ls hl => ?_)
    refine lv_aload_nN hx hb dX3_stillFits_9 rfl (lv_at hl 0 rfl) ?_
    refine lv_ifnullN (tgt := 45) hx hb dX3_stillFits_10 (by decide) ?_
    refine lv_iconst (v := 0) hx hb dX3_stillFits_45 (by decide) ?_
    have h9 := Option.some.inj h
    exact W.zret (v := 0) hx hb hr (by decide) (fun t ht hW => ⟨0, rfl, h9, ht⟩) (fun _ hq => absurd hq List.not_mem_nil) dX3_stillFits_46 hlocks
  · refine zcSqs (W.runV (As := [.int (V.1 1 p1 9)]) (rest := []) ⟨hx, hb, hml, hown, hts⟩ (c_X3_craneNumbered l D cy a n V (V.1 1 p1 9) hg_2) (cwV 1 hts gX3_stillFits_X3_craneNumbered rfl rfl rfl hd_X3_craneNumbered ⟨Nat.le_of_ble_eq_true rfl, Nat.le_of_ble_eq_true rfl⟩) ⟨xI_blind, va_recv hK hP (ci := 3) (q0 := 0) rfl rfl, (xI_at hP hK hD)⟩ rfl rfl hl.1 rfl (lv_room (Nat.le_of_ble_eq_true rfl)) dX3_stillFits_5 ⟨Nat.le_of_ble_eq_true rfl, Nat.le_of_ble_eq_true rfl⟩) o_4 ?_
    refine lv_astore_n (lv' := [(2, .ref (a.2 0 k_3)), (0, .ref (a.1 0)), (1, .ref (a.2 1 p1))]) hx hb dX3_stillFits_8 rfl hl (by decide) rfl (fun ls hl => ?_)
    refine lv_aload_n hx hb dX3_stillFits_9 rfl (lv_at hl 0 rfl) ?_
    refine lv_ifnull hx hb dX3_stillFits_10 ?_
    refine lv_aload_n hx hb dX3_stillFits_13 rfl (lv_at hl 0 rfl) ?_
    refine lv_aload_n hx hb dX3_stillFits_14 rfl (lv_at hl 2 rfl) ?_
    refine lv_aload_n hx hb dX3_stillFits_15 rfl (lv_at hl 1 rfl) ?_
    refine va_get (D := D) (ci := 3) (v := .int (V.2.2.1 6)) (C := RX3) (T := TX3) (N := 10) hx hb hts hinX3 hown hK hP 0 rfl rfl 6 (by decide) (hts _ (List.mem_of_getElem? (i := 2) rfl)) (fun _ h9 => h9) rfl dX3_stillFits_16 ?_
    obtain ⟨u_5, hg_6, h⟩ := ob_some h
    refine zcSi (W.runV (As := [.ref (a.2 1 p1), .int (V.2.2.1 6)]) (rest := []) ⟨hx, hb, hml, hown, hts⟩ (c_X0_bearsAtEnds l D cy a n V k_3 p1 (V.2.2.1 6) hk_3 hp1 hg_6) (cwV 2 hts gX3_stillFits_X0_bearsAtEnds rfl rfl rfl hd_X0_bearsAtEnds ⟨Nat.le_of_ble_eq_true rfl, Nat.le_of_ble_eq_true rfl⟩) ⟨xI_blind, va_recv hK hP (ci := 0) rfl (xpos_cr hk_3), (xI_at hP hK hD)⟩ rfl rfl hl.1 rfl (lv_room (Nat.le_of_ble_eq_true rfl)) dX3_stillFits_19 ⟨Nat.le_of_ble_eq_true rfl, Nat.le_of_ble_eq_true rfl⟩) ?_
    refine lv_if_eq (tgt := 45) hx hb dX3_stillFits_22 (by decide) (fun c_7 => ?_) (fun c_7 => ?_)
    · replace h := oi_t c_7 h
      refine lv_iconst (v := 0) hx hb dX3_stillFits_45 (by decide) ?_
      have h9 := Option.some.inj h
      exact W.zret (v := 0) hx hb hr (by decide) (fun t ht hW => ⟨0, rfl, h9, ht⟩) (fun _ hq => absurd hq List.not_mem_nil) dX3_stillFits_46 hlocks
    · replace h := oi_f c_7 h
      refine lv_aload_n hx hb dX3_stillFits_25 rfl (lv_at hl 0 rfl) ?_
      refine lv_aload_n hx hb dX3_stillFits_26 rfl (lv_at hl 2 rfl) ?_
      refine va_get (D := D) (ci := 1) (v := .int (V.1 1 p1 10)) (C := RX1) (T := TX1) (N := 11) hx hb hts hinX1 hown hK hP _ (xpos_li hp1) rfl 10 (by decide) (hts _ (List.mem_of_getElem? (i := 3) rfl)) (fun _ h9 => h9) rfl dX3_stillFits_27 ?_
      refine lv_aload_n hx hb dX3_stillFits_30 rfl (lv_at hl 2 rfl) ?_
      obtain ⟨u_8, hg_9, h⟩ := ob_some h
      refine zcSi (W.runV (As := []) (rest := [.int (V.1 1 p1 10), .ref (a.2 0 k_3)]) ⟨hx, hb, hml, hown, hts⟩ (c_X1_end l D cy a n V p1 hp1 hg_9) (cwV 0 hts gX3_stillFits_X1_end rfl rfl rfl hd_X1_end ⟨Nat.le_of_ble_eq_true rfl, Nat.le_of_ble_eq_true rfl⟩) ⟨xI_blind, va_recv hK hP (ci := 1) rfl (xpos_li hp1), (xI_at hP hK hD)⟩ rfl rfl hl.1 rfl (lv_room (Nat.le_of_ble_eq_true rfl)) dX3_stillFits_31 ⟨Nat.le_of_ble_eq_true rfl, Nat.le_of_ble_eq_true rfl⟩) ?_
      obtain ⟨u_10, hg_11, h⟩ := ob_some h
      refine zcSi (W.runV (As := [.int (V.1 1 p1 10), .int u_8]) (rest := []) ⟨hx, hb, hml, hown, hts⟩ (c_X0_lastClosedHour l D cy a n V k_3 (V.1 1 p1 10) u_8 hk_3 hg_11) (cwV 2 hts gX3_stillFits_X0_lastClosedHour rfl rfl rfl hd_X0_lastClosedHour ⟨Nat.le_of_ble_eq_true rfl, Nat.le_of_ble_eq_true rfl⟩) ⟨xI_blind, va_recv hK hP (ci := 0) rfl (xpos_cr hk_3), (xI_at hP hK hD)⟩ rfl rfl hl.1 rfl (lv_room (Nat.le_of_ble_eq_true rfl)) dX3_stillFits_34 ⟨Nat.le_of_ble_eq_true rfl, Nat.le_of_ble_eq_true rfl⟩) ?_
      refine lv_iconst (v := (-1)) hx hb dX3_stillFits_37 (by decide) ?_
      refine lv_icmp_ne (tgt := 45) hx hb dX3_stillFits_38 (by decide) (fun c_12 => ?_) (fun c_12 => ?_)
      · replace h := oi_f c_12 h
        refine lv_iconst (v := 0) hx hb dX3_stillFits_45 (by decide) ?_
        have h9 := Option.some.inj h
        exact W.zret (v := 0) hx hb hr (by decide) (fun t ht hW => ⟨0, rfl, h9, ht⟩) (fun _ hq => absurd hq List.not_mem_nil) dX3_stillFits_46 hlocks
      · replace h := oi_t c_12 h
        refine lv_iconst (v := 1) hx hb dX3_stillFits_41 (by decide) ?_
        refine lv_goto (tgt := 46) hx hb dX3_stillFits_42 (by decide) ?_
        have h9 := Option.some.inj h
        exact W.zret (v := 1) hx hb hr (by decide) (fun t ht hW => ⟨1, rfl, h9, ht⟩) (fun _ hq => absurd hq List.not_mem_nil) dX3_stillFits_46 hlocks
def f_X3_takeBackUnfit_13 (n : Nat → Nat) : XV → Nat → Int32 → Int32 → Int32 → Option (Int32 × XV)
  | _, 0, _, _, _ => none
  | V, fu + 1, zx1, zx3, zx4 => oi (zx3 ≤ zx4) (some (zx1, V)) (og (¬ (zx4 < 0 ∨ 40 ≤ (zx4).toNatClampNeg)) (oc (n 1) (xref n 1 zx4) (f_X3_takeBackUnfit_13 n V fu zx1 zx3 (zx4 + 1)) (fun k_3 => oi ((V.1 1 k_3 8) = 112) (ob (f_X3_stillFits n V k_3) (fun u_6 => oi (u_6 = 0) (ob (f_X1_takeBack n V k_3) (fun u_9 => f_X3_takeBackUnfit_13 n u_9 fu (zx1 + 1) zx3 (zx4 + 1))) (f_X3_takeBackUnfit_13 n V fu zx1 zx3 (zx4 + 1)))) (f_X3_takeBackUnfit_13 n V fu zx1 zx3 (zx4 + 1)))))
def f_X3_takeBackUnfit (n : Nat → Nat) (V : XV)  : Option (Int32 × XV) := f_X3_takeBackUnfit_13 n V FU 0 40 0
theorem hd_X3_takeBackUnfit : yX3_takeBackUnfit.cls = RX3 ∧ yX3_takeBackUnfit.cls ≠ "java/lang/invoke/MethodHandle" ∧ yX3_takeBackUnfit.cls ≠ "java/lang/invoke/VarHandle" ∧ (parseMethodDescriptor yX3_takeBackUnfit.desc).map (fun d => d.parameters.length) = some 0 := by decide +kernel
set_option maxHeartbeats 4000000 in
set_option maxRecDepth 100000 in
theorem k_X3_takeBackUnfit_13 {p : Program} {l : Launch} {e : Env} {s : State} {m : MethodId} {args : Array Value} {below : List Frame} {meth : Method} {c : Code} {D : va_G} {cy : Nat → ClassId} {a : XA} {n : Nat → Nat} {A : Nat → Prop} (hx : p.tables.exec = Jvm.exec) (hb : c.code = cX3_takeBackUnfit) (hr : meth.sig.returnType = (some .int)) (hts : ∀ w ∈ wsX3_takeBackUnfit, w.before args s = true) (hml : c.maxLocals = 6) (hown : s.vm.findClass RX3 = some m.cls) (hlocks : meth.locks = false) (hK : va_K D xcl (xty cy) s) (hA : ∀ q, s.heap.size ≤ q → A q) (res : Int32 × XV) : ∀ (fu : Nat) (zx1 : Int32) (zx3 : Int32) (zx4 : Int32) (V : XV) (H : Heap) (locs : List Loc)  (ls : Array Slot), f_X3_takeBackUnfit_13 n V fu zx1 zx3 zx4 = some res → va_P D xcl (xW cy a n V) H → va_D A (xW cy a n V) → va_S A s.heap H locs → lv_has ls 6 [(0, .ref (a.1 0)), (1, .int zx1), (2, .ref (a.1 2)), (3, .int zx3), (4, .int zx4)] → W p l e ({ frames := 4, cells := 0, slots := 0, locals := 109 } : Room) s m args below meth c H locs 0 0 (MQ below (va_Qi (fun r (_ : Unit) => r = res.1) (fun _ t => va_P D xcl (xW cy a n res.2) t.heap ∧ va_D A (xW cy a n res.2)) A) args s 0 0 (A)) (F0 m 13 ls []) := by
  have hinX1 : ∀ w ∈ wsX10, w ∈ wsX3_takeBackUnfit := (fun _ h => (List.mem_cons_of_mem _ (List.mem_append_left _ (List.mem_append_left _ (List.mem_append_right _ h)))))
  intro fu
  induction fu with
  | zero =>
    intro zx1 zx3 zx4 V H locs  ls h hP hD hS hl
    cases h
  | succ fu ih =>
    intro zx1 zx3 zx4 V H locs  ls h hP hD hS hl
    refine lv_iload hx hb dX3_takeBackUnfit_13 (lv_at hl 4 rfl) ?_
    refine lv_iload_n hx hb dX3_takeBackUnfit_15 rfl (lv_at hl 3 rfl) ?_
    refine lv_icmp_ge (tgt := 63) hx hb dX3_takeBackUnfit_16 (by decide) (fun c_1 => ?_) (fun c_1 => ?_)
    · replace h := oi_t c_1 h
      refine lv_iload_n hx hb dX3_takeBackUnfit_63 rfl (lv_at hl 1 rfl) ?_
      have h9 := Option.some.inj h
      subst h9
      exact W.iret (v := zx1) hx hb hr (fun t ht hW => ⟨⟨zx1, (), rfl, rfl, ⟨by rw [ht]; exact hP, hD⟩⟩, hS.F ht⟩) hS.2.2 dX3_takeBackUnfit_64 hlocks
    · replace h := oi_f c_1 h
      refine lv_aload_n hx hb dX3_takeBackUnfit_19 rfl (lv_at hl 2 rfl) ?_
      refine lv_iload hx hb dX3_takeBackUnfit_20 (lv_at hl 4 rfl) ?_
      obtain ⟨g_2, h⟩ := og_some h
      rcases oc_some h with ⟨o_4, h⟩ | ⟨k_3, hk_3, o_4, h⟩
      · refine zaldn hx hb hK hP 2 5 rfl rfl g_2 o_4 dX3_takeBackUnfit_22 ?_
        refine lv_astoreN (lv' := [(5, .null), (0, .ref (a.1 0)), (1, .int zx1), (2, .ref (a.1 2)), (3, .int zx3), (4, .int zx4)]) hx hb dX3_takeBackUnfit_23 hl (by decide) rfl (fun ls hl => ?_)
        refine lv_aloadN hx hb dX3_takeBackUnfit_25 (lv_at hl 0 rfl) ?_
        refine lv_ifnullN (tgt := 57) hx hb dX3_takeBackUnfit_27 (by decide) ?_
        refine lv_iinc (v := zx4 + 1) (lv' := [(4, .int (zx4 + 1)), (5, .null), (0, .ref (a.1 0)), (1, .int zx1), (2, .ref (a.1 2)), (3, .int zx3)]) hx hb dX3_takeBackUnfit_57 hl (k := 5) rfl rfl (by decide) rfl (fun ls hl => ?_)
        refine lv_goto (tgt := 13) hx hb dX3_takeBackUnfit_60 (by decide) ?_
        exact ih zx1 zx3 (zx4 + 1) _ _ _  ls h hP hD hS (lv_sub hl [2, 3, 4, 5, 0] rfl)
      · refine zalds hx hb hK hP 2 5 rfl rfl g_2 o_4 dX3_takeBackUnfit_22 ?_
        refine lv_astore (lv' := [(5, .ref (a.2 1 k_3)), (0, .ref (a.1 0)), (1, .int zx1), (2, .ref (a.1 2)), (3, .int zx3), (4, .int zx4)]) hx hb dX3_takeBackUnfit_23 hl (by decide) rfl (fun ls hl => ?_)
        refine lv_aload hx hb dX3_takeBackUnfit_25 (lv_at hl 0 rfl) ?_
        refine lv_ifnull hx hb dX3_takeBackUnfit_27 ?_
        refine lv_aload hx hb dX3_takeBackUnfit_30 (lv_at hl 0 rfl) ?_
        refine va_get (D := D) (ci := 1) (v := .int (V.1 1 k_3 8)) (C := RX1) (T := TX1) (N := 11) hx hb hts hinX1 hown hK hP _ (xpos_li hk_3) rfl 8 (by decide) (hts _ (List.mem_of_getElem? (i := 2) rfl)) (fun _ h9 => h9) rfl dX3_takeBackUnfit_32 ?_
        refine lv_bipush (v := 112) hx hb dX3_takeBackUnfit_35 (by decide) ?_
        refine lv_icmp_ne (tgt := 57) hx hb dX3_takeBackUnfit_37 (by decide) (fun c_5 => ?_) (fun c_5 => ?_)
        · replace h := oi_f c_5 h
          refine lv_iinc (v := zx4 + 1) (lv' := [(4, .int (zx4 + 1)), (5, .ref (a.2 1 k_3)), (0, .ref (a.1 0)), (1, .int zx1), (2, .ref (a.1 2)), (3, .int zx3)]) hx hb dX3_takeBackUnfit_57 hl (k := 5) rfl rfl (by decide) rfl (fun ls hl => ?_)
          refine lv_goto (tgt := 13) hx hb dX3_takeBackUnfit_60 (by decide) ?_
          exact ih zx1 zx3 (zx4 + 1) _ _ _  ls h hP hD hS (lv_sub hl [2, 3, 4, 5, 0] rfl)
        · replace h := oi_t c_5 h
          refine lv_aload_n hx hb dX3_takeBackUnfit_40 rfl (lv_at hl 1 rfl) ?_
          refine lv_aload hx hb dX3_takeBackUnfit_41 (lv_at hl 0 rfl) ?_
          obtain ⟨u_6, hg_7, h⟩ := ob_some h
          refine zcSi (W.runV (As := [.ref (a.2 1 k_3)]) (rest := []) ⟨hx, hb, hml, hown, hts⟩ (c_X3_stillFits l D cy a n V k_3 hk_3 hg_7) (cwV 1 hts gX3_takeBackUnfit_X3_stillFits rfl rfl rfl hd_X3_stillFits ⟨Nat.le_of_ble_eq_true rfl, Nat.le_of_ble_eq_true rfl⟩) ⟨xI_blind, va_recv hK hP (ci := 3) (q0 := 0) rfl rfl, (xI_at hP hK hD)⟩ rfl rfl hl.1 rfl (lv_room (Nat.le_of_ble_eq_true rfl)) dX3_takeBackUnfit_43 ⟨Nat.le_of_ble_eq_true rfl, Nat.le_of_ble_eq_true rfl⟩) ?_
          refine lv_if_ne (tgt := 57) hx hb dX3_takeBackUnfit_46 (by decide) (fun c_8 => ?_) (fun c_8 => ?_)
          · replace h := oi_f c_8 h
            refine lv_iinc (v := zx4 + 1) (lv' := [(4, .int (zx4 + 1)), (5, .ref (a.2 1 k_3)), (0, .ref (a.1 0)), (1, .int zx1), (2, .ref (a.1 2)), (3, .int zx3)]) hx hb dX3_takeBackUnfit_57 hl (k := 5) rfl rfl (by decide) rfl (fun ls hl => ?_)
            refine lv_goto (tgt := 13) hx hb dX3_takeBackUnfit_60 (by decide) ?_
            exact ih zx1 zx3 (zx4 + 1) _ _ _  ls h hP hD hS (lv_sub hl [2, 3, 4, 5, 0] rfl)
          · replace h := oi_t c_8 h
            refine lv_aload hx hb dX3_takeBackUnfit_49 (lv_at hl 0 rfl) ?_
            obtain ⟨u_9, hg_10, h⟩ := ob_some h
            refine zcWv (va_runV (As := []) (rest := []) ⟨hx, hb, hml, hown, hts⟩ (c_X1_takeBack l D cy a n V _ k_3 hk_3 hg_10) (cwV 0 hts gX3_takeBackUnfit_X1_takeBack rfl rfl rfl hd_X1_takeBack ⟨Nat.le_of_ble_eq_true rfl, Nat.le_of_ble_eq_true rfl⟩) ⟨(zJ_blind xI_blind), va_recv hK hP (ci := 1) rfl (xpos_li hk_3), (zJ_at (xI_at hP hK hD))⟩ rfl rfl hl.1 rfl (lv_room (Nat.le_of_ble_eq_true rfl)) dX3_takeBackUnfit_51 ⟨Nat.le_of_ble_eq_true rfl, Nat.le_of_ble_eq_true rfl⟩) hS (z_free hD hS hA) (fun H locs hP hD hS => ?_)
            refine lv_iinc (v := zx1 + 1) (lv' := [(1, .int (zx1 + 1)), (5, .ref (a.2 1 k_3)), (0, .ref (a.1 0)), (2, .ref (a.1 2)), (3, .int zx3), (4, .int zx4)]) hx hb dX3_takeBackUnfit_54 hl (k := 2) rfl rfl (by decide) rfl (fun ls hl => ?_)
            refine lv_iinc (v := zx4 + 1) (lv' := [(4, .int (zx4 + 1)), (1, .int (zx1 + 1)), (5, .ref (a.2 1 k_3)), (0, .ref (a.1 0)), (2, .ref (a.1 2)), (3, .int zx3)]) hx hb dX3_takeBackUnfit_57 hl (k := 5) rfl rfl (by decide) rfl (fun ls hl => ?_)
            refine lv_goto (tgt := 13) hx hb dX3_takeBackUnfit_60 (by decide) ?_
            exact ih (zx1 + 1) zx3 (zx4 + 1) _ _ _  ls h hP hD hS (lv_sub hl [3, 1, 4, 5, 0] rfl)
set_option maxHeartbeats 4000000 in
set_option maxRecDepth 100000 in
theorem c_X3_takeBackUnfit (l : Launch) (D : va_G) (cy : Nat → ClassId) (a : XA) (n : Nat → Nat) (V : XV) (sz : Nat)  {res : Int32 × XV} (h : f_X3_takeBackUnfit n V  = some res) : Met l yX3_takeBackUnfit wsX3_takeBackUnfit ({ frames := 4, cells := 0, slots := 0, locals := 109 } : Room) (va_Pc [.ref (a.1 0)] (zJ sz (xI D cy a n V))) (va_Qi (fun r (_ : Unit) => r = res.1) (fun _ t => va_P D xcl (xW cy a n res.2) t.heap ∧ va_D (va_A (xW cy a n V) sz) (xW cy a n res.2)) (va_A (xW cy a n V) sz)) 0 0 (va_A (xW cy a n V) sz) := by
  refine Met.ofW (cc := cX3_takeBackUnfit) (maxL := 6) (ret := (some .int)) (by decide) rfl ?_
  intro p e s m args below meth c s₁ B hml hv
  obtain ⟨rfl, hsz, hP, hK, hD0⟩ := hv
  have hx := B.exec
  have hb := B.bytes
  have hr := B.returns
  have hts := atoms_spec (ws := wsX3_takeBackUnfit) B.pre
  have hown : s.vm.findClass RX3 = some m.cls := findClass_of_methodNamed B.named
  have hlocks := B.notSynchronized
  subst hsz
  have hD := hD0.self (sz := s.heap.size)
  generalize hAe : va_A (xW cy a n V) s.heap.size = A at hD ⊢
  have hA : ∀ q : Nat, s.heap.size ≤ q → A q := fun q h => by rw [← hAe]; exact Or.inr h
  have hS : va_S A s.heap s.heap [] := va_S.rf
  have hl := lv_entry ([.ref (a.1 0)]) (n := 6) (Nat.le_of_ble_eq_true rfl)
  rw [lg_entry_eq]
  generalize (lg_sl ([.ref (a.1 0)]) ++ List.replicate (6 - (lg_sl ([.ref (a.1 0)])).length) Slot.unset).toArray = ls at hl ⊢
  have hl : lv_has ls 6 [(0, .ref (a.1 0))] := hl
  have hinX3 : ∀ w ∈ wsX30, w ∈ wsX3_takeBackUnfit := (fun _ h => (List.mem_cons_of_mem _ (List.mem_append_left _ (List.mem_append_left _ (List.mem_append_left _ (List.mem_append_right _ h))))))
  revert hP hS
  intro hP hS
  refine lv_iconst (v := 0) hx hb dX3_takeBackUnfit_0 (by decide) ?_
  refine lv_istore_n (lv' := [(1, .int 0), (0, .ref (a.1 0))]) hx hb dX3_takeBackUnfit_1 rfl hl (by decide) rfl (fun ls hl => ?_)
  refine lv_aload_n hx hb dX3_takeBackUnfit_2 rfl (lv_at hl 1 rfl) ?_
  refine va_get (D := D) (ci := 3) (v := .ref (a.1 2)) (C := RX3) (T := TX3) (N := 10) hx hb hts hinX3 hown hK hP 0 rfl rfl 1 (by decide) (hts _ (List.mem_of_getElem? (i := 1) rfl)) (fun _ h9 => h9) rfl dX3_takeBackUnfit_3 ?_
  refine lv_astore_n (lv' := [(2, .ref (a.1 2)), (1, .int 0), (0, .ref (a.1 0))]) hx hb dX3_takeBackUnfit_6 rfl hl (by decide) rfl (fun ls hl => ?_)
  refine lv_aload_n hx hb dX3_takeBackUnfit_7 rfl (lv_at hl 0 rfl) ?_
  refine va_alen (v := 40) hx hb hK hP 2 5 rfl rfl rfl dX3_takeBackUnfit_8 ?_
  refine lv_istore_n (lv' := [(3, .int 40), (2, .ref (a.1 2)), (1, .int 0), (0, .ref (a.1 0))]) hx hb dX3_takeBackUnfit_9 rfl hl (by decide) rfl (fun ls hl => ?_)
  refine lv_iconst (v := 0) hx hb dX3_takeBackUnfit_10 (by decide) ?_
  refine lv_istore (lv' := [(4, .int 0), (3, .int 40), (2, .ref (a.1 2)), (1, .int 0), (0, .ref (a.1 0))]) hx hb dX3_takeBackUnfit_11 hl (by decide) rfl (fun ls hl => ?_)
  exact k_X3_takeBackUnfit_13 hx hb hr hts hml hown hlocks hK hA _ _ 0 40 0 _ _ _  ls h hP hD hS (lv_sub hl [4, 3, 2, 1, 0] rfl)
def f_X3_isBurden (p1 : Int32) (p2 : Int32) : Option (Int32) := ob (f_X3_isFrom 1 p1 999) (fun u_1 => oi (u_1 = 0) (some 0) (ob (f_X3_isFrom 1 p2 60) (fun u_4 => oi (u_4 = 0) (some 0) (some 1))))
theorem hd_X3_isBurden : yX3_isBurden.cls ≠ "java/lang/invoke/MethodHandle" ∧ yX3_isBurden.cls ≠ "java/lang/invoke/VarHandle" ∧ (parseMethodDescriptor yX3_isBurden.desc).map (fun d => d.parameters.length) = some 2 := by decide +kernel
set_option maxHeartbeats 4000000 in
set_option maxRecDepth 100000 in
theorem c_X3_isBurden (l : Launch) (p1 : Int32) (p2 : Int32) {res : Int32} (h : f_X3_isBurden p1 p2 = some res) : Met l yX3_isBurden wsX3_isBurden ({ frames := 1, cells := 0, slots := 0, locals := 22 } : Room) (va_Pc [.int p1, .int p2] zT) (vp_Si (fun r => r = res)) 0 0 (fun _ => False) := by
  refine Met.ofW (cc := cX3_isBurden) (maxL := 2) (ret := (some .boolean)) (by decide) rfl ?_
  intro p e s m args below meth c s₁ B hml hv
  obtain ⟨rfl, -⟩ := hv
  have hx := B.exec
  have hb := B.bytes
  have hr := B.returns
  have hts := atoms_spec (ws := wsX3_isBurden) B.pre
  have hown : s.vm.findClass RX3 = some m.cls := findClass_of_methodNamed B.named
  have hlocks := B.notSynchronized
  have hl := lv_entry ([.int p1, .int p2]) (n := 2) (Nat.le_of_ble_eq_true rfl)
  rw [lg_entry_eq]
  generalize (lg_sl ([.int p1, .int p2]) ++ List.replicate (2 - (lg_sl ([.int p1, .int p2])).length) Slot.unset).toArray = ls at hl ⊢
  have hl : lv_has ls 2 [(0, .int p1), (1, .int p2)] := hl
  refine lv_iconst (v := 1) hx hb dX3_isBurden_0 (by decide) ?_
  refine lv_iload_n hx hb dX3_isBurden_1 rfl (lv_at hl 0 rfl) ?_
  refine lv_sipush (v := 999) hx hb dX3_isBurden_2 (by decide) ?_
  obtain ⟨u_1, hg_2, h⟩ := ob_some h
  refine zcSi (W.runS (As := [.int 1, .int p1, .int 999]) (rest := []) ⟨hx, hb, hml, hown, hts⟩ (c_X3_isFrom l 1 p1 999 hg_2) (va_cwS 3 hts gX3_isBurden_X3_isFrom rfl rfl rfl hd_X3_isFrom ⟨Nat.le_of_ble_eq_true rfl, Nat.le_of_ble_eq_true rfl⟩) ⟨zT_blind, zT_at⟩ rfl rfl hl.1 rfl (lv_room (Nat.le_of_ble_eq_true rfl)) dX3_isBurden_5 ⟨Nat.le_of_ble_eq_true rfl, Nat.le_of_ble_eq_true rfl⟩) ?_
  refine lv_if_eq (tgt := 25) hx hb dX3_isBurden_8 (by decide) (fun c_3 => ?_) (fun c_3 => ?_)
  · replace h := oi_t c_3 h
    refine lv_iconst (v := 0) hx hb dX3_isBurden_25 (by decide) ?_
    have h9 := Option.some.inj h
    exact W.zret (v := 0) hx hb hr (by decide) (fun t ht hW => ⟨0, rfl, h9, ht⟩) (fun _ hq => absurd hq List.not_mem_nil) dX3_isBurden_26 hlocks
  · replace h := oi_f c_3 h
    refine lv_iconst (v := 1) hx hb dX3_isBurden_11 (by decide) ?_
    refine lv_iload_n hx hb dX3_isBurden_12 rfl (lv_at hl 1 rfl) ?_
    refine lv_bipush (v := 60) hx hb dX3_isBurden_13 (by decide) ?_
    obtain ⟨u_4, hg_5, h⟩ := ob_some h
    refine zcSi (W.runS (As := [.int 1, .int p2, .int 60]) (rest := []) ⟨hx, hb, hml, hown, hts⟩ (c_X3_isFrom l 1 p2 60 hg_5) (va_cwS 3 hts gX3_isBurden_X3_isFrom rfl rfl rfl hd_X3_isFrom ⟨Nat.le_of_ble_eq_true rfl, Nat.le_of_ble_eq_true rfl⟩) ⟨zT_blind, zT_at⟩ rfl rfl hl.1 rfl (lv_room (Nat.le_of_ble_eq_true rfl)) dX3_isBurden_15 ⟨Nat.le_of_ble_eq_true rfl, Nat.le_of_ble_eq_true rfl⟩) ?_
    refine lv_if_eq (tgt := 25) hx hb dX3_isBurden_18 (by decide) (fun c_6 => ?_) (fun c_6 => ?_)
    · replace h := oi_t c_6 h
      refine lv_iconst (v := 0) hx hb dX3_isBurden_25 (by decide) ?_
      have h9 := Option.some.inj h
      exact W.zret (v := 0) hx hb hr (by decide) (fun t ht hW => ⟨0, rfl, h9, ht⟩) (fun _ hq => absurd hq List.not_mem_nil) dX3_isBurden_26 hlocks
    · replace h := oi_f c_6 h
      refine lv_iconst (v := 1) hx hb dX3_isBurden_21 (by decide) ?_
      refine lv_goto (tgt := 26) hx hb dX3_isBurden_22 (by decide) ?_
      have h9 := Option.some.inj h
      exact W.zret (v := 1) hx hb hr (by decide) (fun t ht hW => ⟨1, rfl, h9, ht⟩) (fun _ hq => absurd hq List.not_mem_nil) dX3_isBurden_26 hlocks
def f_X3_liftNumbered (n : Nat → Nat) (V : XV) (p1 : Int32) : Option ((Option Nat)) := oi (p1 < 0) (some none) (oi (40 ≤ p1) (some none) (og (¬ (p1 < 0 ∨ 40 ≤ (p1).toNatClampNeg)) (oc (n 1) (xref n 1 p1) (some none) (fun k_4 => some (some k_4)))))
theorem hd_X3_liftNumbered : yX3_liftNumbered.cls = RX3 ∧ yX3_liftNumbered.cls ≠ "java/lang/invoke/MethodHandle" ∧ yX3_liftNumbered.cls ≠ "java/lang/invoke/VarHandle" ∧ (parseMethodDescriptor yX3_liftNumbered.desc).map (fun d => d.parameters.length) = some 1 := by decide +kernel
set_option maxHeartbeats 4000000 in
set_option maxRecDepth 100000 in
theorem c_X3_liftNumbered (l : Launch) (D : va_G) (cy : Nat → ClassId) (a : XA) (n : Nat → Nat) (V : XV) (p1 : Int32) {res : (Option Nat)} (h : f_X3_liftNumbered n V p1 = some res) : Met l yX3_liftNumbered wsX3_liftNumbered ({ frames := 0, cells := 0, slots := 0, locals := 0 } : Room) (va_Pc [.ref (a.1 0), .int p1] (xI D cy a n V)) (va_Sq (fun r => r = Option.map (a.2 1) res)) 0 0 (fun _ => False) := by
  refine Met.ofW (cc := cX3_liftNumbered) (maxL := 2) (ret := (some (.object "Cranepool$Lift"))) (by decide) rfl ?_
  intro p e s m args below meth c s₁ B hml hv
  obtain ⟨rfl, hP, hK, hD⟩ := hv
  have hx := B.exec
  have hb := B.bytes
  have hr := B.returns
  have hts := atoms_spec (ws := wsX3_liftNumbered) B.pre
  have hown : s.vm.findClass RX3 = some m.cls := findClass_of_methodNamed B.named
  have hlocks := B.notSynchronized
  have hl := lv_entry ([.ref (a.1 0), .int p1]) (n := 2) (Nat.le_of_ble_eq_true rfl)
  rw [lg_entry_eq]
  generalize (lg_sl ([.ref (a.1 0), .int p1]) ++ List.replicate (2 - (lg_sl ([.ref (a.1 0), .int p1])).length) Slot.unset).toArray = ls at hl ⊢
  have hl : lv_has ls 2 [(0, .ref (a.1 0)), (1, .int p1)] := hl
  have hinX3 : ∀ w ∈ wsX30, w ∈ wsX3_liftNumbered := (fun _ h => (List.mem_cons_of_mem _ (List.mem_append_right _ h)))
  refine lv_iload_n hx hb dX3_liftNumbered_0 rfl (lv_at hl 1 rfl) ?_
  refine lv_if_lt (tgt := 22) hx hb dX3_liftNumbered_1 (by decide) (fun c_1 => ?_) (fun c_1 => ?_)
  · replace h := oi_t c_1 h
    refine lv_null hx hb dX3_liftNumbered_22 ?_
    have h9 := Option.some.inj h
    exact W.aret (v := .null) hx hb hr (Or.inl ⟨_, rfl⟩) (Or.inl rfl) (fun t ht hW => ⟨none, rfl, by rw [← h9]; rfl, ht⟩) (fun _ hq => absurd hq List.not_mem_nil) dX3_liftNumbered_23 hlocks
  · replace h := oi_f c_1 h
    refine lv_iload_n hx hb dX3_liftNumbered_4 rfl (lv_at hl 1 rfl) ?_
    refine lv_aload_n hx hb dX3_liftNumbered_5 rfl (lv_at hl 0 rfl) ?_
    refine va_get (D := D) (ci := 3) (v := .ref (a.1 2)) (C := RX3) (T := TX3) (N := 10) hx hb hts hinX3 hown hK hP 0 rfl rfl 1 (by decide) (hts _ (List.mem_of_getElem? (i := 1) rfl)) (fun _ h9 => h9) rfl dX3_liftNumbered_6 ?_
    refine va_alen (v := 40) hx hb hK hP 2 5 rfl rfl rfl dX3_liftNumbered_9 ?_
    refine lv_icmp_ge (tgt := 22) hx hb dX3_liftNumbered_10 (by decide) (fun c_2 => ?_) (fun c_2 => ?_)
    · replace h := oi_t c_2 h
      refine lv_null hx hb dX3_liftNumbered_22 ?_
      have h9 := Option.some.inj h
      exact W.aret (v := .null) hx hb hr (Or.inl ⟨_, rfl⟩) (Or.inl rfl) (fun t ht hW => ⟨none, rfl, by rw [← h9]; rfl, ht⟩) (fun _ hq => absurd hq List.not_mem_nil) dX3_liftNumbered_23 hlocks
    · replace h := oi_f c_2 h
      refine lv_aload_n hx hb dX3_liftNumbered_13 rfl (lv_at hl 0 rfl) ?_
      refine va_get (D := D) (ci := 3) (v := .ref (a.1 2)) (C := RX3) (T := TX3) (N := 10) hx hb hts hinX3 hown hK hP 0 rfl rfl 1 (by decide) (hts _ (List.mem_of_getElem? (i := 1) rfl)) (fun _ h9 => h9) rfl dX3_liftNumbered_14 ?_
      refine lv_iload_n hx hb dX3_liftNumbered_17 rfl (lv_at hl 1 rfl) ?_
      obtain ⟨g_3, h⟩ := og_some h
      rcases oc_some h with ⟨o_5, h⟩ | ⟨k_4, hk_4, o_5, h⟩
      · refine zaldn hx hb hK hP 2 5 rfl rfl g_3 o_5 dX3_liftNumbered_18 ?_
        refine lv_goto (tgt := 23) hx hb dX3_liftNumbered_19 (by decide) ?_
        have h9 := Option.some.inj h
        exact W.aret (v := .null) hx hb hr (Or.inl ⟨_, rfl⟩) (Or.inl rfl) (fun t ht hW => ⟨none, rfl, by rw [← h9]; rfl, ht⟩) (fun _ hq => absurd hq List.not_mem_nil) dX3_liftNumbered_23 hlocks
      · refine zalds hx hb hK hP 2 5 rfl rfl g_3 o_5 dX3_liftNumbered_18 ?_
        refine lv_goto (tgt := 23) hx hb dX3_liftNumbered_19 (by decide) ?_
        have h9 := Option.some.inj h
        exact W.aret (v := .ref (a.2 1 k_4)) hx hb hr (Or.inl ⟨_, rfl⟩) (Or.inr ⟨_, rfl⟩) (fun t ht hW => ⟨some (a.2 1 k_4), rfl, by rw [← h9]; rfl, ht⟩) (fun _ hq => absurd hq List.not_mem_nil) dX3_liftNumbered_23 hlocks
def f_X3_lastingObstacle (n : Nat → Nat) (V : XV) (p1 : Nat) (p2 : Int32) : Option (Int32) := ob (f_X3_craneNumbered n V p2) (fun u_1 => oc (n 0) u_1 (some 114) (fun k_3 => ob (f_X0_reachesEnds n V k_3 p1) (fun u_5 => oi (u_5 = 0) (some 114) (ob (f_X0_bearsAtEnds n V k_3 p1 (V.2.2.1 6)) (fun u_8 => oi (u_8 = 0) (some 103) (some 45))))))
theorem hd_X3_lastingObstacle : yX3_lastingObstacle.cls = RX3 ∧ yX3_lastingObstacle.cls ≠ "java/lang/invoke/MethodHandle" ∧ yX3_lastingObstacle.cls ≠ "java/lang/invoke/VarHandle" ∧ (parseMethodDescriptor yX3_lastingObstacle.desc).map (fun d => d.parameters.length) = some 2 := by decide +kernel
set_option maxHeartbeats 4000000 in
set_option maxRecDepth 100000 in
theorem c_X3_lastingObstacle (l : Launch) (D : va_G) (cy : Nat → ClassId) (a : XA) (n : Nat → Nat) (V : XV) (p1 : Nat) (p2 : Int32) (hp1 : p1 < n 1) {res : Int32} (h : f_X3_lastingObstacle n V p1 p2 = some res) : Met l yX3_lastingObstacle wsX3_lastingObstacle ({ frames := 3, cells := 0, slots := 0, locals := 87 } : Room) (va_Pc [.ref (a.1 0), .ref (a.2 1 p1), .int p2] (xI D cy a n V)) (vp_Si (fun r => r = res)) 0 0 (fun _ => False) := by
  refine Met.ofW (cc := cX3_lastingObstacle) (maxL := 4) (ret := (some .char)) (by decide) rfl ?_
  intro p e s m args below meth c s₁ B hml hv
  obtain ⟨rfl, hP, hK, hD⟩ := hv
  have hx := B.exec
  have hb := B.bytes
  have hr := B.returns
  have hts := atoms_spec (ws := wsX3_lastingObstacle) B.pre
  have hown : s.vm.findClass RX3 = some m.cls := findClass_of_methodNamed B.named
  have hlocks := B.notSynchronized
  have hl := lv_entry ([.ref (a.1 0), .ref (a.2 1 p1), .int p2]) (n := 4) (Nat.le_of_ble_eq_true rfl)
  rw [lg_entry_eq]
  generalize (lg_sl ([.ref (a.1 0), .ref (a.2 1 p1), .int p2]) ++ List.replicate (4 - (lg_sl ([.ref (a.1 0), .ref (a.2 1 p1), .int p2])).length) Slot.unset).toArray = ls at hl ⊢
  have hl : lv_has ls 4 [(0, .ref (a.1 0)), (1, .ref (a.2 1 p1)), (2, .int p2)] := hl
  have hinX3 : ∀ w ∈ wsX30, w ∈ wsX3_lastingObstacle := (fun _ h => (List.mem_cons_of_mem _ (List.mem_append_left _ (List.mem_append_left _ (List.mem_append_left _ (List.mem_append_right _ h))))))
  refine lv_aload_n hx hb dX3_lastingObstacle_0 rfl (lv_at hl 0 rfl) ?_
  refine lv_iload_n hx hb dX3_lastingObstacle_1 rfl (lv_at hl 2 rfl) ?_
  obtain ⟨u_1, hg_2, h⟩ := ob_some h
  rcases oc_some h with ⟨o_4, h⟩ | ⟨k_3, hk_3, o_4, h⟩
  · refine zcSqn (W.runV (As := [.int p2]) (rest := []) ⟨hx, hb, hml, hown, hts⟩ (c_X3_craneNumbered l D cy a n V p2 hg_2) (cwV 1 hts gX3_lastingObstacle_X3_craneNumbered rfl rfl rfl hd_X3_craneNumbered ⟨Nat.le_of_ble_eq_true rfl, Nat.le_of_ble_eq_true rfl⟩) ⟨xI_blind, va_recv hK hP (ci := 3) (q0 := 0) rfl rfl, (xI_at hP hK hD)⟩ rfl rfl hl.1 rfl (lv_room (Nat.le_of_ble_eq_true rfl)) dX3_lastingObstacle_2 ⟨Nat.le_of_ble_eq_true rfl, Nat.le_of_ble_eq_true rfl⟩) o_4 ?_
    refine lv_astore_nN (lv' := [(3, .null), (0, .ref (a.1 0)), (1, .ref (a.2 1 p1)), (2, .int p2)]) hx hb dX3_lastingObstacle_5 rfl hl (by decide) rfl (fun ls hl => ?_)
    refine lv_aload_nN hx hb dX3_lastingObstacle_6 rfl (lv_at hl 0 rfl) ?_
    refine lv_ifnullN (tgt := 18) hx hb dX3_lastingObstacle_7 (by decide) ?_
    refine lv_bipush (v := 114) hx hb dX3_lastingObstacle_18 (by decide) ?_
    have h9 := Option.some.inj h
    exact W.zret (v := 114) hx hb hr (by decide) (fun t ht hW => ⟨114, rfl, h9, ht⟩) (fun _ hq => absurd hq List.not_mem_nil) dX3_lastingObstacle_20 hlocks
  · refine zcSqs (W.runV (As := [.int p2]) (rest := []) ⟨hx, hb, hml, hown, hts⟩ (c_X3_craneNumbered l D cy a n V p2 hg_2) (cwV 1 hts gX3_lastingObstacle_X3_craneNumbered rfl rfl rfl hd_X3_craneNumbered ⟨Nat.le_of_ble_eq_true rfl, Nat.le_of_ble_eq_true rfl⟩) ⟨xI_blind, va_recv hK hP (ci := 3) (q0 := 0) rfl rfl, (xI_at hP hK hD)⟩ rfl rfl hl.1 rfl (lv_room (Nat.le_of_ble_eq_true rfl)) dX3_lastingObstacle_2 ⟨Nat.le_of_ble_eq_true rfl, Nat.le_of_ble_eq_true rfl⟩) o_4 ?_
    refine lv_astore_n (lv' := [(3, .ref (a.2 0 k_3)), (0, .ref (a.1 0)), (1, .ref (a.2 1 p1)), (2, .int p2)]) hx hb dX3_lastingObstacle_5 rfl hl (by decide) rfl (fun ls hl => ?_)
    refine lv_aload_n hx hb dX3_lastingObstacle_6 rfl (lv_at hl 0 rfl) ?_
    refine lv_ifnull hx hb dX3_lastingObstacle_7 ?_
    refine lv_aload_n hx hb dX3_lastingObstacle_10 rfl (lv_at hl 0 rfl) ?_
    refine lv_aload_n hx hb dX3_lastingObstacle_11 rfl (lv_at hl 2 rfl) ?_
    obtain ⟨u_5, hg_6, h⟩ := ob_some h
    refine zcSi (W.runV (As := [.ref (a.2 1 p1)]) (rest := []) ⟨hx, hb, hml, hown, hts⟩ (c_X0_reachesEnds l D cy a n V k_3 p1 hk_3 hp1 hg_6) (cwV 1 hts gX3_lastingObstacle_X0_reachesEnds rfl rfl rfl hd_X0_reachesEnds ⟨Nat.le_of_ble_eq_true rfl, Nat.le_of_ble_eq_true rfl⟩) ⟨xI_blind, va_recv hK hP (ci := 0) rfl (xpos_cr hk_3), (xI_at hP hK hD)⟩ rfl rfl hl.1 rfl (lv_room (Nat.le_of_ble_eq_true rfl)) dX3_lastingObstacle_12 ⟨Nat.le_of_ble_eq_true rfl, Nat.le_of_ble_eq_true rfl⟩) ?_
    refine lv_if_ne (tgt := 21) hx hb dX3_lastingObstacle_15 (by decide) (fun c_7 => ?_) (fun c_7 => ?_)
    · replace h := oi_f c_7 h
      refine lv_aload_n hx hb dX3_lastingObstacle_21 rfl (lv_at hl 0 rfl) ?_
      refine lv_aload_n hx hb dX3_lastingObstacle_22 rfl (lv_at hl 2 rfl) ?_
      refine lv_aload_n hx hb dX3_lastingObstacle_23 rfl (lv_at hl 1 rfl) ?_
      refine va_get (D := D) (ci := 3) (v := .int (V.2.2.1 6)) (C := RX3) (T := TX3) (N := 10) hx hb hts hinX3 hown hK hP 0 rfl rfl 6 (by decide) (hts _ (List.mem_of_getElem? (i := 1) rfl)) (fun _ h9 => h9) rfl dX3_lastingObstacle_24 ?_
      obtain ⟨u_8, hg_9, h⟩ := ob_some h
      refine zcSi (W.runV (As := [.ref (a.2 1 p1), .int (V.2.2.1 6)]) (rest := []) ⟨hx, hb, hml, hown, hts⟩ (c_X0_bearsAtEnds l D cy a n V k_3 p1 (V.2.2.1 6) hk_3 hp1 hg_9) (cwV 2 hts gX3_lastingObstacle_X0_bearsAtEnds rfl rfl rfl hd_X0_bearsAtEnds ⟨Nat.le_of_ble_eq_true rfl, Nat.le_of_ble_eq_true rfl⟩) ⟨xI_blind, va_recv hK hP (ci := 0) rfl (xpos_cr hk_3), (xI_at hP hK hD)⟩ rfl rfl hl.1 rfl (lv_room (Nat.le_of_ble_eq_true rfl)) dX3_lastingObstacle_27 ⟨Nat.le_of_ble_eq_true rfl, Nat.le_of_ble_eq_true rfl⟩) ?_
      refine lv_if_eq (tgt := 38) hx hb dX3_lastingObstacle_30 (by decide) (fun c_10 => ?_) (fun c_10 => ?_)
      · replace h := oi_t c_10 h
        refine lv_bipush (v := 103) hx hb dX3_lastingObstacle_38 (by decide) ?_
        have h9 := Option.some.inj h
        exact W.zret (v := 103) hx hb hr (by decide) (fun t ht hW => ⟨103, rfl, h9, ht⟩) (fun _ hq => absurd hq List.not_mem_nil) dX3_lastingObstacle_40 hlocks
      · replace h := oi_f c_10 h
        refine lv_bipush (v := 45) hx hb dX3_lastingObstacle_33 (by decide) ?_
        refine lv_goto (tgt := 40) hx hb dX3_lastingObstacle_35 (by decide) ?_
        have h9 := Option.some.inj h
        exact W.zret (v := 45) hx hb hr (by decide) (fun t ht hW => ⟨45, rfl, h9, ht⟩) (fun _ hq => absurd hq List.not_mem_nil) dX3_lastingObstacle_40 hlocks
    · replace h := oi_t c_7 h
      refine lv_bipush (v := 114) hx hb dX3_lastingObstacle_18 (by decide) ?_
      have h9 := Option.some.inj h
      exact W.zret (v := 114) hx hb hr (by decide) (fun t ht hW => ⟨114, rfl, h9, ht⟩) (fun _ hq => absurd hq List.not_mem_nil) dX3_lastingObstacle_20 hlocks
def f_X3_behindObstacle_47 (n : Nat → Nat) : XV → Nat → Nat → Int32 → Int32 → Int32 → Int32 → Int32 → Option (Int32)
  | _, 0, _, _, _, _, _, _ => none
  | V, fu + 1, zx1, zx2, zx4, zx5, zx8, zx9 => oi (zx8 ≤ zx9) (some zx4) (og (¬ (zx9 < 0 ∨ 40 ≤ (zx9).toNatClampNeg)) (oc (n 1) (xref n 1 zx9) (f_X3_behindObstacle_47 n V fu zx1 zx2 zx4 zx5 zx8 (zx9 + 1)) (fun k_6 => oi (k_6 = zx1) (f_X3_behindObstacle_47 n V fu zx1 zx2 zx4 zx5 zx8 (zx9 + 1)) (ob (f_X1_meets n V k_6 zx4 zx5) (fun u_9 => oi (u_9 = 0) (f_X3_behindObstacle_47 n V fu zx1 zx2 zx4 zx5 zx8 (zx9 + 1)) (oi ((V.1 1 k_6 9) = zx2) (ob (f_X1_end n V k_6) (fun u_13 => some u_13)) (ob (f_X1_sharesAir n V k_6 zx1) (fun u_15 => oi (u_15 = 0) (f_X3_behindObstacle_47 n V fu zx1 zx2 zx4 zx5 zx8 (zx9 + 1)) (ob (f_X1_end n V k_6) (fun u_18 => some u_18))))))))))
def f_X3_behindObstacle (n : Nat → Nat) (V : XV) (p1 : Nat) (p2 : Int32) (p3 : Nat) (p4 : Int32) : Option (Int32) := ob (f_X0_lastClosedHour n V p3 p4 (p4 + (V.1 1 p1 5))) (fun u_1 => oi (u_1 = (-1)) (f_X3_behindObstacle_47 n V FU p1 p2 p4 (p4 + (V.1 1 p1 5)) 40 0) (some ((u_1 + 1) * 60)))
theorem hd_X3_behindObstacle : yX3_behindObstacle.cls = RX3 ∧ yX3_behindObstacle.cls ≠ "java/lang/invoke/MethodHandle" ∧ yX3_behindObstacle.cls ≠ "java/lang/invoke/VarHandle" ∧ (parseMethodDescriptor yX3_behindObstacle.desc).map (fun d => d.parameters.length) = some 4 := by decide +kernel
set_option maxHeartbeats 4000000 in
set_option maxRecDepth 100000 in
theorem k_X3_behindObstacle_47 {p : Program} {l : Launch} {e : Env} {s : State} {m : MethodId} {args : Array Value} {below : List Frame} {meth : Method} {c : Code} {D : va_G} {cy : Nat → ClassId} {a : XA} {n : Nat → Nat} {V : XV} (hx : p.tables.exec = Jvm.exec) (hb : c.code = cX3_behindObstacle) (hr : meth.sig.returnType = (some .int)) (hts : ∀ w ∈ wsX3_behindObstacle, w.before args s = true) (hml : c.maxLocals = 11) (hown : s.vm.findClass RX3 = some m.cls) (hlocks : meth.locks = false) (hK : va_K D xcl (xty cy) s) (hP : va_P D xcl (xW cy a n V) s.heap) (hD : va_D (fun _ => True) (xW cy a n V)) (res : Int32) : ∀ (fu : Nat) (zx1 : Nat) (zx2 : Int32) (zx4 : Int32) (zx5 : Int32) (zx8 : Int32) (zx9 : Int32) (hzx1 : zx1 < n 1) (ls : Array Slot), f_X3_behindObstacle_47 n V fu zx1 zx2 zx4 zx5 zx8 zx9 = some res → lv_has ls 11 [(1, .ref (a.2 1 zx1)), (2, .int zx2), (4, .int zx4), (5, .int zx5), (7, .ref (a.1 2)), (8, .int zx8), (9, .int zx9)] → W p l e ({ frames := 2, cells := 0, slots := 0, locals := 44 } : Room) s m args below meth c s.heap [] 0 0 (MQ below (vp_Si (fun r => r = res)) args s 0 0 (fun _ => False)) (F0 m 47 ls []) := by
  have hinX1 : ∀ w ∈ wsX10, w ∈ wsX3_behindObstacle := (fun _ h => (List.mem_cons_of_mem _ (List.mem_append_left _ (List.mem_append_left _ (List.mem_append_right _ h)))))
  intro fu
  induction fu with
  | zero =>
    intro zx1 zx2 zx4 zx5 zx8 zx9 hzx1 ls h hl
    cases h
  | succ fu ih =>
    intro zx1 zx2 zx4 zx5 zx8 zx9 hzx1 ls h hl
    refine lv_iload hx hb dX3_behindObstacle_47 (lv_at hl 6 rfl) ?_
    refine lv_iload hx hb dX3_behindObstacle_49 (lv_at hl 5 rfl) ?_
    refine lv_icmp_ge (tgt := 114) hx hb dX3_behindObstacle_51 (by decide) (fun c_4 => ?_) (fun c_4 => ?_)
    · replace h := oi_t c_4 h
      refine lv_iload hx hb dX3_behindObstacle_114 (lv_at hl 2 rfl) ?_
      have h9 := Option.some.inj h
      exact W.iret (v := zx4) hx hb hr (fun t ht hW => ⟨zx4, rfl, h9, ht⟩) (fun _ hq => absurd hq List.not_mem_nil) dX3_behindObstacle_116 hlocks
    · replace h := oi_f c_4 h
      refine lv_aload hx hb dX3_behindObstacle_54 (lv_at hl 4 rfl) ?_
      refine lv_iload hx hb dX3_behindObstacle_56 (lv_at hl 6 rfl) ?_
      obtain ⟨g_5, h⟩ := og_some h
      rcases oc_some h with ⟨o_7, h⟩ | ⟨k_6, hk_6, o_7, h⟩
      · refine zaldn hx hb hK hP 2 5 rfl rfl g_5 o_7 dX3_behindObstacle_58 ?_
        refine lv_astoreN (lv' := [(10, .null), (1, .ref (a.2 1 zx1)), (2, .int zx2), (4, .int zx4), (5, .int zx5), (7, .ref (a.1 2)), (8, .int zx8), (9, .int zx9)]) hx hb dX3_behindObstacle_59 hl (by decide) rfl (fun ls hl => ?_)
        refine lv_aloadN hx hb dX3_behindObstacle_61 (lv_at hl 0 rfl) ?_
        refine lv_ifnullN (tgt := 108) hx hb dX3_behindObstacle_63 (by decide) ?_
        refine lv_iinc (v := zx9 + 1) (lv' := [(9, .int (zx9 + 1)), (10, .null), (1, .ref (a.2 1 zx1)), (2, .int zx2), (4, .int zx4), (5, .int zx5), (7, .ref (a.1 2)), (8, .int zx8)]) hx hb dX3_behindObstacle_108 hl (k := 7) rfl rfl (by decide) rfl (fun ls hl => ?_)
        refine lv_goto (tgt := 47) hx hb dX3_behindObstacle_111 (by decide) ?_
        exact ih zx1 zx2 zx4 zx5 zx8 (zx9 + 1) hzx1 ls h (lv_sub hl [2, 3, 4, 5, 6, 7, 0] rfl)
      · refine zalds hx hb hK hP 2 5 rfl rfl g_5 o_7 dX3_behindObstacle_58 ?_
        refine lv_astore (lv' := [(10, .ref (a.2 1 k_6)), (1, .ref (a.2 1 zx1)), (2, .int zx2), (4, .int zx4), (5, .int zx5), (7, .ref (a.1 2)), (8, .int zx8), (9, .int zx9)]) hx hb dX3_behindObstacle_59 hl (by decide) rfl (fun ls hl => ?_)
        refine lv_aload hx hb dX3_behindObstacle_61 (lv_at hl 0 rfl) ?_
        refine lv_ifnull hx hb dX3_behindObstacle_63 ?_
        refine lv_aload hx hb dX3_behindObstacle_66 (lv_at hl 0 rfl) ?_
        refine lv_aload_n hx hb dX3_behindObstacle_68 rfl (lv_at hl 1 rfl) ?_
        refine lv_acmp_eq (rx := some (a.2 1 k_6)) (ry := some (a.2 1 zx1)) (tgt := 108) hx hb dX3_behindObstacle_69 (by decide) (fun c_8 => ?_) (fun c_8 => ?_)
        · replace h := oi_t (xinj_li hD (by assumption) (by assumption) c_8) h
          refine lv_iinc (v := zx9 + 1) (lv' := [(9, .int (zx9 + 1)), (10, .ref (a.2 1 k_6)), (1, .ref (a.2 1 zx1)), (2, .int zx2), (4, .int zx4), (5, .int zx5), (7, .ref (a.1 2)), (8, .int zx8)]) hx hb dX3_behindObstacle_108 hl (k := 7) rfl rfl (by decide) rfl (fun ls hl => ?_)
          refine lv_goto (tgt := 47) hx hb dX3_behindObstacle_111 (by decide) ?_
          exact ih zx1 zx2 zx4 zx5 zx8 (zx9 + 1) hzx1 ls h (lv_sub hl [2, 3, 4, 5, 6, 7, 0] rfl)
        · replace h := oi_f (fun q => c_8 (by rw [q])) h
          refine lv_aload hx hb dX3_behindObstacle_72 (lv_at hl 0 rfl) ?_
          refine lv_iload hx hb dX3_behindObstacle_74 (lv_at hl 3 rfl) ?_
          refine lv_iload hx hb dX3_behindObstacle_76 (lv_at hl 4 rfl) ?_
          obtain ⟨u_9, hg_10, h⟩ := ob_some h
          refine zcSi (W.runV (As := [.int zx4, .int zx5]) (rest := []) ⟨hx, hb, hml, hown, hts⟩ (c_X1_meets l D cy a n V k_6 zx4 zx5 hk_6 hg_10) (cwV 2 hts gX3_behindObstacle_X1_meets rfl rfl rfl hd_X1_meets ⟨Nat.le_of_ble_eq_true rfl, Nat.le_of_ble_eq_true rfl⟩) ⟨xI_blind, va_recv hK hP (ci := 1) rfl (xpos_li hk_6), (xI_at hP hK hD)⟩ rfl rfl hl.1 rfl (lv_room (Nat.le_of_ble_eq_true rfl)) dX3_behindObstacle_78 ⟨Nat.le_of_ble_eq_true rfl, Nat.le_of_ble_eq_true rfl⟩) ?_
          refine lv_if_eq (tgt := 108) hx hb dX3_behindObstacle_81 (by decide) (fun c_11 => ?_) (fun c_11 => ?_)
          · replace h := oi_t c_11 h
            refine lv_iinc (v := zx9 + 1) (lv' := [(9, .int (zx9 + 1)), (10, .ref (a.2 1 k_6)), (1, .ref (a.2 1 zx1)), (2, .int zx2), (4, .int zx4), (5, .int zx5), (7, .ref (a.1 2)), (8, .int zx8)]) hx hb dX3_behindObstacle_108 hl (k := 7) rfl rfl (by decide) rfl (fun ls hl => ?_)
            refine lv_goto (tgt := 47) hx hb dX3_behindObstacle_111 (by decide) ?_
            exact ih zx1 zx2 zx4 zx5 zx8 (zx9 + 1) hzx1 ls h (lv_sub hl [2, 3, 4, 5, 6, 7, 0] rfl)
          · replace h := oi_f c_11 h
            refine lv_aload hx hb dX3_behindObstacle_84 (lv_at hl 0 rfl) ?_
            refine va_get (D := D) (ci := 1) (v := .int (V.1 1 k_6 9)) (C := RX1) (T := TX1) (N := 11) hx hb hts hinX1 hown hK hP _ (xpos_li hk_6) rfl 9 (by decide) (hts _ (List.mem_of_getElem? (i := 3) rfl)) (fun _ h9 => h9) rfl dX3_behindObstacle_86 ?_
            refine lv_iload_n hx hb dX3_behindObstacle_89 rfl (lv_at hl 2 rfl) ?_
            refine lv_icmp_eq (tgt := 102) hx hb dX3_behindObstacle_90 (by decide) (fun c_12 => ?_) (fun c_12 => ?_)
            · replace h := oi_t c_12 h
              refine lv_aload hx hb dX3_behindObstacle_102 (lv_at hl 0 rfl) ?_
              obtain ⟨u_13, hg_14, h⟩ := ob_some h
              refine zcSi (W.runV (As := []) (rest := []) ⟨hx, hb, hml, hown, hts⟩ (c_X1_end l D cy a n V k_6 hk_6 hg_14) (cwV 0 hts gX3_behindObstacle_X1_end rfl rfl rfl hd_X1_end ⟨Nat.le_of_ble_eq_true rfl, Nat.le_of_ble_eq_true rfl⟩) ⟨xI_blind, va_recv hK hP (ci := 1) rfl (xpos_li hk_6), (xI_at hP hK hD)⟩ rfl rfl hl.1 rfl (lv_room (Nat.le_of_ble_eq_true rfl)) dX3_behindObstacle_104 ⟨Nat.le_of_ble_eq_true rfl, Nat.le_of_ble_eq_true rfl⟩) ?_
              have h9 := Option.some.inj h
              exact W.iret (v := u_13) hx hb hr (fun t ht hW => ⟨u_13, rfl, h9, ht⟩) (fun _ hq => absurd hq List.not_mem_nil) dX3_behindObstacle_107 hlocks
            · replace h := oi_f c_12 h
              refine lv_aload hx hb dX3_behindObstacle_93 (lv_at hl 0 rfl) ?_
              refine lv_aload_n hx hb dX3_behindObstacle_95 rfl (lv_at hl 1 rfl) ?_
              obtain ⟨u_15, hg_16, h⟩ := ob_some h
              refine zcSi (W.runV (As := [.ref (a.2 1 zx1)]) (rest := []) ⟨hx, hb, hml, hown, hts⟩ (c_X1_sharesAir l D cy a n V k_6 zx1 hk_6 hzx1 hg_16) (cwV 1 hts gX3_behindObstacle_X1_sharesAir rfl rfl rfl hd_X1_sharesAir ⟨Nat.le_of_ble_eq_true rfl, Nat.le_of_ble_eq_true rfl⟩) ⟨xI_blind, va_recv hK hP (ci := 1) rfl (xpos_li hk_6), (xI_at hP hK hD)⟩ rfl rfl hl.1 rfl (lv_room (Nat.le_of_ble_eq_true rfl)) dX3_behindObstacle_96 ⟨Nat.le_of_ble_eq_true rfl, Nat.le_of_ble_eq_true rfl⟩) ?_
              refine lv_if_eq (tgt := 108) hx hb dX3_behindObstacle_99 (by decide) (fun c_17 => ?_) (fun c_17 => ?_)
              · replace h := oi_t c_17 h
                refine lv_iinc (v := zx9 + 1) (lv' := [(9, .int (zx9 + 1)), (10, .ref (a.2 1 k_6)), (1, .ref (a.2 1 zx1)), (2, .int zx2), (4, .int zx4), (5, .int zx5), (7, .ref (a.1 2)), (8, .int zx8)]) hx hb dX3_behindObstacle_108 hl (k := 7) rfl rfl (by decide) rfl (fun ls hl => ?_)
                refine lv_goto (tgt := 47) hx hb dX3_behindObstacle_111 (by decide) ?_
                exact ih zx1 zx2 zx4 zx5 zx8 (zx9 + 1) hzx1 ls h (lv_sub hl [2, 3, 4, 5, 6, 7, 0] rfl)
              · replace h := oi_f c_17 h
                refine lv_aload hx hb dX3_behindObstacle_102 (lv_at hl 0 rfl) ?_
                obtain ⟨u_18, hg_19, h⟩ := ob_some h
                refine zcSi (W.runV (As := []) (rest := []) ⟨hx, hb, hml, hown, hts⟩ (c_X1_end l D cy a n V k_6 hk_6 hg_19) (cwV 0 hts gX3_behindObstacle_X1_end rfl rfl rfl hd_X1_end ⟨Nat.le_of_ble_eq_true rfl, Nat.le_of_ble_eq_true rfl⟩) ⟨xI_blind, va_recv hK hP (ci := 1) rfl (xpos_li hk_6), (xI_at hP hK hD)⟩ rfl rfl hl.1 rfl (lv_room (Nat.le_of_ble_eq_true rfl)) dX3_behindObstacle_104 ⟨Nat.le_of_ble_eq_true rfl, Nat.le_of_ble_eq_true rfl⟩) ?_
                have h9 := Option.some.inj h
                exact W.iret (v := u_18) hx hb hr (fun t ht hW => ⟨u_18, rfl, h9, ht⟩) (fun _ hq => absurd hq List.not_mem_nil) dX3_behindObstacle_107 hlocks
set_option maxHeartbeats 4000000 in
set_option maxRecDepth 100000 in
theorem c_X3_behindObstacle (l : Launch) (D : va_G) (cy : Nat → ClassId) (a : XA) (n : Nat → Nat) (V : XV) (p1 : Nat) (p2 : Int32) (p3 : Nat) (p4 : Int32) (hp1 : p1 < n 1) (hp3 : p3 < n 0) {res : Int32} (h : f_X3_behindObstacle n V p1 p2 p3 p4 = some res) : Met l yX3_behindObstacle wsX3_behindObstacle ({ frames := 2, cells := 0, slots := 0, locals := 44 } : Room) (va_Pc [.ref (a.1 0), .ref (a.2 1 p1), .int p2, .ref (a.2 0 p3), .int p4] (xI D cy a n V)) (vp_Si (fun r => r = res)) 0 0 (fun _ => False) := by
  refine Met.ofW (cc := cX3_behindObstacle) (maxL := 11) (ret := (some .int)) (by decide) rfl ?_
  intro p e s m args below meth c s₁ B hml hv
  obtain ⟨rfl, hP, hK, hD⟩ := hv
  have hx := B.exec
  have hb := B.bytes
  have hr := B.returns
  have hts := atoms_spec (ws := wsX3_behindObstacle) B.pre
  have hown : s.vm.findClass RX3 = some m.cls := findClass_of_methodNamed B.named
  have hlocks := B.notSynchronized
  have hl := lv_entry ([.ref (a.1 0), .ref (a.2 1 p1), .int p2, .ref (a.2 0 p3), .int p4]) (n := 11) (Nat.le_of_ble_eq_true rfl)
  rw [lg_entry_eq]
  generalize (lg_sl ([.ref (a.1 0), .ref (a.2 1 p1), .int p2, .ref (a.2 0 p3), .int p4]) ++ List.replicate (11 - (lg_sl ([.ref (a.1 0), .ref (a.2 1 p1), .int p2, .ref (a.2 0 p3), .int p4])).length) Slot.unset).toArray = ls at hl ⊢
  have hl : lv_has ls 11 [(0, .ref (a.1 0)), (1, .ref (a.2 1 p1)), (2, .int p2), (3, .ref (a.2 0 p3)), (4, .int p4)] := hl
  have hinX1 : ∀ w ∈ wsX10, w ∈ wsX3_behindObstacle := (fun _ h => (List.mem_cons_of_mem _ (List.mem_append_left _ (List.mem_append_left _ (List.mem_append_right _ h)))))
  have hinX3 : ∀ w ∈ wsX30, w ∈ wsX3_behindObstacle := (fun _ h => (List.mem_cons_of_mem _ (List.mem_append_left _ (List.mem_append_right _ h))))
  refine lv_iload hx hb dX3_behindObstacle_0 (lv_at hl 4 rfl) ?_
  refine lv_aload_n hx hb dX3_behindObstacle_2 rfl (lv_at hl 1 rfl) ?_
  refine va_get (D := D) (ci := 1) (v := .int (V.1 1 p1 5)) (C := RX1) (T := TX1) (N := 11) hx hb hts hinX1 hown hK hP _ (xpos_li hp1) rfl 5 (by decide) (hts _ (List.mem_of_getElem? (i := 1) rfl)) (fun _ h9 => h9) rfl dX3_behindObstacle_3 ?_
  refine lv_iadd hx hb dX3_behindObstacle_6 ?_
  refine lv_istore (lv' := [(5, .int (p4 + (V.1 1 p1 5))), (0, .ref (a.1 0)), (1, .ref (a.2 1 p1)), (2, .int p2), (3, .ref (a.2 0 p3)), (4, .int p4)]) hx hb dX3_behindObstacle_7 hl (by decide) rfl (fun ls hl => ?_)
  refine lv_aload_n hx hb dX3_behindObstacle_9 rfl (lv_at hl 4 rfl) ?_
  refine lv_iload hx hb dX3_behindObstacle_10 (lv_at hl 5 rfl) ?_
  refine lv_iload hx hb dX3_behindObstacle_12 (lv_at hl 0 rfl) ?_
  obtain ⟨u_1, hg_2, h⟩ := ob_some h
  refine zcSi (W.runV (As := [.int p4, .int (p4 + (V.1 1 p1 5))]) (rest := []) ⟨hx, hb, hml, hown, hts⟩ (c_X0_lastClosedHour l D cy a n V p3 p4 (p4 + (V.1 1 p1 5)) hp3 hg_2) (cwV 2 hts gX3_behindObstacle_X0_lastClosedHour rfl rfl rfl hd_X0_lastClosedHour ⟨Nat.le_of_ble_eq_true rfl, Nat.le_of_ble_eq_true rfl⟩) ⟨xI_blind, va_recv hK hP (ci := 0) rfl (xpos_cr hp3), (xI_at hP hK hD)⟩ rfl rfl hl.1 rfl (lv_room (Nat.le_of_ble_eq_true rfl)) dX3_behindObstacle_14 ⟨Nat.le_of_ble_eq_true rfl, Nat.le_of_ble_eq_true rfl⟩) ?_
  refine lv_istore (lv' := [(6, .int u_1), (5, .int (p4 + (V.1 1 p1 5))), (0, .ref (a.1 0)), (1, .ref (a.2 1 p1)), (2, .int p2), (3, .ref (a.2 0 p3)), (4, .int p4)]) hx hb dX3_behindObstacle_17 hl (by decide) rfl (fun ls hl => ?_)
  refine lv_iload hx hb dX3_behindObstacle_19 (lv_at hl 0 rfl) ?_
  refine lv_iconst (v := (-1)) hx hb dX3_behindObstacle_21 (by decide) ?_
  refine lv_icmp_eq (tgt := 33) hx hb dX3_behindObstacle_22 (by decide) (fun c_3 => ?_) (fun c_3 => ?_)
  · replace h := oi_t c_3 h
    refine lv_aload_n hx hb dX3_behindObstacle_33 rfl (lv_at hl 2 rfl) ?_
    refine va_get (D := D) (ci := 3) (v := .ref (a.1 2)) (C := RX3) (T := TX3) (N := 10) hx hb hts hinX3 hown hK hP 0 rfl rfl 1 (by decide) (hts _ (List.mem_of_getElem? (i := 2) rfl)) (fun _ h9 => h9) rfl dX3_behindObstacle_34 ?_
    refine lv_astore (lv' := [(7, .ref (a.1 2)), (6, .int u_1), (5, .int (p4 + (V.1 1 p1 5))), (0, .ref (a.1 0)), (1, .ref (a.2 1 p1)), (2, .int p2), (3, .ref (a.2 0 p3)), (4, .int p4)]) hx hb dX3_behindObstacle_37 hl (by decide) rfl (fun ls hl => ?_)
    refine lv_aload hx hb dX3_behindObstacle_39 (lv_at hl 0 rfl) ?_
    refine va_alen (v := 40) hx hb hK hP 2 5 rfl rfl rfl dX3_behindObstacle_41 ?_
    refine lv_istore (lv' := [(8, .int 40), (7, .ref (a.1 2)), (6, .int u_1), (5, .int (p4 + (V.1 1 p1 5))), (0, .ref (a.1 0)), (1, .ref (a.2 1 p1)), (2, .int p2), (3, .ref (a.2 0 p3)), (4, .int p4)]) hx hb dX3_behindObstacle_42 hl (by decide) rfl (fun ls hl => ?_)
    refine lv_iconst (v := 0) hx hb dX3_behindObstacle_44 (by decide) ?_
    refine lv_istore (lv' := [(9, .int 0), (8, .int 40), (7, .ref (a.1 2)), (6, .int u_1), (5, .int (p4 + (V.1 1 p1 5))), (0, .ref (a.1 0)), (1, .ref (a.2 1 p1)), (2, .int p2), (3, .ref (a.2 0 p3)), (4, .int p4)]) hx hb dX3_behindObstacle_45 hl (by decide) rfl (fun ls hl => ?_)
    exact k_X3_behindObstacle_47 hx hb hr hts hml hown hlocks hK hP hD _ _ p1 p2 p4 (p4 + (V.1 1 p1 5)) 40 0 hp1 ls h (lv_sub hl [6, 7, 9, 4, 2, 1, 0] rfl)
  · replace h := oi_f c_3 h
    refine lv_iload hx hb dX3_behindObstacle_25 (lv_at hl 0 rfl) ?_
    refine lv_iconst (v := 1) hx hb dX3_behindObstacle_27 (by decide) ?_
    refine lv_iadd hx hb dX3_behindObstacle_28 ?_
    refine lv_bipush (v := 60) hx hb dX3_behindObstacle_29 (by decide) ?_
    refine lv_imul hx hb dX3_behindObstacle_31 ?_
    have h9 := Option.some.inj h
    exact W.iret (v := (u_1 + 1) * 60) hx hb hr (fun t ht hW => ⟨(u_1 + 1) * 60, rfl, h9, ht⟩) (fun _ hq => absurd hq List.not_mem_nil) dX3_behindObstacle_32 hlocks
def f_X3_nextFit_13 (n : Nat → Nat) : XV → Nat → Nat → Int32 → Int32 → Int32 → Option (Int32)
  | _, 0, _, _, _, _ => none
  | V, fu + 1, zx1, zx2, zx5, zx6 => oi (1440 < zx6) (some (-1)) (some (-1))
def f_X3_nextFit_13v1 (n : Nat → Nat) : XV → Nat → Nat → Int32 → Nat → Int32 → Int32 → Option (Int32)
  | _, 0, _, _, _, _, _ => none
  | V, fu + 1, zx1, zx2, zx4, zx5, zx6 => oi (1440 < zx6) (some (-1)) (oi ((1440 - (V.1 1 zx1 5)) < zx5) (some (-1)) (ob (f_X3_behindObstacle n V zx1 zx2 zx4 zx5) (fun u_8 => oi (u_8 = zx5) (some zx5) (f_X3_nextFit_13v1 n V fu zx1 zx2 zx4 u_8 (zx6 + 1)))))
def f_X3_nextFit (n : Nat → Nat) (V : XV) (p1 : Nat) (p2 : Int32) (p3 : Int32) : Option (Int32) := ob (f_X3_craneNumbered n V p2) (fun u_1 => oc (n 0) u_1 (f_X3_nextFit_13 n V FU p1 p2 p3 0) (fun k_3 => f_X3_nextFit_13v1 n V FU p1 p2 k_3 p3 0))
theorem hd_X3_nextFit : yX3_nextFit.cls = RX3 ∧ yX3_nextFit.cls ≠ "java/lang/invoke/MethodHandle" ∧ yX3_nextFit.cls ≠ "java/lang/invoke/VarHandle" ∧ (parseMethodDescriptor yX3_nextFit.desc).map (fun d => d.parameters.length) = some 3 := by decide +kernel
set_option maxHeartbeats 4000000 in
set_option maxRecDepth 100000 in
theorem k_X3_nextFit_13 {p : Program} {l : Launch} {e : Env} {s : State} {m : MethodId} {args : Array Value} {below : List Frame} {meth : Method} {c : Code} {D : va_G} {cy : Nat → ClassId} {a : XA} {n : Nat → Nat} {V : XV} (hx : p.tables.exec = Jvm.exec) (hb : c.code = cX3_nextFit) (hr : meth.sig.returnType = (some .int)) (hts : ∀ w ∈ wsX3_nextFit, w.before args s = true) (hml : c.maxLocals = 8) (hown : s.vm.findClass RX3 = some m.cls) (hlocks : meth.locks = false) (hK : va_K D xcl (xty cy) s) (hP : va_P D xcl (xW cy a n V) s.heap) (hD : va_D (fun _ => True) (xW cy a n V)) (res : Int32) : ∀ (fu : Nat) (zx1 : Nat) (zx2 : Int32) (zx5 : Int32) (zx6 : Int32) (hzx1 : zx1 < n 1) (ls : Array Slot), f_X3_nextFit_13 n V fu zx1 zx2 zx5 zx6 = some res → lv_has ls 8 [(0, .ref (a.1 0)), (1, .ref (a.2 1 zx1)), (2, .int zx2), (4, .null), (5, .int zx5), (6, .int zx6)] → W p l e ({ frames := 3, cells := 0, slots := 0, locals := 74 } : Room) s m args below meth c s.heap [] 0 0 (MQ below (vp_Si (fun r => r = res)) args s 0 0 (fun _ => False)) (F0 m 13 ls []) := by
  intro fu
  induction fu with
  | zero =>
    intro zx1 zx2 zx5 zx6 hzx1 ls h hl
    cases h
  | succ fu ih =>
    intro zx1 zx2 zx5 zx6 hzx1 ls h hl
    refine lv_iload hx hb dX3_nextFit_13 (lv_at hl 5 rfl) ?_
    refine lv_sipush (v := 1440) hx hb dX3_nextFit_15 (by decide) ?_
    refine lv_icmp_gt (tgt := 71) hx hb dX3_nextFit_18 (by decide) (fun c_5 => ?_) (fun c_5 => ?_)
    · replace h := oi_t c_5 h
      refine lv_iconst (v := (-1)) hx hb dX3_nextFit_71 (by decide) ?_
      have h9 := Option.some.inj h
      exact W.iret (v := (-1)) hx hb hr (fun t ht hW => ⟨(-1), rfl, h9, ht⟩) (fun _ hq => absurd hq List.not_mem_nil) dX3_nextFit_72 hlocks
    · replace h := oi_f c_5 h
      refine lv_aloadN hx hb dX3_nextFit_21 (lv_at hl 3 rfl) ?_
      refine lv_ifnullN (tgt := 71) hx hb dX3_nextFit_23 (by decide) ?_
      refine lv_iconst (v := (-1)) hx hb dX3_nextFit_71 (by decide) ?_
      have h9 := Option.some.inj h
      exact W.iret (v := (-1)) hx hb hr (fun t ht hW => ⟨(-1), rfl, h9, ht⟩) (fun _ hq => absurd hq List.not_mem_nil) dX3_nextFit_72 hlocks
set_option maxHeartbeats 4000000 in
set_option maxRecDepth 100000 in
theorem k_X3_nextFit_13v1 {p : Program} {l : Launch} {e : Env} {s : State} {m : MethodId} {args : Array Value} {below : List Frame} {meth : Method} {c : Code} {D : va_G} {cy : Nat → ClassId} {a : XA} {n : Nat → Nat} {V : XV} (hx : p.tables.exec = Jvm.exec) (hb : c.code = cX3_nextFit) (hr : meth.sig.returnType = (some .int)) (hts : ∀ w ∈ wsX3_nextFit, w.before args s = true) (hml : c.maxLocals = 8) (hown : s.vm.findClass RX3 = some m.cls) (hlocks : meth.locks = false) (hK : va_K D xcl (xty cy) s) (hP : va_P D xcl (xW cy a n V) s.heap) (hD : va_D (fun _ => True) (xW cy a n V)) (res : Int32) : ∀ (fu : Nat) (zx1 : Nat) (zx2 : Int32) (zx4 : Nat) (zx5 : Int32) (zx6 : Int32) (hzx1 : zx1 < n 1) (hzx4 : zx4 < n 0) (ls : Array Slot), f_X3_nextFit_13v1 n V fu zx1 zx2 zx4 zx5 zx6 = some res → lv_has ls 8 [(0, .ref (a.1 0)), (1, .ref (a.2 1 zx1)), (2, .int zx2), (4, .ref (a.2 0 zx4)), (5, .int zx5), (6, .int zx6)] → W p l e ({ frames := 3, cells := 0, slots := 0, locals := 74 } : Room) s m args below meth c s.heap [] 0 0 (MQ below (vp_Si (fun r => r = res)) args s 0 0 (fun _ => False)) (F0 m 13 ls []) := by
  have hinX1 : ∀ w ∈ wsX10, w ∈ wsX3_nextFit := (fun _ h => (List.mem_cons_of_mem _ (List.mem_append_left _ (List.mem_append_left _ (List.mem_append_right _ h)))))
  intro fu
  induction fu with
  | zero =>
    intro zx1 zx2 zx4 zx5 zx6 hzx1 hzx4 ls h hl
    cases h
  | succ fu ih =>
    intro zx1 zx2 zx4 zx5 zx6 hzx1 hzx4 ls h hl
    refine lv_iload hx hb dX3_nextFit_13 (lv_at hl 5 rfl) ?_
    refine lv_sipush (v := 1440) hx hb dX3_nextFit_15 (by decide) ?_
    refine lv_icmp_gt (tgt := 71) hx hb dX3_nextFit_18 (by decide) (fun c_6 => ?_) (fun c_6 => ?_)
    · replace h := oi_t c_6 h
      refine lv_iconst (v := (-1)) hx hb dX3_nextFit_71 (by decide) ?_
      have h9 := Option.some.inj h
      exact W.iret (v := (-1)) hx hb hr (fun t ht hW => ⟨(-1), rfl, h9, ht⟩) (fun _ hq => absurd hq List.not_mem_nil) dX3_nextFit_72 hlocks
    · replace h := oi_f c_6 h
      refine lv_aload hx hb dX3_nextFit_21 (lv_at hl 3 rfl) ?_
      refine lv_ifnull hx hb dX3_nextFit_23 ?_
      refine lv_iload hx hb dX3_nextFit_26 (lv_at hl 4 rfl) ?_
      refine lv_sipush (v := 1440) hx hb dX3_nextFit_28 (by decide) ?_
      refine lv_aload_n hx hb dX3_nextFit_31 rfl (lv_at hl 1 rfl) ?_
      refine va_get (D := D) (ci := 1) (v := .int (V.1 1 zx1 5)) (C := RX1) (T := TX1) (N := 11) hx hb hts hinX1 hown hK hP _ (xpos_li hzx1) rfl 5 (by decide) (hts _ (List.mem_of_getElem? (i := 1) rfl)) (fun _ h9 => h9) rfl dX3_nextFit_32 ?_
      refine lv_isub hx hb dX3_nextFit_35 ?_
      refine lv_icmp_gt (tgt := 71) hx hb dX3_nextFit_36 (by decide) (fun c_7 => ?_) (fun c_7 => ?_)
      · replace h := oi_t c_7 h
        refine lv_iconst (v := (-1)) hx hb dX3_nextFit_71 (by decide) ?_
        have h9 := Option.some.inj h
        exact W.iret (v := (-1)) hx hb hr (fun t ht hW => ⟨(-1), rfl, h9, ht⟩) (fun _ hq => absurd hq List.not_mem_nil) dX3_nextFit_72 hlocks
      · replace h := oi_f c_7 h
        refine lv_aload_n hx hb dX3_nextFit_39 rfl (lv_at hl 0 rfl) ?_
        refine lv_aload_n hx hb dX3_nextFit_40 rfl (lv_at hl 1 rfl) ?_
        refine lv_iload_n hx hb dX3_nextFit_41 rfl (lv_at hl 2 rfl) ?_
        refine lv_aload hx hb dX3_nextFit_42 (lv_at hl 3 rfl) ?_
        refine lv_iload hx hb dX3_nextFit_44 (lv_at hl 4 rfl) ?_
        obtain ⟨u_8, hg_9, h⟩ := ob_some h
        refine zcSi (W.runV (As := [.ref (a.2 1 zx1), .int zx2, .ref (a.2 0 zx4), .int zx5]) (rest := []) ⟨hx, hb, hml, hown, hts⟩ (c_X3_behindObstacle l D cy a n V zx1 zx2 zx4 zx5 hzx1 hzx4 hg_9) (cwV 4 hts gX3_nextFit_X3_behindObstacle rfl rfl rfl hd_X3_behindObstacle ⟨Nat.le_of_ble_eq_true rfl, Nat.le_of_ble_eq_true rfl⟩) ⟨xI_blind, va_recv hK hP (ci := 3) (q0 := 0) rfl rfl, (xI_at hP hK hD)⟩ rfl rfl hl.1 rfl (lv_room (Nat.le_of_ble_eq_true rfl)) dX3_nextFit_46 ⟨Nat.le_of_ble_eq_true rfl, Nat.le_of_ble_eq_true rfl⟩) ?_
        refine lv_istore (lv' := [(7, .int u_8), (0, .ref (a.1 0)), (1, .ref (a.2 1 zx1)), (2, .int zx2), (4, .ref (a.2 0 zx4)), (5, .int zx5), (6, .int zx6)]) hx hb dX3_nextFit_49 hl (by decide) rfl (fun ls hl => ?_)
        refine lv_iload hx hb dX3_nextFit_51 (lv_at hl 0 rfl) ?_
        refine lv_iload hx hb dX3_nextFit_53 (lv_at hl 5 rfl) ?_
        refine lv_icmp_ne (tgt := 61) hx hb dX3_nextFit_55 (by decide) (fun c_10 => ?_) (fun c_10 => ?_)
        · replace h := oi_f c_10 h
          refine lv_iload hx hb dX3_nextFit_61 (lv_at hl 0 rfl) ?_
          refine lv_istore (lv' := [(5, .int u_8), (7, .int u_8), (0, .ref (a.1 0)), (1, .ref (a.2 1 zx1)), (2, .int zx2), (4, .ref (a.2 0 zx4)), (6, .int zx6)]) hx hb dX3_nextFit_63 hl (by decide) rfl (fun ls hl => ?_)
          refine lv_iinc (v := zx6 + 1) (lv' := [(6, .int (zx6 + 1)), (5, .int u_8), (7, .int u_8), (0, .ref (a.1 0)), (1, .ref (a.2 1 zx1)), (2, .int zx2), (4, .ref (a.2 0 zx4))]) hx hb dX3_nextFit_65 hl (k := 6) rfl rfl (by decide) rfl (fun ls hl => ?_)
          refine lv_goto (tgt := 13) hx hb dX3_nextFit_68 (by decide) ?_
          exact ih zx1 zx2 zx4 u_8 (zx6 + 1) hzx1 hzx4 ls h (lv_sub hl [3, 4, 5, 6, 1, 0] rfl)
        · replace h := oi_t c_10 h
          refine lv_iload hx hb dX3_nextFit_58 (lv_at hl 5 rfl) ?_
          have h9 := Option.some.inj h
          exact W.iret (v := zx5) hx hb hr (fun t ht hW => ⟨zx5, rfl, h9, ht⟩) (fun _ hq => absurd hq List.not_mem_nil) dX3_nextFit_60 hlocks
set_option maxHeartbeats 4000000 in
set_option maxRecDepth 100000 in
theorem c_X3_nextFit (l : Launch) (D : va_G) (cy : Nat → ClassId) (a : XA) (n : Nat → Nat) (V : XV) (p1 : Nat) (p2 : Int32) (p3 : Int32) (hp1 : p1 < n 1) {res : Int32} (h : f_X3_nextFit n V p1 p2 p3 = some res) : Met l yX3_nextFit wsX3_nextFit ({ frames := 3, cells := 0, slots := 0, locals := 74 } : Room) (va_Pc [.ref (a.1 0), .ref (a.2 1 p1), .int p2, .int p3] (xI D cy a n V)) (vp_Si (fun r => r = res)) 0 0 (fun _ => False) := by
  refine Met.ofW (cc := cX3_nextFit) (maxL := 8) (ret := (some .int)) (by decide) rfl ?_
  intro p e s m args below meth c s₁ B hml hv
  obtain ⟨rfl, hP, hK, hD⟩ := hv
  have hx := B.exec
  have hb := B.bytes
  have hr := B.returns
  have hts := atoms_spec (ws := wsX3_nextFit) B.pre
  have hown : s.vm.findClass RX3 = some m.cls := findClass_of_methodNamed B.named
  have hlocks := B.notSynchronized
  have hl := lv_entry ([.ref (a.1 0), .ref (a.2 1 p1), .int p2, .int p3]) (n := 8) (Nat.le_of_ble_eq_true rfl)
  rw [lg_entry_eq]
  generalize (lg_sl ([.ref (a.1 0), .ref (a.2 1 p1), .int p2, .int p3]) ++ List.replicate (8 - (lg_sl ([.ref (a.1 0), .ref (a.2 1 p1), .int p2, .int p3])).length) Slot.unset).toArray = ls at hl ⊢
  have hl : lv_has ls 8 [(0, .ref (a.1 0)), (1, .ref (a.2 1 p1)), (2, .int p2), (3, .int p3)] := hl
  refine lv_aload_n hx hb dX3_nextFit_0 rfl (lv_at hl 0 rfl) ?_
  refine lv_iload_n hx hb dX3_nextFit_1 rfl (lv_at hl 2 rfl) ?_
  obtain ⟨u_1, hg_2, h⟩ := ob_some h
  rcases oc_some h with ⟨o_4, h⟩ | ⟨k_3, hk_3, o_4, h⟩
  · refine zcSqn (W.runV (As := [.int p2]) (rest := []) ⟨hx, hb, hml, hown, hts⟩ (c_X3_craneNumbered l D cy a n V p2 hg_2) (cwV 1 hts gX3_nextFit_X3_craneNumbered rfl rfl rfl hd_X3_craneNumbered ⟨Nat.le_of_ble_eq_true rfl, Nat.le_of_ble_eq_true rfl⟩) ⟨xI_blind, va_recv hK hP (ci := 3) (q0 := 0) rfl rfl, (xI_at hP hK hD)⟩ rfl rfl hl.1 rfl (lv_room (Nat.le_of_ble_eq_true rfl)) dX3_nextFit_2 ⟨Nat.le_of_ble_eq_true rfl, Nat.le_of_ble_eq_true rfl⟩) o_4 ?_
    refine lv_astoreN (lv' := [(4, .null), (0, .ref (a.1 0)), (1, .ref (a.2 1 p1)), (2, .int p2), (3, .int p3)]) hx hb dX3_nextFit_5 hl (by decide) rfl (fun ls hl => ?_)
    refine lv_iload_n hx hb dX3_nextFit_7 rfl (lv_at hl 4 rfl) ?_
    refine lv_istore (lv' := [(5, .int p3), (4, .null), (0, .ref (a.1 0)), (1, .ref (a.2 1 p1)), (2, .int p2), (3, .int p3)]) hx hb dX3_nextFit_8 hl (by decide) rfl (fun ls hl => ?_)
    refine lv_iconst (v := 0) hx hb dX3_nextFit_10 (by decide) ?_
    refine lv_istore (lv' := [(6, .int 0), (5, .int p3), (4, .null), (0, .ref (a.1 0)), (1, .ref (a.2 1 p1)), (2, .int p2), (3, .int p3)]) hx hb dX3_nextFit_11 hl (by decide) rfl (fun ls hl => ?_)
    exact k_X3_nextFit_13 hx hb hr hts hml hown hlocks hK hP hD _ _ p1 p2 p3 0 hp1 ls h (lv_sub hl [3, 4, 5, 2, 1, 0] rfl)
  · refine zcSqs (W.runV (As := [.int p2]) (rest := []) ⟨hx, hb, hml, hown, hts⟩ (c_X3_craneNumbered l D cy a n V p2 hg_2) (cwV 1 hts gX3_nextFit_X3_craneNumbered rfl rfl rfl hd_X3_craneNumbered ⟨Nat.le_of_ble_eq_true rfl, Nat.le_of_ble_eq_true rfl⟩) ⟨xI_blind, va_recv hK hP (ci := 3) (q0 := 0) rfl rfl, (xI_at hP hK hD)⟩ rfl rfl hl.1 rfl (lv_room (Nat.le_of_ble_eq_true rfl)) dX3_nextFit_2 ⟨Nat.le_of_ble_eq_true rfl, Nat.le_of_ble_eq_true rfl⟩) o_4 ?_
    refine lv_astore (lv' := [(4, .ref (a.2 0 k_3)), (0, .ref (a.1 0)), (1, .ref (a.2 1 p1)), (2, .int p2), (3, .int p3)]) hx hb dX3_nextFit_5 hl (by decide) rfl (fun ls hl => ?_)
    refine lv_iload_n hx hb dX3_nextFit_7 rfl (lv_at hl 4 rfl) ?_
    refine lv_istore (lv' := [(5, .int p3), (4, .ref (a.2 0 k_3)), (0, .ref (a.1 0)), (1, .ref (a.2 1 p1)), (2, .int p2), (3, .int p3)]) hx hb dX3_nextFit_8 hl (by decide) rfl (fun ls hl => ?_)
    refine lv_iconst (v := 0) hx hb dX3_nextFit_10 (by decide) ?_
    refine lv_istore (lv' := [(6, .int 0), (5, .int p3), (4, .ref (a.2 0 k_3)), (0, .ref (a.1 0)), (1, .ref (a.2 1 p1)), (2, .int p2), (3, .int p3)]) hx hb dX3_nextFit_11 hl (by decide) rfl (fun ls hl => ?_)
    exact k_X3_nextFit_13v1 hx hb hr hts hml hown hlocks hK hP hD _ _ p1 p2 k_3 p3 0 hp1 hk_3 ls h (lv_sub hl [3, 4, 5, 2, 1, 0] rfl)
def f_X3_firstFit (n : Nat → Nat) (V : XV) (p1 : Nat) (p2 : Int32) (p3 : Int32) : Option (Int32) := ob (f_X3_lastingObstacle n V p1 p2) (fun u_1 => oi (u_1 = 45) (ob (f_X3_nextFit n V p1 p2 p3) (fun u_4 => some u_4)) (some (-1)))
theorem hd_X3_firstFit : yX3_firstFit.cls = RX3 ∧ yX3_firstFit.cls ≠ "java/lang/invoke/MethodHandle" ∧ yX3_firstFit.cls ≠ "java/lang/invoke/VarHandle" ∧ (parseMethodDescriptor yX3_firstFit.desc).map (fun d => d.parameters.length) = some 3 := by decide +kernel
set_option maxHeartbeats 4000000 in
set_option maxRecDepth 100000 in
theorem c_X3_firstFit (l : Launch) (D : va_G) (cy : Nat → ClassId) (a : XA) (n : Nat → Nat) (V : XV) (p1 : Nat) (p2 : Int32) (p3 : Int32) (hp1 : p1 < n 1) {res : Int32} (h : f_X3_firstFit n V p1 p2 p3 = some res) : Met l yX3_firstFit wsX3_firstFit ({ frames := 4, cells := 0, slots := 0, locals := 110 } : Room) (va_Pc [.ref (a.1 0), .ref (a.2 1 p1), .int p2, .int p3] (xI D cy a n V)) (vp_Si (fun r => r = res)) 0 0 (fun _ => False) := by
  refine Met.ofW (cc := cX3_firstFit) (maxL := 4) (ret := (some .int)) (by decide) rfl ?_
  intro p e s m args below meth c s₁ B hml hv
  obtain ⟨rfl, hP, hK, hD⟩ := hv
  have hx := B.exec
  have hb := B.bytes
  have hr := B.returns
  have hts := atoms_spec (ws := wsX3_firstFit) B.pre
  have hown : s.vm.findClass RX3 = some m.cls := findClass_of_methodNamed B.named
  have hlocks := B.notSynchronized
  have hl := lv_entry ([.ref (a.1 0), .ref (a.2 1 p1), .int p2, .int p3]) (n := 4) (Nat.le_of_ble_eq_true rfl)
  rw [lg_entry_eq]
  generalize (lg_sl ([.ref (a.1 0), .ref (a.2 1 p1), .int p2, .int p3]) ++ List.replicate (4 - (lg_sl ([.ref (a.1 0), .ref (a.2 1 p1), .int p2, .int p3])).length) Slot.unset).toArray = ls at hl ⊢
  have hl : lv_has ls 4 [(0, .ref (a.1 0)), (1, .ref (a.2 1 p1)), (2, .int p2), (3, .int p3)] := hl
  refine lv_aload_n hx hb dX3_firstFit_0 rfl (lv_at hl 0 rfl) ?_
  refine lv_aload_n hx hb dX3_firstFit_1 rfl (lv_at hl 1 rfl) ?_
  refine lv_iload_n hx hb dX3_firstFit_2 rfl (lv_at hl 2 rfl) ?_
  obtain ⟨u_1, hg_2, h⟩ := ob_some h
  refine zcSi (W.runV (As := [.ref (a.2 1 p1), .int p2]) (rest := []) ⟨hx, hb, hml, hown, hts⟩ (c_X3_lastingObstacle l D cy a n V p1 p2 hp1 hg_2) (cwV 2 hts gX3_firstFit_X3_lastingObstacle rfl rfl rfl hd_X3_lastingObstacle ⟨Nat.le_of_ble_eq_true rfl, Nat.le_of_ble_eq_true rfl⟩) ⟨xI_blind, va_recv hK hP (ci := 3) (q0 := 0) rfl rfl, (xI_at hP hK hD)⟩ rfl rfl hl.1 rfl (lv_room (Nat.le_of_ble_eq_true rfl)) dX3_firstFit_3 ⟨Nat.le_of_ble_eq_true rfl, Nat.le_of_ble_eq_true rfl⟩) ?_
  refine lv_bipush (v := 45) hx hb dX3_firstFit_6 (by decide) ?_
  refine lv_icmp_ne (tgt := 21) hx hb dX3_firstFit_8 (by decide) (fun c_3 => ?_) (fun c_3 => ?_)
  · replace h := oi_f c_3 h
    refine lv_iconst (v := (-1)) hx hb dX3_firstFit_21 (by decide) ?_
    have h9 := Option.some.inj h
    exact W.iret (v := (-1)) hx hb hr (fun t ht hW => ⟨(-1), rfl, h9, ht⟩) (fun _ hq => absurd hq List.not_mem_nil) dX3_firstFit_22 hlocks
  · replace h := oi_t c_3 h
    refine lv_aload_n hx hb dX3_firstFit_11 rfl (lv_at hl 0 rfl) ?_
    refine lv_aload_n hx hb dX3_firstFit_12 rfl (lv_at hl 1 rfl) ?_
    refine lv_iload_n hx hb dX3_firstFit_13 rfl (lv_at hl 2 rfl) ?_
    refine lv_iload_n hx hb dX3_firstFit_14 rfl (lv_at hl 3 rfl) ?_
    obtain ⟨u_4, hg_5, h⟩ := ob_some h
    refine zcSi (W.runV (As := [.ref (a.2 1 p1), .int p2, .int p3]) (rest := []) ⟨hx, hb, hml, hown, hts⟩ (c_X3_nextFit l D cy a n V p1 p2 p3 hp1 hg_5) (cwV 3 hts gX3_firstFit_X3_nextFit rfl rfl rfl hd_X3_nextFit ⟨Nat.le_of_ble_eq_true rfl, Nat.le_of_ble_eq_true rfl⟩) ⟨xI_blind, va_recv hK hP (ci := 3) (q0 := 0) rfl rfl, (xI_at hP hK hD)⟩ rfl rfl hl.1 rfl (lv_room (Nat.le_of_ble_eq_true rfl)) dX3_firstFit_15 ⟨Nat.le_of_ble_eq_true rfl, Nat.le_of_ble_eq_true rfl⟩) ?_
    refine lv_goto (tgt := 22) hx hb dX3_firstFit_18 (by decide) ?_
    have h9 := Option.some.inj h
    exact W.iret (v := u_4) hx hb hr (fun t ht hW => ⟨u_4, rfl, h9, ht⟩) (fun _ hq => absurd hq List.not_mem_nil) dX3_firstFit_22 hlocks
def f_X3_passingObstacle_76 (n : Nat → Nat) : XV → Nat → Nat → Int32 → Int32 → Int32 → Int32 → Int32 → Int32 → Option (Int32)
  | _, 0, _, _, _, _, _, _, _ => none
  | V, fu + 1, zx1, zx2, zx3, zx5, zx6, zx8, zx9 => oi (zx8 ≤ zx9) (og (zx6.toUInt32.toUInt16.toUInt32.toInt32 = zx6) (some zx6)) (og (¬ (zx9 < 0 ∨ 40 ≤ (zx9).toNatClampNeg)) (oc (n 1) (xref n 1 zx9) (f_X3_passingObstacle_76 n V fu zx1 zx2 zx3 zx5 zx6 zx8 (zx9 + 1)) (fun k_13 => oi (k_13 = zx1) (f_X3_passingObstacle_76 n V fu zx1 zx2 zx3 zx5 zx6 zx8 (zx9 + 1)) (ob (f_X1_meets n V k_13 zx3 zx5) (fun u_16 => oi (u_16 = 0) (f_X3_passingObstacle_76 n V fu zx1 zx2 zx3 zx5 zx6 zx8 (zx9 + 1)) (oi ((V.1 1 k_13 9) = zx2) (some 99) (ob (f_X1_sharesAir n V k_13 zx1) (fun u_20 => oi (u_20 = 0) (f_X3_passingObstacle_76 n V fu zx1 zx2 zx3 zx5 zx6 zx8 (zx9 + 1)) (f_X3_passingObstacle_76 n V fu zx1 zx2 zx3 zx5 97 zx8 (zx9 + 1))))))))))
def f_X3_passingObstacle (n : Nat → Nat) (V : XV) (p1 : Nat) (p2 : Int32) (p3 : Int32) : Option (Int32) := oi (p3 < (V.2.2.1 7)) (some 109) (oi (p3 ≤ (1440 - (V.1 1 p1 5))) (ob (f_X3_craneNumbered n V p2) (fun u_3 => oc (n 0) u_3 (some 104) (fun k_5 => ob (f_X0_lastClosedHour n V k_5 p3 (p3 + (V.1 1 p1 5))) (fun u_7 => oi (u_7 = (-1)) (f_X3_passingObstacle_76 n V FU p1 p2 p3 (p3 + (V.1 1 p1 5)) 45 40 0) (some 104))))) (some 109))
theorem hd_X3_passingObstacle : yX3_passingObstacle.cls = RX3 ∧ yX3_passingObstacle.cls ≠ "java/lang/invoke/MethodHandle" ∧ yX3_passingObstacle.cls ≠ "java/lang/invoke/VarHandle" ∧ (parseMethodDescriptor yX3_passingObstacle.desc).map (fun d => d.parameters.length) = some 3 := by decide +kernel
set_option maxHeartbeats 4000000 in
set_option maxRecDepth 100000 in
theorem k_X3_passingObstacle_76 {p : Program} {l : Launch} {e : Env} {s : State} {m : MethodId} {args : Array Value} {below : List Frame} {meth : Method} {c : Code} {D : va_G} {cy : Nat → ClassId} {a : XA} {n : Nat → Nat} {V : XV} (hx : p.tables.exec = Jvm.exec) (hb : c.code = cX3_passingObstacle) (hr : meth.sig.returnType = (some .char)) (hts : ∀ w ∈ wsX3_passingObstacle, w.before args s = true) (hml : c.maxLocals = 11) (hown : s.vm.findClass RX3 = some m.cls) (hlocks : meth.locks = false) (hK : va_K D xcl (xty cy) s) (hP : va_P D xcl (xW cy a n V) s.heap) (hD : va_D (fun _ => True) (xW cy a n V)) (res : Int32) : ∀ (fu : Nat) (zx1 : Nat) (zx2 : Int32) (zx3 : Int32) (zx5 : Int32) (zx6 : Int32) (zx8 : Int32) (zx9 : Int32) (hzx1 : zx1 < n 1) (ls : Array Slot), f_X3_passingObstacle_76 n V fu zx1 zx2 zx3 zx5 zx6 zx8 zx9 = some res → lv_has ls 11 [(1, .ref (a.2 1 zx1)), (2, .int zx2), (3, .int zx3), (5, .int zx5), (6, .int zx6), (7, .ref (a.1 2)), (8, .int zx8), (9, .int zx9)] → W p l e ({ frames := 2, cells := 0, slots := 0, locals := 44 } : Room) s m args below meth c s.heap [] 0 0 (MQ below (vp_Si (fun r => r = res)) args s 0 0 (fun _ => False)) (F0 m 76 ls []) := by
  have hinX1 : ∀ w ∈ wsX10, w ∈ wsX3_passingObstacle := (fun _ h => (List.mem_cons_of_mem _ (List.mem_append_left _ (List.mem_append_right _ h))))
  intro fu
  induction fu with
  | zero =>
    intro zx1 zx2 zx3 zx5 zx6 zx8 zx9 hzx1 ls h hl
    cases h
  | succ fu ih =>
    intro zx1 zx2 zx3 zx5 zx6 zx8 zx9 hzx1 ls h hl
    refine lv_iload hx hb dX3_passingObstacle_76 (lv_at hl 7 rfl) ?_
    refine lv_iload hx hb dX3_passingObstacle_78 (lv_at hl 6 rfl) ?_
    refine lv_icmp_ge (tgt := 143) hx hb dX3_passingObstacle_80 (by decide) (fun c_10 => ?_) (fun c_10 => ?_)
    · replace h := oi_t c_10 h
      refine lv_iload hx hb dX3_passingObstacle_143 (lv_at hl 4 rfl) ?_
      obtain ⟨g_11, h⟩ := og_some h
      have h9 := Option.some.inj h
      exact W.zret (v := zx6) hx hb hr (congrArg Value.int g_11) (fun t ht hW => ⟨zx6, rfl, h9, ht⟩) (fun _ hq => absurd hq List.not_mem_nil) dX3_passingObstacle_145 hlocks
    · replace h := oi_f c_10 h
      refine lv_aload hx hb dX3_passingObstacle_83 (lv_at hl 5 rfl) ?_
      refine lv_iload hx hb dX3_passingObstacle_85 (lv_at hl 7 rfl) ?_
      obtain ⟨g_12, h⟩ := og_some h
      rcases oc_some h with ⟨o_14, h⟩ | ⟨k_13, hk_13, o_14, h⟩
      · refine zaldn hx hb hK hP 2 5 rfl rfl g_12 o_14 dX3_passingObstacle_87 ?_
        refine lv_astoreN (lv' := [(10, .null), (1, .ref (a.2 1 zx1)), (2, .int zx2), (3, .int zx3), (5, .int zx5), (6, .int zx6), (7, .ref (a.1 2)), (8, .int zx8), (9, .int zx9)]) hx hb dX3_passingObstacle_88 hl (by decide) rfl (fun ls hl => ?_)
        refine lv_aloadN hx hb dX3_passingObstacle_90 (lv_at hl 0 rfl) ?_
        refine lv_ifnullN (tgt := 137) hx hb dX3_passingObstacle_92 (by decide) ?_
        refine lv_iinc (v := zx9 + 1) (lv' := [(9, .int (zx9 + 1)), (10, .null), (1, .ref (a.2 1 zx1)), (2, .int zx2), (3, .int zx3), (5, .int zx5), (6, .int zx6), (7, .ref (a.1 2)), (8, .int zx8)]) hx hb dX3_passingObstacle_137 hl (k := 8) rfl rfl (by decide) rfl (fun ls hl => ?_)
        refine lv_goto (tgt := 76) hx hb dX3_passingObstacle_140 (by decide) ?_
        exact ih zx1 zx2 zx3 zx5 zx6 zx8 (zx9 + 1) hzx1 ls h (lv_sub hl [2, 3, 4, 5, 6, 7, 8, 0] rfl)
      · refine zalds hx hb hK hP 2 5 rfl rfl g_12 o_14 dX3_passingObstacle_87 ?_
        refine lv_astore (lv' := [(10, .ref (a.2 1 k_13)), (1, .ref (a.2 1 zx1)), (2, .int zx2), (3, .int zx3), (5, .int zx5), (6, .int zx6), (7, .ref (a.1 2)), (8, .int zx8), (9, .int zx9)]) hx hb dX3_passingObstacle_88 hl (by decide) rfl (fun ls hl => ?_)
        refine lv_aload hx hb dX3_passingObstacle_90 (lv_at hl 0 rfl) ?_
        refine lv_ifnull hx hb dX3_passingObstacle_92 ?_
        refine lv_aload hx hb dX3_passingObstacle_95 (lv_at hl 0 rfl) ?_
        refine lv_aload_n hx hb dX3_passingObstacle_97 rfl (lv_at hl 1 rfl) ?_
        refine lv_acmp_eq (rx := some (a.2 1 k_13)) (ry := some (a.2 1 zx1)) (tgt := 137) hx hb dX3_passingObstacle_98 (by decide) (fun c_15 => ?_) (fun c_15 => ?_)
        · replace h := oi_t (xinj_li hD (by assumption) (by assumption) c_15) h
          refine lv_iinc (v := zx9 + 1) (lv' := [(9, .int (zx9 + 1)), (10, .ref (a.2 1 k_13)), (1, .ref (a.2 1 zx1)), (2, .int zx2), (3, .int zx3), (5, .int zx5), (6, .int zx6), (7, .ref (a.1 2)), (8, .int zx8)]) hx hb dX3_passingObstacle_137 hl (k := 8) rfl rfl (by decide) rfl (fun ls hl => ?_)
          refine lv_goto (tgt := 76) hx hb dX3_passingObstacle_140 (by decide) ?_
          exact ih zx1 zx2 zx3 zx5 zx6 zx8 (zx9 + 1) hzx1 ls h (lv_sub hl [2, 3, 4, 5, 6, 7, 8, 0] rfl)
        · replace h := oi_f (fun q => c_15 (by rw [q])) h
          refine lv_aload hx hb dX3_passingObstacle_101 (lv_at hl 0 rfl) ?_
          refine lv_iload_n hx hb dX3_passingObstacle_103 rfl (lv_at hl 3 rfl) ?_
          refine lv_iload hx hb dX3_passingObstacle_104 (lv_at hl 4 rfl) ?_
          obtain ⟨u_16, hg_17, h⟩ := ob_some h
          refine zcSi (W.runV (As := [.int zx3, .int zx5]) (rest := []) ⟨hx, hb, hml, hown, hts⟩ (c_X1_meets l D cy a n V k_13 zx3 zx5 hk_13 hg_17) (cwV 2 hts gX3_passingObstacle_X1_meets rfl rfl rfl hd_X1_meets ⟨Nat.le_of_ble_eq_true rfl, Nat.le_of_ble_eq_true rfl⟩) ⟨xI_blind, va_recv hK hP (ci := 1) rfl (xpos_li hk_13), (xI_at hP hK hD)⟩ rfl rfl hl.1 rfl (lv_room (Nat.le_of_ble_eq_true rfl)) dX3_passingObstacle_106 ⟨Nat.le_of_ble_eq_true rfl, Nat.le_of_ble_eq_true rfl⟩) ?_
          refine lv_if_eq (tgt := 137) hx hb dX3_passingObstacle_109 (by decide) (fun c_18 => ?_) (fun c_18 => ?_)
          · replace h := oi_t c_18 h
            refine lv_iinc (v := zx9 + 1) (lv' := [(9, .int (zx9 + 1)), (10, .ref (a.2 1 k_13)), (1, .ref (a.2 1 zx1)), (2, .int zx2), (3, .int zx3), (5, .int zx5), (6, .int zx6), (7, .ref (a.1 2)), (8, .int zx8)]) hx hb dX3_passingObstacle_137 hl (k := 8) rfl rfl (by decide) rfl (fun ls hl => ?_)
            refine lv_goto (tgt := 76) hx hb dX3_passingObstacle_140 (by decide) ?_
            exact ih zx1 zx2 zx3 zx5 zx6 zx8 (zx9 + 1) hzx1 ls h (lv_sub hl [2, 3, 4, 5, 6, 7, 8, 0] rfl)
          · replace h := oi_f c_18 h
            refine lv_aload hx hb dX3_passingObstacle_112 (lv_at hl 0 rfl) ?_
            refine va_get (D := D) (ci := 1) (v := .int (V.1 1 k_13 9)) (C := RX1) (T := TX1) (N := 11) hx hb hts hinX1 hown hK hP _ (xpos_li hk_13) rfl 9 (by decide) (hts _ (List.mem_of_getElem? (i := 4) rfl)) (fun _ h9 => h9) rfl dX3_passingObstacle_114 ?_
            refine lv_iload_n hx hb dX3_passingObstacle_117 rfl (lv_at hl 2 rfl) ?_
            refine lv_icmp_ne (tgt := 124) hx hb dX3_passingObstacle_118 (by decide) (fun c_19 => ?_) (fun c_19 => ?_)
            · replace h := oi_f c_19 h
              refine lv_aload hx hb dX3_passingObstacle_124 (lv_at hl 0 rfl) ?_
              refine lv_aload_n hx hb dX3_passingObstacle_126 rfl (lv_at hl 1 rfl) ?_
              obtain ⟨u_20, hg_21, h⟩ := ob_some h
              refine zcSi (W.runV (As := [.ref (a.2 1 zx1)]) (rest := []) ⟨hx, hb, hml, hown, hts⟩ (c_X1_sharesAir l D cy a n V k_13 zx1 hk_13 hzx1 hg_21) (cwV 1 hts gX3_passingObstacle_X1_sharesAir rfl rfl rfl hd_X1_sharesAir ⟨Nat.le_of_ble_eq_true rfl, Nat.le_of_ble_eq_true rfl⟩) ⟨xI_blind, va_recv hK hP (ci := 1) rfl (xpos_li hk_13), (xI_at hP hK hD)⟩ rfl rfl hl.1 rfl (lv_room (Nat.le_of_ble_eq_true rfl)) dX3_passingObstacle_127 ⟨Nat.le_of_ble_eq_true rfl, Nat.le_of_ble_eq_true rfl⟩) ?_
              refine lv_if_eq (tgt := 137) hx hb dX3_passingObstacle_130 (by decide) (fun c_22 => ?_) (fun c_22 => ?_)
              · replace h := oi_t c_22 h
                refine lv_iinc (v := zx9 + 1) (lv' := [(9, .int (zx9 + 1)), (10, .ref (a.2 1 k_13)), (1, .ref (a.2 1 zx1)), (2, .int zx2), (3, .int zx3), (5, .int zx5), (6, .int zx6), (7, .ref (a.1 2)), (8, .int zx8)]) hx hb dX3_passingObstacle_137 hl (k := 8) rfl rfl (by decide) rfl (fun ls hl => ?_)
                refine lv_goto (tgt := 76) hx hb dX3_passingObstacle_140 (by decide) ?_
                exact ih zx1 zx2 zx3 zx5 zx6 zx8 (zx9 + 1) hzx1 ls h (lv_sub hl [2, 3, 4, 5, 6, 7, 8, 0] rfl)
              · replace h := oi_f c_22 h
                refine lv_bipush (v := 97) hx hb dX3_passingObstacle_133 (by decide) ?_
                refine lv_istore (lv' := [(6, .int 97), (10, .ref (a.2 1 k_13)), (1, .ref (a.2 1 zx1)), (2, .int zx2), (3, .int zx3), (5, .int zx5), (7, .ref (a.1 2)), (8, .int zx8), (9, .int zx9)]) hx hb dX3_passingObstacle_135 hl (by decide) rfl (fun ls hl => ?_)
                refine lv_iinc (v := zx9 + 1) (lv' := [(9, .int (zx9 + 1)), (6, .int 97), (10, .ref (a.2 1 k_13)), (1, .ref (a.2 1 zx1)), (2, .int zx2), (3, .int zx3), (5, .int zx5), (7, .ref (a.1 2)), (8, .int zx8)]) hx hb dX3_passingObstacle_137 hl (k := 8) rfl rfl (by decide) rfl (fun ls hl => ?_)
                refine lv_goto (tgt := 76) hx hb dX3_passingObstacle_140 (by decide) ?_
                exact ih zx1 zx2 zx3 zx5 97 zx8 (zx9 + 1) hzx1 ls h (lv_sub hl [3, 4, 5, 6, 1, 7, 8, 0] rfl)
            · replace h := oi_t c_19 h
              refine lv_bipush (v := 99) hx hb dX3_passingObstacle_121 (by decide) ?_
              have h9 := Option.some.inj h
              exact W.zret (v := 99) hx hb hr (by decide) (fun t ht hW => ⟨99, rfl, h9, ht⟩) (fun _ hq => absurd hq List.not_mem_nil) dX3_passingObstacle_123 hlocks
set_option maxHeartbeats 4000000 in
set_option maxRecDepth 100000 in
theorem c_X3_passingObstacle (l : Launch) (D : va_G) (cy : Nat → ClassId) (a : XA) (n : Nat → Nat) (V : XV) (p1 : Nat) (p2 : Int32) (p3 : Int32) (hp1 : p1 < n 1) {res : Int32} (h : f_X3_passingObstacle n V p1 p2 p3 = some res) : Met l yX3_passingObstacle wsX3_passingObstacle ({ frames := 2, cells := 0, slots := 0, locals := 44 } : Room) (va_Pc [.ref (a.1 0), .ref (a.2 1 p1), .int p2, .int p3] (xI D cy a n V)) (vp_Si (fun r => r = res)) 0 0 (fun _ => False) := by
  refine Met.ofW (cc := cX3_passingObstacle) (maxL := 11) (ret := (some .char)) (by decide) rfl ?_
  intro p e s m args below meth c s₁ B hml hv
  obtain ⟨rfl, hP, hK, hD⟩ := hv
  have hx := B.exec
  have hb := B.bytes
  have hr := B.returns
  have hts := atoms_spec (ws := wsX3_passingObstacle) B.pre
  have hown : s.vm.findClass RX3 = some m.cls := findClass_of_methodNamed B.named
  have hlocks := B.notSynchronized
  have hl := lv_entry ([.ref (a.1 0), .ref (a.2 1 p1), .int p2, .int p3]) (n := 11) (Nat.le_of_ble_eq_true rfl)
  rw [lg_entry_eq]
  generalize (lg_sl ([.ref (a.1 0), .ref (a.2 1 p1), .int p2, .int p3]) ++ List.replicate (11 - (lg_sl ([.ref (a.1 0), .ref (a.2 1 p1), .int p2, .int p3])).length) Slot.unset).toArray = ls at hl ⊢
  have hl : lv_has ls 11 [(0, .ref (a.1 0)), (1, .ref (a.2 1 p1)), (2, .int p2), (3, .int p3)] := hl
  have hinX1 : ∀ w ∈ wsX10, w ∈ wsX3_passingObstacle := (fun _ h => (List.mem_cons_of_mem _ (List.mem_append_left _ (List.mem_append_right _ h))))
  have hinX3 : ∀ w ∈ wsX30, w ∈ wsX3_passingObstacle := (fun _ h => (List.mem_cons_of_mem _ (List.mem_append_left _ (List.mem_append_left _ (List.mem_append_right _ h)))))
  refine lv_iload_n hx hb dX3_passingObstacle_0 rfl (lv_at hl 3 rfl) ?_
  refine lv_aload_n hx hb dX3_passingObstacle_1 rfl (lv_at hl 0 rfl) ?_
  refine va_get (D := D) (ci := 3) (v := .int (V.2.2.1 7)) (C := RX3) (T := TX3) (N := 10) hx hb hts hinX3 hown hK hP 0 rfl rfl 7 (by decide) (hts _ (List.mem_of_getElem? (i := 1) rfl)) (fun _ h9 => h9) rfl dX3_passingObstacle_2 ?_
  refine lv_icmp_lt (tgt := 20) hx hb dX3_passingObstacle_5 (by decide) (fun c_1 => ?_) (fun c_1 => ?_)
  · replace h := oi_t c_1 h
    refine lv_bipush (v := 109) hx hb dX3_passingObstacle_20 (by decide) ?_
    have h9 := Option.some.inj h
    exact W.zret (v := 109) hx hb hr (by decide) (fun t ht hW => ⟨109, rfl, h9, ht⟩) (fun _ hq => absurd hq List.not_mem_nil) dX3_passingObstacle_22 hlocks
  · replace h := oi_f c_1 h
    refine lv_iload_n hx hb dX3_passingObstacle_8 rfl (lv_at hl 3 rfl) ?_
    refine lv_sipush (v := 1440) hx hb dX3_passingObstacle_9 (by decide) ?_
    refine lv_aload_n hx hb dX3_passingObstacle_12 rfl (lv_at hl 1 rfl) ?_
    refine va_get (D := D) (ci := 1) (v := .int (V.1 1 p1 5)) (C := RX1) (T := TX1) (N := 11) hx hb hts hinX1 hown hK hP _ (xpos_li hp1) rfl 5 (by decide) (hts _ (List.mem_of_getElem? (i := 2) rfl)) (fun _ h9 => h9) rfl dX3_passingObstacle_13 ?_
    refine lv_isub hx hb dX3_passingObstacle_16 ?_
    refine lv_icmp_le (tgt := 23) hx hb dX3_passingObstacle_17 (by decide) (fun c_2 => ?_) (fun c_2 => ?_)
    · replace h := oi_t c_2 h
      refine lv_aload_n hx hb dX3_passingObstacle_23 rfl (lv_at hl 0 rfl) ?_
      refine lv_iload_n hx hb dX3_passingObstacle_24 rfl (lv_at hl 2 rfl) ?_
      obtain ⟨u_3, hg_4, h⟩ := ob_some h
      rcases oc_some h with ⟨o_6, h⟩ | ⟨k_5, hk_5, o_6, h⟩
      · refine zcSqn (W.runV (As := [.int p2]) (rest := []) ⟨hx, hb, hml, hown, hts⟩ (c_X3_craneNumbered l D cy a n V p2 hg_4) (cwV 1 hts gX3_passingObstacle_X3_craneNumbered rfl rfl rfl hd_X3_craneNumbered ⟨Nat.le_of_ble_eq_true rfl, Nat.le_of_ble_eq_true rfl⟩) ⟨xI_blind, va_recv hK hP (ci := 3) (q0 := 0) rfl rfl, (xI_at hP hK hD)⟩ rfl rfl hl.1 rfl (lv_room (Nat.le_of_ble_eq_true rfl)) dX3_passingObstacle_25 ⟨Nat.le_of_ble_eq_true rfl, Nat.le_of_ble_eq_true rfl⟩) o_6 ?_
        refine lv_astoreN (lv' := [(4, .null), (0, .ref (a.1 0)), (1, .ref (a.2 1 p1)), (2, .int p2), (3, .int p3)]) hx hb dX3_passingObstacle_28 hl (by decide) rfl (fun ls hl => ?_)
        refine lv_iload_n hx hb dX3_passingObstacle_30 rfl (lv_at hl 4 rfl) ?_
        refine lv_aload_n hx hb dX3_passingObstacle_31 rfl (lv_at hl 2 rfl) ?_
        refine va_get (D := D) (ci := 1) (v := .int (V.1 1 p1 5)) (C := RX1) (T := TX1) (N := 11) hx hb hts hinX1 hown hK hP _ (xpos_li hp1) rfl 5 (by decide) (hts _ (List.mem_of_getElem? (i := 2) rfl)) (fun _ h9 => h9) rfl dX3_passingObstacle_32 ?_
        refine lv_iadd hx hb dX3_passingObstacle_35 ?_
        refine lv_istore (lv' := [(5, .int (p3 + (V.1 1 p1 5))), (4, .null), (0, .ref (a.1 0)), (1, .ref (a.2 1 p1)), (2, .int p2), (3, .int p3)]) hx hb dX3_passingObstacle_36 hl (by decide) rfl (fun ls hl => ?_)
        refine lv_aloadN hx hb dX3_passingObstacle_38 (lv_at hl 1 rfl) ?_
        refine lv_ifnullN (tgt := 55) hx hb dX3_passingObstacle_40 (by decide) ?_
        refine lv_bipush (v := 104) hx hb dX3_passingObstacle_55 (by decide) ?_
        have h9 := Option.some.inj h
        exact W.zret (v := 104) hx hb hr (by decide) (fun t ht hW => ⟨104, rfl, h9, ht⟩) (fun _ hq => absurd hq List.not_mem_nil) dX3_passingObstacle_57 hlocks
      · refine zcSqs (W.runV (As := [.int p2]) (rest := []) ⟨hx, hb, hml, hown, hts⟩ (c_X3_craneNumbered l D cy a n V p2 hg_4) (cwV 1 hts gX3_passingObstacle_X3_craneNumbered rfl rfl rfl hd_X3_craneNumbered ⟨Nat.le_of_ble_eq_true rfl, Nat.le_of_ble_eq_true rfl⟩) ⟨xI_blind, va_recv hK hP (ci := 3) (q0 := 0) rfl rfl, (xI_at hP hK hD)⟩ rfl rfl hl.1 rfl (lv_room (Nat.le_of_ble_eq_true rfl)) dX3_passingObstacle_25 ⟨Nat.le_of_ble_eq_true rfl, Nat.le_of_ble_eq_true rfl⟩) o_6 ?_
        refine lv_astore (lv' := [(4, .ref (a.2 0 k_5)), (0, .ref (a.1 0)), (1, .ref (a.2 1 p1)), (2, .int p2), (3, .int p3)]) hx hb dX3_passingObstacle_28 hl (by decide) rfl (fun ls hl => ?_)
        refine lv_iload_n hx hb dX3_passingObstacle_30 rfl (lv_at hl 4 rfl) ?_
        refine lv_aload_n hx hb dX3_passingObstacle_31 rfl (lv_at hl 2 rfl) ?_
        refine va_get (D := D) (ci := 1) (v := .int (V.1 1 p1 5)) (C := RX1) (T := TX1) (N := 11) hx hb hts hinX1 hown hK hP _ (xpos_li hp1) rfl 5 (by decide) (hts _ (List.mem_of_getElem? (i := 2) rfl)) (fun _ h9 => h9) rfl dX3_passingObstacle_32 ?_
        refine lv_iadd hx hb dX3_passingObstacle_35 ?_
        refine lv_istore (lv' := [(5, .int (p3 + (V.1 1 p1 5))), (4, .ref (a.2 0 k_5)), (0, .ref (a.1 0)), (1, .ref (a.2 1 p1)), (2, .int p2), (3, .int p3)]) hx hb dX3_passingObstacle_36 hl (by decide) rfl (fun ls hl => ?_)
        refine lv_aload hx hb dX3_passingObstacle_38 (lv_at hl 1 rfl) ?_
        refine lv_ifnull hx hb dX3_passingObstacle_40 ?_
        refine lv_aload hx hb dX3_passingObstacle_43 (lv_at hl 1 rfl) ?_
        refine lv_iload_n hx hb dX3_passingObstacle_45 rfl (lv_at hl 5 rfl) ?_
        refine lv_iload hx hb dX3_passingObstacle_46 (lv_at hl 0 rfl) ?_
        obtain ⟨u_7, hg_8, h⟩ := ob_some h
        refine zcSi (W.runV (As := [.int p3, .int (p3 + (V.1 1 p1 5))]) (rest := []) ⟨hx, hb, hml, hown, hts⟩ (c_X0_lastClosedHour l D cy a n V k_5 p3 (p3 + (V.1 1 p1 5)) hk_5 hg_8) (cwV 2 hts gX3_passingObstacle_X0_lastClosedHour rfl rfl rfl hd_X0_lastClosedHour ⟨Nat.le_of_ble_eq_true rfl, Nat.le_of_ble_eq_true rfl⟩) ⟨xI_blind, va_recv hK hP (ci := 0) rfl (xpos_cr hk_5), (xI_at hP hK hD)⟩ rfl rfl hl.1 rfl (lv_room (Nat.le_of_ble_eq_true rfl)) dX3_passingObstacle_48 ⟨Nat.le_of_ble_eq_true rfl, Nat.le_of_ble_eq_true rfl⟩) ?_
        refine lv_iconst (v := (-1)) hx hb dX3_passingObstacle_51 (by decide) ?_
        refine lv_icmp_eq (tgt := 58) hx hb dX3_passingObstacle_52 (by decide) (fun c_9 => ?_) (fun c_9 => ?_)
        · replace h := oi_t c_9 h
          refine lv_bipush (v := 45) hx hb dX3_passingObstacle_58 (by decide) ?_
          refine lv_istore (lv' := [(6, .int 45), (5, .int (p3 + (V.1 1 p1 5))), (4, .ref (a.2 0 k_5)), (0, .ref (a.1 0)), (1, .ref (a.2 1 p1)), (2, .int p2), (3, .int p3)]) hx hb dX3_passingObstacle_60 hl (by decide) rfl (fun ls hl => ?_)
          refine lv_aload_n hx hb dX3_passingObstacle_62 rfl (lv_at hl 3 rfl) ?_
          refine va_get (D := D) (ci := 3) (v := .ref (a.1 2)) (C := RX3) (T := TX3) (N := 10) hx hb hts hinX3 hown hK hP 0 rfl rfl 1 (by decide) (hts _ (List.mem_of_getElem? (i := 3) rfl)) (fun _ h9 => h9) rfl dX3_passingObstacle_63 ?_
          refine lv_astore (lv' := [(7, .ref (a.1 2)), (6, .int 45), (5, .int (p3 + (V.1 1 p1 5))), (4, .ref (a.2 0 k_5)), (0, .ref (a.1 0)), (1, .ref (a.2 1 p1)), (2, .int p2), (3, .int p3)]) hx hb dX3_passingObstacle_66 hl (by decide) rfl (fun ls hl => ?_)
          refine lv_aload hx hb dX3_passingObstacle_68 (lv_at hl 0 rfl) ?_
          refine va_alen (v := 40) hx hb hK hP 2 5 rfl rfl rfl dX3_passingObstacle_70 ?_
          refine lv_istore (lv' := [(8, .int 40), (7, .ref (a.1 2)), (6, .int 45), (5, .int (p3 + (V.1 1 p1 5))), (4, .ref (a.2 0 k_5)), (0, .ref (a.1 0)), (1, .ref (a.2 1 p1)), (2, .int p2), (3, .int p3)]) hx hb dX3_passingObstacle_71 hl (by decide) rfl (fun ls hl => ?_)
          refine lv_iconst (v := 0) hx hb dX3_passingObstacle_73 (by decide) ?_
          refine lv_istore (lv' := [(9, .int 0), (8, .int 40), (7, .ref (a.1 2)), (6, .int 45), (5, .int (p3 + (V.1 1 p1 5))), (4, .ref (a.2 0 k_5)), (0, .ref (a.1 0)), (1, .ref (a.2 1 p1)), (2, .int p2), (3, .int p3)]) hx hb dX3_passingObstacle_74 hl (by decide) rfl (fun ls hl => ?_)
          exact k_X3_passingObstacle_76 hx hb hr hts hml hown hlocks hK hP hD _ _ p1 p2 p3 (p3 + (V.1 1 p1 5)) 45 40 0 hp1 ls h (lv_sub hl [7, 8, 9, 4, 3, 2, 1, 0] rfl)
        · replace h := oi_f c_9 h
          refine lv_bipush (v := 104) hx hb dX3_passingObstacle_55 (by decide) ?_
          have h9 := Option.some.inj h
          exact W.zret (v := 104) hx hb hr (by decide) (fun t ht hW => ⟨104, rfl, h9, ht⟩) (fun _ hq => absurd hq List.not_mem_nil) dX3_passingObstacle_57 hlocks
    · replace h := oi_f c_2 h
      refine lv_bipush (v := 109) hx hb dX3_passingObstacle_20 (by decide) ?_
      have h9 := Option.some.inj h
      exact W.zret (v := 109) hx hb hr (by decide) (fun t ht hW => ⟨109, rfl, h9, ht⟩) (fun _ hq => absurd hq List.not_mem_nil) dX3_passingObstacle_22 hlocks
def f_X3_obstacle (n : Nat → Nat) (V : XV) (p1 : Nat) (p2 : Int32) (p3 : Int32) : Option (Int32) := ob (f_X3_lastingObstacle n V p1 p2) (fun u_1 => oi (u_1 = 45) (ob (f_X3_passingObstacle n V p1 p2 p3) (fun u_5 => og (u_5.toUInt32.toUInt16.toUInt32.toInt32 = u_5) (some u_5))) (og (u_1.toUInt32.toUInt16.toUInt32.toInt32 = u_1) (some u_1)))
theorem hd_X3_obstacle : yX3_obstacle.cls = RX3 ∧ yX3_obstacle.cls ≠ "java/lang/invoke/MethodHandle" ∧ yX3_obstacle.cls ≠ "java/lang/invoke/VarHandle" ∧ (parseMethodDescriptor yX3_obstacle.desc).map (fun d => d.parameters.length) = some 3 := by decide +kernel
set_option maxHeartbeats 4000000 in
set_option maxRecDepth 100000 in
theorem c_X3_obstacle (l : Launch) (D : va_G) (cy : Nat → ClassId) (a : XA) (n : Nat → Nat) (V : XV) (p1 : Nat) (p2 : Int32) (p3 : Int32) (hp1 : p1 < n 1) {res : Int32} (h : f_X3_obstacle n V p1 p2 p3 = some res) : Met l yX3_obstacle wsX3_obstacle ({ frames := 4, cells := 0, slots := 0, locals := 110 } : Room) (va_Pc [.ref (a.1 0), .ref (a.2 1 p1), .int p2, .int p3] (xI D cy a n V)) (vp_Si (fun r => r = res)) 0 0 (fun _ => False) := by
  refine Met.ofW (cc := cX3_obstacle) (maxL := 5) (ret := (some .char)) (by decide) rfl ?_
  intro p e s m args below meth c s₁ B hml hv
  obtain ⟨rfl, hP, hK, hD⟩ := hv
  have hx := B.exec
  have hb := B.bytes
  have hr := B.returns
  have hts := atoms_spec (ws := wsX3_obstacle) B.pre
  have hown : s.vm.findClass RX3 = some m.cls := findClass_of_methodNamed B.named
  have hlocks := B.notSynchronized
  have hl := lv_entry ([.ref (a.1 0), .ref (a.2 1 p1), .int p2, .int p3]) (n := 5) (Nat.le_of_ble_eq_true rfl)
  rw [lg_entry_eq]
  generalize (lg_sl ([.ref (a.1 0), .ref (a.2 1 p1), .int p2, .int p3]) ++ List.replicate (5 - (lg_sl ([.ref (a.1 0), .ref (a.2 1 p1), .int p2, .int p3])).length) Slot.unset).toArray = ls at hl ⊢
  have hl : lv_has ls 5 [(0, .ref (a.1 0)), (1, .ref (a.2 1 p1)), (2, .int p2), (3, .int p3)] := hl
  refine lv_aload_n hx hb dX3_obstacle_0 rfl (lv_at hl 0 rfl) ?_
  refine lv_aload_n hx hb dX3_obstacle_1 rfl (lv_at hl 1 rfl) ?_
  refine lv_iload_n hx hb dX3_obstacle_2 rfl (lv_at hl 2 rfl) ?_
  obtain ⟨u_1, hg_2, h⟩ := ob_some h
  refine zcSi (W.runV (As := [.ref (a.2 1 p1), .int p2]) (rest := []) ⟨hx, hb, hml, hown, hts⟩ (c_X3_lastingObstacle l D cy a n V p1 p2 hp1 hg_2) (cwV 2 hts gX3_obstacle_X3_lastingObstacle rfl rfl rfl hd_X3_lastingObstacle ⟨Nat.le_of_ble_eq_true rfl, Nat.le_of_ble_eq_true rfl⟩) ⟨xI_blind, va_recv hK hP (ci := 3) (q0 := 0) rfl rfl, (xI_at hP hK hD)⟩ rfl rfl hl.1 rfl (lv_room (Nat.le_of_ble_eq_true rfl)) dX3_obstacle_3 ⟨Nat.le_of_ble_eq_true rfl, Nat.le_of_ble_eq_true rfl⟩) ?_
  refine lv_istore (lv' := [(4, .int u_1), (0, .ref (a.1 0)), (1, .ref (a.2 1 p1)), (2, .int p2), (3, .int p3)]) hx hb dX3_obstacle_6 hl (by decide) rfl (fun ls hl => ?_)
  refine lv_iload hx hb dX3_obstacle_8 (lv_at hl 0 rfl) ?_
  refine lv_bipush (v := 45) hx hb dX3_obstacle_10 (by decide) ?_
  refine lv_icmp_ne (tgt := 25) hx hb dX3_obstacle_12 (by decide) (fun c_3 => ?_) (fun c_3 => ?_)
  · replace h := oi_f c_3 h
    refine lv_iload hx hb dX3_obstacle_25 (lv_at hl 0 rfl) ?_
    obtain ⟨g_4, h⟩ := og_some h
    have h9 := Option.some.inj h
    exact W.zret (v := u_1) hx hb hr (congrArg Value.int g_4) (fun t ht hW => ⟨u_1, rfl, h9, ht⟩) (fun _ hq => absurd hq List.not_mem_nil) dX3_obstacle_27 hlocks
  · replace h := oi_t c_3 h
    refine lv_aload_n hx hb dX3_obstacle_15 rfl (lv_at hl 1 rfl) ?_
    refine lv_aload_n hx hb dX3_obstacle_16 rfl (lv_at hl 2 rfl) ?_
    refine lv_iload_n hx hb dX3_obstacle_17 rfl (lv_at hl 3 rfl) ?_
    refine lv_iload_n hx hb dX3_obstacle_18 rfl (lv_at hl 4 rfl) ?_
    obtain ⟨u_5, hg_6, h⟩ := ob_some h
    refine zcSi (W.runV (As := [.ref (a.2 1 p1), .int p2, .int p3]) (rest := []) ⟨hx, hb, hml, hown, hts⟩ (c_X3_passingObstacle l D cy a n V p1 p2 p3 hp1 hg_6) (cwV 3 hts gX3_obstacle_X3_passingObstacle rfl rfl rfl hd_X3_passingObstacle ⟨Nat.le_of_ble_eq_true rfl, Nat.le_of_ble_eq_true rfl⟩) ⟨xI_blind, va_recv hK hP (ci := 3) (q0 := 0) rfl rfl, (xI_at hP hK hD)⟩ rfl rfl hl.1 rfl (lv_room (Nat.le_of_ble_eq_true rfl)) dX3_obstacle_19 ⟨Nat.le_of_ble_eq_true rfl, Nat.le_of_ble_eq_true rfl⟩) ?_
    refine lv_goto (tgt := 27) hx hb dX3_obstacle_22 (by decide) ?_
    obtain ⟨g_7, h⟩ := og_some h
    have h9 := Option.some.inj h
    exact W.zret (v := u_5) hx hb hr (congrArg Value.int g_7) (fun t ht hW => ⟨u_5, rfl, h9, ht⟩) (fun _ hq => absurd hq List.not_mem_nil) dX3_obstacle_27 hlocks
def f_X3_pourNumbered (n : Nat → Nat) (V : XV) (p1 : Int32) : Option ((Option Nat)) := oi (p1 < 0) (some none) (oi (6 ≤ p1) (some none) (og (¬ (p1 < 0 ∨ 6 ≤ (p1).toNatClampNeg)) (oc (n 2) (xref n 2 p1) (some none) (fun k_4 => some (some k_4)))))
theorem hd_X3_pourNumbered : yX3_pourNumbered.cls = RX3 ∧ yX3_pourNumbered.cls ≠ "java/lang/invoke/MethodHandle" ∧ yX3_pourNumbered.cls ≠ "java/lang/invoke/VarHandle" ∧ (parseMethodDescriptor yX3_pourNumbered.desc).map (fun d => d.parameters.length) = some 1 := by decide +kernel
set_option maxHeartbeats 4000000 in
set_option maxRecDepth 100000 in
theorem c_X3_pourNumbered (l : Launch) (D : va_G) (cy : Nat → ClassId) (a : XA) (n : Nat → Nat) (V : XV) (p1 : Int32) {res : (Option Nat)} (h : f_X3_pourNumbered n V p1 = some res) : Met l yX3_pourNumbered wsX3_pourNumbered ({ frames := 0, cells := 0, slots := 0, locals := 0 } : Room) (va_Pc [.ref (a.1 0), .int p1] (xI D cy a n V)) (va_Sq (fun r => r = Option.map (a.2 2) res)) 0 0 (fun _ => False) := by
  refine Met.ofW (cc := cX3_pourNumbered) (maxL := 2) (ret := (some (.object "Cranepool$Pour"))) (by decide) rfl ?_
  intro p e s m args below meth c s₁ B hml hv
  obtain ⟨rfl, hP, hK, hD⟩ := hv
  have hx := B.exec
  have hb := B.bytes
  have hr := B.returns
  have hts := atoms_spec (ws := wsX3_pourNumbered) B.pre
  have hown : s.vm.findClass RX3 = some m.cls := findClass_of_methodNamed B.named
  have hlocks := B.notSynchronized
  have hl := lv_entry ([.ref (a.1 0), .int p1]) (n := 2) (Nat.le_of_ble_eq_true rfl)
  rw [lg_entry_eq]
  generalize (lg_sl ([.ref (a.1 0), .int p1]) ++ List.replicate (2 - (lg_sl ([.ref (a.1 0), .int p1])).length) Slot.unset).toArray = ls at hl ⊢
  have hl : lv_has ls 2 [(0, .ref (a.1 0)), (1, .int p1)] := hl
  have hinX3 : ∀ w ∈ wsX30, w ∈ wsX3_pourNumbered := (fun _ h => (List.mem_cons_of_mem _ (List.mem_append_right _ h)))
  refine lv_iload_n hx hb dX3_pourNumbered_0 rfl (lv_at hl 1 rfl) ?_
  refine lv_if_lt (tgt := 22) hx hb dX3_pourNumbered_1 (by decide) (fun c_1 => ?_) (fun c_1 => ?_)
  · replace h := oi_t c_1 h
    refine lv_null hx hb dX3_pourNumbered_22 ?_
    have h9 := Option.some.inj h
    exact W.aret (v := .null) hx hb hr (Or.inl ⟨_, rfl⟩) (Or.inl rfl) (fun t ht hW => ⟨none, rfl, by rw [← h9]; rfl, ht⟩) (fun _ hq => absurd hq List.not_mem_nil) dX3_pourNumbered_23 hlocks
  · replace h := oi_f c_1 h
    refine lv_iload_n hx hb dX3_pourNumbered_4 rfl (lv_at hl 1 rfl) ?_
    refine lv_aload_n hx hb dX3_pourNumbered_5 rfl (lv_at hl 0 rfl) ?_
    refine va_get (D := D) (ci := 3) (v := .ref (a.1 3)) (C := RX3) (T := TX3) (N := 10) hx hb hts hinX3 hown hK hP 0 rfl rfl 2 (by decide) (hts _ (List.mem_of_getElem? (i := 1) rfl)) (fun _ h9 => h9) rfl dX3_pourNumbered_6 ?_
    refine va_alen (v := 6) hx hb hK hP 3 6 rfl rfl rfl dX3_pourNumbered_9 ?_
    refine lv_icmp_ge (tgt := 22) hx hb dX3_pourNumbered_10 (by decide) (fun c_2 => ?_) (fun c_2 => ?_)
    · replace h := oi_t c_2 h
      refine lv_null hx hb dX3_pourNumbered_22 ?_
      have h9 := Option.some.inj h
      exact W.aret (v := .null) hx hb hr (Or.inl ⟨_, rfl⟩) (Or.inl rfl) (fun t ht hW => ⟨none, rfl, by rw [← h9]; rfl, ht⟩) (fun _ hq => absurd hq List.not_mem_nil) dX3_pourNumbered_23 hlocks
    · replace h := oi_f c_2 h
      refine lv_aload_n hx hb dX3_pourNumbered_13 rfl (lv_at hl 0 rfl) ?_
      refine va_get (D := D) (ci := 3) (v := .ref (a.1 3)) (C := RX3) (T := TX3) (N := 10) hx hb hts hinX3 hown hK hP 0 rfl rfl 2 (by decide) (hts _ (List.mem_of_getElem? (i := 1) rfl)) (fun _ h9 => h9) rfl dX3_pourNumbered_14 ?_
      refine lv_iload_n hx hb dX3_pourNumbered_17 rfl (lv_at hl 1 rfl) ?_
      obtain ⟨g_3, h⟩ := og_some h
      rcases oc_some h with ⟨o_5, h⟩ | ⟨k_4, hk_4, o_5, h⟩
      · refine zaldn hx hb hK hP 3 6 rfl rfl g_3 o_5 dX3_pourNumbered_18 ?_
        refine lv_goto (tgt := 23) hx hb dX3_pourNumbered_19 (by decide) ?_
        have h9 := Option.some.inj h
        exact W.aret (v := .null) hx hb hr (Or.inl ⟨_, rfl⟩) (Or.inl rfl) (fun t ht hW => ⟨none, rfl, by rw [← h9]; rfl, ht⟩) (fun _ hq => absurd hq List.not_mem_nil) dX3_pourNumbered_23 hlocks
      · refine zalds hx hb hK hP 3 6 rfl rfl g_3 o_5 dX3_pourNumbered_18 ?_
        refine lv_goto (tgt := 23) hx hb dX3_pourNumbered_19 (by decide) ?_
        have h9 := Option.some.inj h
        exact W.aret (v := .ref (a.2 2 k_4)) hx hb hr (Or.inl ⟨_, rfl⟩) (Or.inr ⟨_, rfl⟩) (fun t ht hW => ⟨some (a.2 2 k_4), rfl, by rw [← h9]; rfl, ht⟩) (fun _ hq => absurd hq List.not_mem_nil) dX3_pourNumbered_23 hlocks
def f_X3_countOfPour_16 (n : Nat → Nat) : XV → Nat → Int32 → Int32 → Int32 → Int32 → Int32 → Option (Int32)
  | _, 0, _, _, _, _, _ => none
  | V, fu + 1, zx1, zx2, zx3, zx5, zx6 => oi (zx5 ≤ zx6) (some zx3) (og (¬ (zx6 < 0 ∨ 40 ≤ (zx6).toNatClampNeg)) (oc (n 1) (xref n 1 zx6) (f_X3_countOfPour_16 n V fu zx1 zx2 zx3 zx5 (zx6 + 1)) (fun k_3 => oi ((V.1 1 k_3 6) = zx1) (oi ((V.1 1 k_3 8) = zx2) (f_X3_countOfPour_16 n V fu zx1 zx2 (zx3 + 1) zx5 (zx6 + 1)) (f_X3_countOfPour_16 n V fu zx1 zx2 zx3 zx5 (zx6 + 1))) (f_X3_countOfPour_16 n V fu zx1 zx2 zx3 zx5 (zx6 + 1)))))
def f_X3_countOfPour (n : Nat → Nat) (V : XV) (p1 : Int32) (p2 : Int32) : Option (Int32) := f_X3_countOfPour_16 n V FU p1 p2 0 40 0
theorem hd_X3_countOfPour : yX3_countOfPour.cls = RX3 ∧ yX3_countOfPour.cls ≠ "java/lang/invoke/MethodHandle" ∧ yX3_countOfPour.cls ≠ "java/lang/invoke/VarHandle" ∧ (parseMethodDescriptor yX3_countOfPour.desc).map (fun d => d.parameters.length) = some 2 := by decide +kernel
set_option maxHeartbeats 4000000 in
set_option maxRecDepth 100000 in
theorem k_X3_countOfPour_16 {p : Program} {l : Launch} {e : Env} {s : State} {m : MethodId} {args : Array Value} {below : List Frame} {meth : Method} {c : Code} {D : va_G} {cy : Nat → ClassId} {a : XA} {n : Nat → Nat} {V : XV} (hx : p.tables.exec = Jvm.exec) (hb : c.code = cX3_countOfPour) (hr : meth.sig.returnType = (some .int)) (hts : ∀ w ∈ wsX3_countOfPour, w.before args s = true) (hml : c.maxLocals = 8) (hown : s.vm.findClass RX3 = some m.cls) (hlocks : meth.locks = false) (hK : va_K D xcl (xty cy) s) (hP : va_P D xcl (xW cy a n V) s.heap) (hD : va_D (fun _ => True) (xW cy a n V)) (res : Int32) : ∀ (fu : Nat) (zx1 : Int32) (zx2 : Int32) (zx3 : Int32) (zx5 : Int32) (zx6 : Int32)  (ls : Array Slot), f_X3_countOfPour_16 n V fu zx1 zx2 zx3 zx5 zx6 = some res → lv_has ls 8 [(1, .int zx1), (2, .int zx2), (3, .int zx3), (4, .ref (a.1 2)), (5, .int zx5), (6, .int zx6)] → W p l e ({ frames := 0, cells := 0, slots := 0, locals := 0 } : Room) s m args below meth c s.heap [] 0 0 (MQ below (vp_Si (fun r => r = res)) args s 0 0 (fun _ => False)) (F0 m 16 ls []) := by
  have hinX1 : ∀ w ∈ wsX10, w ∈ wsX3_countOfPour := (fun _ h => (List.mem_cons_of_mem _ (List.mem_append_right _ h)))
  intro fu
  induction fu with
  | zero =>
    intro zx1 zx2 zx3 zx5 zx6  ls h hl
    cases h
  | succ fu ih =>
    intro zx1 zx2 zx3 zx5 zx6  ls h hl
    refine lv_iload hx hb dX3_countOfPour_16 (lv_at hl 5 rfl) ?_
    refine lv_iload hx hb dX3_countOfPour_18 (lv_at hl 4 rfl) ?_
    refine lv_icmp_ge (tgt := 62) hx hb dX3_countOfPour_20 (by decide) (fun c_1 => ?_) (fun c_1 => ?_)
    · replace h := oi_t c_1 h
      refine lv_iload_n hx hb dX3_countOfPour_62 rfl (lv_at hl 2 rfl) ?_
      have h9 := Option.some.inj h
      exact W.iret (v := zx3) hx hb hr (fun t ht hW => ⟨zx3, rfl, h9, ht⟩) (fun _ hq => absurd hq List.not_mem_nil) dX3_countOfPour_63 hlocks
    · replace h := oi_f c_1 h
      refine lv_aload hx hb dX3_countOfPour_23 (lv_at hl 3 rfl) ?_
      refine lv_iload hx hb dX3_countOfPour_25 (lv_at hl 5 rfl) ?_
      obtain ⟨g_2, h⟩ := og_some h
      rcases oc_some h with ⟨o_4, h⟩ | ⟨k_3, hk_3, o_4, h⟩
      · refine zaldn hx hb hK hP 2 5 rfl rfl g_2 o_4 dX3_countOfPour_27 ?_
        refine lv_astoreN (lv' := [(7, .null), (1, .int zx1), (2, .int zx2), (3, .int zx3), (4, .ref (a.1 2)), (5, .int zx5), (6, .int zx6)]) hx hb dX3_countOfPour_28 hl (by decide) rfl (fun ls hl => ?_)
        refine lv_aloadN hx hb dX3_countOfPour_30 (lv_at hl 0 rfl) ?_
        refine lv_ifnullN (tgt := 56) hx hb dX3_countOfPour_32 (by decide) ?_
        refine lv_iinc (v := zx6 + 1) (lv' := [(6, .int (zx6 + 1)), (7, .null), (1, .int zx1), (2, .int zx2), (3, .int zx3), (4, .ref (a.1 2)), (5, .int zx5)]) hx hb dX3_countOfPour_56 hl (k := 6) rfl rfl (by decide) rfl (fun ls hl => ?_)
        refine lv_goto (tgt := 16) hx hb dX3_countOfPour_59 (by decide) ?_
        exact ih zx1 zx2 zx3 zx5 (zx6 + 1)  ls h (lv_sub hl [2, 3, 4, 5, 6, 0] rfl)
      · refine zalds hx hb hK hP 2 5 rfl rfl g_2 o_4 dX3_countOfPour_27 ?_
        refine lv_astore (lv' := [(7, .ref (a.2 1 k_3)), (1, .int zx1), (2, .int zx2), (3, .int zx3), (4, .ref (a.1 2)), (5, .int zx5), (6, .int zx6)]) hx hb dX3_countOfPour_28 hl (by decide) rfl (fun ls hl => ?_)
        refine lv_aload hx hb dX3_countOfPour_30 (lv_at hl 0 rfl) ?_
        refine lv_ifnull hx hb dX3_countOfPour_32 ?_
        refine lv_aload hx hb dX3_countOfPour_35 (lv_at hl 0 rfl) ?_
        refine va_get (D := D) (ci := 1) (v := .int (V.1 1 k_3 6)) (C := RX1) (T := TX1) (N := 11) hx hb hts hinX1 hown hK hP _ (xpos_li hk_3) rfl 6 (by decide) (hts _ (List.mem_of_getElem? (i := 2) rfl)) (fun _ h9 => h9) rfl dX3_countOfPour_37 ?_
        refine lv_iload_n hx hb dX3_countOfPour_40 rfl (lv_at hl 1 rfl) ?_
        refine lv_icmp_ne (tgt := 56) hx hb dX3_countOfPour_41 (by decide) (fun c_5 => ?_) (fun c_5 => ?_)
        · replace h := oi_f c_5 h
          refine lv_iinc (v := zx6 + 1) (lv' := [(6, .int (zx6 + 1)), (7, .ref (a.2 1 k_3)), (1, .int zx1), (2, .int zx2), (3, .int zx3), (4, .ref (a.1 2)), (5, .int zx5)]) hx hb dX3_countOfPour_56 hl (k := 6) rfl rfl (by decide) rfl (fun ls hl => ?_)
          refine lv_goto (tgt := 16) hx hb dX3_countOfPour_59 (by decide) ?_
          exact ih zx1 zx2 zx3 zx5 (zx6 + 1)  ls h (lv_sub hl [2, 3, 4, 5, 6, 0] rfl)
        · replace h := oi_t c_5 h
          refine lv_aload hx hb dX3_countOfPour_44 (lv_at hl 0 rfl) ?_
          refine va_get (D := D) (ci := 1) (v := .int (V.1 1 k_3 8)) (C := RX1) (T := TX1) (N := 11) hx hb hts hinX1 hown hK hP _ (xpos_li hk_3) rfl 8 (by decide) (hts _ (List.mem_of_getElem? (i := 3) rfl)) (fun _ h9 => h9) rfl dX3_countOfPour_46 ?_
          refine lv_iload_n hx hb dX3_countOfPour_49 rfl (lv_at hl 2 rfl) ?_
          refine lv_icmp_ne (tgt := 56) hx hb dX3_countOfPour_50 (by decide) (fun c_6 => ?_) (fun c_6 => ?_)
          · replace h := oi_f c_6 h
            refine lv_iinc (v := zx6 + 1) (lv' := [(6, .int (zx6 + 1)), (7, .ref (a.2 1 k_3)), (1, .int zx1), (2, .int zx2), (3, .int zx3), (4, .ref (a.1 2)), (5, .int zx5)]) hx hb dX3_countOfPour_56 hl (k := 6) rfl rfl (by decide) rfl (fun ls hl => ?_)
            refine lv_goto (tgt := 16) hx hb dX3_countOfPour_59 (by decide) ?_
            exact ih zx1 zx2 zx3 zx5 (zx6 + 1)  ls h (lv_sub hl [2, 3, 4, 5, 6, 0] rfl)
          · replace h := oi_t c_6 h
            refine lv_iinc (v := zx3 + 1) (lv' := [(3, .int (zx3 + 1)), (7, .ref (a.2 1 k_3)), (1, .int zx1), (2, .int zx2), (4, .ref (a.1 2)), (5, .int zx5), (6, .int zx6)]) hx hb dX3_countOfPour_53 hl (k := 3) rfl rfl (by decide) rfl (fun ls hl => ?_)
            refine lv_iinc (v := zx6 + 1) (lv' := [(6, .int (zx6 + 1)), (3, .int (zx3 + 1)), (7, .ref (a.2 1 k_3)), (1, .int zx1), (2, .int zx2), (4, .ref (a.1 2)), (5, .int zx5)]) hx hb dX3_countOfPour_56 hl (k := 6) rfl rfl (by decide) rfl (fun ls hl => ?_)
            refine lv_goto (tgt := 16) hx hb dX3_countOfPour_59 (by decide) ?_
            exact ih zx1 zx2 (zx3 + 1) zx5 (zx6 + 1)  ls h (lv_sub hl [3, 4, 1, 5, 6, 0] rfl)
set_option maxHeartbeats 4000000 in
set_option maxRecDepth 100000 in
theorem c_X3_countOfPour (l : Launch) (D : va_G) (cy : Nat → ClassId) (a : XA) (n : Nat → Nat) (V : XV) (p1 : Int32) (p2 : Int32) {res : Int32} (h : f_X3_countOfPour n V p1 p2 = some res) : Met l yX3_countOfPour wsX3_countOfPour ({ frames := 0, cells := 0, slots := 0, locals := 0 } : Room) (va_Pc [.ref (a.1 0), .int p1, .int p2] (xI D cy a n V)) (vp_Si (fun r => r = res)) 0 0 (fun _ => False) := by
  refine Met.ofW (cc := cX3_countOfPour) (maxL := 8) (ret := (some .int)) (by decide) rfl ?_
  intro p e s m args below meth c s₁ B hml hv
  obtain ⟨rfl, hP, hK, hD⟩ := hv
  have hx := B.exec
  have hb := B.bytes
  have hr := B.returns
  have hts := atoms_spec (ws := wsX3_countOfPour) B.pre
  have hown : s.vm.findClass RX3 = some m.cls := findClass_of_methodNamed B.named
  have hlocks := B.notSynchronized
  have hl := lv_entry ([.ref (a.1 0), .int p1, .int p2]) (n := 8) (Nat.le_of_ble_eq_true rfl)
  rw [lg_entry_eq]
  generalize (lg_sl ([.ref (a.1 0), .int p1, .int p2]) ++ List.replicate (8 - (lg_sl ([.ref (a.1 0), .int p1, .int p2])).length) Slot.unset).toArray = ls at hl ⊢
  have hl : lv_has ls 8 [(0, .ref (a.1 0)), (1, .int p1), (2, .int p2)] := hl
  have hinX3 : ∀ w ∈ wsX30, w ∈ wsX3_countOfPour := (fun _ h => (List.mem_cons_of_mem _ (List.mem_append_left _ (List.mem_append_right _ h))))
  refine lv_iconst (v := 0) hx hb dX3_countOfPour_0 (by decide) ?_
  refine lv_istore_n (lv' := [(3, .int 0), (0, .ref (a.1 0)), (1, .int p1), (2, .int p2)]) hx hb dX3_countOfPour_1 rfl hl (by decide) rfl (fun ls hl => ?_)
  refine lv_aload_n hx hb dX3_countOfPour_2 rfl (lv_at hl 1 rfl) ?_
  refine va_get (D := D) (ci := 3) (v := .ref (a.1 2)) (C := RX3) (T := TX3) (N := 10) hx hb hts hinX3 hown hK hP 0 rfl rfl 1 (by decide) (hts _ (List.mem_of_getElem? (i := 1) rfl)) (fun _ h9 => h9) rfl dX3_countOfPour_3 ?_
  refine lv_astore (lv' := [(4, .ref (a.1 2)), (3, .int 0), (0, .ref (a.1 0)), (1, .int p1), (2, .int p2)]) hx hb dX3_countOfPour_6 hl (by decide) rfl (fun ls hl => ?_)
  refine lv_aload hx hb dX3_countOfPour_8 (lv_at hl 0 rfl) ?_
  refine va_alen (v := 40) hx hb hK hP 2 5 rfl rfl rfl dX3_countOfPour_10 ?_
  refine lv_istore (lv' := [(5, .int 40), (4, .ref (a.1 2)), (3, .int 0), (0, .ref (a.1 0)), (1, .int p1), (2, .int p2)]) hx hb dX3_countOfPour_11 hl (by decide) rfl (fun ls hl => ?_)
  refine lv_iconst (v := 0) hx hb dX3_countOfPour_13 (by decide) ?_
  refine lv_istore (lv' := [(6, .int 0), (5, .int 40), (4, .ref (a.1 2)), (3, .int 0), (0, .ref (a.1 0)), (1, .int p1), (2, .int p2)]) hx hb dX3_countOfPour_14 hl (by decide) rfl (fun ls hl => ?_)
  exact k_X3_countOfPour_16 hx hb hr hts hml hown hlocks hK hP hD _ _ p1 p2 0 40 0  ls h (lv_sub hl [5, 6, 3, 2, 1, 0] rfl)
def f_X3_fillRowStarts_7 (n : Nat → Nat) : XV → Nat → Nat → Nat → Int32 → Int32 → Int32 → Option (Int32 × XV)
  | _, 0, _, _, _, _, _ => none
  | V, fu + 1, zx1, zx2, zx3, zx5, zx6 => oi ((V.1 2 zx1 1) ≤ zx6) (some (1, V)) (oi (8 ≤ zx6) (some (1, V)) (og (¬ (zx6 < 0 ∨ 8 ≤ (zx6).toNatClampNeg)) (ob (some (xrwp V 0 (zx6).toNatClampNeg zx5)) (fun V_4 => oi ((V_4.1 2 zx1 1) ≤ (zx6 + 1)) (f_X3_fillRowStarts_7 n V_4 fu zx1 zx2 zx3 zx5 (zx6 + 1)) (ob (f_X3_nextFit n V_4 zx2 zx3 (zx5 + (V_4.1 1 zx2 5))) (fun u_7 => oi (u_7 = (-1)) (some (0, V_4)) (oi ((u_7 - (zx5 + (V_4.1 1 zx2 5))) ≤ (V_4.1 2 zx1 2)) (f_X3_fillRowStarts_7 n V_4 fu zx1 zx2 zx3 u_7 (zx6 + 1)) (some (0, V_4)))))))))
def f_X3_fillRowStarts (n : Nat → Nat) (V : XV) (p1 : Nat) (p2 : Nat) (p3 : Int32) (p4 : Int32) : Option (Int32 × XV) := f_X3_fillRowStarts_7 n V FU p1 p2 p3 p4 0
theorem hd_X3_fillRowStarts : yX3_fillRowStarts.cls = RX3 ∧ yX3_fillRowStarts.cls ≠ "java/lang/invoke/MethodHandle" ∧ yX3_fillRowStarts.cls ≠ "java/lang/invoke/VarHandle" ∧ (parseMethodDescriptor yX3_fillRowStarts.desc).map (fun d => d.parameters.length) = some 4 := by decide +kernel
set_option maxHeartbeats 4000000 in
set_option maxRecDepth 100000 in
theorem k_X3_fillRowStarts_7 {p : Program} {l : Launch} {e : Env} {s : State} {m : MethodId} {args : Array Value} {below : List Frame} {meth : Method} {c : Code} {D : va_G} {cy : Nat → ClassId} {a : XA} {n : Nat → Nat} {A : Nat → Prop} (hx : p.tables.exec = Jvm.exec) (hb : c.code = cX3_fillRowStarts) (hr : meth.sig.returnType = (some .boolean)) (hts : ∀ w ∈ wsX3_fillRowStarts, w.before args s = true) (hml : c.maxLocals = 8) (hown : s.vm.findClass RX3 = some m.cls) (hlocks : meth.locks = false) (hK : va_K D xcl (xty cy) s) (hA : ∀ q, s.heap.size ≤ q → A q) (res : Int32 × XV) : ∀ (fu : Nat) (zx1 : Nat) (zx2 : Nat) (zx3 : Int32) (zx5 : Int32) (zx6 : Int32) (V : XV) (H : Heap) (locs : List Loc) (hzx1 : zx1 < n 2) (hzx2 : zx2 < n 1) (ls : Array Slot), f_X3_fillRowStarts_7 n V fu zx1 zx2 zx3 zx5 zx6 = some res → va_P D xcl (xW cy a n V) H → va_D A (xW cy a n V) → va_S A s.heap H locs → lv_has ls 8 [(0, .ref (a.1 0)), (1, .ref (a.2 2 zx1)), (2, .ref (a.2 1 zx2)), (3, .int zx3), (5, .int zx5), (6, .int zx6)] → W p l e ({ frames := 4, cells := 0, slots := 0, locals := 101 } : Room) s m args below meth c H locs 0 0 (MQ below (va_Qi (fun r (_ : Unit) => r = res.1) (fun _ t => va_P D xcl (xW cy a n res.2) t.heap ∧ va_D A (xW cy a n res.2)) A) args s 0 0 (A)) (F0 m 7 ls []) := by
  have hinX1 : ∀ w ∈ wsX10, w ∈ wsX3_fillRowStarts := (fun _ h => (List.mem_cons_of_mem _ (List.mem_append_left _ (List.mem_append_right _ h))))
  have hinX2 : ∀ w ∈ wsX20, w ∈ wsX3_fillRowStarts := (fun _ h => (List.mem_cons_of_mem _ (List.mem_append_left _ (List.mem_append_left _ (List.mem_append_left _ (List.mem_append_right _ h))))))
  have hinX3 : ∀ w ∈ wsX30, w ∈ wsX3_fillRowStarts := (fun _ h => (List.mem_cons_of_mem _ (List.mem_append_left _ (List.mem_append_left _ (List.mem_append_right _ h)))))
  intro fu
  induction fu with
  | zero =>
    intro zx1 zx2 zx3 zx5 zx6 V H locs hzx1 hzx2 ls h hP hD hS hl
    cases h
  | succ fu ih =>
    intro zx1 zx2 zx3 zx5 zx6 V H locs hzx1 hzx2 ls h hP hD hS hl
    refine lv_iload hx hb dX3_fillRowStarts_7 (lv_at hl 5 rfl) ?_
    refine lv_aload_n hx hb dX3_fillRowStarts_9 rfl (lv_at hl 1 rfl) ?_
    refine va_get (D := D) (ci := 2) (v := .int (V.1 2 zx1 1)) (C := RX2) (T := TX2) (N := 3) hx hb hts hinX2 hown hK hP _ (xpos_po hzx1) rfl 1 (by decide) (hts _ (List.mem_of_getElem? (i := 1) rfl)) (fun _ h9 => h9) rfl dX3_fillRowStarts_10 ?_
    refine lv_icmp_ge (tgt := 91) hx hb dX3_fillRowStarts_13 (by decide) (fun c_1 => ?_) (fun c_1 => ?_)
    · replace h := oi_t c_1 h
      refine lv_iconst (v := 1) hx hb dX3_fillRowStarts_91 (by decide) ?_
      have h9 := Option.some.inj h
      subst h9
      exact W.zret (v := 1) hx hb hr (by decide) (fun t ht hW => ⟨⟨1, (), rfl, rfl, ⟨by rw [ht]; exact hP, hD⟩⟩, hS.F ht⟩) hS.2.2 dX3_fillRowStarts_92 hlocks
    · replace h := oi_f c_1 h
      refine lv_iload hx hb dX3_fillRowStarts_16 (lv_at hl 5 rfl) ?_
      refine lv_aload_n hx hb dX3_fillRowStarts_18 rfl (lv_at hl 0 rfl) ?_
      refine va_get (D := D) (ci := 3) (v := .ref (a.1 4)) (C := RX3) (T := TX3) (N := 10) hx hb hts hinX3 hown hK hP 0 rfl rfl 8 (by decide) (hts _ (List.mem_of_getElem? (i := 2) rfl)) (fun _ h9 => h9) rfl dX3_fillRowStarts_19 ?_
      refine va_alen (v := 8) hx hb hK hP 4 0 rfl rfl rfl dX3_fillRowStarts_22 ?_
      refine lv_icmp_ge (tgt := 91) hx hb dX3_fillRowStarts_23 (by decide) (fun c_2 => ?_) (fun c_2 => ?_)
      · replace h := oi_t c_2 h
        refine lv_iconst (v := 1) hx hb dX3_fillRowStarts_91 (by decide) ?_
        have h9 := Option.some.inj h
        subst h9
        exact W.zret (v := 1) hx hb hr (by decide) (fun t ht hW => ⟨⟨1, (), rfl, rfl, ⟨by rw [ht]; exact hP, hD⟩⟩, hS.F ht⟩) hS.2.2 dX3_fillRowStarts_92 hlocks
      · replace h := oi_f c_2 h
        refine lv_aload_n hx hb dX3_fillRowStarts_26 rfl (lv_at hl 0 rfl) ?_
        refine va_get (D := D) (ci := 3) (v := .ref (a.1 4)) (C := RX3) (T := TX3) (N := 10) hx hb hts hinX3 hown hK hP 0 rfl rfl 8 (by decide) (hts _ (List.mem_of_getElem? (i := 2) rfl)) (fun _ h9 => h9) rfl dX3_fillRowStarts_27 ?_
        refine lv_iload hx hb dX3_fillRowStarts_30 (lv_at hl 5 rfl) ?_
        refine lv_iload hx hb dX3_fillRowStarts_32 (lv_at hl 4 rfl) ?_
        obtain ⟨g_3, h⟩ := og_some h
        refine va_iast hx hb hK hP hD hS 4 0 rfl rfl g_3 dX3_fillRowStarts_34 (fun H locs hP hD hS => ?_)
        replace hP : va_P D xcl (xW cy a n (xrwp V 0 (zx6).toNatClampNeg zx5)) H := hP
        replace hD : va_D A (xW cy a n (xrwp V 0 (zx6).toNatClampNeg zx5)) := hD
        obtain ⟨V_4, eV_5, h⟩ := ob_some h
        rw [Option.some.inj eV_5] at hP hD
        refine lv_iload hx hb dX3_fillRowStarts_35 (lv_at hl 4 rfl) ?_
        refine lv_aload_n hx hb dX3_fillRowStarts_37 rfl (lv_at hl 2 rfl) ?_
        refine va_get (D := D) (ci := 1) (v := .int (V_4.1 1 zx2 5)) (C := RX1) (T := TX1) (N := 11) hx hb hts hinX1 hown hK hP _ (xpos_li hzx2) rfl 5 (by decide) (hts _ (List.mem_of_getElem? (i := 3) rfl)) (fun _ h9 => h9) rfl dX3_fillRowStarts_38 ?_
        refine lv_iadd hx hb dX3_fillRowStarts_41 ?_
        refine lv_istore (lv' := [(7, .int (zx5 + (V_4.1 1 zx2 5))), (0, .ref (a.1 0)), (1, .ref (a.2 2 zx1)), (2, .ref (a.2 1 zx2)), (3, .int zx3), (5, .int zx5), (6, .int zx6)]) hx hb dX3_fillRowStarts_42 hl (by decide) rfl (fun ls hl => ?_)
        refine lv_iload hx hb dX3_fillRowStarts_44 (lv_at hl 6 rfl) ?_
        refine lv_iconst (v := 1) hx hb dX3_fillRowStarts_46 (by decide) ?_
        refine lv_iadd hx hb dX3_fillRowStarts_47 ?_
        refine lv_aload_n hx hb dX3_fillRowStarts_48 rfl (lv_at hl 2 rfl) ?_
        refine va_get (D := D) (ci := 2) (v := .int (V_4.1 2 zx1 1)) (C := RX2) (T := TX2) (N := 3) hx hb hts hinX2 hown hK hP _ (xpos_po hzx1) rfl 1 (by decide) (hts _ (List.mem_of_getElem? (i := 1) rfl)) (fun _ h9 => h9) rfl dX3_fillRowStarts_49 ?_
        refine lv_icmp_ge (tgt := 85) hx hb dX3_fillRowStarts_52 (by decide) (fun c_6 => ?_) (fun c_6 => ?_)
        · replace h := oi_t c_6 h
          refine lv_iinc (v := zx6 + 1) (lv' := [(6, .int (zx6 + 1)), (7, .int (zx5 + (V_4.1 1 zx2 5))), (0, .ref (a.1 0)), (1, .ref (a.2 2 zx1)), (2, .ref (a.2 1 zx2)), (3, .int zx3), (5, .int zx5)]) hx hb dX3_fillRowStarts_85 hl (k := 6) rfl rfl (by decide) rfl (fun ls hl => ?_)
          refine lv_goto (tgt := 7) hx hb dX3_fillRowStarts_88 (by decide) ?_
          exact ih zx1 zx2 zx3 zx5 (zx6 + 1) _ _ _ hzx1 hzx2 ls h hP hD hS (lv_sub hl [2, 3, 4, 5, 6, 0] rfl)
        · replace h := oi_f c_6 h
          refine lv_aload_n hx hb dX3_fillRowStarts_55 rfl (lv_at hl 1 rfl) ?_
          refine lv_aload_n hx hb dX3_fillRowStarts_56 rfl (lv_at hl 3 rfl) ?_
          refine lv_iload_n hx hb dX3_fillRowStarts_57 rfl (lv_at hl 4 rfl) ?_
          refine lv_iload hx hb dX3_fillRowStarts_58 (lv_at hl 0 rfl) ?_
          obtain ⟨u_7, hg_8, h⟩ := ob_some h
          refine zcSi (W.runV (As := [.ref (a.2 1 zx2), .int zx3, .int (zx5 + (V_4.1 1 zx2 5))]) (rest := []) ⟨hx, hb, hml, hown, hts⟩ (c_X3_nextFit l D cy a n V_4 zx2 zx3 (zx5 + (V_4.1 1 zx2 5)) hzx2 hg_8) (cwV 3 hts gX3_fillRowStarts_X3_nextFit rfl rfl rfl hd_X3_nextFit ⟨Nat.le_of_ble_eq_true rfl, Nat.le_of_ble_eq_true rfl⟩) ⟨xI_blind, va_recv hK hP (ci := 3) (q0 := 0) rfl rfl, (xI_at hP hK hD)⟩ rfl rfl hl.1 rfl (lv_room (Nat.le_of_ble_eq_true rfl)) dX3_fillRowStarts_60 ⟨Nat.le_of_ble_eq_true rfl, Nat.le_of_ble_eq_true rfl⟩) ?_
          refine lv_istore (lv' := [(5, .int u_7), (7, .int (zx5 + (V_4.1 1 zx2 5))), (0, .ref (a.1 0)), (1, .ref (a.2 2 zx1)), (2, .ref (a.2 1 zx2)), (3, .int zx3), (6, .int zx6)]) hx hb dX3_fillRowStarts_63 hl (by decide) rfl (fun ls hl => ?_)
          refine lv_iload hx hb dX3_fillRowStarts_65 (lv_at hl 0 rfl) ?_
          refine lv_iconst (v := (-1)) hx hb dX3_fillRowStarts_67 (by decide) ?_
          refine lv_icmp_eq (tgt := 83) hx hb dX3_fillRowStarts_68 (by decide) (fun c_9 => ?_) (fun c_9 => ?_)
          · replace h := oi_t c_9 h
            refine lv_iconst (v := 0) hx hb dX3_fillRowStarts_83 (by decide) ?_
            have h9 := Option.some.inj h
            subst h9
            exact W.zret (v := 0) hx hb hr (by decide) (fun t ht hW => ⟨⟨0, (), rfl, rfl, ⟨by rw [ht]; exact hP, hD⟩⟩, hS.F ht⟩) hS.2.2 dX3_fillRowStarts_84 hlocks
          · replace h := oi_f c_9 h
            refine lv_iload hx hb dX3_fillRowStarts_71 (lv_at hl 0 rfl) ?_
            refine lv_iload hx hb dX3_fillRowStarts_73 (lv_at hl 1 rfl) ?_
            refine lv_isub hx hb dX3_fillRowStarts_75 ?_
            refine lv_aload_n hx hb dX3_fillRowStarts_76 rfl (lv_at hl 3 rfl) ?_
            refine va_get (D := D) (ci := 2) (v := .int (V_4.1 2 zx1 2)) (C := RX2) (T := TX2) (N := 3) hx hb hts hinX2 hown hK hP _ (xpos_po hzx1) rfl 2 (by decide) (hts _ (List.mem_of_getElem? (i := 4) rfl)) (fun _ h9 => h9) rfl dX3_fillRowStarts_77 ?_
            refine lv_icmp_le (tgt := 85) hx hb dX3_fillRowStarts_80 (by decide) (fun c_10 => ?_) (fun c_10 => ?_)
            · replace h := oi_t c_10 h
              refine lv_iinc (v := zx6 + 1) (lv' := [(6, .int (zx6 + 1)), (5, .int u_7), (7, .int (zx5 + (V_4.1 1 zx2 5))), (0, .ref (a.1 0)), (1, .ref (a.2 2 zx1)), (2, .ref (a.2 1 zx2)), (3, .int zx3)]) hx hb dX3_fillRowStarts_85 hl (k := 6) rfl rfl (by decide) rfl (fun ls hl => ?_)
              refine lv_goto (tgt := 7) hx hb dX3_fillRowStarts_88 (by decide) ?_
              exact ih zx1 zx2 zx3 u_7 (zx6 + 1) _ _ _ hzx1 hzx2 ls h hP hD hS (lv_sub hl [3, 4, 5, 6, 1, 0] rfl)
            · replace h := oi_f c_10 h
              refine lv_iconst (v := 0) hx hb dX3_fillRowStarts_83 (by decide) ?_
              have h9 := Option.some.inj h
              subst h9
              exact W.zret (v := 0) hx hb hr (by decide) (fun t ht hW => ⟨⟨0, (), rfl, rfl, ⟨by rw [ht]; exact hP, hD⟩⟩, hS.F ht⟩) hS.2.2 dX3_fillRowStarts_84 hlocks
set_option maxHeartbeats 4000000 in
set_option maxRecDepth 100000 in
theorem c_X3_fillRowStarts (l : Launch) (D : va_G) (cy : Nat → ClassId) (a : XA) (n : Nat → Nat) (V : XV) (sz : Nat) (p1 : Nat) (p2 : Nat) (p3 : Int32) (p4 : Int32) (hp1 : p1 < n 2) (hp2 : p2 < n 1) {res : Int32 × XV} (h : f_X3_fillRowStarts n V p1 p2 p3 p4 = some res) : Met l yX3_fillRowStarts wsX3_fillRowStarts ({ frames := 4, cells := 0, slots := 0, locals := 101 } : Room) (va_Pc [.ref (a.1 0), .ref (a.2 2 p1), .ref (a.2 1 p2), .int p3, .int p4] (zJ sz (xI D cy a n V))) (va_Qi (fun r (_ : Unit) => r = res.1) (fun _ t => va_P D xcl (xW cy a n res.2) t.heap ∧ va_D (va_A (xW cy a n V) sz) (xW cy a n res.2)) (va_A (xW cy a n V) sz)) 0 0 (va_A (xW cy a n V) sz) := by
  refine Met.ofW (cc := cX3_fillRowStarts) (maxL := 8) (ret := (some .boolean)) (by decide) rfl ?_
  intro p e s m args below meth c s₁ B hml hv
  obtain ⟨rfl, hsz, hP, hK, hD0⟩ := hv
  have hx := B.exec
  have hb := B.bytes
  have hr := B.returns
  have hts := atoms_spec (ws := wsX3_fillRowStarts) B.pre
  have hown : s.vm.findClass RX3 = some m.cls := findClass_of_methodNamed B.named
  have hlocks := B.notSynchronized
  subst hsz
  have hD := hD0.self (sz := s.heap.size)
  generalize hAe : va_A (xW cy a n V) s.heap.size = A at hD ⊢
  have hA : ∀ q : Nat, s.heap.size ≤ q → A q := fun q h => by rw [← hAe]; exact Or.inr h
  have hS : va_S A s.heap s.heap [] := va_S.rf
  have hl := lv_entry ([.ref (a.1 0), .ref (a.2 2 p1), .ref (a.2 1 p2), .int p3, .int p4]) (n := 8) (Nat.le_of_ble_eq_true rfl)
  rw [lg_entry_eq]
  generalize (lg_sl ([.ref (a.1 0), .ref (a.2 2 p1), .ref (a.2 1 p2), .int p3, .int p4]) ++ List.replicate (8 - (lg_sl ([.ref (a.1 0), .ref (a.2 2 p1), .ref (a.2 1 p2), .int p3, .int p4])).length) Slot.unset).toArray = ls at hl ⊢
  have hl : lv_has ls 8 [(0, .ref (a.1 0)), (1, .ref (a.2 2 p1)), (2, .ref (a.2 1 p2)), (3, .int p3), (4, .int p4)] := hl
  revert hP hS
  intro hP hS
  refine lv_iload hx hb dX3_fillRowStarts_0 (lv_at hl 4 rfl) ?_
  refine lv_istore (lv' := [(5, .int p4), (0, .ref (a.1 0)), (1, .ref (a.2 2 p1)), (2, .ref (a.2 1 p2)), (3, .int p3), (4, .int p4)]) hx hb dX3_fillRowStarts_2 hl (by decide) rfl (fun ls hl => ?_)
  refine lv_iconst (v := 0) hx hb dX3_fillRowStarts_4 (by decide) ?_
  refine lv_istore (lv' := [(6, .int 0), (5, .int p4), (0, .ref (a.1 0)), (1, .ref (a.2 2 p1)), (2, .ref (a.2 1 p2)), (3, .int p3), (4, .int p4)]) hx hb dX3_fillRowStarts_5 hl (by decide) rfl (fun ls hl => ?_)
  exact k_X3_fillRowStarts_7 hx hb hr hts hml hown hlocks hK hA _ _ p1 p2 p3 p4 0 _ _ _ hp1 hp2 ls h hP hD hS (lv_sub hl [2, 3, 4, 5, 1, 0] rfl)
def f_X3_findRowStarts_30 (n : Nat → Nat) : XV → Nat → Nat → Int32 → Nat → Int32 → Int32 → Option (Int32 × XV)
  | _, 0, _, _, _, _, _ => none
  | V, fu + 1, zx1, zx2, zx3, zx4, zx5 => oi (1440 < zx5) (some (0, V)) (oi (zx4 = (-1)) (some (0, V)) (ob (f_X3_fillRowStarts n V zx1 zx3 zx2 zx4) (fun u_9 => oi (u_9.1 = 0) (ob (f_X3_nextFit n u_9.2 zx3 zx2 (zx4 + 1)) (fun u_12 => f_X3_findRowStarts_30 n u_9.2 fu zx1 zx2 zx3 u_12 (zx5 + 1))) (some (1, u_9.2)))))
def f_X3_findRowStarts (n : Nat → Nat) (V : XV) (p1 : Nat) (p2 : Int32) : Option (Int32 × XV) := ob (f_X3_liftNumbered n V (V.1 2 p1 0)) (fun u_1 => oc (n 1) u_1 (some (0, V)) (fun k_3 => ob (f_X3_firstFit n V k_3 p2 (V.2.2.1 7)) (fun u_5 => f_X3_findRowStarts_30 n V FU p1 p2 k_3 u_5 0)))
theorem hd_X3_findRowStarts : yX3_findRowStarts.cls = RX3 ∧ yX3_findRowStarts.cls ≠ "java/lang/invoke/MethodHandle" ∧ yX3_findRowStarts.cls ≠ "java/lang/invoke/VarHandle" ∧ (parseMethodDescriptor yX3_findRowStarts.desc).map (fun d => d.parameters.length) = some 2 := by decide +kernel
set_option maxHeartbeats 4000000 in
set_option maxRecDepth 100000 in
theorem k_X3_findRowStarts_30 {p : Program} {l : Launch} {e : Env} {s : State} {m : MethodId} {args : Array Value} {below : List Frame} {meth : Method} {c : Code} {D : va_G} {cy : Nat → ClassId} {a : XA} {n : Nat → Nat} {A : Nat → Prop} (hx : p.tables.exec = Jvm.exec) (hb : c.code = cX3_findRowStarts) (hr : meth.sig.returnType = (some .boolean)) (hts : ∀ w ∈ wsX3_findRowStarts, w.before args s = true) (hml : c.maxLocals = 6) (hown : s.vm.findClass RX3 = some m.cls) (hlocks : meth.locks = false) (hK : va_K D xcl (xty cy) s) (hA : ∀ q, s.heap.size ≤ q → A q) (res : Int32 × XV) : ∀ (fu : Nat) (zx1 : Nat) (zx2 : Int32) (zx3 : Nat) (zx4 : Int32) (zx5 : Int32) (V : XV) (H : Heap) (locs : List Loc) (hzx1 : zx1 < n 2) (hzx3 : zx3 < n 1) (ls : Array Slot), f_X3_findRowStarts_30 n V fu zx1 zx2 zx3 zx4 zx5 = some res → va_P D xcl (xW cy a n V) H → va_D A (xW cy a n V) → va_S A s.heap H locs → lv_has ls 6 [(0, .ref (a.1 0)), (1, .ref (a.2 2 zx1)), (2, .int zx2), (3, .ref (a.2 1 zx3)), (4, .int zx4), (5, .int zx5)] → W p l e ({ frames := 5, cells := 0, slots := 0, locals := 133 } : Room) s m args below meth c H locs 0 0 (MQ below (va_Qi (fun r (_ : Unit) => r = res.1) (fun _ t => va_P D xcl (xW cy a n res.2) t.heap ∧ va_D A (xW cy a n res.2)) A) args s 0 0 (A)) (F0 m 30 ls []) := by
  intro fu
  induction fu with
  | zero =>
    intro zx1 zx2 zx3 zx4 zx5 V H locs hzx1 hzx3 ls h hP hD hS hl
    cases h
  | succ fu ih =>
    intro zx1 zx2 zx3 zx4 zx5 V H locs hzx1 hzx3 ls h hP hD hS hl
    refine lv_iload hx hb dX3_findRowStarts_30 (lv_at hl 5 rfl) ?_
    refine lv_sipush (v := 1440) hx hb dX3_findRowStarts_32 (by decide) ?_
    refine lv_icmp_gt (tgt := 76) hx hb dX3_findRowStarts_35 (by decide) (fun c_7 => ?_) (fun c_7 => ?_)
    · replace h := oi_t c_7 h
      refine lv_iconst (v := 0) hx hb dX3_findRowStarts_76 (by decide) ?_
      have h9 := Option.some.inj h
      subst h9
      exact W.zret (v := 0) hx hb hr (by decide) (fun t ht hW => ⟨⟨0, (), rfl, rfl, ⟨by rw [ht]; exact hP, hD⟩⟩, hS.F ht⟩) hS.2.2 dX3_findRowStarts_77 hlocks
    · replace h := oi_f c_7 h
      refine lv_iload hx hb dX3_findRowStarts_38 (lv_at hl 4 rfl) ?_
      refine lv_iconst (v := (-1)) hx hb dX3_findRowStarts_40 (by decide) ?_
      refine lv_icmp_eq (tgt := 76) hx hb dX3_findRowStarts_41 (by decide) (fun c_8 => ?_) (fun c_8 => ?_)
      · replace h := oi_t c_8 h
        refine lv_iconst (v := 0) hx hb dX3_findRowStarts_76 (by decide) ?_
        have h9 := Option.some.inj h
        subst h9
        exact W.zret (v := 0) hx hb hr (by decide) (fun t ht hW => ⟨⟨0, (), rfl, rfl, ⟨by rw [ht]; exact hP, hD⟩⟩, hS.F ht⟩) hS.2.2 dX3_findRowStarts_77 hlocks
      · replace h := oi_f c_8 h
        refine lv_aload_n hx hb dX3_findRowStarts_44 rfl (lv_at hl 0 rfl) ?_
        refine lv_aload_n hx hb dX3_findRowStarts_45 rfl (lv_at hl 1 rfl) ?_
        refine lv_aload_n hx hb dX3_findRowStarts_46 rfl (lv_at hl 3 rfl) ?_
        refine lv_iload_n hx hb dX3_findRowStarts_47 rfl (lv_at hl 2 rfl) ?_
        refine lv_iload hx hb dX3_findRowStarts_48 (lv_at hl 4 rfl) ?_
        obtain ⟨u_9, hg_10, h⟩ := ob_some h
        refine zcWi (va_runV (As := [.ref (a.2 2 zx1), .ref (a.2 1 zx3), .int zx2, .int zx4]) (rest := []) ⟨hx, hb, hml, hown, hts⟩ (c_X3_fillRowStarts l D cy a n V _ zx1 zx3 zx2 zx4 hzx1 hzx3 hg_10) (cwV 4 hts gX3_findRowStarts_X3_fillRowStarts rfl rfl rfl hd_X3_fillRowStarts ⟨Nat.le_of_ble_eq_true rfl, Nat.le_of_ble_eq_true rfl⟩) ⟨(zJ_blind xI_blind), va_recv hK hP (ci := 3) (q0 := 0) rfl rfl, (zJ_at (xI_at hP hK hD))⟩ rfl rfl hl.1 rfl (lv_room (Nat.le_of_ble_eq_true rfl)) dX3_findRowStarts_50 ⟨Nat.le_of_ble_eq_true rfl, Nat.le_of_ble_eq_true rfl⟩) hS (z_free hD hS hA) (fun H locs hP hD hS => ?_)
        refine lv_if_eq (tgt := 58) hx hb dX3_findRowStarts_53 (by decide) (fun c_11 => ?_) (fun c_11 => ?_)
        · replace h := oi_t c_11 h
          refine lv_aload_n hx hb dX3_findRowStarts_58 rfl (lv_at hl 0 rfl) ?_
          refine lv_aload_n hx hb dX3_findRowStarts_59 rfl (lv_at hl 3 rfl) ?_
          refine lv_iload_n hx hb dX3_findRowStarts_60 rfl (lv_at hl 2 rfl) ?_
          refine lv_iload hx hb dX3_findRowStarts_61 (lv_at hl 4 rfl) ?_
          refine lv_iconst (v := 1) hx hb dX3_findRowStarts_63 (by decide) ?_
          refine lv_iadd hx hb dX3_findRowStarts_64 ?_
          obtain ⟨u_12, hg_13, h⟩ := ob_some h
          refine zcSi (W.runV (As := [.ref (a.2 1 zx3), .int zx2, .int (zx4 + 1)]) (rest := []) ⟨hx, hb, hml, hown, hts⟩ (c_X3_nextFit l D cy a n u_9.2 zx3 zx2 (zx4 + 1) hzx3 hg_13) (cwV 3 hts gX3_findRowStarts_X3_nextFit rfl rfl rfl hd_X3_nextFit ⟨Nat.le_of_ble_eq_true rfl, Nat.le_of_ble_eq_true rfl⟩) ⟨xI_blind, va_recv hK hP (ci := 3) (q0 := 0) rfl rfl, (xI_at hP hK hD)⟩ rfl rfl hl.1 rfl (lv_room (Nat.le_of_ble_eq_true rfl)) dX3_findRowStarts_65 ⟨Nat.le_of_ble_eq_true rfl, Nat.le_of_ble_eq_true rfl⟩) ?_
          refine lv_istore (lv' := [(4, .int u_12), (0, .ref (a.1 0)), (1, .ref (a.2 2 zx1)), (2, .int zx2), (3, .ref (a.2 1 zx3)), (5, .int zx5)]) hx hb dX3_findRowStarts_68 hl (by decide) rfl (fun ls hl => ?_)
          refine lv_iinc (v := zx5 + 1) (lv' := [(5, .int (zx5 + 1)), (4, .int u_12), (0, .ref (a.1 0)), (1, .ref (a.2 2 zx1)), (2, .int zx2), (3, .ref (a.2 1 zx3))]) hx hb dX3_findRowStarts_70 hl (k := 5) rfl rfl (by decide) rfl (fun ls hl => ?_)
          refine lv_goto (tgt := 30) hx hb dX3_findRowStarts_73 (by decide) ?_
          exact ih zx1 zx2 zx3 u_12 (zx5 + 1) _ _ _ hzx1 hzx3 ls h hP hD hS (lv_sub hl [2, 3, 4, 5, 1, 0] rfl)
        · replace h := oi_f c_11 h
          refine lv_iconst (v := 1) hx hb dX3_findRowStarts_56 (by decide) ?_
          have h9 := Option.some.inj h
          subst h9
          exact W.zret (v := 1) hx hb hr (by decide) (fun t ht hW => ⟨⟨1, (), rfl, rfl, ⟨by rw [ht]; exact hP, hD⟩⟩, hS.F ht⟩) hS.2.2 dX3_findRowStarts_57 hlocks
set_option maxHeartbeats 4000000 in
set_option maxRecDepth 100000 in
theorem c_X3_findRowStarts (l : Launch) (D : va_G) (cy : Nat → ClassId) (a : XA) (n : Nat → Nat) (V : XV) (sz : Nat) (p1 : Nat) (p2 : Int32) (hp1 : p1 < n 2) {res : Int32 × XV} (h : f_X3_findRowStarts n V p1 p2 = some res) : Met l yX3_findRowStarts wsX3_findRowStarts ({ frames := 5, cells := 0, slots := 0, locals := 133 } : Room) (va_Pc [.ref (a.1 0), .ref (a.2 2 p1), .int p2] (zJ sz (xI D cy a n V))) (va_Qi (fun r (_ : Unit) => r = res.1) (fun _ t => va_P D xcl (xW cy a n res.2) t.heap ∧ va_D (va_A (xW cy a n V) sz) (xW cy a n res.2)) (va_A (xW cy a n V) sz)) 0 0 (va_A (xW cy a n V) sz) := by
  refine Met.ofW (cc := cX3_findRowStarts) (maxL := 6) (ret := (some .boolean)) (by decide) rfl ?_
  intro p e s m args below meth c s₁ B hml hv
  obtain ⟨rfl, hsz, hP, hK, hD0⟩ := hv
  have hx := B.exec
  have hb := B.bytes
  have hr := B.returns
  have hts := atoms_spec (ws := wsX3_findRowStarts) B.pre
  have hown : s.vm.findClass RX3 = some m.cls := findClass_of_methodNamed B.named
  have hlocks := B.notSynchronized
  subst hsz
  have hD := hD0.self (sz := s.heap.size)
  generalize hAe : va_A (xW cy a n V) s.heap.size = A at hD ⊢
  have hA : ∀ q : Nat, s.heap.size ≤ q → A q := fun q h => by rw [← hAe]; exact Or.inr h
  have hS : va_S A s.heap s.heap [] := va_S.rf
  have hl := lv_entry ([.ref (a.1 0), .ref (a.2 2 p1), .int p2]) (n := 6) (Nat.le_of_ble_eq_true rfl)
  rw [lg_entry_eq]
  generalize (lg_sl ([.ref (a.1 0), .ref (a.2 2 p1), .int p2]) ++ List.replicate (6 - (lg_sl ([.ref (a.1 0), .ref (a.2 2 p1), .int p2])).length) Slot.unset).toArray = ls at hl ⊢
  have hl : lv_has ls 6 [(0, .ref (a.1 0)), (1, .ref (a.2 2 p1)), (2, .int p2)] := hl
  have hinX2 : ∀ w ∈ wsX20, w ∈ wsX3_findRowStarts := (fun _ h => (List.mem_cons_of_mem _ (List.mem_append_left _ (List.mem_append_left _ (List.mem_append_left _ (List.mem_append_left _ (List.mem_append_right _ h)))))))
  have hinX3 : ∀ w ∈ wsX30, w ∈ wsX3_findRowStarts := (fun _ h => (List.mem_cons_of_mem _ (List.mem_append_left _ (List.mem_append_left _ (List.mem_append_left _ (List.mem_append_right _ h))))))
  revert hP hS
  intro hP hS
  refine lv_aload_n hx hb dX3_findRowStarts_0 rfl (lv_at hl 0 rfl) ?_
  refine lv_aload_n hx hb dX3_findRowStarts_1 rfl (lv_at hl 1 rfl) ?_
  refine va_get (D := D) (ci := 2) (v := .int (V.1 2 p1 0)) (C := RX2) (T := TX2) (N := 3) hx hb hts hinX2 hown hK hP _ (xpos_po hp1) rfl 0 (by decide) (hts _ (List.mem_of_getElem? (i := 1) rfl)) (fun _ h9 => h9) rfl dX3_findRowStarts_2 ?_
  obtain ⟨u_1, hg_2, h⟩ := ob_some h
  rcases oc_some h with ⟨o_4, h⟩ | ⟨k_3, hk_3, o_4, h⟩
  · refine zcSqn (W.runV (As := [.int (V.1 2 p1 0)]) (rest := []) ⟨hx, hb, hml, hown, hts⟩ (c_X3_liftNumbered l D cy a n V (V.1 2 p1 0) hg_2) (cwV 1 hts gX3_findRowStarts_X3_liftNumbered rfl rfl rfl hd_X3_liftNumbered ⟨Nat.le_of_ble_eq_true rfl, Nat.le_of_ble_eq_true rfl⟩) ⟨xI_blind, va_recv hK hP (ci := 3) (q0 := 0) rfl rfl, (xI_at hP hK hD)⟩ rfl rfl hl.1 rfl (lv_room (Nat.le_of_ble_eq_true rfl)) dX3_findRowStarts_5 ⟨Nat.le_of_ble_eq_true rfl, Nat.le_of_ble_eq_true rfl⟩) o_4 ?_
    refine lv_astore_nN (lv' := [(3, .null), (0, .ref (a.1 0)), (1, .ref (a.2 2 p1)), (2, .int p2)]) hx hb dX3_findRowStarts_8 rfl hl (by decide) rfl (fun ls hl => ?_)
    refine lv_aload_nN hx hb dX3_findRowStarts_9 rfl (lv_at hl 0 rfl) ?_
    refine lv_ifnonnullN hx hb dX3_findRowStarts_10 ?_
    refine lv_iconst (v := 0) hx hb dX3_findRowStarts_13 (by decide) ?_
    have h9 := Option.some.inj h
    subst h9
    exact W.zret (v := 0) hx hb hr (by decide) (fun t ht hW => ⟨⟨0, (), rfl, rfl, ⟨by rw [ht]; exact hP, hD⟩⟩, hS.F ht⟩) hS.2.2 dX3_findRowStarts_14 hlocks
  · refine zcSqs (W.runV (As := [.int (V.1 2 p1 0)]) (rest := []) ⟨hx, hb, hml, hown, hts⟩ (c_X3_liftNumbered l D cy a n V (V.1 2 p1 0) hg_2) (cwV 1 hts gX3_findRowStarts_X3_liftNumbered rfl rfl rfl hd_X3_liftNumbered ⟨Nat.le_of_ble_eq_true rfl, Nat.le_of_ble_eq_true rfl⟩) ⟨xI_blind, va_recv hK hP (ci := 3) (q0 := 0) rfl rfl, (xI_at hP hK hD)⟩ rfl rfl hl.1 rfl (lv_room (Nat.le_of_ble_eq_true rfl)) dX3_findRowStarts_5 ⟨Nat.le_of_ble_eq_true rfl, Nat.le_of_ble_eq_true rfl⟩) o_4 ?_
    refine lv_astore_n (lv' := [(3, .ref (a.2 1 k_3)), (0, .ref (a.1 0)), (1, .ref (a.2 2 p1)), (2, .int p2)]) hx hb dX3_findRowStarts_8 rfl hl (by decide) rfl (fun ls hl => ?_)
    refine lv_aload_n hx hb dX3_findRowStarts_9 rfl (lv_at hl 0 rfl) ?_
    refine lv_ifnonnull (tgt := 15) hx hb dX3_findRowStarts_10 (by decide) ?_
    refine lv_aload_n hx hb dX3_findRowStarts_15 rfl (lv_at hl 1 rfl) ?_
    refine lv_aload_n hx hb dX3_findRowStarts_16 rfl (lv_at hl 0 rfl) ?_
    refine lv_iload_n hx hb dX3_findRowStarts_17 rfl (lv_at hl 3 rfl) ?_
    refine lv_aload_n hx hb dX3_findRowStarts_18 rfl (lv_at hl 1 rfl) ?_
    refine va_get (D := D) (ci := 3) (v := .int (V.2.2.1 7)) (C := RX3) (T := TX3) (N := 10) hx hb hts hinX3 hown hK hP 0 rfl rfl 7 (by decide) (hts _ (List.mem_of_getElem? (i := 2) rfl)) (fun _ h9 => h9) rfl dX3_findRowStarts_19 ?_
    obtain ⟨u_5, hg_6, h⟩ := ob_some h
    refine zcSi (W.runV (As := [.ref (a.2 1 k_3), .int p2, .int (V.2.2.1 7)]) (rest := []) ⟨hx, hb, hml, hown, hts⟩ (c_X3_firstFit l D cy a n V k_3 p2 (V.2.2.1 7) hk_3 hg_6) (cwV 3 hts gX3_findRowStarts_X3_firstFit rfl rfl rfl hd_X3_firstFit ⟨Nat.le_of_ble_eq_true rfl, Nat.le_of_ble_eq_true rfl⟩) ⟨xI_blind, va_recv hK hP (ci := 3) (q0 := 0) rfl rfl, (xI_at hP hK hD)⟩ rfl rfl hl.1 rfl (lv_room (Nat.le_of_ble_eq_true rfl)) dX3_findRowStarts_22 ⟨Nat.le_of_ble_eq_true rfl, Nat.le_of_ble_eq_true rfl⟩) ?_
    refine lv_istore (lv' := [(4, .int u_5), (3, .ref (a.2 1 k_3)), (0, .ref (a.1 0)), (1, .ref (a.2 2 p1)), (2, .int p2)]) hx hb dX3_findRowStarts_25 hl (by decide) rfl (fun ls hl => ?_)
    refine lv_iconst (v := 0) hx hb dX3_findRowStarts_27 (by decide) ?_
    refine lv_istore (lv' := [(5, .int 0), (4, .int u_5), (3, .ref (a.2 1 k_3)), (0, .ref (a.1 0)), (1, .ref (a.2 2 p1)), (2, .int p2)]) hx hb dX3_findRowStarts_28 hl (by decide) rfl (fun ls hl => ?_)
    exact k_X3_findRowStarts_30 hx hb hr hts hml hown hlocks hK hA _ _ p1 p2 k_3 u_5 0 _ _ _ hp1 hk_3 ls h hP hD hS (lv_sub hl [3, 4, 5, 2, 1, 0] rfl)
def f_X3_now (n : Nat → Nat) (V : XV)  : Option (Int32) := some (V.2.2.1 7)
theorem hd_X3_now : yX3_now.cls = RX3 ∧ yX3_now.cls ≠ "java/lang/invoke/MethodHandle" ∧ yX3_now.cls ≠ "java/lang/invoke/VarHandle" ∧ (parseMethodDescriptor yX3_now.desc).map (fun d => d.parameters.length) = some 0 := by decide +kernel
set_option maxHeartbeats 4000000 in
set_option maxRecDepth 100000 in
theorem c_X3_now (l : Launch) (D : va_G) (cy : Nat → ClassId) (a : XA) (n : Nat → Nat) (V : XV)  {res : Int32} (h : f_X3_now n V  = some res) : Met l yX3_now wsX3_now ({ frames := 0, cells := 0, slots := 0, locals := 0 } : Room) (va_Pc [.ref (a.1 0)] (xI D cy a n V)) (vp_Si (fun r => r = res)) 0 0 (fun _ => False) := by
  refine Met.ofW (cc := cX3_now) (maxL := 1) (ret := (some .int)) (by decide) rfl ?_
  intro p e s m args below meth c s₁ B hml hv
  obtain ⟨rfl, hP, hK, hD⟩ := hv
  have hx := B.exec
  have hb := B.bytes
  have hr := B.returns
  have hts := atoms_spec (ws := wsX3_now) B.pre
  have hown : s.vm.findClass RX3 = some m.cls := findClass_of_methodNamed B.named
  have hlocks := B.notSynchronized
  have hl := lv_entry ([.ref (a.1 0)]) (n := 1) (Nat.le_of_ble_eq_true rfl)
  rw [lg_entry_eq]
  generalize (lg_sl ([.ref (a.1 0)]) ++ List.replicate (1 - (lg_sl ([.ref (a.1 0)])).length) Slot.unset).toArray = ls at hl ⊢
  have hl : lv_has ls 1 [(0, .ref (a.1 0))] := hl
  have hinX3 : ∀ w ∈ wsX30, w ∈ wsX3_now := (fun _ h => (List.mem_cons_of_mem _ (List.mem_append_right _ h)))
  refine lv_aload_n hx hb dX3_now_0 rfl (lv_at hl 0 rfl) ?_
  refine va_get (D := D) (ci := 3) (v := .int (V.2.2.1 7)) (C := RX3) (T := TX3) (N := 10) hx hb hts hinX3 hown hK hP 0 rfl rfl 7 (by decide) (hts _ (List.mem_of_getElem? (i := 1) rfl)) (fun _ h9 => h9) rfl dX3_now_1 ?_
  have h9 := Option.some.inj h
  exact W.iret (v := V.2.2.1 7) hx hb hr (fun t ht hW => ⟨V.2.2.1 7, rfl, h9, ht⟩) (fun _ hq => absurd hq List.not_mem_nil) dX3_now_4 hlocks
def f_X3_cranes (n : Nat → Nat) (V : XV)  : Option (Int32) := some (V.2.2.1 3)
theorem hd_X3_cranes : yX3_cranes.cls = RX3 ∧ yX3_cranes.cls ≠ "java/lang/invoke/MethodHandle" ∧ yX3_cranes.cls ≠ "java/lang/invoke/VarHandle" ∧ (parseMethodDescriptor yX3_cranes.desc).map (fun d => d.parameters.length) = some 0 := by decide +kernel
set_option maxHeartbeats 4000000 in
set_option maxRecDepth 100000 in
theorem c_X3_cranes (l : Launch) (D : va_G) (cy : Nat → ClassId) (a : XA) (n : Nat → Nat) (V : XV)  {res : Int32} (h : f_X3_cranes n V  = some res) : Met l yX3_cranes wsX3_cranes ({ frames := 0, cells := 0, slots := 0, locals := 0 } : Room) (va_Pc [.ref (a.1 0)] (xI D cy a n V)) (vp_Si (fun r => r = res)) 0 0 (fun _ => False) := by
  refine Met.ofW (cc := cX3_cranes) (maxL := 1) (ret := (some .int)) (by decide) rfl ?_
  intro p e s m args below meth c s₁ B hml hv
  obtain ⟨rfl, hP, hK, hD⟩ := hv
  have hx := B.exec
  have hb := B.bytes
  have hr := B.returns
  have hts := atoms_spec (ws := wsX3_cranes) B.pre
  have hown : s.vm.findClass RX3 = some m.cls := findClass_of_methodNamed B.named
  have hlocks := B.notSynchronized
  have hl := lv_entry ([.ref (a.1 0)]) (n := 1) (Nat.le_of_ble_eq_true rfl)
  rw [lg_entry_eq]
  generalize (lg_sl ([.ref (a.1 0)]) ++ List.replicate (1 - (lg_sl ([.ref (a.1 0)])).length) Slot.unset).toArray = ls at hl ⊢
  have hl : lv_has ls 1 [(0, .ref (a.1 0))] := hl
  have hinX3 : ∀ w ∈ wsX30, w ∈ wsX3_cranes := (fun _ h => (List.mem_cons_of_mem _ (List.mem_append_right _ h)))
  refine lv_aload_n hx hb dX3_cranes_0 rfl (lv_at hl 0 rfl) ?_
  refine va_get (D := D) (ci := 3) (v := .int (V.2.2.1 3)) (C := RX3) (T := TX3) (N := 10) hx hb hts hinX3 hown hK hP 0 rfl rfl 3 (by decide) (hts _ (List.mem_of_getElem? (i := 1) rfl)) (fun _ h9 => h9) rfl dX3_cranes_1 ?_
  have h9 := Option.some.inj h
  exact W.iret (v := V.2.2.1 3) hx hb hr (fun t ht hW => ⟨V.2.2.1 3, rfl, h9, ht⟩) (fun _ hq => absurd hq List.not_mem_nil) dX3_cranes_4 hlocks
def f_X3_lifts (n : Nat → Nat) (V : XV)  : Option (Int32) := some (V.2.2.1 4)
theorem hd_X3_lifts : yX3_lifts.cls = RX3 ∧ yX3_lifts.cls ≠ "java/lang/invoke/MethodHandle" ∧ yX3_lifts.cls ≠ "java/lang/invoke/VarHandle" ∧ (parseMethodDescriptor yX3_lifts.desc).map (fun d => d.parameters.length) = some 0 := by decide +kernel
set_option maxHeartbeats 4000000 in
set_option maxRecDepth 100000 in
theorem c_X3_lifts (l : Launch) (D : va_G) (cy : Nat → ClassId) (a : XA) (n : Nat → Nat) (V : XV)  {res : Int32} (h : f_X3_lifts n V  = some res) : Met l yX3_lifts wsX3_lifts ({ frames := 0, cells := 0, slots := 0, locals := 0 } : Room) (va_Pc [.ref (a.1 0)] (xI D cy a n V)) (vp_Si (fun r => r = res)) 0 0 (fun _ => False) := by
  refine Met.ofW (cc := cX3_lifts) (maxL := 1) (ret := (some .int)) (by decide) rfl ?_
  intro p e s m args below meth c s₁ B hml hv
  obtain ⟨rfl, hP, hK, hD⟩ := hv
  have hx := B.exec
  have hb := B.bytes
  have hr := B.returns
  have hts := atoms_spec (ws := wsX3_lifts) B.pre
  have hown : s.vm.findClass RX3 = some m.cls := findClass_of_methodNamed B.named
  have hlocks := B.notSynchronized
  have hl := lv_entry ([.ref (a.1 0)]) (n := 1) (Nat.le_of_ble_eq_true rfl)
  rw [lg_entry_eq]
  generalize (lg_sl ([.ref (a.1 0)]) ++ List.replicate (1 - (lg_sl ([.ref (a.1 0)])).length) Slot.unset).toArray = ls at hl ⊢
  have hl : lv_has ls 1 [(0, .ref (a.1 0))] := hl
  have hinX3 : ∀ w ∈ wsX30, w ∈ wsX3_lifts := (fun _ h => (List.mem_cons_of_mem _ (List.mem_append_right _ h)))
  refine lv_aload_n hx hb dX3_lifts_0 rfl (lv_at hl 0 rfl) ?_
  refine va_get (D := D) (ci := 3) (v := .int (V.2.2.1 4)) (C := RX3) (T := TX3) (N := 10) hx hb hts hinX3 hown hK hP 0 rfl rfl 4 (by decide) (hts _ (List.mem_of_getElem? (i := 1) rfl)) (fun _ h9 => h9) rfl dX3_lifts_1 ?_
  have h9 := Option.some.inj h
  exact W.iret (v := V.2.2.1 4) hx hb hr (fun t ht hW => ⟨V.2.2.1 4, rfl, h9, ht⟩) (fun _ hq => absurd hq List.not_mem_nil) dX3_lifts_4 hlocks
def f_X3_countCommonPlaces_13 (KK : Int32 → Int32 → Option (Int32)) (n : Nat → Nat) : XV → Nat → Nat → Nat → Int32 → Int32 → Int32 → Option (Int32)
  | _, 0, _, _, _, _, _ => none
  | V, fu + 1, zx0, zx1, zx2, zx3, zx4 => oi (40 ≤ zx4) (KK zx2 zx3) (ob (f_X0_reaches n V zx0 zx3 zx4) (fun u_3 => oi (u_3 = 0) (f_X3_countCommonPlaces_13 KK n V fu zx0 zx1 zx2 zx3 (zx4 + 1)) (ob (f_X0_reaches n V zx1 zx3 zx4) (fun u_6 => oi (u_6 = 0) (f_X3_countCommonPlaces_13 KK n V fu zx0 zx1 zx2 zx3 (zx4 + 1)) (f_X3_countCommonPlaces_13 KK n V fu zx0 zx1 (zx2 + 1) zx3 (zx4 + 1))))))
def f_X3_countCommonPlaces_4 (n : Nat → Nat) : XV → Nat → Nat → Nat → Int32 → Int32 → Option (Int32)
  | _, 0, _, _, _, _ => none
  | V, fu + 1, zx0, zx1, zx2, zx3 => oi (40 ≤ zx3) (some zx2) (f_X3_countCommonPlaces_13 (fun (e_9 : Int32) (e_10 : Int32) => f_X3_countCommonPlaces_4 n V fu zx0 zx1 e_9 (e_10 + 1)) n V FU zx0 zx1 zx2 zx3 0)
def f_X3_countCommonPlaces (n : Nat → Nat) (V : XV) (p1 : Nat) (p2 : Nat) : Option (Int32) := f_X3_countCommonPlaces_4 n V FU p1 p2 0 0
theorem hd_X3_countCommonPlaces : yX3_countCommonPlaces.cls ≠ "java/lang/invoke/MethodHandle" ∧ yX3_countCommonPlaces.cls ≠ "java/lang/invoke/VarHandle" ∧ (parseMethodDescriptor yX3_countCommonPlaces.desc).map (fun d => d.parameters.length) = some 2 := by decide +kernel
set_option maxHeartbeats 4000000 in
set_option maxRecDepth 100000 in
theorem k_X3_countCommonPlaces_13 {p : Program} {l : Launch} {e : Env} {s : State} {m : MethodId} {args : Array Value} {below : List Frame} {meth : Method} {c : Code} {D : va_G} {cy : Nat → ClassId} {a : XA} {n : Nat → Nat} {V : XV} (hx : p.tables.exec = Jvm.exec) (hb : c.code = cX3_countCommonPlaces) (hr : meth.sig.returnType = (some .int)) (hts : ∀ w ∈ wsX3_countCommonPlaces, w.before args s = true) (hml : c.maxLocals = 5) (hown : s.vm.findClass RX3 = some m.cls) (hlocks : meth.locks = false) (hK : va_K D xcl (xty cy) s) (hP : va_P D xcl (xW cy a n V) s.heap) (hD : va_D (fun _ => True) (xW cy a n V)) (res : Int32) (zx0 : Nat) (zx1 : Nat) (hzx0 : zx0 < n 0) (hzx1 : zx1 < n 0) {KK : Int32 → Int32 → Option (Int32)} (hKK : ∀ (zy2 : Int32) (zy3 : Int32) (ls : Array Slot), KK zy2 zy3 = some res → lv_has ls 5 [(0, .ref (a.2 0 zx0)), (1, .ref (a.2 0 zx1)), (2, .int zy2), (3, .int zy3)] → W p l e ({ frames := 2, cells := 0, slots := 0, locals := 46 } : Room) s m args below meth c s.heap [] 0 0 (MQ below (vp_Si (fun r => r = res)) args s 0 0 (fun _ => False)) (F0 m 49 ls [])) : ∀ (fu : Nat) (zx2 : Int32) (zx3 : Int32) (zx4 : Int32)  (ls : Array Slot), f_X3_countCommonPlaces_13 KK n V fu zx0 zx1 zx2 zx3 zx4 = some res → lv_has ls 5 [(0, .ref (a.2 0 zx0)), (1, .ref (a.2 0 zx1)), (2, .int zx2), (3, .int zx3), (4, .int zx4)] → W p l e ({ frames := 2, cells := 0, slots := 0, locals := 46 } : Room) s m args below meth c s.heap [] 0 0 (MQ below (vp_Si (fun r => r = res)) args s 0 0 (fun _ => False)) (F0 m 13 ls []) := by
  intro fu
  induction fu with
  | zero =>
    intro zx2 zx3 zx4  ls h hl
    cases h
  | succ fu ih =>
    intro zx2 zx3 zx4  ls h hl
    refine lv_iload hx hb dX3_countCommonPlaces_13 (lv_at hl 4 rfl) ?_
    refine lv_bipush (v := 40) hx hb dX3_countCommonPlaces_15 (by decide) ?_
    refine lv_icmp_ge (tgt := 49) hx hb dX3_countCommonPlaces_17 (by decide) (fun c_2 => ?_) (fun c_2 => ?_)
    · replace h := oi_t c_2 h
      exact hKK zx2 zx3 ls h (lv_sub hl [0, 1, 2, 3] rfl)
    · replace h := oi_f c_2 h
      refine lv_aload_n hx hb dX3_countCommonPlaces_20 rfl (lv_at hl 0 rfl) ?_
      refine lv_iload_n hx hb dX3_countCommonPlaces_21 rfl (lv_at hl 3 rfl) ?_
      refine lv_iload hx hb dX3_countCommonPlaces_22 (lv_at hl 4 rfl) ?_
      obtain ⟨u_3, hg_4, h⟩ := ob_some h
      refine zcSi (W.runV (As := [.int zx3, .int zx4]) (rest := []) ⟨hx, hb, hml, hown, hts⟩ (c_X0_reaches l D cy a n V zx0 zx3 zx4 hzx0 hg_4) (cwV 2 hts gX3_countCommonPlaces_X0_reaches rfl rfl rfl hd_X0_reaches ⟨Nat.le_of_ble_eq_true rfl, Nat.le_of_ble_eq_true rfl⟩) ⟨xI_blind, va_recv hK hP (ci := 0) rfl (xpos_cr hzx0), (xI_at hP hK hD)⟩ rfl rfl hl.1 rfl (lv_room (Nat.le_of_ble_eq_true rfl)) dX3_countCommonPlaces_24 ⟨Nat.le_of_ble_eq_true rfl, Nat.le_of_ble_eq_true rfl⟩) ?_
      refine lv_if_eq (tgt := 43) hx hb dX3_countCommonPlaces_27 (by decide) (fun c_5 => ?_) (fun c_5 => ?_)
      · replace h := oi_t c_5 h
        refine lv_iinc (v := zx4 + 1) (lv' := [(4, .int (zx4 + 1)), (0, .ref (a.2 0 zx0)), (1, .ref (a.2 0 zx1)), (2, .int zx2), (3, .int zx3)]) hx hb dX3_countCommonPlaces_43 hl (k := 4) rfl rfl (by decide) rfl (fun ls hl => ?_)
        refine lv_goto (tgt := 13) hx hb dX3_countCommonPlaces_46 (by decide) ?_
        exact ih zx2 zx3 (zx4 + 1) ls h (lv_sub hl [1, 2, 3, 4, 0] rfl)
      · replace h := oi_f c_5 h
        refine lv_aload_n hx hb dX3_countCommonPlaces_30 rfl (lv_at hl 1 rfl) ?_
        refine lv_iload_n hx hb dX3_countCommonPlaces_31 rfl (lv_at hl 3 rfl) ?_
        refine lv_iload hx hb dX3_countCommonPlaces_32 (lv_at hl 4 rfl) ?_
        obtain ⟨u_6, hg_7, h⟩ := ob_some h
        refine zcSi (W.runV (As := [.int zx3, .int zx4]) (rest := []) ⟨hx, hb, hml, hown, hts⟩ (c_X0_reaches l D cy a n V zx1 zx3 zx4 hzx1 hg_7) (cwV 2 hts gX3_countCommonPlaces_X0_reaches rfl rfl rfl hd_X0_reaches ⟨Nat.le_of_ble_eq_true rfl, Nat.le_of_ble_eq_true rfl⟩) ⟨xI_blind, va_recv hK hP (ci := 0) rfl (xpos_cr hzx1), (xI_at hP hK hD)⟩ rfl rfl hl.1 rfl (lv_room (Nat.le_of_ble_eq_true rfl)) dX3_countCommonPlaces_34 ⟨Nat.le_of_ble_eq_true rfl, Nat.le_of_ble_eq_true rfl⟩) ?_
        refine lv_if_eq (tgt := 43) hx hb dX3_countCommonPlaces_37 (by decide) (fun c_8 => ?_) (fun c_8 => ?_)
        · replace h := oi_t c_8 h
          refine lv_iinc (v := zx4 + 1) (lv' := [(4, .int (zx4 + 1)), (0, .ref (a.2 0 zx0)), (1, .ref (a.2 0 zx1)), (2, .int zx2), (3, .int zx3)]) hx hb dX3_countCommonPlaces_43 hl (k := 4) rfl rfl (by decide) rfl (fun ls hl => ?_)
          refine lv_goto (tgt := 13) hx hb dX3_countCommonPlaces_46 (by decide) ?_
          exact ih zx2 zx3 (zx4 + 1) ls h (lv_sub hl [1, 2, 3, 4, 0] rfl)
        · replace h := oi_f c_8 h
          refine lv_iinc (v := zx2 + 1) (lv' := [(2, .int (zx2 + 1)), (0, .ref (a.2 0 zx0)), (1, .ref (a.2 0 zx1)), (3, .int zx3), (4, .int zx4)]) hx hb dX3_countCommonPlaces_40 hl (k := 2) rfl rfl (by decide) rfl (fun ls hl => ?_)
          refine lv_iinc (v := zx4 + 1) (lv' := [(4, .int (zx4 + 1)), (2, .int (zx2 + 1)), (0, .ref (a.2 0 zx0)), (1, .ref (a.2 0 zx1)), (3, .int zx3)]) hx hb dX3_countCommonPlaces_43 hl (k := 4) rfl rfl (by decide) rfl (fun ls hl => ?_)
          refine lv_goto (tgt := 13) hx hb dX3_countCommonPlaces_46 (by decide) ?_
          exact ih (zx2 + 1) zx3 (zx4 + 1) ls h (lv_sub hl [2, 3, 1, 4, 0] rfl)
set_option maxHeartbeats 4000000 in
set_option maxRecDepth 100000 in
theorem k_X3_countCommonPlaces_4 {p : Program} {l : Launch} {e : Env} {s : State} {m : MethodId} {args : Array Value} {below : List Frame} {meth : Method} {c : Code} {D : va_G} {cy : Nat → ClassId} {a : XA} {n : Nat → Nat} {V : XV} (hx : p.tables.exec = Jvm.exec) (hb : c.code = cX3_countCommonPlaces) (hr : meth.sig.returnType = (some .int)) (hts : ∀ w ∈ wsX3_countCommonPlaces, w.before args s = true) (hml : c.maxLocals = 5) (hown : s.vm.findClass RX3 = some m.cls) (hlocks : meth.locks = false) (hK : va_K D xcl (xty cy) s) (hP : va_P D xcl (xW cy a n V) s.heap) (hD : va_D (fun _ => True) (xW cy a n V)) (res : Int32) : ∀ (fu : Nat) (zx0 : Nat) (zx1 : Nat) (zx2 : Int32) (zx3 : Int32) (hzx0 : zx0 < n 0) (hzx1 : zx1 < n 0) (ls : Array Slot), f_X3_countCommonPlaces_4 n V fu zx0 zx1 zx2 zx3 = some res → lv_has ls 5 [(0, .ref (a.2 0 zx0)), (1, .ref (a.2 0 zx1)), (2, .int zx2), (3, .int zx3)] → W p l e ({ frames := 2, cells := 0, slots := 0, locals := 46 } : Room) s m args below meth c s.heap [] 0 0 (MQ below (vp_Si (fun r => r = res)) args s 0 0 (fun _ => False)) (F0 m 4 ls []) := by
  intro fu
  induction fu with
  | zero =>
    intro zx0 zx1 zx2 zx3 hzx0 hzx1 ls h hl
    cases h
  | succ fu ih =>
    intro zx0 zx1 zx2 zx3 hzx0 hzx1 ls h hl
    refine lv_iload_n hx hb dX3_countCommonPlaces_4 rfl (lv_at hl 3 rfl) ?_
    refine lv_bipush (v := 40) hx hb dX3_countCommonPlaces_5 (by decide) ?_
    refine lv_icmp_ge (tgt := 55) hx hb dX3_countCommonPlaces_7 (by decide) (fun c_1 => ?_) (fun c_1 => ?_)
    · replace h := oi_t c_1 h
      refine lv_iload_n hx hb dX3_countCommonPlaces_55 rfl (lv_at hl 2 rfl) ?_
      have h9 := Option.some.inj h
      exact W.iret (v := zx2) hx hb hr (fun t ht hW => ⟨zx2, rfl, h9, ht⟩) (fun _ hq => absurd hq List.not_mem_nil) dX3_countCommonPlaces_56 hlocks
    · replace h := oi_f c_1 h
      refine lv_iconst (v := 0) hx hb dX3_countCommonPlaces_10 (by decide) ?_
      refine lv_istore (lv' := [(4, .int 0), (0, .ref (a.2 0 zx0)), (1, .ref (a.2 0 zx1)), (2, .int zx2), (3, .int zx3)]) hx hb dX3_countCommonPlaces_11 hl (by decide) rfl (fun ls hl => ?_)
      refine k_X3_countCommonPlaces_13 hx hb hr hts hml hown hlocks hK hP hD _ zx0 zx1 hzx0 hzx1 (fun e_9 e_10 ls h hl => ?_) _ zx2 zx3 0 ls h (lv_sub hl [1, 2, 3, 4, 0] rfl)
      refine lv_iinc (v := e_10 + 1) (lv' := [(3, .int (e_10 + 1)), (0, .ref (a.2 0 zx0)), (1, .ref (a.2 0 zx1)), (2, .int e_9)]) hx hb dX3_countCommonPlaces_49 hl (k := 3) rfl rfl (by decide) rfl (fun ls hl => ?_)
      refine lv_goto (tgt := 4) hx hb dX3_countCommonPlaces_52 (by decide) ?_
      exact ih zx0 zx1 e_9 (e_10 + 1) hzx0 hzx1 ls h (lv_sub hl [1, 2, 3, 0] rfl)
set_option maxHeartbeats 4000000 in
set_option maxRecDepth 100000 in
theorem c_X3_countCommonPlaces (l : Launch) (D : va_G) (cy : Nat → ClassId) (a : XA) (n : Nat → Nat) (V : XV) (p1 : Nat) (p2 : Nat) (hp1 : p1 < n 0) (hp2 : p2 < n 0) {res : Int32} (h : f_X3_countCommonPlaces n V p1 p2 = some res) : Met l yX3_countCommonPlaces wsX3_countCommonPlaces ({ frames := 2, cells := 0, slots := 0, locals := 46 } : Room) (va_Pc [.ref (a.2 0 p1), .ref (a.2 0 p2)] (xI D cy a n V)) (vp_Si (fun r => r = res)) 0 0 (fun _ => False) := by
  refine Met.ofW (cc := cX3_countCommonPlaces) (maxL := 5) (ret := (some .int)) (by decide) rfl ?_
  intro p e s m args below meth c s₁ B hml hv
  obtain ⟨rfl, hP, hK, hD⟩ := hv
  have hx := B.exec
  have hb := B.bytes
  have hr := B.returns
  have hts := atoms_spec (ws := wsX3_countCommonPlaces) B.pre
  have hown : s.vm.findClass RX3 = some m.cls := findClass_of_methodNamed B.named
  have hlocks := B.notSynchronized
  have hl := lv_entry ([.ref (a.2 0 p1), .ref (a.2 0 p2)]) (n := 5) (Nat.le_of_ble_eq_true rfl)
  rw [lg_entry_eq]
  generalize (lg_sl ([.ref (a.2 0 p1), .ref (a.2 0 p2)]) ++ List.replicate (5 - (lg_sl ([.ref (a.2 0 p1), .ref (a.2 0 p2)])).length) Slot.unset).toArray = ls at hl ⊢
  have hl : lv_has ls 5 [(0, .ref (a.2 0 p1)), (1, .ref (a.2 0 p2))] := hl
  refine lv_iconst (v := 0) hx hb dX3_countCommonPlaces_0 (by decide) ?_
  refine lv_istore_n (lv' := [(2, .int 0), (0, .ref (a.2 0 p1)), (1, .ref (a.2 0 p2))]) hx hb dX3_countCommonPlaces_1 rfl hl (by decide) rfl (fun ls hl => ?_)
  refine lv_iconst (v := 0) hx hb dX3_countCommonPlaces_2 (by decide) ?_
  refine lv_istore_n (lv' := [(3, .int 0), (2, .int 0), (0, .ref (a.2 0 p1)), (1, .ref (a.2 0 p2))]) hx hb dX3_countCommonPlaces_3 rfl hl (by decide) rfl (fun ls hl => ?_)
  exact k_X3_countCommonPlaces_4 hx hb hr hts hml hown hlocks hK hP hD _ _ p1 p2 0 0 hp1 hp2 ls h (lv_sub hl [2, 3, 1, 0] rfl)
def f_X3_isMinute (p1 : Int32) : Option (Int32) := ob (f_X3_isFrom 0 p1 1439) (fun u_1 => og (u_1 &&& 1 = u_1) (some u_1))
theorem hd_X3_isMinute : yX3_isMinute.cls ≠ "java/lang/invoke/MethodHandle" ∧ yX3_isMinute.cls ≠ "java/lang/invoke/VarHandle" ∧ (parseMethodDescriptor yX3_isMinute.desc).map (fun d => d.parameters.length) = some 1 := by decide +kernel
set_option maxHeartbeats 4000000 in
set_option maxRecDepth 100000 in
theorem c_X3_isMinute (l : Launch) (p1 : Int32) {res : Int32} (h : f_X3_isMinute p1 = some res) : Met l yX3_isMinute wsX3_isMinute ({ frames := 1, cells := 0, slots := 0, locals := 22 } : Room) (va_Pc [.int p1] zT) (vp_Si (fun r => r = res)) 0 0 (fun _ => False) := by
  refine Met.ofW (cc := cX3_isMinute) (maxL := 1) (ret := (some .boolean)) (by decide) rfl ?_
  intro p e s m args below meth c s₁ B hml hv
  obtain ⟨rfl, -⟩ := hv
  have hx := B.exec
  have hb := B.bytes
  have hr := B.returns
  have hts := atoms_spec (ws := wsX3_isMinute) B.pre
  have hown : s.vm.findClass RX3 = some m.cls := findClass_of_methodNamed B.named
  have hlocks := B.notSynchronized
  have hl := lv_entry ([.int p1]) (n := 1) (Nat.le_of_ble_eq_true rfl)
  rw [lg_entry_eq]
  generalize (lg_sl ([.int p1]) ++ List.replicate (1 - (lg_sl ([.int p1])).length) Slot.unset).toArray = ls at hl ⊢
  have hl : lv_has ls 1 [(0, .int p1)] := hl
  refine lv_iconst (v := 0) hx hb dX3_isMinute_0 (by decide) ?_
  refine lv_iload_n hx hb dX3_isMinute_1 rfl (lv_at hl 0 rfl) ?_
  refine lv_sipush (v := 1439) hx hb dX3_isMinute_2 (by decide) ?_
  obtain ⟨u_1, hg_2, h⟩ := ob_some h
  refine zcSi (W.runS (As := [.int 0, .int p1, .int 1439]) (rest := []) ⟨hx, hb, hml, hown, hts⟩ (c_X3_isFrom l 0 p1 1439 hg_2) (va_cwS 3 hts gX3_isMinute_X3_isFrom rfl rfl rfl hd_X3_isFrom ⟨Nat.le_of_ble_eq_true rfl, Nat.le_of_ble_eq_true rfl⟩) ⟨zT_blind, zT_at⟩ rfl rfl hl.1 rfl (lv_room (Nat.le_of_ble_eq_true rfl)) dX3_isMinute_5 ⟨Nat.le_of_ble_eq_true rfl, Nat.le_of_ble_eq_true rfl⟩) ?_
  obtain ⟨g_3, h⟩ := og_some h
  have h9 := Option.some.inj h
  exact W.zret (v := u_1) hx hb hr (congrArg Value.int g_3) (fun t ht hW => ⟨u_1, rfl, h9, ht⟩) (fun _ hq => absurd hq List.not_mem_nil) dX3_isMinute_8 hlocks
def f_J7_fill_53178_5 (n : Nat → Nat) : XV → Nat → Int32 → Int32 → Int32 → Option (XV)
  | _, 0, _, _, _ => none
  | V, fu + 1, zx1, zx2, zx3 => oi (zx3 ≤ zx2) (some V) (og (¬ (zx2 < 0 ∨ 1440 ≤ (zx2).toNatClampNeg)) (ob (some (xrwp V 1 (zx2).toNatClampNeg zx1)) (fun V_3 => f_J7_fill_53178_5 n V_3 fu zx1 (zx2 + 1) zx3)))
def f_J7_fill_53178 (n : Nat → Nat) (V : XV) (p2 : Int32) : Option (XV) := f_J7_fill_53178_5 n V FU p2 0 1440
theorem hd_J7_fill_53178 : yJ7_fill_53178.cls ≠ "java/lang/invoke/MethodHandle" ∧ yJ7_fill_53178.cls ≠ "java/lang/invoke/VarHandle" ∧ (parseMethodDescriptor yJ7_fill_53178.desc).map (fun d => d.parameters.length) = some 2 := by decide +kernel
set_option maxHeartbeats 4000000 in
set_option maxRecDepth 100000 in
theorem k_J7_fill_53178_5 {p : Program} {l : Launch} {e : Env} {s : State} {m : MethodId} {args : Array Value} {below : List Frame} {meth : Method} {c : Code} {D : va_G} {cy : Nat → ClassId} {a : XA} {n : Nat → Nat} {A : Nat → Prop} (hx : p.tables.exec = Jvm.exec) (hb : c.code = cJ7_fill_53178) (hr : meth.sig.returnType = none) (hts : ∀ w ∈ wsJ7_fill_53178, w.before args s = true) (hml : c.maxLocals = 4) (hown : s.vm.findClass RJ7 = some m.cls) (hlocks : meth.locks = false) (hK : va_K D xcl (xty cy) s) (hA : ∀ q, s.heap.size ≤ q → A q) (res : XV) : ∀ (fu : Nat) (zx1 : Int32) (zx2 : Int32) (zx3 : Int32) (V : XV) (H : Heap) (locs : List Loc)  (ls : Array Slot), f_J7_fill_53178_5 n V fu zx1 zx2 zx3 = some res → va_P D xcl (xW cy a n V) H → va_D A (xW cy a n V) → va_S A s.heap H locs → lv_has ls 4 [(0, .ref (a.1 5)), (1, .int zx1), (2, .int zx2), (3, .int zx3)] → W p l e ({ frames := 0, cells := 0, slots := 0, locals := 0 } : Room) s m args below meth c H locs 0 0 (MQ below (va_Qv (fun (_ : Unit) => True) (fun _ t => va_P D xcl (xW cy a n res) t.heap ∧ va_D A (xW cy a n res)) A) args s 0 0 (A)) (F0 m 5 ls []) := by
  intro fu
  induction fu with
  | zero =>
    intro zx1 zx2 zx3 V H locs  ls h hP hD hS hl
    cases h
  | succ fu ih =>
    intro zx1 zx2 zx3 V H locs  ls h hP hD hS hl
    refine lv_iload_n hx hb dJ7_fill_53178_5 rfl (lv_at hl 2 rfl) ?_
    refine lv_iload_n hx hb dJ7_fill_53178_6 rfl (lv_at hl 3 rfl) ?_
    refine lv_icmp_ge (tgt := 20) hx hb dJ7_fill_53178_7 (by decide) (fun c_1 => ?_) (fun c_1 => ?_)
    · replace h := oi_t c_1 h
      have h9 := Option.some.inj h
      subst h9
      exact W.vret hx hb hr (fun t ht hW => ⟨⟨(), rfl, trivial, ⟨by rw [ht]; exact hP, hD⟩⟩, hS.F ht⟩) hS.2.2 dJ7_fill_53178_20 hlocks
    · replace h := oi_f c_1 h
      refine lv_aload_n hx hb dJ7_fill_53178_10 rfl (lv_at hl 0 rfl) ?_
      refine lv_iload_n hx hb dJ7_fill_53178_11 rfl (lv_at hl 2 rfl) ?_
      refine lv_iload_n hx hb dJ7_fill_53178_12 rfl (lv_at hl 1 rfl) ?_
      obtain ⟨g_2, h⟩ := og_some h
      refine va_iast hx hb hK hP hD hS 5 0 rfl rfl g_2 dJ7_fill_53178_13 (fun H locs hP hD hS => ?_)
      replace hP : va_P D xcl (xW cy a n (xrwp V 1 (zx2).toNatClampNeg zx1)) H := hP
      replace hD : va_D A (xW cy a n (xrwp V 1 (zx2).toNatClampNeg zx1)) := hD
      obtain ⟨V_3, eV_4, h⟩ := ob_some h
      rw [Option.some.inj eV_4] at hP hD
      refine lv_iinc (v := zx2 + 1) (lv' := [(2, .int (zx2 + 1)), (0, .ref (a.1 5)), (1, .int zx1), (3, .int zx3)]) hx hb dJ7_fill_53178_14 hl (k := 2) rfl rfl (by decide) rfl (fun ls hl => ?_)
      refine lv_goto (tgt := 5) hx hb dJ7_fill_53178_17 (by decide) ?_
      exact ih zx1 (zx2 + 1) zx3 _ _ _  ls h hP hD hS (lv_sub hl [1, 2, 0, 3] rfl)
set_option maxHeartbeats 4000000 in
set_option maxRecDepth 100000 in
theorem c_J7_fill_53178 (l : Launch) (D : va_G) (cy : Nat → ClassId) (a : XA) (n : Nat → Nat) (V : XV) (sz : Nat) (p2 : Int32) {res : XV} (h : f_J7_fill_53178 n V p2 = some res) : Met l yJ7_fill_53178 wsJ7_fill_53178 ({ frames := 0, cells := 0, slots := 0, locals := 0 } : Room) (va_Pc [.ref (a.1 5), .int p2] (zJ sz (xI D cy a n V))) (va_Qv (fun (_ : Unit) => True) (fun _ t => va_P D xcl (xW cy a n res) t.heap ∧ va_D (va_A (xW cy a n V) sz) (xW cy a n res)) (va_A (xW cy a n V) sz)) 0 0 (va_A (xW cy a n V) sz) := by
  refine Met.ofW (cc := cJ7_fill_53178) (maxL := 4) (ret := none) (by decide) rfl ?_
  intro p e s m args below meth c s₁ B hml hv
  obtain ⟨rfl, hsz, hP, hK, hD0⟩ := hv
  have hx := B.exec
  have hb := B.bytes
  have hr := B.returns
  have hts := atoms_spec (ws := wsJ7_fill_53178) B.pre
  have hown : s.vm.findClass RJ7 = some m.cls := findClass_of_methodNamed B.named
  have hlocks := B.notSynchronized
  subst hsz
  have hD := hD0.self (sz := s.heap.size)
  generalize hAe : va_A (xW cy a n V) s.heap.size = A at hD ⊢
  have hA : ∀ q : Nat, s.heap.size ≤ q → A q := fun q h => by rw [← hAe]; exact Or.inr h
  have hS : va_S A s.heap s.heap [] := va_S.rf
  have hl := lv_entry ([.ref (a.1 5), .int p2]) (n := 4) (Nat.le_of_ble_eq_true rfl)
  rw [lg_entry_eq]
  generalize (lg_sl ([.ref (a.1 5), .int p2]) ++ List.replicate (4 - (lg_sl ([.ref (a.1 5), .int p2])).length) Slot.unset).toArray = ls at hl ⊢
  have hl : lv_has ls 4 [(0, .ref (a.1 5)), (1, .int p2)] := hl
  revert hP hS
  intro hP hS
  refine lv_iconst (v := 0) hx hb dJ7_fill_53178_0 (by decide) ?_
  refine lv_istore_n (lv' := [(2, .int 0), (0, .ref (a.1 5)), (1, .int p2)]) hx hb dJ7_fill_53178_1 rfl hl (by decide) rfl (fun ls hl => ?_)
  refine lv_aload_n hx hb dJ7_fill_53178_2 rfl (lv_at hl 1 rfl) ?_
  refine va_alen (v := 1440) hx hb hK hP 5 0 rfl rfl rfl dJ7_fill_53178_3 ?_
  refine lv_istore_n (lv' := [(3, .int 1440), (2, .int 0), (0, .ref (a.1 5)), (1, .int p2)]) hx hb dJ7_fill_53178_4 rfl hl (by decide) rfl (fun ls hl => ?_)
  exact k_J7_fill_53178_5 hx hb hr hts hml hown hlocks hK hA _ _ p2 0 1440 _ _ _  ls h hP hD hS (lv_sub hl [2, 3, 1, 0] rfl)
def f_X3_fillDayRow_48 (KK : Int32 → Int32 → XV → Option (XV)) (n : Nat → Nat) : XV → Nat → Int32 → Int32 → Nat → Int32 → Option (XV)
  | _, 0, _, _, _, _ => none
  | V, fu + 1, zx1, zx2, zx3, zx4 => ob (f_X1_end n V zx3) (fun u_10 => oi (u_10 ≤ zx4) (KK zx1 zx2 V) (oi (1440 ≤ zx4) (KK zx1 zx2 V) (og (¬ (zx4 < 0 ∨ 1440 ≤ (zx4).toNatClampNeg)) (ob (some (xrwp V 1 (zx4).toNatClampNeg zx2)) (fun V_15 => f_X3_fillDayRow_48 KK n V_15 fu zx1 zx2 zx3 (zx4 + 1))))))
def f_X3_fillDayRow_10 (n : Nat → Nat) : XV → Nat → Int32 → Int32 → Option (XV)
  | _, 0, _, _ => none
  | V, fu + 1, zx1, zx2 => oi (40 ≤ zx2) (some V) (og (¬ (zx2 < 0 ∨ 40 ≤ (zx2).toNatClampNeg)) (oc (n 1) (xref n 1 zx2) (f_X3_fillDayRow_10 n V fu zx1 (zx2 + 1)) (fun k_5 => ob (f_X1_isOn n V k_5 zx1) (fun u_7 => oi (u_7 = 0) (f_X3_fillDayRow_10 n V fu zx1 (zx2 + 1)) (f_X3_fillDayRow_48 (fun (e_17 : Int32) (e_18 : Int32) (V_19 : XV) => f_X3_fillDayRow_10 n V_19 fu e_17 (e_18 + 1)) n V FU zx1 zx2 k_5 (if 0 < (V.1 1 k_5 10) then (V.1 1 k_5 10) else 0))))))
def f_X3_fillDayRow (n : Nat → Nat) (V : XV) (p1 : Int32) : Option (XV) := ob (f_J7_fill_53178 n V (-1)) (fun u_1 => f_X3_fillDayRow_10 n u_1 FU p1 0)
theorem hd_X3_fillDayRow : yX3_fillDayRow.cls = RX3 ∧ yX3_fillDayRow.cls ≠ "java/lang/invoke/MethodHandle" ∧ yX3_fillDayRow.cls ≠ "java/lang/invoke/VarHandle" ∧ (parseMethodDescriptor yX3_fillDayRow.desc).map (fun d => d.parameters.length) = some 1 := by decide +kernel
set_option maxHeartbeats 4000000 in
set_option maxRecDepth 100000 in
theorem k_X3_fillDayRow_48 {p : Program} {l : Launch} {e : Env} {s : State} {m : MethodId} {args : Array Value} {below : List Frame} {meth : Method} {c : Code} {D : va_G} {cy : Nat → ClassId} {a : XA} {n : Nat → Nat} {A : Nat → Prop} (hx : p.tables.exec = Jvm.exec) (hb : c.code = cX3_fillDayRow) (hr : meth.sig.returnType = none) (hts : ∀ w ∈ wsX3_fillDayRow, w.before args s = true) (hml : c.maxLocals = 5) (hown : s.vm.findClass RX3 = some m.cls) (hlocks : meth.locks = false) (hK : va_K D xcl (xty cy) s) (hA : ∀ q, s.heap.size ≤ q → A q) (res : XV) (zx3 : Nat) (hzx3 : zx3 < n 1) {KK : Int32 → Int32 → XV → Option (XV)} (hKK : ∀ (zy1 : Int32) (zy2 : Int32) (V : XV) (H : Heap) (locs : List Loc) (ls : Array Slot), KK zy1 zy2 V = some res → va_P D xcl (xW cy a n V) H → va_D A (xW cy a n V) → va_S A s.heap H locs → lv_has ls 5 [(0, .ref (a.1 0)), (1, .int zy1), (2, .int zy2)] → W p l e ({ frames := 2, cells := 0, slots := 0, locals := 41 } : Room) s m args below meth c H locs 0 0 (MQ below (va_Qv (fun (_ : Unit) => True) (fun _ t => va_P D xcl (xW cy a n res) t.heap ∧ va_D A (xW cy a n res)) A) args s 0 0 (A)) (F0 m 81 ls [])) : ∀ (fu : Nat) (zx1 : Int32) (zx2 : Int32) (zx4 : Int32) (V : XV) (H : Heap) (locs : List Loc)  (ls : Array Slot), f_X3_fillDayRow_48 KK n V fu zx1 zx2 zx3 zx4 = some res → va_P D xcl (xW cy a n V) H → va_D A (xW cy a n V) → va_S A s.heap H locs → lv_has ls 5 [(0, .ref (a.1 0)), (1, .int zx1), (2, .int zx2), (3, .ref (a.2 1 zx3)), (4, .int zx4)] → W p l e ({ frames := 2, cells := 0, slots := 0, locals := 41 } : Room) s m args below meth c H locs 0 0 (MQ below (va_Qv (fun (_ : Unit) => True) (fun _ t => va_P D xcl (xW cy a n res) t.heap ∧ va_D A (xW cy a n res)) A) args s 0 0 (A)) (F0 m 48 ls []) := by
  have hinX3 : ∀ w ∈ wsX30, w ∈ wsX3_fillDayRow := (fun _ h => (List.mem_cons_of_mem _ (List.mem_append_left _ (List.mem_append_right _ h))))
  intro fu
  induction fu with
  | zero =>
    intro zx1 zx2 zx4 V H locs  ls h hP hD hS hl
    cases h
  | succ fu ih =>
    intro zx1 zx2 zx4 V H locs  ls h hP hD hS hl
    refine lv_iload hx hb dX3_fillDayRow_48 (lv_at hl 4 rfl) ?_
    refine lv_aload_n hx hb dX3_fillDayRow_50 rfl (lv_at hl 3 rfl) ?_
    obtain ⟨u_10, hg_11, h⟩ := ob_some h
    refine zcSi (W.runV (As := []) (rest := [.int zx4]) ⟨hx, hb, hml, hown, hts⟩ (c_X1_end l D cy a n V zx3 hzx3 hg_11) (cwV 0 hts gX3_fillDayRow_X1_end rfl rfl rfl hd_X1_end ⟨Nat.le_of_ble_eq_true rfl, Nat.le_of_ble_eq_true rfl⟩) ⟨xI_blind, va_recv hK hP (ci := 1) rfl (xpos_li hzx3), (xI_at hP hK hD)⟩ rfl rfl hl.1 rfl (lv_room (Nat.le_of_ble_eq_true rfl)) dX3_fillDayRow_51 ⟨Nat.le_of_ble_eq_true rfl, Nat.le_of_ble_eq_true rfl⟩) ?_
    refine lv_icmp_ge (tgt := 81) hx hb dX3_fillDayRow_54 (by decide) (fun c_12 => ?_) (fun c_12 => ?_)
    · replace h := oi_t c_12 h
      exact hKK zx1 zx2 _ _ _ ls h hP hD hS (lv_sub hl [0, 1, 2] rfl)
    · replace h := oi_f c_12 h
      refine lv_iload hx hb dX3_fillDayRow_57 (lv_at hl 4 rfl) ?_
      refine lv_aload_n hx hb dX3_fillDayRow_59 rfl (lv_at hl 0 rfl) ?_
      refine va_get (D := D) (ci := 3) (v := .ref (a.1 5)) (C := RX3) (T := TX3) (N := 10) hx hb hts hinX3 hown hK hP 0 rfl rfl 9 (by decide) (hts _ (List.mem_of_getElem? (i := 1) rfl)) (fun _ h9 => h9) rfl dX3_fillDayRow_60 ?_
      refine va_alen (v := 1440) hx hb hK hP 5 0 rfl rfl rfl dX3_fillDayRow_63 ?_
      refine lv_icmp_ge (tgt := 81) hx hb dX3_fillDayRow_64 (by decide) (fun c_13 => ?_) (fun c_13 => ?_)
      · replace h := oi_t c_13 h
        exact hKK zx1 zx2 _ _ _ ls h hP hD hS (lv_sub hl [0, 1, 2] rfl)
      · replace h := oi_f c_13 h
        refine lv_aload_n hx hb dX3_fillDayRow_67 rfl (lv_at hl 0 rfl) ?_
        refine va_get (D := D) (ci := 3) (v := .ref (a.1 5)) (C := RX3) (T := TX3) (N := 10) hx hb hts hinX3 hown hK hP 0 rfl rfl 9 (by decide) (hts _ (List.mem_of_getElem? (i := 1) rfl)) (fun _ h9 => h9) rfl dX3_fillDayRow_68 ?_
        refine lv_iload hx hb dX3_fillDayRow_71 (lv_at hl 4 rfl) ?_
        refine lv_iload_n hx hb dX3_fillDayRow_73 rfl (lv_at hl 2 rfl) ?_
        obtain ⟨g_14, h⟩ := og_some h
        refine va_iast hx hb hK hP hD hS 5 0 rfl rfl g_14 dX3_fillDayRow_74 (fun H locs hP hD hS => ?_)
        replace hP : va_P D xcl (xW cy a n (xrwp V 1 (zx4).toNatClampNeg zx2)) H := hP
        replace hD : va_D A (xW cy a n (xrwp V 1 (zx4).toNatClampNeg zx2)) := hD
        obtain ⟨V_15, eV_16, h⟩ := ob_some h
        rw [Option.some.inj eV_16] at hP hD
        refine lv_iinc (v := zx4 + 1) (lv' := [(4, .int (zx4 + 1)), (0, .ref (a.1 0)), (1, .int zx1), (2, .int zx2), (3, .ref (a.2 1 zx3))]) hx hb dX3_fillDayRow_75 hl (k := 4) rfl rfl (by decide) rfl (fun ls hl => ?_)
        refine lv_goto (tgt := 48) hx hb dX3_fillDayRow_78 (by decide) ?_
        exact ih zx1 zx2 (zx4 + 1) _ _ _ ls h hP hD hS (lv_sub hl [1, 2, 3, 4, 0] rfl)
set_option maxHeartbeats 4000000 in
set_option maxRecDepth 100000 in
theorem k_X3_fillDayRow_10 {p : Program} {l : Launch} {e : Env} {s : State} {m : MethodId} {args : Array Value} {below : List Frame} {meth : Method} {c : Code} {D : va_G} {cy : Nat → ClassId} {a : XA} {n : Nat → Nat} {A : Nat → Prop} (hx : p.tables.exec = Jvm.exec) (hb : c.code = cX3_fillDayRow) (hr : meth.sig.returnType = none) (hts : ∀ w ∈ wsX3_fillDayRow, w.before args s = true) (hml : c.maxLocals = 5) (hown : s.vm.findClass RX3 = some m.cls) (hlocks : meth.locks = false) (hK : va_K D xcl (xty cy) s) (hA : ∀ q, s.heap.size ≤ q → A q) (res : XV) : ∀ (fu : Nat) (zx1 : Int32) (zx2 : Int32) (V : XV) (H : Heap) (locs : List Loc)  (ls : Array Slot), f_X3_fillDayRow_10 n V fu zx1 zx2 = some res → va_P D xcl (xW cy a n V) H → va_D A (xW cy a n V) → va_S A s.heap H locs → lv_has ls 5 [(0, .ref (a.1 0)), (1, .int zx1), (2, .int zx2)] → W p l e ({ frames := 2, cells := 0, slots := 0, locals := 41 } : Room) s m args below meth c H locs 0 0 (MQ below (va_Qv (fun (_ : Unit) => True) (fun _ t => va_P D xcl (xW cy a n res) t.heap ∧ va_D A (xW cy a n res)) A) args s 0 0 (A)) (F0 m 10 ls []) := by
  have hinX1 : ∀ w ∈ wsX10, w ∈ wsX3_fillDayRow := (fun _ h => (List.mem_cons_of_mem _ (List.mem_append_right _ h)))
  have hinX3 : ∀ w ∈ wsX30, w ∈ wsX3_fillDayRow := (fun _ h => (List.mem_cons_of_mem _ (List.mem_append_left _ (List.mem_append_right _ h))))
  intro fu
  induction fu with
  | zero =>
    intro zx1 zx2 V H locs  ls h hP hD hS hl
    cases h
  | succ fu ih =>
    intro zx1 zx2 V H locs  ls h hP hD hS hl
    refine lv_iload_n hx hb dX3_fillDayRow_10 rfl (lv_at hl 2 rfl) ?_
    refine lv_aload_n hx hb dX3_fillDayRow_11 rfl (lv_at hl 0 rfl) ?_
    refine va_get (D := D) (ci := 3) (v := .ref (a.1 2)) (C := RX3) (T := TX3) (N := 10) hx hb hts hinX3 hown hK hP 0 rfl rfl 1 (by decide) (hts _ (List.mem_of_getElem? (i := 2) rfl)) (fun _ h9 => h9) rfl dX3_fillDayRow_12 ?_
    refine va_alen (v := 40) hx hb hK hP 2 5 rfl rfl rfl dX3_fillDayRow_15 ?_
    refine lv_icmp_ge (tgt := 87) hx hb dX3_fillDayRow_16 (by decide) (fun c_3 => ?_) (fun c_3 => ?_)
    · replace h := oi_t c_3 h
      have h9 := Option.some.inj h
      subst h9
      exact W.vret hx hb hr (fun t ht hW => ⟨⟨(), rfl, trivial, ⟨by rw [ht]; exact hP, hD⟩⟩, hS.F ht⟩) hS.2.2 dX3_fillDayRow_87 hlocks
    · replace h := oi_f c_3 h
      refine lv_aload_n hx hb dX3_fillDayRow_19 rfl (lv_at hl 0 rfl) ?_
      refine va_get (D := D) (ci := 3) (v := .ref (a.1 2)) (C := RX3) (T := TX3) (N := 10) hx hb hts hinX3 hown hK hP 0 rfl rfl 1 (by decide) (hts _ (List.mem_of_getElem? (i := 2) rfl)) (fun _ h9 => h9) rfl dX3_fillDayRow_20 ?_
      refine lv_iload_n hx hb dX3_fillDayRow_23 rfl (lv_at hl 2 rfl) ?_
      obtain ⟨g_4, h⟩ := og_some h
      rcases oc_some h with ⟨o_6, h⟩ | ⟨k_5, hk_5, o_6, h⟩
      · refine zaldn hx hb hK hP 2 5 rfl rfl g_4 o_6 dX3_fillDayRow_24 ?_
        refine lv_astore_nN (lv' := [(3, .null), (0, .ref (a.1 0)), (1, .int zx1), (2, .int zx2)]) hx hb dX3_fillDayRow_25 rfl hl (by decide) rfl (fun ls hl => ?_)
        refine lv_aload_nN hx hb dX3_fillDayRow_26 rfl (lv_at hl 0 rfl) ?_
        refine lv_ifnullN (tgt := 81) hx hb dX3_fillDayRow_27 (by decide) ?_
        refine lv_iinc (v := zx2 + 1) (lv' := [(2, .int (zx2 + 1)), (3, .null), (0, .ref (a.1 0)), (1, .int zx1)]) hx hb dX3_fillDayRow_81 hl (k := 3) rfl rfl (by decide) rfl (fun ls hl => ?_)
        refine lv_goto (tgt := 10) hx hb dX3_fillDayRow_84 (by decide) ?_
        exact ih zx1 (zx2 + 1) _ _ _  ls h hP hD hS (lv_sub hl [2, 3, 0] rfl)
      · refine zalds hx hb hK hP 2 5 rfl rfl g_4 o_6 dX3_fillDayRow_24 ?_
        refine lv_astore_n (lv' := [(3, .ref (a.2 1 k_5)), (0, .ref (a.1 0)), (1, .int zx1), (2, .int zx2)]) hx hb dX3_fillDayRow_25 rfl hl (by decide) rfl (fun ls hl => ?_)
        refine lv_aload_n hx hb dX3_fillDayRow_26 rfl (lv_at hl 0 rfl) ?_
        refine lv_ifnull hx hb dX3_fillDayRow_27 ?_
        refine lv_aload_n hx hb dX3_fillDayRow_30 rfl (lv_at hl 0 rfl) ?_
        refine lv_iload_n hx hb dX3_fillDayRow_31 rfl (lv_at hl 2 rfl) ?_
        obtain ⟨u_7, hg_8, h⟩ := ob_some h
        refine zcSi (W.runV (As := [.int zx1]) (rest := []) ⟨hx, hb, hml, hown, hts⟩ (c_X1_isOn l D cy a n V k_5 zx1 hk_5 hg_8) (cwV 1 hts gX3_fillDayRow_X1_isOn rfl rfl rfl hd_X1_isOn ⟨Nat.le_of_ble_eq_true rfl, Nat.le_of_ble_eq_true rfl⟩) ⟨xI_blind, va_recv hK hP (ci := 1) rfl (xpos_li hk_5), (xI_at hP hK hD)⟩ rfl rfl hl.1 rfl (lv_room (Nat.le_of_ble_eq_true rfl)) dX3_fillDayRow_32 ⟨Nat.le_of_ble_eq_true rfl, Nat.le_of_ble_eq_true rfl⟩) ?_
        refine lv_if_eq (tgt := 81) hx hb dX3_fillDayRow_35 (by decide) (fun c_9 => ?_) (fun c_9 => ?_)
        · replace h := oi_t c_9 h
          refine lv_iinc (v := zx2 + 1) (lv' := [(2, .int (zx2 + 1)), (3, .ref (a.2 1 k_5)), (0, .ref (a.1 0)), (1, .int zx1)]) hx hb dX3_fillDayRow_81 hl (k := 3) rfl rfl (by decide) rfl (fun ls hl => ?_)
          refine lv_goto (tgt := 10) hx hb dX3_fillDayRow_84 (by decide) ?_
          exact ih zx1 (zx2 + 1) _ _ _  ls h hP hD hS (lv_sub hl [2, 3, 0] rfl)
        · replace h := oi_f c_9 h
          refine lv_iconst (v := 0) hx hb dX3_fillDayRow_38 (by decide) ?_
          refine lv_aload_n hx hb dX3_fillDayRow_39 rfl (lv_at hl 0 rfl) ?_
          refine va_get (D := D) (ci := 1) (v := .int (V.1 1 k_5 10)) (C := RX1) (T := TX1) (N := 11) hx hb hts hinX1 hown hK hP _ (xpos_li hk_5) rfl 10 (by decide) (hts _ (List.mem_of_getElem? (i := 3) rfl)) (fun _ h9 => h9) rfl dX3_fillDayRow_40 ?_
          refine va_mmax hx hb (hml.trans hl.1.symm) hown (hts _ (List.mem_of_getElem? (i := 4) rfl)) (hts _ (List.mem_of_getElem? (i := 5) rfl)) (hts _ (List.mem_of_getElem? (i := 6) rfl)) (hts _ (List.mem_of_getElem? (i := 7) rfl)) (Nat.le_of_ble_eq_true rfl) (Nat.le_of_ble_eq_true rfl) (Nat.le_of_ble_eq_true rfl) (Nat.le_of_ble_eq_true rfl) dX3_fillDayRow_43 ?_
          refine lv_istore (lv' := [(4, .int (if 0 < (V.1 1 k_5 10) then (V.1 1 k_5 10) else 0)), (3, .ref (a.2 1 k_5)), (0, .ref (a.1 0)), (1, .int zx1), (2, .int zx2)]) hx hb dX3_fillDayRow_46 hl (by decide) rfl (fun ls hl => ?_)
          refine k_X3_fillDayRow_48 hx hb hr hts hml hown hlocks hK hA _ k_5 hk_5 (fun e_17 e_18 V_19 H locs ls h hP hD hS hl => ?_) _ zx1 zx2 (if 0 < (V.1 1 k_5 10) then (V.1 1 k_5 10) else 0) _ _ _ ls h hP hD hS (lv_sub hl [2, 3, 4, 1, 0] rfl)
          refine lv_iinc (v := e_18 + 1) (lv' := [(2, .int (e_18 + 1)), (0, .ref (a.1 0)), (1, .int e_17)]) hx hb dX3_fillDayRow_81 hl (k := 2) rfl rfl (by decide) rfl (fun ls hl => ?_)
          refine lv_goto (tgt := 10) hx hb dX3_fillDayRow_84 (by decide) ?_
          exact ih e_17 (e_18 + 1) _ _ _  ls h hP hD hS (lv_sub hl [1, 2, 0] rfl)
set_option maxHeartbeats 4000000 in
set_option maxRecDepth 100000 in
theorem c_X3_fillDayRow (l : Launch) (D : va_G) (cy : Nat → ClassId) (a : XA) (n : Nat → Nat) (V : XV) (sz : Nat) (p1 : Int32) {res : XV} (h : f_X3_fillDayRow n V p1 = some res) : Met l yX3_fillDayRow wsX3_fillDayRow ({ frames := 2, cells := 0, slots := 0, locals := 41 } : Room) (va_Pc [.ref (a.1 0), .int p1] (zJ sz (xI D cy a n V))) (va_Qv (fun (_ : Unit) => True) (fun _ t => va_P D xcl (xW cy a n res) t.heap ∧ va_D (va_A (xW cy a n V) sz) (xW cy a n res)) (va_A (xW cy a n V) sz)) 0 0 (va_A (xW cy a n V) sz) := by
  refine Met.ofW (cc := cX3_fillDayRow) (maxL := 5) (ret := none) (by decide) rfl ?_
  intro p e s m args below meth c s₁ B hml hv
  obtain ⟨rfl, hsz, hP, hK, hD0⟩ := hv
  have hx := B.exec
  have hb := B.bytes
  have hr := B.returns
  have hts := atoms_spec (ws := wsX3_fillDayRow) B.pre
  have hown : s.vm.findClass RX3 = some m.cls := findClass_of_methodNamed B.named
  have hlocks := B.notSynchronized
  subst hsz
  have hD := hD0.self (sz := s.heap.size)
  generalize hAe : va_A (xW cy a n V) s.heap.size = A at hD ⊢
  have hA : ∀ q : Nat, s.heap.size ≤ q → A q := fun q h => by rw [← hAe]; exact Or.inr h
  have hS : va_S A s.heap s.heap [] := va_S.rf
  have hl := lv_entry ([.ref (a.1 0), .int p1]) (n := 5) (Nat.le_of_ble_eq_true rfl)
  rw [lg_entry_eq]
  generalize (lg_sl ([.ref (a.1 0), .int p1]) ++ List.replicate (5 - (lg_sl ([.ref (a.1 0), .int p1])).length) Slot.unset).toArray = ls at hl ⊢
  have hl : lv_has ls 5 [(0, .ref (a.1 0)), (1, .int p1)] := hl
  have hinX3 : ∀ w ∈ wsX30, w ∈ wsX3_fillDayRow := (fun _ h => (List.mem_cons_of_mem _ (List.mem_append_left _ (List.mem_append_right _ h))))
  revert hP hS
  intro hP hS
  refine lv_aload_n hx hb dX3_fillDayRow_0 rfl (lv_at hl 0 rfl) ?_
  refine va_get (D := D) (ci := 3) (v := .ref (a.1 5)) (C := RX3) (T := TX3) (N := 10) hx hb hts hinX3 hown hK hP 0 rfl rfl 9 (by decide) (hts _ (List.mem_of_getElem? (i := 1) rfl)) (fun _ h9 => h9) rfl dX3_fillDayRow_1 ?_
  refine lv_iconst (v := (-1)) hx hb dX3_fillDayRow_4 (by decide) ?_
  obtain ⟨u_1, hg_2, h⟩ := ob_some h
  refine zcWv (va_runS (As := [.ref (a.1 5), .int ((-1))]) (rest := []) ⟨hx, hb, hml, hown, hts⟩ (c_J7_fill_53178 l D cy a n V _ (-1) hg_2) (va_cwS 2 hts gX3_fillDayRow_J7_fill_53178 rfl rfl rfl hd_J7_fill_53178 ⟨Nat.le_of_ble_eq_true rfl, Nat.le_of_ble_eq_true rfl⟩) ⟨(zJ_blind xI_blind), (zJ_at (xI_at hP hK hD))⟩ rfl rfl hl.1 rfl (lv_room (Nat.le_of_ble_eq_true rfl)) dX3_fillDayRow_5 ⟨Nat.le_of_ble_eq_true rfl, Nat.le_of_ble_eq_true rfl⟩) hS (z_free hD hS hA) (fun H locs hP hD hS => ?_)
  refine lv_iconst (v := 0) hx hb dX3_fillDayRow_8 (by decide) ?_
  refine lv_istore_n (lv' := [(2, .int 0), (0, .ref (a.1 0)), (1, .int p1)]) hx hb dX3_fillDayRow_9 rfl hl (by decide) rfl (fun ls hl => ?_)
  exact k_X3_fillDayRow_10 hx hb hr hts hml hown hlocks hK hA _ _ p1 0 _ _ _  ls h hP hD hS (lv_sub hl [1, 2, 0] rfl)
def f_X3_countAllowedWork_51 (KK : Int32 → Int32 → Int32 → Int32 → Option (Int32)) (n : Nat → Nat) : XV → Nat → Int32 → Nat → Int32 → Int32 → Int32 → Nat → Int32 → Option (Int32)
  | _, 0, _, _, _, _, _, _, _ => none
  | V, fu + 1, zx1, zx2, zx3, zx5, zx6, zx7, zx8 => ob (f_X1_end n V zx7) (fun u_8 => oi (u_8 ≤ zx8) (KK zx1 zx3 zx5 zx6) (ob (f_X0_hasHour n V zx2 (zx8 / 60)) (fun u_11 => oi (u_11 = 0) (f_X3_countAllowedWork_51 KK n V fu zx1 zx2 zx3 zx5 zx6 zx7 (zx8 + 1)) (f_X3_countAllowedWork_51 KK n V fu zx1 zx2 (zx3 + 1) zx5 zx6 zx7 (zx8 + 1)))))
def f_X3_countAllowedWork_16 (n : Nat → Nat) : XV → Nat → Int32 → Nat → Int32 → Int32 → Int32 → Option (Int32)
  | _, 0, _, _, _, _, _ => none
  | V, fu + 1, zx1, zx2, zx3, zx5, zx6 => oi (zx5 ≤ zx6) (some zx3) (og (¬ (zx6 < 0 ∨ 40 ≤ (zx6).toNatClampNeg)) (oc (n 1) (xref n 1 zx6) (f_X3_countAllowedWork_16 n V fu zx1 zx2 zx3 zx5 (zx6 + 1)) (fun k_3 => ob (f_X1_isOn n V k_3 zx1) (fun u_5 => oi (u_5 = 0) (f_X3_countAllowedWork_16 n V fu zx1 zx2 zx3 zx5 (zx6 + 1)) (f_X3_countAllowedWork_51 (fun (e_14 : Int32) (e_15 : Int32) (e_16 : Int32) (e_17 : Int32) => f_X3_countAllowedWork_16 n V fu e_14 zx2 e_15 e_16 (e_17 + 1)) n V FU zx1 zx2 zx3 zx5 zx6 k_3 (V.1 1 k_3 10))))))
def f_X3_countAllowedWork (n : Nat → Nat) (V : XV) (p1 : Int32) (p2 : Nat) : Option (Int32) := f_X3_countAllowedWork_16 n V FU p1 p2 0 40 0
theorem hd_X3_countAllowedWork : yX3_countAllowedWork.cls = RX3 ∧ yX3_countAllowedWork.cls ≠ "java/lang/invoke/MethodHandle" ∧ yX3_countAllowedWork.cls ≠ "java/lang/invoke/VarHandle" ∧ (parseMethodDescriptor yX3_countAllowedWork.desc).map (fun d => d.parameters.length) = some 2 := by decide +kernel
set_option maxHeartbeats 4000000 in
set_option maxRecDepth 100000 in
theorem k_X3_countAllowedWork_51 {p : Program} {l : Launch} {e : Env} {s : State} {m : MethodId} {args : Array Value} {below : List Frame} {meth : Method} {c : Code} {D : va_G} {cy : Nat → ClassId} {a : XA} {n : Nat → Nat} {V : XV} (hx : p.tables.exec = Jvm.exec) (hb : c.code = cX3_countAllowedWork) (hr : meth.sig.returnType = (some .int)) (hts : ∀ w ∈ wsX3_countAllowedWork, w.before args s = true) (hml : c.maxLocals = 9) (hown : s.vm.findClass RX3 = some m.cls) (hlocks : meth.locks = false) (hK : va_K D xcl (xty cy) s) (hP : va_P D xcl (xW cy a n V) s.heap) (hD : va_D (fun _ => True) (xW cy a n V)) (res : Int32) (zx2 : Nat) (zx7 : Nat) (hzx2 : zx2 < n 0) (hzx7 : zx7 < n 1) {KK : Int32 → Int32 → Int32 → Int32 → Option (Int32)} (hKK : ∀ (zy1 : Int32) (zy3 : Int32) (zy5 : Int32) (zy6 : Int32) (ls : Array Slot), KK zy1 zy3 zy5 zy6 = some res → lv_has ls 9 [(1, .int zy1), (2, .ref (a.2 0 zx2)), (3, .int zy3), (4, .ref (a.1 2)), (5, .int zy5), (6, .int zy6)] → W p l e ({ frames := 2, cells := 0, slots := 0, locals := 41 } : Room) s m args below meth c s.heap [] 0 0 (MQ below (vp_Si (fun r => r = res)) args s 0 0 (fun _ => False)) (F0 m 82 ls [])) : ∀ (fu : Nat) (zx1 : Int32) (zx3 : Int32) (zx5 : Int32) (zx6 : Int32) (zx8 : Int32)  (ls : Array Slot), f_X3_countAllowedWork_51 KK n V fu zx1 zx2 zx3 zx5 zx6 zx7 zx8 = some res → lv_has ls 9 [(1, .int zx1), (2, .ref (a.2 0 zx2)), (3, .int zx3), (4, .ref (a.1 2)), (5, .int zx5), (6, .int zx6), (7, .ref (a.2 1 zx7)), (8, .int zx8)] → W p l e ({ frames := 2, cells := 0, slots := 0, locals := 41 } : Room) s m args below meth c s.heap [] 0 0 (MQ below (vp_Si (fun r => r = res)) args s 0 0 (fun _ => False)) (F0 m 51 ls []) := by
  intro fu
  induction fu with
  | zero =>
    intro zx1 zx3 zx5 zx6 zx8  ls h hl
    cases h
  | succ fu ih =>
    intro zx1 zx3 zx5 zx6 zx8  ls h hl
    refine lv_iload hx hb dX3_countAllowedWork_51 (lv_at hl 7 rfl) ?_
    refine lv_aload hx hb dX3_countAllowedWork_53 (lv_at hl 6 rfl) ?_
    obtain ⟨u_8, hg_9, h⟩ := ob_some h
    refine zcSi (W.runV (As := []) (rest := [.int zx8]) ⟨hx, hb, hml, hown, hts⟩ (c_X1_end l D cy a n V zx7 hzx7 hg_9) (cwV 0 hts gX3_countAllowedWork_X1_end rfl rfl rfl hd_X1_end ⟨Nat.le_of_ble_eq_true rfl, Nat.le_of_ble_eq_true rfl⟩) ⟨xI_blind, va_recv hK hP (ci := 1) rfl (xpos_li hzx7), (xI_at hP hK hD)⟩ rfl rfl hl.1 rfl (lv_room (Nat.le_of_ble_eq_true rfl)) dX3_countAllowedWork_55 ⟨Nat.le_of_ble_eq_true rfl, Nat.le_of_ble_eq_true rfl⟩) ?_
    refine lv_icmp_ge (tgt := 82) hx hb dX3_countAllowedWork_58 (by decide) (fun c_10 => ?_) (fun c_10 => ?_)
    · replace h := oi_t c_10 h
      exact hKK zx1 zx3 zx5 zx6 ls h (lv_sub hl [0, 1, 2, 3, 4, 5] rfl)
    · replace h := oi_f c_10 h
      refine lv_aload_n hx hb dX3_countAllowedWork_61 rfl (lv_at hl 1 rfl) ?_
      refine lv_iload hx hb dX3_countAllowedWork_62 (lv_at hl 7 rfl) ?_
      refine lv_bipush (v := 60) hx hb dX3_countAllowedWork_64 (by decide) ?_
      refine lv_idiv hx hb dX3_countAllowedWork_66 (by decide) ?_
      obtain ⟨u_11, hg_12, h⟩ := ob_some h
      refine zcSi (W.runV (As := [.int (zx8 / 60)]) (rest := []) ⟨hx, hb, hml, hown, hts⟩ (c_X0_hasHour l D cy a n V zx2 (zx8 / 60) hzx2 hg_12) (cwV 1 hts gX3_countAllowedWork_X0_hasHour rfl rfl rfl hd_X0_hasHour ⟨Nat.le_of_ble_eq_true rfl, Nat.le_of_ble_eq_true rfl⟩) ⟨xI_blind, va_recv hK hP (ci := 0) rfl (xpos_cr hzx2), (xI_at hP hK hD)⟩ rfl rfl hl.1 rfl (lv_room (Nat.le_of_ble_eq_true rfl)) dX3_countAllowedWork_67 ⟨Nat.le_of_ble_eq_true rfl, Nat.le_of_ble_eq_true rfl⟩) ?_
      refine lv_if_eq (tgt := 76) hx hb dX3_countAllowedWork_70 (by decide) (fun c_13 => ?_) (fun c_13 => ?_)
      · replace h := oi_t c_13 h
        refine lv_iinc (v := zx8 + 1) (lv' := [(8, .int (zx8 + 1)), (1, .int zx1), (2, .ref (a.2 0 zx2)), (3, .int zx3), (4, .ref (a.1 2)), (5, .int zx5), (6, .int zx6), (7, .ref (a.2 1 zx7))]) hx hb dX3_countAllowedWork_76 hl (k := 7) rfl rfl (by decide) rfl (fun ls hl => ?_)
        refine lv_goto (tgt := 51) hx hb dX3_countAllowedWork_79 (by decide) ?_
        exact ih zx1 zx3 zx5 zx6 (zx8 + 1) ls h (lv_sub hl [1, 2, 3, 4, 5, 6, 7, 0] rfl)
      · replace h := oi_f c_13 h
        refine lv_iinc (v := zx3 + 1) (lv' := [(3, .int (zx3 + 1)), (1, .int zx1), (2, .ref (a.2 0 zx2)), (4, .ref (a.1 2)), (5, .int zx5), (6, .int zx6), (7, .ref (a.2 1 zx7)), (8, .int zx8)]) hx hb dX3_countAllowedWork_73 hl (k := 2) rfl rfl (by decide) rfl (fun ls hl => ?_)
        refine lv_iinc (v := zx8 + 1) (lv' := [(8, .int (zx8 + 1)), (3, .int (zx3 + 1)), (1, .int zx1), (2, .ref (a.2 0 zx2)), (4, .ref (a.1 2)), (5, .int zx5), (6, .int zx6), (7, .ref (a.2 1 zx7))]) hx hb dX3_countAllowedWork_76 hl (k := 7) rfl rfl (by decide) rfl (fun ls hl => ?_)
        refine lv_goto (tgt := 51) hx hb dX3_countAllowedWork_79 (by decide) ?_
        exact ih zx1 (zx3 + 1) zx5 zx6 (zx8 + 1) ls h (lv_sub hl [2, 3, 1, 4, 5, 6, 7, 0] rfl)
set_option maxHeartbeats 4000000 in
set_option maxRecDepth 100000 in
theorem k_X3_countAllowedWork_16 {p : Program} {l : Launch} {e : Env} {s : State} {m : MethodId} {args : Array Value} {below : List Frame} {meth : Method} {c : Code} {D : va_G} {cy : Nat → ClassId} {a : XA} {n : Nat → Nat} {V : XV} (hx : p.tables.exec = Jvm.exec) (hb : c.code = cX3_countAllowedWork) (hr : meth.sig.returnType = (some .int)) (hts : ∀ w ∈ wsX3_countAllowedWork, w.before args s = true) (hml : c.maxLocals = 9) (hown : s.vm.findClass RX3 = some m.cls) (hlocks : meth.locks = false) (hK : va_K D xcl (xty cy) s) (hP : va_P D xcl (xW cy a n V) s.heap) (hD : va_D (fun _ => True) (xW cy a n V)) (res : Int32) : ∀ (fu : Nat) (zx1 : Int32) (zx2 : Nat) (zx3 : Int32) (zx5 : Int32) (zx6 : Int32) (hzx2 : zx2 < n 0) (ls : Array Slot), f_X3_countAllowedWork_16 n V fu zx1 zx2 zx3 zx5 zx6 = some res → lv_has ls 9 [(1, .int zx1), (2, .ref (a.2 0 zx2)), (3, .int zx3), (4, .ref (a.1 2)), (5, .int zx5), (6, .int zx6)] → W p l e ({ frames := 2, cells := 0, slots := 0, locals := 41 } : Room) s m args below meth c s.heap [] 0 0 (MQ below (vp_Si (fun r => r = res)) args s 0 0 (fun _ => False)) (F0 m 16 ls []) := by
  have hinX1 : ∀ w ∈ wsX10, w ∈ wsX3_countAllowedWork := (fun _ h => (List.mem_cons_of_mem _ (List.mem_append_left _ (List.mem_append_right _ h))))
  intro fu
  induction fu with
  | zero =>
    intro zx1 zx2 zx3 zx5 zx6 hzx2 ls h hl
    cases h
  | succ fu ih =>
    intro zx1 zx2 zx3 zx5 zx6 hzx2 ls h hl
    refine lv_iload hx hb dX3_countAllowedWork_16 (lv_at hl 5 rfl) ?_
    refine lv_iload hx hb dX3_countAllowedWork_18 (lv_at hl 4 rfl) ?_
    refine lv_icmp_ge (tgt := 88) hx hb dX3_countAllowedWork_20 (by decide) (fun c_1 => ?_) (fun c_1 => ?_)
    · replace h := oi_t c_1 h
      refine lv_iload_n hx hb dX3_countAllowedWork_88 rfl (lv_at hl 2 rfl) ?_
      have h9 := Option.some.inj h
      exact W.iret (v := zx3) hx hb hr (fun t ht hW => ⟨zx3, rfl, h9, ht⟩) (fun _ hq => absurd hq List.not_mem_nil) dX3_countAllowedWork_89 hlocks
    · replace h := oi_f c_1 h
      refine lv_aload hx hb dX3_countAllowedWork_23 (lv_at hl 3 rfl) ?_
      refine lv_iload hx hb dX3_countAllowedWork_25 (lv_at hl 5 rfl) ?_
      obtain ⟨g_2, h⟩ := og_some h
      rcases oc_some h with ⟨o_4, h⟩ | ⟨k_3, hk_3, o_4, h⟩
      · refine zaldn hx hb hK hP 2 5 rfl rfl g_2 o_4 dX3_countAllowedWork_27 ?_
        refine lv_astoreN (lv' := [(7, .null), (1, .int zx1), (2, .ref (a.2 0 zx2)), (3, .int zx3), (4, .ref (a.1 2)), (5, .int zx5), (6, .int zx6)]) hx hb dX3_countAllowedWork_28 hl (by decide) rfl (fun ls hl => ?_)
        refine lv_aloadN hx hb dX3_countAllowedWork_30 (lv_at hl 0 rfl) ?_
        refine lv_ifnullN (tgt := 82) hx hb dX3_countAllowedWork_32 (by decide) ?_
        refine lv_iinc (v := zx6 + 1) (lv' := [(6, .int (zx6 + 1)), (7, .null), (1, .int zx1), (2, .ref (a.2 0 zx2)), (3, .int zx3), (4, .ref (a.1 2)), (5, .int zx5)]) hx hb dX3_countAllowedWork_82 hl (k := 6) rfl rfl (by decide) rfl (fun ls hl => ?_)
        refine lv_goto (tgt := 16) hx hb dX3_countAllowedWork_85 (by decide) ?_
        exact ih zx1 zx2 zx3 zx5 (zx6 + 1) hzx2 ls h (lv_sub hl [2, 3, 4, 5, 6, 0] rfl)
      · refine zalds hx hb hK hP 2 5 rfl rfl g_2 o_4 dX3_countAllowedWork_27 ?_
        refine lv_astore (lv' := [(7, .ref (a.2 1 k_3)), (1, .int zx1), (2, .ref (a.2 0 zx2)), (3, .int zx3), (4, .ref (a.1 2)), (5, .int zx5), (6, .int zx6)]) hx hb dX3_countAllowedWork_28 hl (by decide) rfl (fun ls hl => ?_)
        refine lv_aload hx hb dX3_countAllowedWork_30 (lv_at hl 0 rfl) ?_
        refine lv_ifnull hx hb dX3_countAllowedWork_32 ?_
        refine lv_aload hx hb dX3_countAllowedWork_35 (lv_at hl 0 rfl) ?_
        refine lv_iload_n hx hb dX3_countAllowedWork_37 rfl (lv_at hl 1 rfl) ?_
        obtain ⟨u_5, hg_6, h⟩ := ob_some h
        refine zcSi (W.runV (As := [.int zx1]) (rest := []) ⟨hx, hb, hml, hown, hts⟩ (c_X1_isOn l D cy a n V k_3 zx1 hk_3 hg_6) (cwV 1 hts gX3_countAllowedWork_X1_isOn rfl rfl rfl hd_X1_isOn ⟨Nat.le_of_ble_eq_true rfl, Nat.le_of_ble_eq_true rfl⟩) ⟨xI_blind, va_recv hK hP (ci := 1) rfl (xpos_li hk_3), (xI_at hP hK hD)⟩ rfl rfl hl.1 rfl (lv_room (Nat.le_of_ble_eq_true rfl)) dX3_countAllowedWork_38 ⟨Nat.le_of_ble_eq_true rfl, Nat.le_of_ble_eq_true rfl⟩) ?_
        refine lv_if_eq (tgt := 82) hx hb dX3_countAllowedWork_41 (by decide) (fun c_7 => ?_) (fun c_7 => ?_)
        · replace h := oi_t c_7 h
          refine lv_iinc (v := zx6 + 1) (lv' := [(6, .int (zx6 + 1)), (7, .ref (a.2 1 k_3)), (1, .int zx1), (2, .ref (a.2 0 zx2)), (3, .int zx3), (4, .ref (a.1 2)), (5, .int zx5)]) hx hb dX3_countAllowedWork_82 hl (k := 6) rfl rfl (by decide) rfl (fun ls hl => ?_)
          refine lv_goto (tgt := 16) hx hb dX3_countAllowedWork_85 (by decide) ?_
          exact ih zx1 zx2 zx3 zx5 (zx6 + 1) hzx2 ls h (lv_sub hl [2, 3, 4, 5, 6, 0] rfl)
        · replace h := oi_f c_7 h
          refine lv_aload hx hb dX3_countAllowedWork_44 (lv_at hl 0 rfl) ?_
          refine va_get (D := D) (ci := 1) (v := .int (V.1 1 k_3 10)) (C := RX1) (T := TX1) (N := 11) hx hb hts hinX1 hown hK hP _ (xpos_li hk_3) rfl 10 (by decide) (hts _ (List.mem_of_getElem? (i := 2) rfl)) (fun _ h9 => h9) rfl dX3_countAllowedWork_46 ?_
          refine lv_istore (lv' := [(8, .int (V.1 1 k_3 10)), (7, .ref (a.2 1 k_3)), (1, .int zx1), (2, .ref (a.2 0 zx2)), (3, .int zx3), (4, .ref (a.1 2)), (5, .int zx5), (6, .int zx6)]) hx hb dX3_countAllowedWork_49 hl (by decide) rfl (fun ls hl => ?_)
          refine k_X3_countAllowedWork_51 hx hb hr hts hml hown hlocks hK hP hD _ zx2 k_3 hzx2 hk_3 (fun e_14 e_15 e_16 e_17 ls h hl => ?_) _ zx1 zx3 zx5 zx6 (V.1 1 k_3 10) ls h (lv_sub hl [2, 3, 4, 5, 6, 7, 1, 0] rfl)
          refine lv_iinc (v := e_17 + 1) (lv' := [(6, .int (e_17 + 1)), (1, .int e_14), (2, .ref (a.2 0 zx2)), (3, .int e_15), (4, .ref (a.1 2)), (5, .int e_16)]) hx hb dX3_countAllowedWork_82 hl (k := 5) rfl rfl (by decide) rfl (fun ls hl => ?_)
          refine lv_goto (tgt := 16) hx hb dX3_countAllowedWork_85 (by decide) ?_
          exact ih e_14 zx2 e_15 e_16 (e_17 + 1) hzx2 ls h (lv_sub hl [1, 2, 3, 4, 5, 0] rfl)
set_option maxHeartbeats 4000000 in
set_option maxRecDepth 100000 in
theorem c_X3_countAllowedWork (l : Launch) (D : va_G) (cy : Nat → ClassId) (a : XA) (n : Nat → Nat) (V : XV) (p1 : Int32) (p2 : Nat) (hp2 : p2 < n 0) {res : Int32} (h : f_X3_countAllowedWork n V p1 p2 = some res) : Met l yX3_countAllowedWork wsX3_countAllowedWork ({ frames := 2, cells := 0, slots := 0, locals := 41 } : Room) (va_Pc [.ref (a.1 0), .int p1, .ref (a.2 0 p2)] (xI D cy a n V)) (vp_Si (fun r => r = res)) 0 0 (fun _ => False) := by
  refine Met.ofW (cc := cX3_countAllowedWork) (maxL := 9) (ret := (some .int)) (by decide) rfl ?_
  intro p e s m args below meth c s₁ B hml hv
  obtain ⟨rfl, hP, hK, hD⟩ := hv
  have hx := B.exec
  have hb := B.bytes
  have hr := B.returns
  have hts := atoms_spec (ws := wsX3_countAllowedWork) B.pre
  have hown : s.vm.findClass RX3 = some m.cls := findClass_of_methodNamed B.named
  have hlocks := B.notSynchronized
  have hl := lv_entry ([.ref (a.1 0), .int p1, .ref (a.2 0 p2)]) (n := 9) (Nat.le_of_ble_eq_true rfl)
  rw [lg_entry_eq]
  generalize (lg_sl ([.ref (a.1 0), .int p1, .ref (a.2 0 p2)]) ++ List.replicate (9 - (lg_sl ([.ref (a.1 0), .int p1, .ref (a.2 0 p2)])).length) Slot.unset).toArray = ls at hl ⊢
  have hl : lv_has ls 9 [(0, .ref (a.1 0)), (1, .int p1), (2, .ref (a.2 0 p2))] := hl
  have hinX3 : ∀ w ∈ wsX30, w ∈ wsX3_countAllowedWork := (fun _ h => (List.mem_cons_of_mem _ (List.mem_append_left _ (List.mem_append_left _ (List.mem_append_right _ h)))))
  refine lv_iconst (v := 0) hx hb dX3_countAllowedWork_0 (by decide) ?_
  refine lv_istore_n (lv' := [(3, .int 0), (0, .ref (a.1 0)), (1, .int p1), (2, .ref (a.2 0 p2))]) hx hb dX3_countAllowedWork_1 rfl hl (by decide) rfl (fun ls hl => ?_)
  refine lv_aload_n hx hb dX3_countAllowedWork_2 rfl (lv_at hl 1 rfl) ?_
  refine va_get (D := D) (ci := 3) (v := .ref (a.1 2)) (C := RX3) (T := TX3) (N := 10) hx hb hts hinX3 hown hK hP 0 rfl rfl 1 (by decide) (hts _ (List.mem_of_getElem? (i := 1) rfl)) (fun _ h9 => h9) rfl dX3_countAllowedWork_3 ?_
  refine lv_astore (lv' := [(4, .ref (a.1 2)), (3, .int 0), (0, .ref (a.1 0)), (1, .int p1), (2, .ref (a.2 0 p2))]) hx hb dX3_countAllowedWork_6 hl (by decide) rfl (fun ls hl => ?_)
  refine lv_aload hx hb dX3_countAllowedWork_8 (lv_at hl 0 rfl) ?_
  refine va_alen (v := 40) hx hb hK hP 2 5 rfl rfl rfl dX3_countAllowedWork_10 ?_
  refine lv_istore (lv' := [(5, .int 40), (4, .ref (a.1 2)), (3, .int 0), (0, .ref (a.1 0)), (1, .int p1), (2, .ref (a.2 0 p2))]) hx hb dX3_countAllowedWork_11 hl (by decide) rfl (fun ls hl => ?_)
  refine lv_iconst (v := 0) hx hb dX3_countAllowedWork_13 (by decide) ?_
  refine lv_istore (lv' := [(6, .int 0), (5, .int 40), (4, .ref (a.1 2)), (3, .int 0), (0, .ref (a.1 0)), (1, .int p1), (2, .ref (a.2 0 p2))]) hx hb dX3_countAllowedWork_14 hl (by decide) rfl (fun ls hl => ?_)
  exact k_X3_countAllowedWork_16 hx hb hr hts hml hown hlocks hK hP hD _ _ p1 p2 0 40 0 hp2 ls h (lv_sub hl [5, 6, 3, 2, 1, 0] rfl)
def f_X3_airInMinute_16 (n : Nat → Nat) : XV → Nat → Int32 → Int64 → Int32 → Int32 → Option (Int64)
  | _, 0, _, _, _, _ => none
  | V, fu + 1, zx1, zx2, zx5, zx6 => oi (zx5 ≤ zx6) (some zx2) (og (¬ (zx6 < 0 ∨ 40 ≤ (zx6).toNatClampNeg)) (oc (n 1) (xref n 1 zx6) (f_X3_airInMinute_16 n V fu zx1 zx2 zx5 (zx6 + 1)) (fun k_3 => ob (f_X1_meets n V k_3 zx1 (zx1 + 1)) (fun u_5 => oi (u_5 = 0) (f_X3_airInMinute_16 n V fu zx1 zx2 zx5 (zx6 + 1)) (f_X3_airInMinute_16 n V fu zx1 (zx2 ||| (V.2.1 k_3)) zx5 (zx6 + 1))))))
def f_X3_airInMinute (n : Nat → Nat) (V : XV) (p1 : Int32) : Option (Int64) := f_X3_airInMinute_16 n V FU p1 0 40 0
theorem hd_X3_airInMinute : yX3_airInMinute.cls = RX3 ∧ yX3_airInMinute.cls ≠ "java/lang/invoke/MethodHandle" ∧ yX3_airInMinute.cls ≠ "java/lang/invoke/VarHandle" ∧ (parseMethodDescriptor yX3_airInMinute.desc).map (fun d => d.parameters.length) = some 1 := by decide +kernel
set_option maxHeartbeats 4000000 in
set_option maxRecDepth 100000 in
theorem k_X3_airInMinute_16 {p : Program} {l : Launch} {e : Env} {s : State} {m : MethodId} {args : Array Value} {below : List Frame} {meth : Method} {c : Code} {D : va_G} {cy : Nat → ClassId} {a : XA} {n : Nat → Nat} {V : XV} (hx : p.tables.exec = Jvm.exec) (hb : c.code = cX3_airInMinute) (hr : meth.sig.returnType = (some .long)) (hts : ∀ w ∈ wsX3_airInMinute, w.before args s = true) (hml : c.maxLocals = 8) (hown : s.vm.findClass RX3 = some m.cls) (hlocks : meth.locks = false) (hK : va_K D xcl (xty cy) s) (hP : va_P D xcl (xW cy a n V) s.heap) (hD : va_D (fun _ => True) (xW cy a n V)) (res : Int64) : ∀ (fu : Nat) (zx1 : Int32) (zx2 : Int64) (zx5 : Int32) (zx6 : Int32)  (ls : Array Slot), f_X3_airInMinute_16 n V fu zx1 zx2 zx5 zx6 = some res → lv_has ls 8 [(1, .int zx1), (2, .long (zx2)), (4, .ref (a.1 2)), (5, .int zx5), (6, .int zx6)] → W p l e ({ frames := 2, cells := 0, slots := 0, locals := 42 } : Room) s m args below meth c s.heap [] 0 0 (MQ below (vp_Sl (fun r => r = res)) args s 0 0 (fun _ => False)) (F0 m 16 ls []) := by
  have hinX1 : ∀ w ∈ wsX10, w ∈ wsX3_airInMinute := (fun _ h => (List.mem_cons_of_mem _ (List.mem_append_right _ h)))
  intro fu
  induction fu with
  | zero =>
    intro zx1 zx2 zx5 zx6  ls h hl
    cases h
  | succ fu ih =>
    intro zx1 zx2 zx5 zx6  ls h hl
    refine lv_iload hx hb dX3_airInMinute_16 (lv_at hl 4 rfl) ?_
    refine lv_iload hx hb dX3_airInMinute_18 (lv_at hl 3 rfl) ?_
    refine lv_icmp_ge (tgt := 61) hx hb dX3_airInMinute_20 (by decide) (fun c_1 => ?_) (fun c_1 => ?_)
    · replace h := oi_t c_1 h
      refine lv_lload_n hx hb dX3_airInMinute_61 rfl (lv_at hl 1 rfl) ?_
      have h9 := Option.some.inj h
      exact W.lret (v := zx2) hx hb hr (fun t ht hW => ⟨zx2, rfl, h9, ht⟩) (fun _ hq => absurd hq List.not_mem_nil) dX3_airInMinute_62 hlocks
    · replace h := oi_f c_1 h
      refine lv_aload hx hb dX3_airInMinute_23 (lv_at hl 2 rfl) ?_
      refine lv_iload hx hb dX3_airInMinute_25 (lv_at hl 4 rfl) ?_
      obtain ⟨g_2, h⟩ := og_some h
      rcases oc_some h with ⟨o_4, h⟩ | ⟨k_3, hk_3, o_4, h⟩
      · refine zaldn hx hb hK hP 2 5 rfl rfl g_2 o_4 dX3_airInMinute_27 ?_
        refine lv_astoreN (lv' := [(7, .null), (1, .int zx1), (2, .long (zx2)), (4, .ref (a.1 2)), (5, .int zx5), (6, .int zx6)]) hx hb dX3_airInMinute_28 hl (by decide) rfl (fun ls hl => ?_)
        refine lv_aloadN hx hb dX3_airInMinute_30 (lv_at hl 0 rfl) ?_
        refine lv_ifnullN (tgt := 55) hx hb dX3_airInMinute_32 (by decide) ?_
        refine lv_iinc (v := zx6 + 1) (lv' := [(6, .int (zx6 + 1)), (7, .null), (1, .int zx1), (2, .long (zx2)), (4, .ref (a.1 2)), (5, .int zx5)]) hx hb dX3_airInMinute_55 hl (k := 5) rfl rfl (by decide) rfl (fun ls hl => ?_)
        refine lv_goto (tgt := 16) hx hb dX3_airInMinute_58 (by decide) ?_
        exact ih zx1 zx2 zx5 (zx6 + 1)  ls h (lv_sub hl [2, 3, 4, 5, 0] rfl)
      · refine zalds hx hb hK hP 2 5 rfl rfl g_2 o_4 dX3_airInMinute_27 ?_
        refine lv_astore (lv' := [(7, .ref (a.2 1 k_3)), (1, .int zx1), (2, .long (zx2)), (4, .ref (a.1 2)), (5, .int zx5), (6, .int zx6)]) hx hb dX3_airInMinute_28 hl (by decide) rfl (fun ls hl => ?_)
        refine lv_aload hx hb dX3_airInMinute_30 (lv_at hl 0 rfl) ?_
        refine lv_ifnull hx hb dX3_airInMinute_32 ?_
        refine lv_aload hx hb dX3_airInMinute_35 (lv_at hl 0 rfl) ?_
        refine lv_iload_n hx hb dX3_airInMinute_37 rfl (lv_at hl 1 rfl) ?_
        refine lv_iload_n hx hb dX3_airInMinute_38 rfl (lv_at hl 1 rfl) ?_
        refine lv_iconst (v := 1) hx hb dX3_airInMinute_39 (by decide) ?_
        refine lv_iadd hx hb dX3_airInMinute_40 ?_
        obtain ⟨u_5, hg_6, h⟩ := ob_some h
        refine zcSi (W.runV (As := [.int zx1, .int (zx1 + 1)]) (rest := []) ⟨hx, hb, hml, hown, hts⟩ (c_X1_meets l D cy a n V k_3 zx1 (zx1 + 1) hk_3 hg_6) (cwV 2 hts gX3_airInMinute_X1_meets rfl rfl rfl hd_X1_meets ⟨Nat.le_of_ble_eq_true rfl, Nat.le_of_ble_eq_true rfl⟩) ⟨xI_blind, va_recv hK hP (ci := 1) rfl (xpos_li hk_3), (xI_at hP hK hD)⟩ rfl rfl hl.1 rfl (lv_room (Nat.le_of_ble_eq_true rfl)) dX3_airInMinute_41 ⟨Nat.le_of_ble_eq_true rfl, Nat.le_of_ble_eq_true rfl⟩) ?_
        refine lv_if_eq (tgt := 55) hx hb dX3_airInMinute_44 (by decide) (fun c_7 => ?_) (fun c_7 => ?_)
        · replace h := oi_t c_7 h
          refine lv_iinc (v := zx6 + 1) (lv' := [(6, .int (zx6 + 1)), (7, .ref (a.2 1 k_3)), (1, .int zx1), (2, .long (zx2)), (4, .ref (a.1 2)), (5, .int zx5)]) hx hb dX3_airInMinute_55 hl (k := 5) rfl rfl (by decide) rfl (fun ls hl => ?_)
          refine lv_goto (tgt := 16) hx hb dX3_airInMinute_58 (by decide) ?_
          exact ih zx1 zx2 zx5 (zx6 + 1)  ls h (lv_sub hl [2, 3, 4, 5, 0] rfl)
        · replace h := oi_f c_7 h
          refine lv_lload_n hx hb dX3_airInMinute_47 rfl (lv_at hl 2 rfl) ?_
          refine lv_aload hx hb dX3_airInMinute_48 (lv_at hl 0 rfl) ?_
          refine va_get (D := D) (ci := 1) (v := .long (V.2.1 k_3)) (C := RX1) (T := TX1) (N := 11) hx hb hts hinX1 hown hK hP _ (xpos_li hk_3) rfl 7 (by decide) (hts _ (List.mem_of_getElem? (i := 2) rfl)) (fun _ h9 => h9) rfl dX3_airInMinute_50 ?_
          refine lv_lor hx hb dX3_airInMinute_53 ?_
          refine lv_lstore_n (lv' := [(2, .long (zx2 ||| (V.2.1 k_3))), (7, .ref (a.2 1 k_3)), (1, .int zx1), (4, .ref (a.1 2)), (5, .int zx5), (6, .int zx6)]) hx hb dX3_airInMinute_54 rfl hl (by decide) rfl (fun ls hl => ?_)
          refine lv_iinc (v := zx6 + 1) (lv' := [(6, .int (zx6 + 1)), (2, .long (zx2 ||| (V.2.1 k_3))), (7, .ref (a.2 1 k_3)), (1, .int zx1), (4, .ref (a.1 2)), (5, .int zx5)]) hx hb dX3_airInMinute_55 hl (k := 5) rfl rfl (by decide) rfl (fun ls hl => ?_)
          refine lv_goto (tgt := 16) hx hb dX3_airInMinute_58 (by decide) ?_
          exact ih zx1 (zx2 ||| (V.2.1 k_3)) zx5 (zx6 + 1)  ls h (lv_sub hl [3, 1, 4, 5, 0] rfl)
set_option maxHeartbeats 4000000 in
set_option maxRecDepth 100000 in
theorem c_X3_airInMinute (l : Launch) (D : va_G) (cy : Nat → ClassId) (a : XA) (n : Nat → Nat) (V : XV) (p1 : Int32) {res : Int64} (h : f_X3_airInMinute n V p1 = some res) : Met l yX3_airInMinute wsX3_airInMinute ({ frames := 2, cells := 0, slots := 0, locals := 42 } : Room) (va_Pc [.ref (a.1 0), .int p1] (xI D cy a n V)) (vp_Sl (fun r => r = res)) 0 0 (fun _ => False) := by
  refine Met.ofW (cc := cX3_airInMinute) (maxL := 8) (ret := (some .long)) (by decide) rfl ?_
  intro p e s m args below meth c s₁ B hml hv
  obtain ⟨rfl, hP, hK, hD⟩ := hv
  have hx := B.exec
  have hb := B.bytes
  have hr := B.returns
  have hts := atoms_spec (ws := wsX3_airInMinute) B.pre
  have hown : s.vm.findClass RX3 = some m.cls := findClass_of_methodNamed B.named
  have hlocks := B.notSynchronized
  have hl := lv_entry ([.ref (a.1 0), .int p1]) (n := 8) (Nat.le_of_ble_eq_true rfl)
  rw [lg_entry_eq]
  generalize (lg_sl ([.ref (a.1 0), .int p1]) ++ List.replicate (8 - (lg_sl ([.ref (a.1 0), .int p1])).length) Slot.unset).toArray = ls at hl ⊢
  have hl : lv_has ls 8 [(0, .ref (a.1 0)), (1, .int p1)] := hl
  have hinX3 : ∀ w ∈ wsX30, w ∈ wsX3_airInMinute := (fun _ h => (List.mem_cons_of_mem _ (List.mem_append_left _ (List.mem_append_right _ h))))
  refine lv_lconst (v := 0) hx hb dX3_airInMinute_0 (by decide) ?_
  refine lv_lstore_n (lv' := [(2, .long (0)), (0, .ref (a.1 0)), (1, .int p1)]) hx hb dX3_airInMinute_1 rfl hl (by decide) rfl (fun ls hl => ?_)
  refine lv_aload_n hx hb dX3_airInMinute_2 rfl (lv_at hl 1 rfl) ?_
  refine va_get (D := D) (ci := 3) (v := .ref (a.1 2)) (C := RX3) (T := TX3) (N := 10) hx hb hts hinX3 hown hK hP 0 rfl rfl 1 (by decide) (hts _ (List.mem_of_getElem? (i := 1) rfl)) (fun _ h9 => h9) rfl dX3_airInMinute_3 ?_
  refine lv_astore (lv' := [(4, .ref (a.1 2)), (2, .long (0)), (0, .ref (a.1 0)), (1, .int p1)]) hx hb dX3_airInMinute_6 hl (by decide) rfl (fun ls hl => ?_)
  refine lv_aload hx hb dX3_airInMinute_8 (lv_at hl 0 rfl) ?_
  refine va_alen (v := 40) hx hb hK hP 2 5 rfl rfl rfl dX3_airInMinute_10 ?_
  refine lv_istore (lv' := [(5, .int 40), (4, .ref (a.1 2)), (2, .long (0)), (0, .ref (a.1 0)), (1, .int p1)]) hx hb dX3_airInMinute_11 hl (by decide) rfl (fun ls hl => ?_)
  refine lv_iconst (v := 0) hx hb dX3_airInMinute_13 (by decide) ?_
  refine lv_istore (lv' := [(6, .int 0), (5, .int 40), (4, .ref (a.1 2)), (2, .long (0)), (0, .ref (a.1 0)), (1, .int p1)]) hx hb dX3_airInMinute_14 hl (by decide) rfl (fun ls hl => ?_)
  exact k_X3_airInMinute_16 hx hb hr hts hml hown hlocks hK hP hD _ _ p1 0 40 0  ls h (lv_sub hl [5, 3, 2, 1, 0] rfl)
def f_J13_bitCount_95d88 (p1 : Int64) : Option (Int32) := ob (some ((p1 - (((p1.toUInt64 >>> ((Int32.toInt64 1).toUInt64 &&& Int64.toUInt64 63)).toInt64) &&& 6148914691236517205)) &&& 3689348814741910323)) (fun x_1 => ob (some (((p1 - (((p1.toUInt64 >>> ((Int32.toInt64 1).toUInt64 &&& Int64.toUInt64 63)).toInt64) &&& 6148914691236517205)).toUInt64 >>> ((Int32.toInt64 2).toUInt64 &&& Int64.toUInt64 63)).toInt64)) (fun x_3 => ob (some (((x_1 + (x_3 &&& 3689348814741910323)).toUInt64 >>> ((Int32.toInt64 4).toUInt64 &&& Int64.toUInt64 63)).toInt64)) (fun x_5 => ob (some (((((x_1 + (x_3 &&& 3689348814741910323)) + x_5) &&& 1085102592571150095).toUInt64 >>> ((Int32.toInt64 8).toUInt64 &&& Int64.toUInt64 63)).toInt64)) (fun x_7 => ob (some ((((((x_1 + (x_3 &&& 3689348814741910323)) + x_5) &&& 1085102592571150095) + x_7).toUInt64 >>> ((Int32.toInt64 16).toUInt64 &&& Int64.toUInt64 63)).toInt64)) (fun x_9 => ob (some (((((((x_1 + (x_3 &&& 3689348814741910323)) + x_5) &&& 1085102592571150095) + x_7) + x_9).toUInt64 >>> ((Int32.toInt64 32).toUInt64 &&& Int64.toUInt64 63)).toInt64)) (fun x_11 => ob (some ((Int64.toInt32 ((((((x_1 + (x_3 &&& 3689348814741910323)) + x_5) &&& 1085102592571150095) + x_7) + x_9) + x_11)) &&& 127)) (fun x_13 => some x_13)))))))
theorem hd_J13_bitCount_95d88 : yJ13_bitCount_95d88.cls ≠ "java/lang/invoke/MethodHandle" ∧ yJ13_bitCount_95d88.cls ≠ "java/lang/invoke/VarHandle" ∧ (parseMethodDescriptor yJ13_bitCount_95d88.desc).map (fun d => d.parameters.length) = some 1 := by decide +kernel
set_option maxHeartbeats 4000000 in
set_option maxRecDepth 100000 in
theorem c_J13_bitCount_95d88 (l : Launch) (p1 : Int64) {res : Int32} (h : f_J13_bitCount_95d88 p1 = some res) : Met l yJ13_bitCount_95d88 wsJ13_bitCount_95d88 ({ frames := 0, cells := 0, slots := 0, locals := 0 } : Room) (va_Pc [.long (p1)] zT) (vp_Si (fun r => r = res)) 0 0 (fun _ => False) := by
  refine Met.ofW (cc := cJ13_bitCount_95d88) (maxL := 2) (ret := (some .int)) (by decide) rfl ?_
  intro p e s m args below meth c s₁ B hml hv
  obtain ⟨rfl, -⟩ := hv
  have hx := B.exec
  have hb := B.bytes
  have hr := B.returns
  have hts := atoms_spec (ws := wsJ13_bitCount_95d88) B.pre
  have hown : s.vm.findClass RJ13 = some m.cls := findClass_of_methodNamed B.named
  have hlocks := B.notSynchronized
  have hl := lv_entry ([.long (p1)]) (n := 2) (Nat.le_of_ble_eq_true rfl)
  rw [lg_entry_eq]
  generalize (lg_sl ([.long (p1)]) ++ List.replicate (2 - (lg_sl ([.long (p1)])).length) Slot.unset).toArray = ls at hl ⊢
  have hl : lv_has ls 2 [(0, .long (p1))] := hl
  refine lv_lload_n hx hb dJ13_bitCount_95d88_0 rfl (lv_at hl 0 rfl) ?_
  refine lv_lload_n hx hb dJ13_bitCount_95d88_1 rfl (lv_at hl 0 rfl) ?_
  refine lv_iconst (v := 1) hx hb dJ13_bitCount_95d88_2 (by decide) ?_
  refine lv_lushr (v := (p1.toUInt64 >>> ((Int32.toInt64 1).toUInt64 &&& Int64.toUInt64 63)).toInt64) hx hb dJ13_bitCount_95d88_3 rfl ?_
  refine lv_ldc2 hx hb hown (hts _ (List.mem_of_getElem? (i := 1) rfl)) dJ13_bitCount_95d88_4 ?_
  refine lv_land hx hb dJ13_bitCount_95d88_7 ?_
  refine lv_lsub hx hb dJ13_bitCount_95d88_8 ?_
  refine lv_lstore_n (lv' := [(0, .long (p1 - (((p1.toUInt64 >>> ((Int32.toInt64 1).toUInt64 &&& Int64.toUInt64 63)).toInt64) &&& 6148914691236517205)))]) hx hb dJ13_bitCount_95d88_9 rfl hl (by decide) rfl (fun ls hl => ?_)
  refine lv_lload_n hx hb dJ13_bitCount_95d88_10 rfl (lv_at hl 0 rfl) ?_
  refine lv_ldc2 hx hb hown (hts _ (List.mem_of_getElem? (i := 2) rfl)) dJ13_bitCount_95d88_11 ?_
  refine lv_land hx hb dJ13_bitCount_95d88_14 ?_
  obtain ⟨x_1, ex_2, h⟩ := ob_some h
  refine W.eq (g2 := F0 m 15 ls [.long (x_1)]) (by rw [← Option.some.inj ex_2]) ?_
  refine lv_lload_n hx hb dJ13_bitCount_95d88_15 rfl (lv_at hl 0 rfl) ?_
  refine lv_iconst (v := 2) hx hb dJ13_bitCount_95d88_16 (by decide) ?_
  refine lv_lushr (v := ((p1 - (((p1.toUInt64 >>> ((Int32.toInt64 1).toUInt64 &&& Int64.toUInt64 63)).toInt64) &&& 6148914691236517205)).toUInt64 >>> ((Int32.toInt64 2).toUInt64 &&& Int64.toUInt64 63)).toInt64) hx hb dJ13_bitCount_95d88_17 rfl ?_
  obtain ⟨x_3, ex_4, h⟩ := ob_some h
  refine W.eq (g2 := F0 m 18 ls [.long (x_3), .long (x_1)]) (by rw [← Option.some.inj ex_4]) ?_
  refine lv_ldc2 hx hb hown (hts _ (List.mem_of_getElem? (i := 2) rfl)) dJ13_bitCount_95d88_18 ?_
  refine lv_land hx hb dJ13_bitCount_95d88_21 ?_
  refine lv_ladd hx hb dJ13_bitCount_95d88_22 ?_
  refine lv_lstore_n (lv' := [(0, .long (x_1 + (x_3 &&& 3689348814741910323)))]) hx hb dJ13_bitCount_95d88_23 rfl hl (by decide) rfl (fun ls hl => ?_)
  refine lv_lload_n hx hb dJ13_bitCount_95d88_24 rfl (lv_at hl 0 rfl) ?_
  refine lv_lload_n hx hb dJ13_bitCount_95d88_25 rfl (lv_at hl 0 rfl) ?_
  refine lv_iconst (v := 4) hx hb dJ13_bitCount_95d88_26 (by decide) ?_
  refine lv_lushr (v := ((x_1 + (x_3 &&& 3689348814741910323)).toUInt64 >>> ((Int32.toInt64 4).toUInt64 &&& Int64.toUInt64 63)).toInt64) hx hb dJ13_bitCount_95d88_27 rfl ?_
  obtain ⟨x_5, ex_6, h⟩ := ob_some h
  refine W.eq (g2 := F0 m 28 ls [.long (x_5), .long (x_1 + (x_3 &&& 3689348814741910323))]) (by rw [← Option.some.inj ex_6]) ?_
  refine lv_ladd hx hb dJ13_bitCount_95d88_28 ?_
  refine lv_ldc2 hx hb hown (hts _ (List.mem_of_getElem? (i := 3) rfl)) dJ13_bitCount_95d88_29 ?_
  refine lv_land hx hb dJ13_bitCount_95d88_32 ?_
  refine lv_lstore_n (lv' := [(0, .long (((x_1 + (x_3 &&& 3689348814741910323)) + x_5) &&& 1085102592571150095))]) hx hb dJ13_bitCount_95d88_33 rfl hl (by decide) rfl (fun ls hl => ?_)
  refine lv_lload_n hx hb dJ13_bitCount_95d88_34 rfl (lv_at hl 0 rfl) ?_
  refine lv_lload_n hx hb dJ13_bitCount_95d88_35 rfl (lv_at hl 0 rfl) ?_
  refine lv_bipush (v := 8) hx hb dJ13_bitCount_95d88_36 (by decide) ?_
  refine lv_lushr (v := ((((x_1 + (x_3 &&& 3689348814741910323)) + x_5) &&& 1085102592571150095).toUInt64 >>> ((Int32.toInt64 8).toUInt64 &&& Int64.toUInt64 63)).toInt64) hx hb dJ13_bitCount_95d88_38 rfl ?_
  obtain ⟨x_7, ex_8, h⟩ := ob_some h
  refine W.eq (g2 := F0 m 39 ls [.long (x_7), .long (((x_1 + (x_3 &&& 3689348814741910323)) + x_5) &&& 1085102592571150095)]) (by rw [← Option.some.inj ex_8]) ?_
  refine lv_ladd hx hb dJ13_bitCount_95d88_39 ?_
  refine lv_lstore_n (lv' := [(0, .long ((((x_1 + (x_3 &&& 3689348814741910323)) + x_5) &&& 1085102592571150095) + x_7))]) hx hb dJ13_bitCount_95d88_40 rfl hl (by decide) rfl (fun ls hl => ?_)
  refine lv_lload_n hx hb dJ13_bitCount_95d88_41 rfl (lv_at hl 0 rfl) ?_
  refine lv_lload_n hx hb dJ13_bitCount_95d88_42 rfl (lv_at hl 0 rfl) ?_
  refine lv_bipush (v := 16) hx hb dJ13_bitCount_95d88_43 (by decide) ?_
  refine lv_lushr (v := (((((x_1 + (x_3 &&& 3689348814741910323)) + x_5) &&& 1085102592571150095) + x_7).toUInt64 >>> ((Int32.toInt64 16).toUInt64 &&& Int64.toUInt64 63)).toInt64) hx hb dJ13_bitCount_95d88_45 rfl ?_
  obtain ⟨x_9, ex_10, h⟩ := ob_some h
  refine W.eq (g2 := F0 m 46 ls [.long (x_9), .long ((((x_1 + (x_3 &&& 3689348814741910323)) + x_5) &&& 1085102592571150095) + x_7)]) (by rw [← Option.some.inj ex_10]) ?_
  refine lv_ladd hx hb dJ13_bitCount_95d88_46 ?_
  refine lv_lstore_n (lv' := [(0, .long (((((x_1 + (x_3 &&& 3689348814741910323)) + x_5) &&& 1085102592571150095) + x_7) + x_9))]) hx hb dJ13_bitCount_95d88_47 rfl hl (by decide) rfl (fun ls hl => ?_)
  refine lv_lload_n hx hb dJ13_bitCount_95d88_48 rfl (lv_at hl 0 rfl) ?_
  refine lv_lload_n hx hb dJ13_bitCount_95d88_49 rfl (lv_at hl 0 rfl) ?_
  refine lv_bipush (v := 32) hx hb dJ13_bitCount_95d88_50 (by decide) ?_
  refine lv_lushr (v := ((((((x_1 + (x_3 &&& 3689348814741910323)) + x_5) &&& 1085102592571150095) + x_7) + x_9).toUInt64 >>> ((Int32.toInt64 32).toUInt64 &&& Int64.toUInt64 63)).toInt64) hx hb dJ13_bitCount_95d88_52 rfl ?_
  obtain ⟨x_11, ex_12, h⟩ := ob_some h
  refine W.eq (g2 := F0 m 53 ls [.long (x_11), .long (((((x_1 + (x_3 &&& 3689348814741910323)) + x_5) &&& 1085102592571150095) + x_7) + x_9)]) (by rw [← Option.some.inj ex_12]) ?_
  refine lv_ladd hx hb dJ13_bitCount_95d88_53 ?_
  refine lv_lstore_n (lv' := [(0, .long ((((((x_1 + (x_3 &&& 3689348814741910323)) + x_5) &&& 1085102592571150095) + x_7) + x_9) + x_11))]) hx hb dJ13_bitCount_95d88_54 rfl hl (by decide) rfl (fun ls hl => ?_)
  refine lv_lload_n hx hb dJ13_bitCount_95d88_55 rfl (lv_at hl 0 rfl) ?_
  refine lv_l2i (v := Int64.toInt32 ((((((x_1 + (x_3 &&& 3689348814741910323)) + x_5) &&& 1085102592571150095) + x_7) + x_9) + x_11)) hx hb dJ13_bitCount_95d88_56 rfl ?_
  refine lv_bipush (v := 127) hx hb dJ13_bitCount_95d88_57 (by decide) ?_
  refine lv_iand hx hb dJ13_bitCount_95d88_59 ?_
  obtain ⟨x_13, ex_14, h⟩ := ob_some h
  refine W.eq (g2 := F0 m 60 ls [.int x_13]) (by rw [← Option.some.inj ex_14]) ?_
  have h9 := Option.some.inj h
  exact W.iret (v := x_13) hx hb hr (fun t ht hW => ⟨x_13, rfl, h9, ht⟩) (fun _ hq => absurd hq List.not_mem_nil) dJ13_bitCount_95d88_60 hlocks
def f_X3_pours (n : Nat → Nat) (V : XV)  : Option (Int32) := some (V.2.2.1 5)
theorem hd_X3_pours : yX3_pours.cls = RX3 ∧ yX3_pours.cls ≠ "java/lang/invoke/MethodHandle" ∧ yX3_pours.cls ≠ "java/lang/invoke/VarHandle" ∧ (parseMethodDescriptor yX3_pours.desc).map (fun d => d.parameters.length) = some 0 := by decide +kernel
set_option maxHeartbeats 4000000 in
set_option maxRecDepth 100000 in
theorem c_X3_pours (l : Launch) (D : va_G) (cy : Nat → ClassId) (a : XA) (n : Nat → Nat) (V : XV)  {res : Int32} (h : f_X3_pours n V  = some res) : Met l yX3_pours wsX3_pours ({ frames := 0, cells := 0, slots := 0, locals := 0 } : Room) (va_Pc [.ref (a.1 0)] (xI D cy a n V)) (vp_Si (fun r => r = res)) 0 0 (fun _ => False) := by
  refine Met.ofW (cc := cX3_pours) (maxL := 1) (ret := (some .int)) (by decide) rfl ?_
  intro p e s m args below meth c s₁ B hml hv
  obtain ⟨rfl, hP, hK, hD⟩ := hv
  have hx := B.exec
  have hb := B.bytes
  have hr := B.returns
  have hts := atoms_spec (ws := wsX3_pours) B.pre
  have hown : s.vm.findClass RX3 = some m.cls := findClass_of_methodNamed B.named
  have hlocks := B.notSynchronized
  have hl := lv_entry ([.ref (a.1 0)]) (n := 1) (Nat.le_of_ble_eq_true rfl)
  rw [lg_entry_eq]
  generalize (lg_sl ([.ref (a.1 0)]) ++ List.replicate (1 - (lg_sl ([.ref (a.1 0)])).length) Slot.unset).toArray = ls at hl ⊢
  have hl : lv_has ls 1 [(0, .ref (a.1 0))] := hl
  have hinX3 : ∀ w ∈ wsX30, w ∈ wsX3_pours := (fun _ h => (List.mem_cons_of_mem _ (List.mem_append_right _ h)))
  refine lv_aload_n hx hb dX3_pours_0 rfl (lv_at hl 0 rfl) ?_
  refine va_get (D := D) (ci := 3) (v := .int (V.2.2.1 5)) (C := RX3) (T := TX3) (N := 10) hx hb hts hinX3 hown hK hP 0 rfl rfl 5 (by decide) (hts _ (List.mem_of_getElem? (i := 1) rfl)) (fun _ h9 => h9) rfl dX3_pours_1 ?_
  have h9 := Option.some.inj h
  exact W.iret (v := V.2.2.1 5) hx hb hr (fun t ht hW => ⟨V.2.2.1 5, rfl, h9, ht⟩) (fun _ hq => absurd hq List.not_mem_nil) dX3_pours_4 hlocks
def f_X3_waiting_13 (n : Nat → Nat) : XV → Nat → Int32 → Int32 → Int32 → Option (Int32)
  | _, 0, _, _, _ => none
  | V, fu + 1, zx1, zx3, zx4 => oi (zx3 ≤ zx4) (some zx1) (og (¬ (zx4 < 0 ∨ 40 ≤ (zx4).toNatClampNeg)) (oc (n 1) (xref n 1 zx4) (f_X3_waiting_13 n V fu zx1 zx3 (zx4 + 1)) (fun k_3 => oi ((V.1 1 k_3 8) = 119) (f_X3_waiting_13 n V fu (zx1 + 1) zx3 (zx4 + 1)) (f_X3_waiting_13 n V fu zx1 zx3 (zx4 + 1)))))
def f_X3_waiting (n : Nat → Nat) (V : XV)  : Option (Int32) := f_X3_waiting_13 n V FU 0 40 0
theorem hd_X3_waiting : yX3_waiting.cls = RX3 ∧ yX3_waiting.cls ≠ "java/lang/invoke/MethodHandle" ∧ yX3_waiting.cls ≠ "java/lang/invoke/VarHandle" ∧ (parseMethodDescriptor yX3_waiting.desc).map (fun d => d.parameters.length) = some 0 := by decide +kernel
set_option maxHeartbeats 4000000 in
set_option maxRecDepth 100000 in
theorem k_X3_waiting_13 {p : Program} {l : Launch} {e : Env} {s : State} {m : MethodId} {args : Array Value} {below : List Frame} {meth : Method} {c : Code} {D : va_G} {cy : Nat → ClassId} {a : XA} {n : Nat → Nat} {V : XV} (hx : p.tables.exec = Jvm.exec) (hb : c.code = cX3_waiting) (hr : meth.sig.returnType = (some .int)) (hts : ∀ w ∈ wsX3_waiting, w.before args s = true) (hml : c.maxLocals = 6) (hown : s.vm.findClass RX3 = some m.cls) (hlocks : meth.locks = false) (hK : va_K D xcl (xty cy) s) (hP : va_P D xcl (xW cy a n V) s.heap) (hD : va_D (fun _ => True) (xW cy a n V)) (res : Int32) : ∀ (fu : Nat) (zx1 : Int32) (zx3 : Int32) (zx4 : Int32)  (ls : Array Slot), f_X3_waiting_13 n V fu zx1 zx3 zx4 = some res → lv_has ls 6 [(1, .int zx1), (2, .ref (a.1 2)), (3, .int zx3), (4, .int zx4)] → W p l e ({ frames := 0, cells := 0, slots := 0, locals := 0 } : Room) s m args below meth c s.heap [] 0 0 (MQ below (vp_Si (fun r => r = res)) args s 0 0 (fun _ => False)) (F0 m 13 ls []) := by
  have hinX1 : ∀ w ∈ wsX10, w ∈ wsX3_waiting := (fun _ h => (List.mem_cons_of_mem _ (List.mem_append_right _ h)))
  intro fu
  induction fu with
  | zero =>
    intro zx1 zx3 zx4  ls h hl
    cases h
  | succ fu ih =>
    intro zx1 zx3 zx4  ls h hl
    refine lv_iload hx hb dX3_waiting_13 (lv_at hl 3 rfl) ?_
    refine lv_iload_n hx hb dX3_waiting_15 rfl (lv_at hl 2 rfl) ?_
    refine lv_icmp_ge (tgt := 49) hx hb dX3_waiting_16 (by decide) (fun c_1 => ?_) (fun c_1 => ?_)
    · replace h := oi_t c_1 h
      refine lv_iload_n hx hb dX3_waiting_49 rfl (lv_at hl 0 rfl) ?_
      have h9 := Option.some.inj h
      exact W.iret (v := zx1) hx hb hr (fun t ht hW => ⟨zx1, rfl, h9, ht⟩) (fun _ hq => absurd hq List.not_mem_nil) dX3_waiting_50 hlocks
    · replace h := oi_f c_1 h
      refine lv_aload_n hx hb dX3_waiting_19 rfl (lv_at hl 1 rfl) ?_
      refine lv_iload hx hb dX3_waiting_20 (lv_at hl 3 rfl) ?_
      obtain ⟨g_2, h⟩ := og_some h
      rcases oc_some h with ⟨o_4, h⟩ | ⟨k_3, hk_3, o_4, h⟩
      · refine zaldn hx hb hK hP 2 5 rfl rfl g_2 o_4 dX3_waiting_22 ?_
        refine lv_astoreN (lv' := [(5, .null), (1, .int zx1), (2, .ref (a.1 2)), (3, .int zx3), (4, .int zx4)]) hx hb dX3_waiting_23 hl (by decide) rfl (fun ls hl => ?_)
        refine lv_aloadN hx hb dX3_waiting_25 (lv_at hl 0 rfl) ?_
        refine lv_ifnullN (tgt := 43) hx hb dX3_waiting_27 (by decide) ?_
        refine lv_iinc (v := zx4 + 1) (lv' := [(4, .int (zx4 + 1)), (5, .null), (1, .int zx1), (2, .ref (a.1 2)), (3, .int zx3)]) hx hb dX3_waiting_43 hl (k := 4) rfl rfl (by decide) rfl (fun ls hl => ?_)
        refine lv_goto (tgt := 13) hx hb dX3_waiting_46 (by decide) ?_
        exact ih zx1 zx3 (zx4 + 1)  ls h (lv_sub hl [2, 3, 4, 0] rfl)
      · refine zalds hx hb hK hP 2 5 rfl rfl g_2 o_4 dX3_waiting_22 ?_
        refine lv_astore (lv' := [(5, .ref (a.2 1 k_3)), (1, .int zx1), (2, .ref (a.1 2)), (3, .int zx3), (4, .int zx4)]) hx hb dX3_waiting_23 hl (by decide) rfl (fun ls hl => ?_)
        refine lv_aload hx hb dX3_waiting_25 (lv_at hl 0 rfl) ?_
        refine lv_ifnull hx hb dX3_waiting_27 ?_
        refine lv_aload hx hb dX3_waiting_30 (lv_at hl 0 rfl) ?_
        refine va_get (D := D) (ci := 1) (v := .int (V.1 1 k_3 8)) (C := RX1) (T := TX1) (N := 11) hx hb hts hinX1 hown hK hP _ (xpos_li hk_3) rfl 8 (by decide) (hts _ (List.mem_of_getElem? (i := 2) rfl)) (fun _ h9 => h9) rfl dX3_waiting_32 ?_
        refine lv_bipush (v := 119) hx hb dX3_waiting_35 (by decide) ?_
        refine lv_icmp_ne (tgt := 43) hx hb dX3_waiting_37 (by decide) (fun c_5 => ?_) (fun c_5 => ?_)
        · replace h := oi_f c_5 h
          refine lv_iinc (v := zx4 + 1) (lv' := [(4, .int (zx4 + 1)), (5, .ref (a.2 1 k_3)), (1, .int zx1), (2, .ref (a.1 2)), (3, .int zx3)]) hx hb dX3_waiting_43 hl (k := 4) rfl rfl (by decide) rfl (fun ls hl => ?_)
          refine lv_goto (tgt := 13) hx hb dX3_waiting_46 (by decide) ?_
          exact ih zx1 zx3 (zx4 + 1)  ls h (lv_sub hl [2, 3, 4, 0] rfl)
        · replace h := oi_t c_5 h
          refine lv_iinc (v := zx1 + 1) (lv' := [(1, .int (zx1 + 1)), (5, .ref (a.2 1 k_3)), (2, .ref (a.1 2)), (3, .int zx3), (4, .int zx4)]) hx hb dX3_waiting_40 hl (k := 1) rfl rfl (by decide) rfl (fun ls hl => ?_)
          refine lv_iinc (v := zx4 + 1) (lv' := [(4, .int (zx4 + 1)), (1, .int (zx1 + 1)), (5, .ref (a.2 1 k_3)), (2, .ref (a.1 2)), (3, .int zx3)]) hx hb dX3_waiting_43 hl (k := 4) rfl rfl (by decide) rfl (fun ls hl => ?_)
          refine lv_goto (tgt := 13) hx hb dX3_waiting_46 (by decide) ?_
          exact ih (zx1 + 1) zx3 (zx4 + 1)  ls h (lv_sub hl [1, 3, 4, 0] rfl)
set_option maxHeartbeats 4000000 in
set_option maxRecDepth 100000 in
theorem c_X3_waiting (l : Launch) (D : va_G) (cy : Nat → ClassId) (a : XA) (n : Nat → Nat) (V : XV)  {res : Int32} (h : f_X3_waiting n V  = some res) : Met l yX3_waiting wsX3_waiting ({ frames := 0, cells := 0, slots := 0, locals := 0 } : Room) (va_Pc [.ref (a.1 0)] (xI D cy a n V)) (vp_Si (fun r => r = res)) 0 0 (fun _ => False) := by
  refine Met.ofW (cc := cX3_waiting) (maxL := 6) (ret := (some .int)) (by decide) rfl ?_
  intro p e s m args below meth c s₁ B hml hv
  obtain ⟨rfl, hP, hK, hD⟩ := hv
  have hx := B.exec
  have hb := B.bytes
  have hr := B.returns
  have hts := atoms_spec (ws := wsX3_waiting) B.pre
  have hown : s.vm.findClass RX3 = some m.cls := findClass_of_methodNamed B.named
  have hlocks := B.notSynchronized
  have hl := lv_entry ([.ref (a.1 0)]) (n := 6) (Nat.le_of_ble_eq_true rfl)
  rw [lg_entry_eq]
  generalize (lg_sl ([.ref (a.1 0)]) ++ List.replicate (6 - (lg_sl ([.ref (a.1 0)])).length) Slot.unset).toArray = ls at hl ⊢
  have hl : lv_has ls 6 [(0, .ref (a.1 0))] := hl
  have hinX3 : ∀ w ∈ wsX30, w ∈ wsX3_waiting := (fun _ h => (List.mem_cons_of_mem _ (List.mem_append_left _ (List.mem_append_right _ h))))
  refine lv_iconst (v := 0) hx hb dX3_waiting_0 (by decide) ?_
  refine lv_istore_n (lv' := [(1, .int 0), (0, .ref (a.1 0))]) hx hb dX3_waiting_1 rfl hl (by decide) rfl (fun ls hl => ?_)
  refine lv_aload_n hx hb dX3_waiting_2 rfl (lv_at hl 1 rfl) ?_
  refine va_get (D := D) (ci := 3) (v := .ref (a.1 2)) (C := RX3) (T := TX3) (N := 10) hx hb hts hinX3 hown hK hP 0 rfl rfl 1 (by decide) (hts _ (List.mem_of_getElem? (i := 1) rfl)) (fun _ h9 => h9) rfl dX3_waiting_3 ?_
  refine lv_astore_n (lv' := [(2, .ref (a.1 2)), (1, .int 0), (0, .ref (a.1 0))]) hx hb dX3_waiting_6 rfl hl (by decide) rfl (fun ls hl => ?_)
  refine lv_aload_n hx hb dX3_waiting_7 rfl (lv_at hl 0 rfl) ?_
  refine va_alen (v := 40) hx hb hK hP 2 5 rfl rfl rfl dX3_waiting_8 ?_
  refine lv_istore_n (lv' := [(3, .int 40), (2, .ref (a.1 2)), (1, .int 0), (0, .ref (a.1 0))]) hx hb dX3_waiting_9 rfl hl (by decide) rfl (fun ls hl => ?_)
  refine lv_iconst (v := 0) hx hb dX3_waiting_10 (by decide) ?_
  refine lv_istore (lv' := [(4, .int 0), (3, .int 40), (2, .ref (a.1 2)), (1, .int 0), (0, .ref (a.1 0))]) hx hb dX3_waiting_11 hl (by decide) rfl (fun ls hl => ?_)
  exact k_X3_waiting_13 hx hb hr hts hml hown hlocks hK hP hD _ _ 0 40 0  ls h (lv_sub hl [3, 2, 1, 0] rfl)
def f_X3_lifted_14 (n : Nat → Nat) : XV → Nat → Int64 → Int32 → Int32 → Option (Int64)
  | _, 0, _, _, _ => none
  | V, fu + 1, zx1, zx4, zx5 => oi (zx4 ≤ zx5) (some zx1) (og (¬ (zx5 < 0 ∨ 40 ≤ (zx5).toNatClampNeg)) (oc (n 1) (xref n 1 zx5) (f_X3_lifted_14 n V fu zx1 zx4 (zx5 + 1)) (fun k_3 => oi ((V.1 1 k_3 8) = 100) (f_X3_lifted_14 n V fu (zx1 + (Int32.toInt64 (V.1 1 k_3 4))) zx4 (zx5 + 1)) (f_X3_lifted_14 n V fu zx1 zx4 (zx5 + 1)))))
def f_X3_lifted (n : Nat → Nat) (V : XV)  : Option (Int64) := f_X3_lifted_14 n V FU 0 40 0
theorem hd_X3_lifted : yX3_lifted.cls = RX3 ∧ yX3_lifted.cls ≠ "java/lang/invoke/MethodHandle" ∧ yX3_lifted.cls ≠ "java/lang/invoke/VarHandle" ∧ (parseMethodDescriptor yX3_lifted.desc).map (fun d => d.parameters.length) = some 0 := by decide +kernel
set_option maxHeartbeats 4000000 in
set_option maxRecDepth 100000 in
theorem k_X3_lifted_14 {p : Program} {l : Launch} {e : Env} {s : State} {m : MethodId} {args : Array Value} {below : List Frame} {meth : Method} {c : Code} {D : va_G} {cy : Nat → ClassId} {a : XA} {n : Nat → Nat} {V : XV} (hx : p.tables.exec = Jvm.exec) (hb : c.code = cX3_lifted) (hr : meth.sig.returnType = (some .long)) (hts : ∀ w ∈ wsX3_lifted, w.before args s = true) (hml : c.maxLocals = 7) (hown : s.vm.findClass RX3 = some m.cls) (hlocks : meth.locks = false) (hK : va_K D xcl (xty cy) s) (hP : va_P D xcl (xW cy a n V) s.heap) (hD : va_D (fun _ => True) (xW cy a n V)) (res : Int64) : ∀ (fu : Nat) (zx1 : Int64) (zx4 : Int32) (zx5 : Int32)  (ls : Array Slot), f_X3_lifted_14 n V fu zx1 zx4 zx5 = some res → lv_has ls 7 [(1, .long (zx1)), (3, .ref (a.1 2)), (4, .int zx4), (5, .int zx5)] → W p l e ({ frames := 0, cells := 0, slots := 0, locals := 0 } : Room) s m args below meth c s.heap [] 0 0 (MQ below (vp_Sl (fun r => r = res)) args s 0 0 (fun _ => False)) (F0 m 14 ls []) := by
  have hinX1 : ∀ w ∈ wsX10, w ∈ wsX3_lifted := (fun _ h => (List.mem_cons_of_mem _ (List.mem_append_right _ h)))
  intro fu
  induction fu with
  | zero =>
    intro zx1 zx4 zx5  ls h hl
    cases h
  | succ fu ih =>
    intro zx1 zx4 zx5  ls h hl
    refine lv_iload hx hb dX3_lifted_14 (lv_at hl 3 rfl) ?_
    refine lv_iload hx hb dX3_lifted_16 (lv_at hl 2 rfl) ?_
    refine lv_icmp_ge (tgt := 57) hx hb dX3_lifted_18 (by decide) (fun c_1 => ?_) (fun c_1 => ?_)
    · replace h := oi_t c_1 h
      refine lv_lload_n hx hb dX3_lifted_57 rfl (lv_at hl 0 rfl) ?_
      have h9 := Option.some.inj h
      exact W.lret (v := zx1) hx hb hr (fun t ht hW => ⟨zx1, rfl, h9, ht⟩) (fun _ hq => absurd hq List.not_mem_nil) dX3_lifted_58 hlocks
    · replace h := oi_f c_1 h
      refine lv_aload_n hx hb dX3_lifted_21 rfl (lv_at hl 1 rfl) ?_
      refine lv_iload hx hb dX3_lifted_22 (lv_at hl 3 rfl) ?_
      obtain ⟨g_2, h⟩ := og_some h
      rcases oc_some h with ⟨o_4, h⟩ | ⟨k_3, hk_3, o_4, h⟩
      · refine zaldn hx hb hK hP 2 5 rfl rfl g_2 o_4 dX3_lifted_24 ?_
        refine lv_astoreN (lv' := [(6, .null), (1, .long (zx1)), (3, .ref (a.1 2)), (4, .int zx4), (5, .int zx5)]) hx hb dX3_lifted_25 hl (by decide) rfl (fun ls hl => ?_)
        refine lv_aloadN hx hb dX3_lifted_27 (lv_at hl 0 rfl) ?_
        refine lv_ifnullN (tgt := 51) hx hb dX3_lifted_29 (by decide) ?_
        refine lv_iinc (v := zx5 + 1) (lv' := [(5, .int (zx5 + 1)), (6, .null), (1, .long (zx1)), (3, .ref (a.1 2)), (4, .int zx4)]) hx hb dX3_lifted_51 hl (k := 4) rfl rfl (by decide) rfl (fun ls hl => ?_)
        refine lv_goto (tgt := 14) hx hb dX3_lifted_54 (by decide) ?_
        exact ih zx1 zx4 (zx5 + 1)  ls h (lv_sub hl [2, 3, 4, 0] rfl)
      · refine zalds hx hb hK hP 2 5 rfl rfl g_2 o_4 dX3_lifted_24 ?_
        refine lv_astore (lv' := [(6, .ref (a.2 1 k_3)), (1, .long (zx1)), (3, .ref (a.1 2)), (4, .int zx4), (5, .int zx5)]) hx hb dX3_lifted_25 hl (by decide) rfl (fun ls hl => ?_)
        refine lv_aload hx hb dX3_lifted_27 (lv_at hl 0 rfl) ?_
        refine lv_ifnull hx hb dX3_lifted_29 ?_
        refine lv_aload hx hb dX3_lifted_32 (lv_at hl 0 rfl) ?_
        refine va_get (D := D) (ci := 1) (v := .int (V.1 1 k_3 8)) (C := RX1) (T := TX1) (N := 11) hx hb hts hinX1 hown hK hP _ (xpos_li hk_3) rfl 8 (by decide) (hts _ (List.mem_of_getElem? (i := 2) rfl)) (fun _ h9 => h9) rfl dX3_lifted_34 ?_
        refine lv_bipush (v := 100) hx hb dX3_lifted_37 (by decide) ?_
        refine lv_icmp_ne (tgt := 51) hx hb dX3_lifted_39 (by decide) (fun c_5 => ?_) (fun c_5 => ?_)
        · replace h := oi_f c_5 h
          refine lv_iinc (v := zx5 + 1) (lv' := [(5, .int (zx5 + 1)), (6, .ref (a.2 1 k_3)), (1, .long (zx1)), (3, .ref (a.1 2)), (4, .int zx4)]) hx hb dX3_lifted_51 hl (k := 4) rfl rfl (by decide) rfl (fun ls hl => ?_)
          refine lv_goto (tgt := 14) hx hb dX3_lifted_54 (by decide) ?_
          exact ih zx1 zx4 (zx5 + 1)  ls h (lv_sub hl [2, 3, 4, 0] rfl)
        · replace h := oi_t c_5 h
          refine lv_lload_n hx hb dX3_lifted_42 rfl (lv_at hl 1 rfl) ?_
          refine lv_aload hx hb dX3_lifted_43 (lv_at hl 0 rfl) ?_
          refine va_get (D := D) (ci := 1) (v := .int (V.1 1 k_3 4)) (C := RX1) (T := TX1) (N := 11) hx hb hts hinX1 hown hK hP _ (xpos_li hk_3) rfl 4 (by decide) (hts _ (List.mem_of_getElem? (i := 3) rfl)) (fun _ h9 => h9) rfl dX3_lifted_45 ?_
          refine lv_i2l (v := Int32.toInt64 (V.1 1 k_3 4)) hx hb dX3_lifted_48 rfl ?_
          refine lv_ladd hx hb dX3_lifted_49 ?_
          refine lv_lstore_n (lv' := [(1, .long (zx1 + (Int32.toInt64 (V.1 1 k_3 4)))), (6, .ref (a.2 1 k_3)), (3, .ref (a.1 2)), (4, .int zx4), (5, .int zx5)]) hx hb dX3_lifted_50 rfl hl (by decide) rfl (fun ls hl => ?_)
          refine lv_iinc (v := zx5 + 1) (lv' := [(5, .int (zx5 + 1)), (1, .long (zx1 + (Int32.toInt64 (V.1 1 k_3 4)))), (6, .ref (a.2 1 k_3)), (3, .ref (a.1 2)), (4, .int zx4)]) hx hb dX3_lifted_51 hl (k := 4) rfl rfl (by decide) rfl (fun ls hl => ?_)
          refine lv_goto (tgt := 14) hx hb dX3_lifted_54 (by decide) ?_
          exact ih (zx1 + (Int32.toInt64 (V.1 1 k_3 4))) zx4 (zx5 + 1)  ls h (lv_sub hl [1, 3, 4, 0] rfl)
set_option maxHeartbeats 4000000 in
set_option maxRecDepth 100000 in
theorem c_X3_lifted (l : Launch) (D : va_G) (cy : Nat → ClassId) (a : XA) (n : Nat → Nat) (V : XV)  {res : Int64} (h : f_X3_lifted n V  = some res) : Met l yX3_lifted wsX3_lifted ({ frames := 0, cells := 0, slots := 0, locals := 0 } : Room) (va_Pc [.ref (a.1 0)] (xI D cy a n V)) (vp_Sl (fun r => r = res)) 0 0 (fun _ => False) := by
  refine Met.ofW (cc := cX3_lifted) (maxL := 7) (ret := (some .long)) (by decide) rfl ?_
  intro p e s m args below meth c s₁ B hml hv
  obtain ⟨rfl, hP, hK, hD⟩ := hv
  have hx := B.exec
  have hb := B.bytes
  have hr := B.returns
  have hts := atoms_spec (ws := wsX3_lifted) B.pre
  have hown : s.vm.findClass RX3 = some m.cls := findClass_of_methodNamed B.named
  have hlocks := B.notSynchronized
  have hl := lv_entry ([.ref (a.1 0)]) (n := 7) (Nat.le_of_ble_eq_true rfl)
  rw [lg_entry_eq]
  generalize (lg_sl ([.ref (a.1 0)]) ++ List.replicate (7 - (lg_sl ([.ref (a.1 0)])).length) Slot.unset).toArray = ls at hl ⊢
  have hl : lv_has ls 7 [(0, .ref (a.1 0))] := hl
  have hinX3 : ∀ w ∈ wsX30, w ∈ wsX3_lifted := (fun _ h => (List.mem_cons_of_mem _ (List.mem_append_left _ (List.mem_append_right _ h))))
  refine lv_lconst (v := 0) hx hb dX3_lifted_0 (by decide) ?_
  refine lv_lstore_n (lv' := [(1, .long (0)), (0, .ref (a.1 0))]) hx hb dX3_lifted_1 rfl hl (by decide) rfl (fun ls hl => ?_)
  refine lv_aload_n hx hb dX3_lifted_2 rfl (lv_at hl 1 rfl) ?_
  refine va_get (D := D) (ci := 3) (v := .ref (a.1 2)) (C := RX3) (T := TX3) (N := 10) hx hb hts hinX3 hown hK hP 0 rfl rfl 1 (by decide) (hts _ (List.mem_of_getElem? (i := 1) rfl)) (fun _ h9 => h9) rfl dX3_lifted_3 ?_
  refine lv_astore_n (lv' := [(3, .ref (a.1 2)), (1, .long (0)), (0, .ref (a.1 0))]) hx hb dX3_lifted_6 rfl hl (by decide) rfl (fun ls hl => ?_)
  refine lv_aload_n hx hb dX3_lifted_7 rfl (lv_at hl 0 rfl) ?_
  refine va_alen (v := 40) hx hb hK hP 2 5 rfl rfl rfl dX3_lifted_8 ?_
  refine lv_istore (lv' := [(4, .int 40), (3, .ref (a.1 2)), (1, .long (0)), (0, .ref (a.1 0))]) hx hb dX3_lifted_9 hl (by decide) rfl (fun ls hl => ?_)
  refine lv_iconst (v := 0) hx hb dX3_lifted_11 (by decide) ?_
  refine lv_istore (lv' := [(5, .int 0), (4, .int 40), (3, .ref (a.1 2)), (1, .long (0)), (0, .ref (a.1 0))]) hx hb dX3_lifted_12 hl (by decide) rfl (fun ls hl => ?_)
  exact k_X3_lifted_14 hx hb hr hts hml hown hlocks hK hP hD _ _ 0 40 0  ls h (lv_sub hl [3, 2, 1, 0] rfl)
def f_X3_airBetween_54 (KK : Int32 → Int32 → Int32 → Int64 → Int32 → Option (Int64)) : Nat → Int32 → Int32 → Int32 → Int64 → Int32 → Int32 → Option (Int64)
  | 0, _, _, _, _, _, _ => none
  | fu + 1, zx4, zx5, zx7, zx8, zx10, zx11 => oi (zx5 < zx11) (KK zx4 zx5 zx7 zx8 zx10) (f_X3_airBetween_54 KK  fu zx4 zx5 zx7 (zx8 ||| (1 <<< (Int32.toInt64 ((8 * zx10) + zx11) &&& 63))) zx10 (zx11 + 1))
def f_X3_airBetween_43 : Nat → Int32 → Int32 → Int32 → Int64 → Int32 → Option (Int64)
  | 0, _, _, _, _, _ => none
  | fu + 1, zx4, zx5, zx7, zx8, zx10 => oi (zx7 < zx10) (some zx8) (f_X3_airBetween_54 (fun (e_3 : Int32) (e_4 : Int32) (e_5 : Int32) (e_6 : Int64) (e_7 : Int32) => f_X3_airBetween_43  fu e_3 e_4 e_5 e_6 (e_7 + 1))  FU zx4 zx5 zx7 zx8 zx10 zx4)
def f_X3_airBetween (p1 : Int32) (p2 : Int32) (p3 : Int32) (p4 : Int32) : Option (Int64) := f_X3_airBetween_43  FU ((if p3 < p1 then p3 else p1) / 5) ((if p1 < p3 then p3 else p1) / 5) ((if p2 < p4 then p4 else p2) / 5) 0 ((if p4 < p2 then p4 else p2) / 5)
theorem hd_X3_airBetween : yX3_airBetween.cls ≠ "java/lang/invoke/MethodHandle" ∧ yX3_airBetween.cls ≠ "java/lang/invoke/VarHandle" ∧ (parseMethodDescriptor yX3_airBetween.desc).map (fun d => d.parameters.length) = some 4 := by decide +kernel
set_option maxHeartbeats 4000000 in
set_option maxRecDepth 100000 in
theorem k_X3_airBetween_54 {p : Program} {l : Launch} {e : Env} {s : State} {m : MethodId} {args : Array Value} {below : List Frame} {meth : Method} {c : Code} (hx : p.tables.exec = Jvm.exec) (hb : c.code = cX3_airBetween) (hr : meth.sig.returnType = (some .long)) (hts : ∀ w ∈ wsX3_airBetween, w.before args s = true) (hml : c.maxLocals = 12) (hown : s.vm.findClass RX3 = some m.cls) (hlocks : meth.locks = false) (res : Int64)   {KK : Int32 → Int32 → Int32 → Int64 → Int32 → Option (Int64)} (hKK : ∀ (zy4 : Int32) (zy5 : Int32) (zy7 : Int32) (zy8 : Int64) (zy10 : Int32) (ls : Array Slot), KK zy4 zy5 zy7 zy8 zy10 = some res → lv_has ls 12 [(4, .int zy4), (5, .int zy5), (7, .int zy7), (8, .long (zy8)), (10, .int zy10)] → W p l e ({ frames := 1, cells := 0, slots := 0, locals := 40 } : Room) s m args below meth c s.heap [] 0 0 (MQ below (vp_Sl (fun r => r = res)) args s 0 0 (fun _ => False)) (F0 m 82 ls [])) : ∀ (fu : Nat) (zx4 : Int32) (zx5 : Int32) (zx7 : Int32) (zx8 : Int64) (zx10 : Int32) (zx11 : Int32)  (ls : Array Slot), f_X3_airBetween_54 KK  fu zx4 zx5 zx7 zx8 zx10 zx11 = some res → lv_has ls 12 [(4, .int zx4), (5, .int zx5), (7, .int zx7), (8, .long (zx8)), (10, .int zx10), (11, .int zx11)] → W p l e ({ frames := 1, cells := 0, slots := 0, locals := 40 } : Room) s m args below meth c s.heap [] 0 0 (MQ below (vp_Sl (fun r => r = res)) args s 0 0 (fun _ => False)) (F0 m 54 ls []) := by
  intro fu
  induction fu with
  | zero =>
    intro zx4 zx5 zx7 zx8 zx10 zx11  ls h hl
    cases h
  | succ fu ih =>
    intro zx4 zx5 zx7 zx8 zx10 zx11  ls h hl
    refine lv_iload hx hb dX3_airBetween_54 (lv_at hl 5 rfl) ?_
    refine lv_iload hx hb dX3_airBetween_56 (lv_at hl 1 rfl) ?_
    refine lv_icmp_gt (tgt := 82) hx hb dX3_airBetween_58 (by decide) (fun c_2 => ?_) (fun c_2 => ?_)
    · replace h := oi_t c_2 h
      exact hKK zx4 zx5 zx7 zx8 zx10 ls h (lv_sub hl [0, 1, 2, 3, 4] rfl)
    · replace h := oi_f c_2 h
      refine lv_lload hx hb dX3_airBetween_61 (lv_at hl 3 rfl) ?_
      refine lv_lconst (v := 1) hx hb dX3_airBetween_63 (by decide) ?_
      refine lv_bipush (v := 8) hx hb dX3_airBetween_64 (by decide) ?_
      refine lv_iload hx hb dX3_airBetween_66 (lv_at hl 4 rfl) ?_
      refine lv_imul hx hb dX3_airBetween_68 ?_
      refine lv_iload hx hb dX3_airBetween_69 (lv_at hl 5 rfl) ?_
      refine lv_iadd hx hb dX3_airBetween_71 ?_
      refine lv_lshl (v := 1 <<< (Int32.toInt64 ((8 * zx10) + zx11) &&& 63)) hx hb dX3_airBetween_72 rfl ?_
      refine lv_lor hx hb dX3_airBetween_73 ?_
      refine lv_lstore (lv' := [(8, .long (zx8 ||| (1 <<< (Int32.toInt64 ((8 * zx10) + zx11) &&& 63)))), (4, .int zx4), (5, .int zx5), (7, .int zx7), (10, .int zx10), (11, .int zx11)]) hx hb dX3_airBetween_74 hl (by decide) rfl (fun ls hl => ?_)
      refine lv_iinc (v := zx11 + 1) (lv' := [(11, .int (zx11 + 1)), (8, .long (zx8 ||| (1 <<< (Int32.toInt64 ((8 * zx10) + zx11) &&& 63)))), (4, .int zx4), (5, .int zx5), (7, .int zx7), (10, .int zx10)]) hx hb dX3_airBetween_76 hl (k := 5) rfl rfl (by decide) rfl (fun ls hl => ?_)
      refine lv_goto (tgt := 54) hx hb dX3_airBetween_79 (by decide) ?_
      exact ih zx4 zx5 zx7 (zx8 ||| (1 <<< (Int32.toInt64 ((8 * zx10) + zx11) &&& 63))) zx10 (zx11 + 1) ls h (lv_sub hl [2, 3, 4, 1, 5, 0] rfl)
set_option maxHeartbeats 4000000 in
set_option maxRecDepth 100000 in
theorem k_X3_airBetween_43 {p : Program} {l : Launch} {e : Env} {s : State} {m : MethodId} {args : Array Value} {below : List Frame} {meth : Method} {c : Code} (hx : p.tables.exec = Jvm.exec) (hb : c.code = cX3_airBetween) (hr : meth.sig.returnType = (some .long)) (hts : ∀ w ∈ wsX3_airBetween, w.before args s = true) (hml : c.maxLocals = 12) (hown : s.vm.findClass RX3 = some m.cls) (hlocks : meth.locks = false) (res : Int64) : ∀ (fu : Nat) (zx4 : Int32) (zx5 : Int32) (zx7 : Int32) (zx8 : Int64) (zx10 : Int32)  (ls : Array Slot), f_X3_airBetween_43  fu zx4 zx5 zx7 zx8 zx10 = some res → lv_has ls 12 [(4, .int zx4), (5, .int zx5), (7, .int zx7), (8, .long (zx8)), (10, .int zx10)] → W p l e ({ frames := 1, cells := 0, slots := 0, locals := 40 } : Room) s m args below meth c s.heap [] 0 0 (MQ below (vp_Sl (fun r => r = res)) args s 0 0 (fun _ => False)) (F0 m 43 ls []) := by
  intro fu
  induction fu with
  | zero =>
    intro zx4 zx5 zx7 zx8 zx10  ls h hl
    cases h
  | succ fu ih =>
    intro zx4 zx5 zx7 zx8 zx10  ls h hl
    refine lv_iload hx hb dX3_airBetween_43 (lv_at hl 4 rfl) ?_
    refine lv_iload hx hb dX3_airBetween_45 (lv_at hl 2 rfl) ?_
    refine lv_icmp_gt (tgt := 88) hx hb dX3_airBetween_47 (by decide) (fun c_1 => ?_) (fun c_1 => ?_)
    · replace h := oi_t c_1 h
      refine lv_lload hx hb dX3_airBetween_88 (lv_at hl 3 rfl) ?_
      have h9 := Option.some.inj h
      exact W.lret (v := zx8) hx hb hr (fun t ht hW => ⟨zx8, rfl, h9, ht⟩) (fun _ hq => absurd hq List.not_mem_nil) dX3_airBetween_90 hlocks
    · replace h := oi_f c_1 h
      refine lv_iload hx hb dX3_airBetween_50 (lv_at hl 0 rfl) ?_
      refine lv_istore (lv' := [(11, .int zx4), (4, .int zx4), (5, .int zx5), (7, .int zx7), (8, .long (zx8)), (10, .int zx10)]) hx hb dX3_airBetween_52 hl (by decide) rfl (fun ls hl => ?_)
      refine k_X3_airBetween_54 hx hb hr hts hml hown hlocks _   (fun e_3 e_4 e_5 e_6 e_7 ls h hl => ?_) _ zx4 zx5 zx7 zx8 zx10 zx4 ls h (lv_sub hl [1, 2, 3, 4, 5, 0] rfl)
      refine lv_iinc (v := e_7 + 1) (lv' := [(10, .int (e_7 + 1)), (4, .int e_3), (5, .int e_4), (7, .int e_5), (8, .long (e_6))]) hx hb dX3_airBetween_82 hl (k := 4) rfl rfl (by decide) rfl (fun ls hl => ?_)
      refine lv_goto (tgt := 43) hx hb dX3_airBetween_85 (by decide) ?_
      exact ih e_3 e_4 e_5 e_6 (e_7 + 1)  ls h (lv_sub hl [1, 2, 3, 4, 0] rfl)
set_option maxHeartbeats 4000000 in
set_option maxRecDepth 100000 in
theorem c_X3_airBetween (l : Launch) (p1 : Int32) (p2 : Int32) (p3 : Int32) (p4 : Int32) {res : Int64} (h : f_X3_airBetween p1 p2 p3 p4 = some res) : Met l yX3_airBetween wsX3_airBetween ({ frames := 1, cells := 0, slots := 0, locals := 40 } : Room) (va_Pc [.int p1, .int p2, .int p3, .int p4] zT) (vp_Sl (fun r => r = res)) 0 0 (fun _ => False) := by
  refine Met.ofW (cc := cX3_airBetween) (maxL := 12) (ret := (some .long)) (by decide) rfl ?_
  intro p e s m args below meth c s₁ B hml hv
  obtain ⟨rfl, -⟩ := hv
  have hx := B.exec
  have hb := B.bytes
  have hr := B.returns
  have hts := atoms_spec (ws := wsX3_airBetween) B.pre
  have hown : s.vm.findClass RX3 = some m.cls := findClass_of_methodNamed B.named
  have hlocks := B.notSynchronized
  have hl := lv_entry ([.int p1, .int p2, .int p3, .int p4]) (n := 12) (Nat.le_of_ble_eq_true rfl)
  rw [lg_entry_eq]
  generalize (lg_sl ([.int p1, .int p2, .int p3, .int p4]) ++ List.replicate (12 - (lg_sl ([.int p1, .int p2, .int p3, .int p4])).length) Slot.unset).toArray = ls at hl ⊢
  have hl : lv_has ls 12 [(0, .int p1), (1, .int p2), (2, .int p3), (3, .int p4)] := hl
  refine lv_iload_n hx hb dX3_airBetween_0 rfl (lv_at hl 0 rfl) ?_
  refine lv_iload_n hx hb dX3_airBetween_1 rfl (lv_at hl 2 rfl) ?_
  refine va_mmin hx hb (hml.trans hl.1.symm) hown (hts _ (List.mem_of_getElem? (i := 1) rfl)) (hts _ (List.mem_of_getElem? (i := 2) rfl)) (hts _ (List.mem_of_getElem? (i := 3) rfl)) (hts _ (List.mem_of_getElem? (i := 4) rfl)) (Nat.le_of_ble_eq_true rfl) (Nat.le_of_ble_eq_true rfl) (Nat.le_of_ble_eq_true rfl) (Nat.le_of_ble_eq_true rfl) dX3_airBetween_2 ?_
  refine lv_iconst (v := 5) hx hb dX3_airBetween_5 (by decide) ?_
  refine lv_idiv hx hb dX3_airBetween_6 (by decide) ?_
  refine lv_istore (lv' := [(4, .int ((if p3 < p1 then p3 else p1) / 5)), (0, .int p1), (1, .int p2), (2, .int p3), (3, .int p4)]) hx hb dX3_airBetween_7 hl (by decide) rfl (fun ls hl => ?_)
  refine lv_iload_n hx hb dX3_airBetween_9 rfl (lv_at hl 1 rfl) ?_
  refine lv_iload_n hx hb dX3_airBetween_10 rfl (lv_at hl 3 rfl) ?_
  refine va_mmax hx hb (hml.trans hl.1.symm) hown (hts _ (List.mem_of_getElem? (i := 5) rfl)) (hts _ (List.mem_of_getElem? (i := 6) rfl)) (hts _ (List.mem_of_getElem? (i := 3) rfl)) (hts _ (List.mem_of_getElem? (i := 7) rfl)) (Nat.le_of_ble_eq_true rfl) (Nat.le_of_ble_eq_true rfl) (Nat.le_of_ble_eq_true rfl) (Nat.le_of_ble_eq_true rfl) dX3_airBetween_11 ?_
  refine lv_iconst (v := 5) hx hb dX3_airBetween_14 (by decide) ?_
  refine lv_idiv hx hb dX3_airBetween_15 (by decide) ?_
  refine lv_istore (lv' := [(5, .int ((if p1 < p3 then p3 else p1) / 5)), (4, .int ((if p3 < p1 then p3 else p1) / 5)), (0, .int p1), (1, .int p2), (2, .int p3), (3, .int p4)]) hx hb dX3_airBetween_16 hl (by decide) rfl (fun ls hl => ?_)
  refine lv_iload_n hx hb dX3_airBetween_18 rfl (lv_at hl 3 rfl) ?_
  refine lv_iload_n hx hb dX3_airBetween_19 rfl (lv_at hl 5 rfl) ?_
  refine va_mmin hx hb (hml.trans hl.1.symm) hown (hts _ (List.mem_of_getElem? (i := 1) rfl)) (hts _ (List.mem_of_getElem? (i := 2) rfl)) (hts _ (List.mem_of_getElem? (i := 3) rfl)) (hts _ (List.mem_of_getElem? (i := 4) rfl)) (Nat.le_of_ble_eq_true rfl) (Nat.le_of_ble_eq_true rfl) (Nat.le_of_ble_eq_true rfl) (Nat.le_of_ble_eq_true rfl) dX3_airBetween_20 ?_
  refine lv_iconst (v := 5) hx hb dX3_airBetween_23 (by decide) ?_
  refine lv_idiv hx hb dX3_airBetween_24 (by decide) ?_
  refine lv_istore (lv' := [(6, .int ((if p4 < p2 then p4 else p2) / 5)), (5, .int ((if p1 < p3 then p3 else p1) / 5)), (4, .int ((if p3 < p1 then p3 else p1) / 5)), (0, .int p1), (1, .int p2), (2, .int p3), (3, .int p4)]) hx hb dX3_airBetween_25 hl (by decide) rfl (fun ls hl => ?_)
  refine lv_iload_n hx hb dX3_airBetween_27 rfl (lv_at hl 4 rfl) ?_
  refine lv_iload_n hx hb dX3_airBetween_28 rfl (lv_at hl 6 rfl) ?_
  refine va_mmax hx hb (hml.trans hl.1.symm) hown (hts _ (List.mem_of_getElem? (i := 5) rfl)) (hts _ (List.mem_of_getElem? (i := 6) rfl)) (hts _ (List.mem_of_getElem? (i := 3) rfl)) (hts _ (List.mem_of_getElem? (i := 7) rfl)) (Nat.le_of_ble_eq_true rfl) (Nat.le_of_ble_eq_true rfl) (Nat.le_of_ble_eq_true rfl) (Nat.le_of_ble_eq_true rfl) dX3_airBetween_29 ?_
  refine lv_iconst (v := 5) hx hb dX3_airBetween_32 (by decide) ?_
  refine lv_idiv hx hb dX3_airBetween_33 (by decide) ?_
  refine lv_istore (lv' := [(7, .int ((if p2 < p4 then p4 else p2) / 5)), (6, .int ((if p4 < p2 then p4 else p2) / 5)), (5, .int ((if p1 < p3 then p3 else p1) / 5)), (4, .int ((if p3 < p1 then p3 else p1) / 5)), (0, .int p1), (1, .int p2), (2, .int p3), (3, .int p4)]) hx hb dX3_airBetween_34 hl (by decide) rfl (fun ls hl => ?_)
  refine lv_lconst (v := 0) hx hb dX3_airBetween_36 (by decide) ?_
  refine lv_lstore (lv' := [(8, .long (0)), (7, .int ((if p2 < p4 then p4 else p2) / 5)), (6, .int ((if p4 < p2 then p4 else p2) / 5)), (5, .int ((if p1 < p3 then p3 else p1) / 5)), (4, .int ((if p3 < p1 then p3 else p1) / 5)), (0, .int p1), (1, .int p2), (2, .int p3), (3, .int p4)]) hx hb dX3_airBetween_37 hl (by decide) rfl (fun ls hl => ?_)
  refine lv_iload hx hb dX3_airBetween_39 (lv_at hl 2 rfl) ?_
  refine lv_istore (lv' := [(10, .int ((if p4 < p2 then p4 else p2) / 5)), (8, .long (0)), (7, .int ((if p2 < p4 then p4 else p2) / 5)), (6, .int ((if p4 < p2 then p4 else p2) / 5)), (5, .int ((if p1 < p3 then p3 else p1) / 5)), (4, .int ((if p3 < p1 then p3 else p1) / 5)), (0, .int p1), (1, .int p2), (2, .int p3), (3, .int p4)]) hx hb dX3_airBetween_41 hl (by decide) rfl (fun ls hl => ?_)
  exact k_X3_airBetween_43 hx hb hr hts hml hown hlocks _ _ ((if p3 < p1 then p3 else p1) / 5) ((if p1 < p3 then p3 else p1) / 5) ((if p2 < p4 then p4 else p2) / 5) 0 ((if p4 < p2 then p4 else p2) / 5)  ls h (lv_sub hl [5, 4, 2, 1, 0] rfl)
