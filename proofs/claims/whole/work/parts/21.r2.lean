def f_X4_pass_55 : RV → Nat → Int32 → Int32 → Option (Int32 × RV)
  | _, 0, _, _ => none
  | V, fu + 1, zx2, zx3 => oi ((V.1 7) ≤ zx3) (some (zx2, V)) (og (¬ (zx3 < 0 ∨ 40 ≤ (zx3).toNatClampNeg)) (oi ((V.2.1 14 (zx3).toNatClampNeg) = 112) (og (¬ (zx3 < 0 ∨ 40 ≤ (zx3).toNatClampNeg)) (oi ((V.1 25) ≤ (V.2.1 16 (zx3).toNatClampNeg)) (og (¬ (zx3 < 0 ∨ 40 ≤ (zx3).toNatClampNeg)) (og (¬ (zx3 < 0 ∨ 40 ≤ (zx3).toNatClampNeg)) (oi (((V.2.1 16 (zx3).toNatClampNeg) + (V.2.1 13 (zx3).toNatClampNeg)) ≤ (V.1 25)) (og (¬ (zx3 < 0 ∨ 40 ≤ (zx3).toNatClampNeg)) (ob (some (rar V 14 (zx3).toNatClampNeg (vp_nar .char 100))) (fun V_19 => f_X4_pass_55 V_19 fu (zx2 + 1) (zx3 + 1)))) (f_X4_pass_55 V fu zx2 (zx3 + 1))))) (og (¬ (zx3 < 0 ∨ 40 ≤ (zx3).toNatClampNeg)) (ob (some (rar V 14 (zx3).toNatClampNeg (vp_nar .char 117))) (fun V_22 => og (¬ (zx3 < 0 ∨ 40 ≤ (zx3).toNatClampNeg)) (og (¬ (zx3 < 0 ∨ 40 ≤ (zx3).toNatClampNeg)) (oi (((V_22.2.1 16 (zx3).toNatClampNeg) + (V_22.2.1 13 (zx3).toNatClampNeg)) ≤ (V_22.1 25)) (og (¬ (zx3 < 0 ∨ 40 ≤ (zx3).toNatClampNeg)) (ob (some (rar V_22 14 (zx3).toNatClampNeg (vp_nar .char 100))) (fun V_28 => f_X4_pass_55 V_28 fu (zx2 + 1) (zx3 + 1)))) (f_X4_pass_55 V_22 fu zx2 (zx3 + 1))))))))) (og (¬ (zx3 < 0 ∨ 40 ≤ (zx3).toNatClampNeg)) (oi ((V.2.1 14 (zx3).toNatClampNeg) = 117) (og (¬ (zx3 < 0 ∨ 40 ≤ (zx3).toNatClampNeg)) (oi ((V.1 25) ≤ (V.2.1 16 (zx3).toNatClampNeg)) (og (¬ (zx3 < 0 ∨ 40 ≤ (zx3).toNatClampNeg)) (og (¬ (zx3 < 0 ∨ 40 ≤ (zx3).toNatClampNeg)) (oi (((V.2.1 16 (zx3).toNatClampNeg) + (V.2.1 13 (zx3).toNatClampNeg)) ≤ (V.1 25)) (og (¬ (zx3 < 0 ∨ 40 ≤ (zx3).toNatClampNeg)) (ob (some (rar V 14 (zx3).toNatClampNeg (vp_nar .char 100))) (fun V_38 => f_X4_pass_55 V_38 fu (zx2 + 1) (zx3 + 1)))) (f_X4_pass_55 V fu zx2 (zx3 + 1))))) (og (¬ (zx3 < 0 ∨ 40 ≤ (zx3).toNatClampNeg)) (ob (some (rar V 14 (zx3).toNatClampNeg (vp_nar .char 117))) (fun V_41 => og (¬ (zx3 < 0 ∨ 40 ≤ (zx3).toNatClampNeg)) (og (¬ (zx3 < 0 ∨ 40 ≤ (zx3).toNatClampNeg)) (oi (((V_41.2.1 16 (zx3).toNatClampNeg) + (V_41.2.1 13 (zx3).toNatClampNeg)) ≤ (V_41.1 25)) (og (¬ (zx3 < 0 ∨ 40 ≤ (zx3).toNatClampNeg)) (ob (some (rar V_41 14 (zx3).toNatClampNeg (vp_nar .char 100))) (fun V_47 => f_X4_pass_55 V_47 fu (zx2 + 1) (zx3 + 1)))) (f_X4_pass_55 V_41 fu zx2 (zx3 + 1))))))))) (f_X4_pass_55 V fu zx2 (zx3 + 1))))))
def f_X4_pass (V : RV) (p1 : Int32) : Option (Int32 × RV) := ob (f_X4_in p1 1 240) (fun u_1 => oi (u_1 = 0) (ob (f_X4_fails V 1) (fun u_54 => oi (u_54.1 = 0) (ob (some (rsc u_54.2 25 ((u_54.2.1 25) + p1))) (fun V_57 => f_X4_pass_55 V_57 FU 0 0)) (some (0, u_54.2)))) (oi (((V.1 25) + p1) ≤ 1440) (ob (f_X4_fails V 0) (fun u_5 => oi (u_5.1 = 0) (ob (some (rsc u_5.2 25 ((u_5.2.1 25) + p1))) (fun V_8 => f_X4_pass_55 V_8 FU 0 0)) (some (0, u_5.2)))) (ob (f_X4_fails V 2) (fun u_49 => oi (u_49.1 = 0) (ob (some (rsc u_49.2 25 ((u_49.2.1 25) + p1))) (fun V_52 => f_X4_pass_55 V_52 FU 0 0)) (some (0, u_49.2))))))
theorem hd_X4_pass : yX4_pass.cls = RX4 ∧ yX4_pass.cls ≠ "java/lang/invoke/MethodHandle" ∧ yX4_pass.cls ≠ "java/lang/invoke/VarHandle" ∧ (parseMethodDescriptor yX4_pass.desc).map (fun d => d.parameters.length) = some 1 := by decide +kernel
set_option maxHeartbeats 4000000 in
set_option maxRecDepth 100000 in
theorem k_X4_pass_55 {p : Program} {l : Launch} {e : Env} {s : State} {m : MethodId} {args : Array Value} {below : List Frame} {meth : Method} {c : Code} {D : va_G} {cy : Nat → ClassId} {b : Nat → Nat} {A : Nat → Prop} (hx : p.tables.exec = Jvm.exec) (hb : c.code = cX4_pass) (hr : meth.sig.returnType = (some .int)) (hts : ∀ w ∈ wsX4_pass, w.before args s = true) (hml : c.maxLocals = 4) (hown : s.vm.findClass RX4 = some m.cls) (hlocks : meth.locks = false) (hK : va_K D xcl (xty cy) s) (hA : ∀ q, s.heap.size ≤ q → A q) (res : Int32 × RV) : ∀ (fu : Nat) (zx2 : Int32) (zx3 : Int32) (V : RV) (H : Heap) (locs : List Loc)  (ls : Array Slot), f_X4_pass_55 V fu zx2 zx3 = some res → va_P D xcl (rW cy b V) H → va_D A (rW cy b V) → va_S A s.heap H locs → lv_has ls 4 [(0, .ref (b 0)), (2, .int zx2), (3, .int zx3)] → W p l e ({ frames := 1, cells := 0, slots := 0, locals := 22 } : Room) s m args below meth c H locs 0 0 (MQ below (va_Qi (fun r (_ : Unit) => r = res.1) (fun _ t => va_P D xcl (rW cy b res.2) t.heap ∧ va_D A (rW cy b res.2)) A) args s 0 0 (A)) (F0 m 55 ls []) := by
  have hinX4 : ∀ w ∈ wsX40, w ∈ wsX4_pass := (fun _ h => (List.mem_cons_of_mem _ (List.mem_append_right _ h)))
  intro fu
  induction fu with
  | zero =>
    intro zx2 zx3 V H locs  ls h hP hD hS hl
    cases h
  | succ fu ih =>
    intro zx2 zx3 V H locs  ls h hP hD hS hl
    refine lv_iload_n hx hb dX4_pass_55 rfl (lv_at hl 2 rfl) ?_
    refine lv_aload_n hx hb dX4_pass_56 rfl (lv_at hl 0 rfl) ?_
    refine va_get (D := D) (ci := 4) (v := .int (V.1 7)) (C := RX4) (T := TX4) (N := 28) hx hb hts hinX4 hown hK hP 0 rfl rfl 7 (by decide) (hts _ (List.mem_of_getElem? (i := 2) rfl)) (fun _ h9 => h9) rfl dX4_pass_57 ?_
    refine lv_icmp_ge (tgt := 149) hx hb dX4_pass_60 (by decide) (fun c_10 => ?_) (fun c_10 => ?_)
    · replace h := oi_t c_10 h
      refine lv_iload_n hx hb dX4_pass_149 rfl (lv_at hl 1 rfl) ?_
      have h9 := Option.some.inj h
      subst h9
      exact W.iret (v := zx2) hx hb hr (fun t ht hW => ⟨⟨zx2, (), rfl, rfl, ⟨by rw [ht]; exact hP, hD⟩⟩, hS.F ht⟩) hS.2.2 dX4_pass_150 hlocks
    · replace h := oi_f c_10 h
      refine lv_aload_n hx hb dX4_pass_63 rfl (lv_at hl 0 rfl) ?_
      refine va_get (D := D) (ci := 4) (v := .ref (b 14)) (C := RX4) (T := TX4) (N := 28) hx hb hts hinX4 hown hK hP 0 rfl rfl 14 (by decide) (hts _ (List.mem_of_getElem? (i := 3) rfl)) (fun _ h9 => h9) rfl dX4_pass_64 ?_
      refine lv_iload_n hx hb dX4_pass_67 rfl (lv_at hl 2 rfl) ?_
      obtain ⟨g_11, h⟩ := og_some h
      refine va_cald hx hb hK hP 13 3 rfl rfl g_11 dX4_pass_68 ?_
      refine lv_bipush (v := 112) hx hb dX4_pass_69 (by decide) ?_
      refine lv_icmp_eq (tgt := 88) hx hb dX4_pass_71 (by decide) (fun c_12 => ?_) (fun c_12 => ?_)
      · replace h := oi_t c_12 h
        refine lv_aload_n hx hb dX4_pass_88 rfl (lv_at hl 0 rfl) ?_
        refine va_get (D := D) (ci := 4) (v := .ref (b 16)) (C := RX4) (T := TX4) (N := 28) hx hb hts hinX4 hown hK hP 0 rfl rfl 16 (by decide) (hts _ (List.mem_of_getElem? (i := 4) rfl)) (fun _ h9 => h9) rfl dX4_pass_89 ?_
        refine lv_iload_n hx hb dX4_pass_92 rfl (lv_at hl 2 rfl) ?_
        obtain ⟨g_13, h⟩ := og_some h
        refine va_iald hx hb hK hP 15 0 rfl rfl g_13 dX4_pass_93 ?_
        refine lv_aload_n hx hb dX4_pass_94 rfl (lv_at hl 0 rfl) ?_
        refine va_get (D := D) (ci := 4) (v := .int (V.1 25)) (C := RX4) (T := TX4) (N := 28) hx hb hts hinX4 hown hK hP 0 rfl rfl 25 (by decide) (hts _ (List.mem_of_getElem? (i := 1) rfl)) (fun _ h9 => h9) rfl dX4_pass_95 ?_
        refine lv_icmp_ge (tgt := 109) hx hb dX4_pass_98 (by decide) (fun c_14 => ?_) (fun c_14 => ?_)
        · replace h := oi_t c_14 h
          refine lv_aload_n hx hb dX4_pass_109 rfl (lv_at hl 0 rfl) ?_
          refine va_get (D := D) (ci := 4) (v := .ref (b 16)) (C := RX4) (T := TX4) (N := 28) hx hb hts hinX4 hown hK hP 0 rfl rfl 16 (by decide) (hts _ (List.mem_of_getElem? (i := 4) rfl)) (fun _ h9 => h9) rfl dX4_pass_110 ?_
          refine lv_iload_n hx hb dX4_pass_113 rfl (lv_at hl 2 rfl) ?_
          obtain ⟨g_15, h⟩ := og_some h
          refine va_iald hx hb hK hP 15 0 rfl rfl g_15 dX4_pass_114 ?_
          refine lv_aload_n hx hb dX4_pass_115 rfl (lv_at hl 0 rfl) ?_
          refine va_get (D := D) (ci := 4) (v := .ref (b 13)) (C := RX4) (T := TX4) (N := 28) hx hb hts hinX4 hown hK hP 0 rfl rfl 13 (by decide) (hts _ (List.mem_of_getElem? (i := 5) rfl)) (fun _ h9 => h9) rfl dX4_pass_116 ?_
          refine lv_iload_n hx hb dX4_pass_119 rfl (lv_at hl 2 rfl) ?_
          obtain ⟨g_16, h⟩ := og_some h
          refine va_iald hx hb hK hP 12 0 rfl rfl g_16 dX4_pass_120 ?_
          refine lv_iadd hx hb dX4_pass_121 ?_
          refine lv_aload_n hx hb dX4_pass_122 rfl (lv_at hl 0 rfl) ?_
          refine va_get (D := D) (ci := 4) (v := .int (V.1 25)) (C := RX4) (T := TX4) (N := 28) hx hb hts hinX4 hown hK hP 0 rfl rfl 25 (by decide) (hts _ (List.mem_of_getElem? (i := 1) rfl)) (fun _ h9 => h9) rfl dX4_pass_123 ?_
          refine lv_icmp_le (tgt := 132) hx hb dX4_pass_126 (by decide) (fun c_17 => ?_) (fun c_17 => ?_)
          · replace h := oi_t c_17 h
            refine lv_aload_n hx hb dX4_pass_132 rfl (lv_at hl 0 rfl) ?_
            refine va_get (D := D) (ci := 4) (v := .ref (b 14)) (C := RX4) (T := TX4) (N := 28) hx hb hts hinX4 hown hK hP 0 rfl rfl 14 (by decide) (hts _ (List.mem_of_getElem? (i := 3) rfl)) (fun _ h9 => h9) rfl dX4_pass_133 ?_
            refine lv_iload_n hx hb dX4_pass_136 rfl (lv_at hl 2 rfl) ?_
            refine lv_bipush (v := 100) hx hb dX4_pass_137 (by decide) ?_
            obtain ⟨g_18, h⟩ := og_some h
            refine va_cast hx hb hK hP hD hS 13 3 rfl rfl g_18 dX4_pass_139 (fun H locs hP hD hS => ?_)
            replace hP : va_P D xcl (rW cy b (rar V 14 (zx3).toNatClampNeg (vp_nar .char 100))) H := hP
            replace hD : va_D A (rW cy b (rar V 14 (zx3).toNatClampNeg (vp_nar .char 100))) := hD
            obtain ⟨V_19, eV_20, h⟩ := ob_some h
            rw [Option.some.inj eV_20] at hP hD
            refine lv_iinc (v := zx2 + 1) (lv' := [(2, .int (zx2 + 1)), (0, .ref (b 0)), (3, .int zx3)]) hx hb dX4_pass_140 hl (k := 1) rfl rfl (by decide) rfl (fun ls hl => ?_)
            refine lv_iinc (v := zx3 + 1) (lv' := [(3, .int (zx3 + 1)), (2, .int (zx2 + 1)), (0, .ref (b 0))]) hx hb dX4_pass_143 hl (k := 2) rfl rfl (by decide) rfl (fun ls hl => ?_)
            refine lv_goto (tgt := 55) hx hb dX4_pass_146 (by decide) ?_
            exact ih (zx2 + 1) (zx3 + 1) _ _ _  ls h hP hD hS (lv_sub hl [2, 1, 0] rfl)
          · replace h := oi_f c_17 h
            refine lv_goto (tgt := 143) hx hb dX4_pass_129 (by decide) ?_
            refine lv_iinc (v := zx3 + 1) (lv' := [(3, .int (zx3 + 1)), (0, .ref (b 0)), (2, .int zx2)]) hx hb dX4_pass_143 hl (k := 2) rfl rfl (by decide) rfl (fun ls hl => ?_)
            refine lv_goto (tgt := 55) hx hb dX4_pass_146 (by decide) ?_
            exact ih zx2 (zx3 + 1) _ _ _  ls h hP hD hS (lv_sub hl [1, 2, 0] rfl)
        · replace h := oi_f c_14 h
          refine lv_aload_n hx hb dX4_pass_101 rfl (lv_at hl 0 rfl) ?_
          refine va_get (D := D) (ci := 4) (v := .ref (b 14)) (C := RX4) (T := TX4) (N := 28) hx hb hts hinX4 hown hK hP 0 rfl rfl 14 (by decide) (hts _ (List.mem_of_getElem? (i := 3) rfl)) (fun _ h9 => h9) rfl dX4_pass_102 ?_
          refine lv_iload_n hx hb dX4_pass_105 rfl (lv_at hl 2 rfl) ?_
          refine lv_bipush (v := 117) hx hb dX4_pass_106 (by decide) ?_
          obtain ⟨g_21, h⟩ := og_some h
          refine va_cast hx hb hK hP hD hS 13 3 rfl rfl g_21 dX4_pass_108 (fun H locs hP hD hS => ?_)
          replace hP : va_P D xcl (rW cy b (rar V 14 (zx3).toNatClampNeg (vp_nar .char 117))) H := hP
          replace hD : va_D A (rW cy b (rar V 14 (zx3).toNatClampNeg (vp_nar .char 117))) := hD
          obtain ⟨V_22, eV_23, h⟩ := ob_some h
          rw [Option.some.inj eV_23] at hP hD
          refine lv_aload_n hx hb dX4_pass_109 rfl (lv_at hl 0 rfl) ?_
          refine va_get (D := D) (ci := 4) (v := .ref (b 16)) (C := RX4) (T := TX4) (N := 28) hx hb hts hinX4 hown hK hP 0 rfl rfl 16 (by decide) (hts _ (List.mem_of_getElem? (i := 4) rfl)) (fun _ h9 => h9) rfl dX4_pass_110 ?_
          refine lv_iload_n hx hb dX4_pass_113 rfl (lv_at hl 2 rfl) ?_
          obtain ⟨g_24, h⟩ := og_some h
          refine va_iald hx hb hK hP 15 0 rfl rfl g_24 dX4_pass_114 ?_
          refine lv_aload_n hx hb dX4_pass_115 rfl (lv_at hl 0 rfl) ?_
          refine va_get (D := D) (ci := 4) (v := .ref (b 13)) (C := RX4) (T := TX4) (N := 28) hx hb hts hinX4 hown hK hP 0 rfl rfl 13 (by decide) (hts _ (List.mem_of_getElem? (i := 5) rfl)) (fun _ h9 => h9) rfl dX4_pass_116 ?_
          refine lv_iload_n hx hb dX4_pass_119 rfl (lv_at hl 2 rfl) ?_
          obtain ⟨g_25, h⟩ := og_some h
          refine va_iald hx hb hK hP 12 0 rfl rfl g_25 dX4_pass_120 ?_
          refine lv_iadd hx hb dX4_pass_121 ?_
          refine lv_aload_n hx hb dX4_pass_122 rfl (lv_at hl 0 rfl) ?_
          refine va_get (D := D) (ci := 4) (v := .int (V_22.1 25)) (C := RX4) (T := TX4) (N := 28) hx hb hts hinX4 hown hK hP 0 rfl rfl 25 (by decide) (hts _ (List.mem_of_getElem? (i := 1) rfl)) (fun _ h9 => h9) rfl dX4_pass_123 ?_
          refine lv_icmp_le (tgt := 132) hx hb dX4_pass_126 (by decide) (fun c_26 => ?_) (fun c_26 => ?_)
          · replace h := oi_t c_26 h
            refine lv_aload_n hx hb dX4_pass_132 rfl (lv_at hl 0 rfl) ?_
            refine va_get (D := D) (ci := 4) (v := .ref (b 14)) (C := RX4) (T := TX4) (N := 28) hx hb hts hinX4 hown hK hP 0 rfl rfl 14 (by decide) (hts _ (List.mem_of_getElem? (i := 3) rfl)) (fun _ h9 => h9) rfl dX4_pass_133 ?_
            refine lv_iload_n hx hb dX4_pass_136 rfl (lv_at hl 2 rfl) ?_
            refine lv_bipush (v := 100) hx hb dX4_pass_137 (by decide) ?_
            obtain ⟨g_27, h⟩ := og_some h
            refine va_cast hx hb hK hP hD hS 13 3 rfl rfl g_27 dX4_pass_139 (fun H locs hP hD hS => ?_)
            replace hP : va_P D xcl (rW cy b (rar V_22 14 (zx3).toNatClampNeg (vp_nar .char 100))) H := hP
            replace hD : va_D A (rW cy b (rar V_22 14 (zx3).toNatClampNeg (vp_nar .char 100))) := hD
            obtain ⟨V_28, eV_29, h⟩ := ob_some h
            rw [Option.some.inj eV_29] at hP hD
            refine lv_iinc (v := zx2 + 1) (lv' := [(2, .int (zx2 + 1)), (0, .ref (b 0)), (3, .int zx3)]) hx hb dX4_pass_140 hl (k := 1) rfl rfl (by decide) rfl (fun ls hl => ?_)
            refine lv_iinc (v := zx3 + 1) (lv' := [(3, .int (zx3 + 1)), (2, .int (zx2 + 1)), (0, .ref (b 0))]) hx hb dX4_pass_143 hl (k := 2) rfl rfl (by decide) rfl (fun ls hl => ?_)
            refine lv_goto (tgt := 55) hx hb dX4_pass_146 (by decide) ?_
            exact ih (zx2 + 1) (zx3 + 1) _ _ _  ls h hP hD hS (lv_sub hl [2, 1, 0] rfl)
          · replace h := oi_f c_26 h
            refine lv_goto (tgt := 143) hx hb dX4_pass_129 (by decide) ?_
            refine lv_iinc (v := zx3 + 1) (lv' := [(3, .int (zx3 + 1)), (0, .ref (b 0)), (2, .int zx2)]) hx hb dX4_pass_143 hl (k := 2) rfl rfl (by decide) rfl (fun ls hl => ?_)
            refine lv_goto (tgt := 55) hx hb dX4_pass_146 (by decide) ?_
            exact ih zx2 (zx3 + 1) _ _ _  ls h hP hD hS (lv_sub hl [1, 2, 0] rfl)
      · replace h := oi_f c_12 h
        refine lv_aload_n hx hb dX4_pass_74 rfl (lv_at hl 0 rfl) ?_
        refine va_get (D := D) (ci := 4) (v := .ref (b 14)) (C := RX4) (T := TX4) (N := 28) hx hb hts hinX4 hown hK hP 0 rfl rfl 14 (by decide) (hts _ (List.mem_of_getElem? (i := 3) rfl)) (fun _ h9 => h9) rfl dX4_pass_75 ?_
        refine lv_iload_n hx hb dX4_pass_78 rfl (lv_at hl 2 rfl) ?_
        obtain ⟨g_30, h⟩ := og_some h
        refine va_cald hx hb hK hP 13 3 rfl rfl g_30 dX4_pass_79 ?_
        refine lv_bipush (v := 117) hx hb dX4_pass_80 (by decide) ?_
        refine lv_icmp_eq (tgt := 88) hx hb dX4_pass_82 (by decide) (fun c_31 => ?_) (fun c_31 => ?_)
        · replace h := oi_t c_31 h
          refine lv_aload_n hx hb dX4_pass_88 rfl (lv_at hl 0 rfl) ?_
          refine va_get (D := D) (ci := 4) (v := .ref (b 16)) (C := RX4) (T := TX4) (N := 28) hx hb hts hinX4 hown hK hP 0 rfl rfl 16 (by decide) (hts _ (List.mem_of_getElem? (i := 4) rfl)) (fun _ h9 => h9) rfl dX4_pass_89 ?_
          refine lv_iload_n hx hb dX4_pass_92 rfl (lv_at hl 2 rfl) ?_
          obtain ⟨g_32, h⟩ := og_some h
          refine va_iald hx hb hK hP 15 0 rfl rfl g_32 dX4_pass_93 ?_
          refine lv_aload_n hx hb dX4_pass_94 rfl (lv_at hl 0 rfl) ?_
          refine va_get (D := D) (ci := 4) (v := .int (V.1 25)) (C := RX4) (T := TX4) (N := 28) hx hb hts hinX4 hown hK hP 0 rfl rfl 25 (by decide) (hts _ (List.mem_of_getElem? (i := 1) rfl)) (fun _ h9 => h9) rfl dX4_pass_95 ?_
          refine lv_icmp_ge (tgt := 109) hx hb dX4_pass_98 (by decide) (fun c_33 => ?_) (fun c_33 => ?_)
          · replace h := oi_t c_33 h
            refine lv_aload_n hx hb dX4_pass_109 rfl (lv_at hl 0 rfl) ?_
            refine va_get (D := D) (ci := 4) (v := .ref (b 16)) (C := RX4) (T := TX4) (N := 28) hx hb hts hinX4 hown hK hP 0 rfl rfl 16 (by decide) (hts _ (List.mem_of_getElem? (i := 4) rfl)) (fun _ h9 => h9) rfl dX4_pass_110 ?_
            refine lv_iload_n hx hb dX4_pass_113 rfl (lv_at hl 2 rfl) ?_
            obtain ⟨g_34, h⟩ := og_some h
            refine va_iald hx hb hK hP 15 0 rfl rfl g_34 dX4_pass_114 ?_
            refine lv_aload_n hx hb dX4_pass_115 rfl (lv_at hl 0 rfl) ?_
            refine va_get (D := D) (ci := 4) (v := .ref (b 13)) (C := RX4) (T := TX4) (N := 28) hx hb hts hinX4 hown hK hP 0 rfl rfl 13 (by decide) (hts _ (List.mem_of_getElem? (i := 5) rfl)) (fun _ h9 => h9) rfl dX4_pass_116 ?_
            refine lv_iload_n hx hb dX4_pass_119 rfl (lv_at hl 2 rfl) ?_
            obtain ⟨g_35, h⟩ := og_some h
            refine va_iald hx hb hK hP 12 0 rfl rfl g_35 dX4_pass_120 ?_
            refine lv_iadd hx hb dX4_pass_121 ?_
            refine lv_aload_n hx hb dX4_pass_122 rfl (lv_at hl 0 rfl) ?_
            refine va_get (D := D) (ci := 4) (v := .int (V.1 25)) (C := RX4) (T := TX4) (N := 28) hx hb hts hinX4 hown hK hP 0 rfl rfl 25 (by decide) (hts _ (List.mem_of_getElem? (i := 1) rfl)) (fun _ h9 => h9) rfl dX4_pass_123 ?_
            refine lv_icmp_le (tgt := 132) hx hb dX4_pass_126 (by decide) (fun c_36 => ?_) (fun c_36 => ?_)
            · replace h := oi_t c_36 h
              refine lv_aload_n hx hb dX4_pass_132 rfl (lv_at hl 0 rfl) ?_
              refine va_get (D := D) (ci := 4) (v := .ref (b 14)) (C := RX4) (T := TX4) (N := 28) hx hb hts hinX4 hown hK hP 0 rfl rfl 14 (by decide) (hts _ (List.mem_of_getElem? (i := 3) rfl)) (fun _ h9 => h9) rfl dX4_pass_133 ?_
              refine lv_iload_n hx hb dX4_pass_136 rfl (lv_at hl 2 rfl) ?_
              refine lv_bipush (v := 100) hx hb dX4_pass_137 (by decide) ?_
              obtain ⟨g_37, h⟩ := og_some h
              refine va_cast hx hb hK hP hD hS 13 3 rfl rfl g_37 dX4_pass_139 (fun H locs hP hD hS => ?_)
              replace hP : va_P D xcl (rW cy b (rar V 14 (zx3).toNatClampNeg (vp_nar .char 100))) H := hP
              replace hD : va_D A (rW cy b (rar V 14 (zx3).toNatClampNeg (vp_nar .char 100))) := hD
              obtain ⟨V_38, eV_39, h⟩ := ob_some h
              rw [Option.some.inj eV_39] at hP hD
              refine lv_iinc (v := zx2 + 1) (lv' := [(2, .int (zx2 + 1)), (0, .ref (b 0)), (3, .int zx3)]) hx hb dX4_pass_140 hl (k := 1) rfl rfl (by decide) rfl (fun ls hl => ?_)
              refine lv_iinc (v := zx3 + 1) (lv' := [(3, .int (zx3 + 1)), (2, .int (zx2 + 1)), (0, .ref (b 0))]) hx hb dX4_pass_143 hl (k := 2) rfl rfl (by decide) rfl (fun ls hl => ?_)
              refine lv_goto (tgt := 55) hx hb dX4_pass_146 (by decide) ?_
              exact ih (zx2 + 1) (zx3 + 1) _ _ _  ls h hP hD hS (lv_sub hl [2, 1, 0] rfl)
            · replace h := oi_f c_36 h
              refine lv_goto (tgt := 143) hx hb dX4_pass_129 (by decide) ?_
              refine lv_iinc (v := zx3 + 1) (lv' := [(3, .int (zx3 + 1)), (0, .ref (b 0)), (2, .int zx2)]) hx hb dX4_pass_143 hl (k := 2) rfl rfl (by decide) rfl (fun ls hl => ?_)
              refine lv_goto (tgt := 55) hx hb dX4_pass_146 (by decide) ?_
              exact ih zx2 (zx3 + 1) _ _ _  ls h hP hD hS (lv_sub hl [1, 2, 0] rfl)
          · replace h := oi_f c_33 h
            refine lv_aload_n hx hb dX4_pass_101 rfl (lv_at hl 0 rfl) ?_
            refine va_get (D := D) (ci := 4) (v := .ref (b 14)) (C := RX4) (T := TX4) (N := 28) hx hb hts hinX4 hown hK hP 0 rfl rfl 14 (by decide) (hts _ (List.mem_of_getElem? (i := 3) rfl)) (fun _ h9 => h9) rfl dX4_pass_102 ?_
            refine lv_iload_n hx hb dX4_pass_105 rfl (lv_at hl 2 rfl) ?_
            refine lv_bipush (v := 117) hx hb dX4_pass_106 (by decide) ?_
            obtain ⟨g_40, h⟩ := og_some h
            refine va_cast hx hb hK hP hD hS 13 3 rfl rfl g_40 dX4_pass_108 (fun H locs hP hD hS => ?_)
            replace hP : va_P D xcl (rW cy b (rar V 14 (zx3).toNatClampNeg (vp_nar .char 117))) H := hP
            replace hD : va_D A (rW cy b (rar V 14 (zx3).toNatClampNeg (vp_nar .char 117))) := hD
            obtain ⟨V_41, eV_42, h⟩ := ob_some h
            rw [Option.some.inj eV_42] at hP hD
            refine lv_aload_n hx hb dX4_pass_109 rfl (lv_at hl 0 rfl) ?_
            refine va_get (D := D) (ci := 4) (v := .ref (b 16)) (C := RX4) (T := TX4) (N := 28) hx hb hts hinX4 hown hK hP 0 rfl rfl 16 (by decide) (hts _ (List.mem_of_getElem? (i := 4) rfl)) (fun _ h9 => h9) rfl dX4_pass_110 ?_
            refine lv_iload_n hx hb dX4_pass_113 rfl (lv_at hl 2 rfl) ?_
            obtain ⟨g_43, h⟩ := og_some h
            refine va_iald hx hb hK hP 15 0 rfl rfl g_43 dX4_pass_114 ?_
            refine lv_aload_n hx hb dX4_pass_115 rfl (lv_at hl 0 rfl) ?_
            refine va_get (D := D) (ci := 4) (v := .ref (b 13)) (C := RX4) (T := TX4) (N := 28) hx hb hts hinX4 hown hK hP 0 rfl rfl 13 (by decide) (hts _ (List.mem_of_getElem? (i := 5) rfl)) (fun _ h9 => h9) rfl dX4_pass_116 ?_
            refine lv_iload_n hx hb dX4_pass_119 rfl (lv_at hl 2 rfl) ?_
            obtain ⟨g_44, h⟩ := og_some h
            refine va_iald hx hb hK hP 12 0 rfl rfl g_44 dX4_pass_120 ?_
            refine lv_iadd hx hb dX4_pass_121 ?_
            refine lv_aload_n hx hb dX4_pass_122 rfl (lv_at hl 0 rfl) ?_
            refine va_get (D := D) (ci := 4) (v := .int (V_41.1 25)) (C := RX4) (T := TX4) (N := 28) hx hb hts hinX4 hown hK hP 0 rfl rfl 25 (by decide) (hts _ (List.mem_of_getElem? (i := 1) rfl)) (fun _ h9 => h9) rfl dX4_pass_123 ?_
            refine lv_icmp_le (tgt := 132) hx hb dX4_pass_126 (by decide) (fun c_45 => ?_) (fun c_45 => ?_)
            · replace h := oi_t c_45 h
              refine lv_aload_n hx hb dX4_pass_132 rfl (lv_at hl 0 rfl) ?_
              refine va_get (D := D) (ci := 4) (v := .ref (b 14)) (C := RX4) (T := TX4) (N := 28) hx hb hts hinX4 hown hK hP 0 rfl rfl 14 (by decide) (hts _ (List.mem_of_getElem? (i := 3) rfl)) (fun _ h9 => h9) rfl dX4_pass_133 ?_
              refine lv_iload_n hx hb dX4_pass_136 rfl (lv_at hl 2 rfl) ?_
              refine lv_bipush (v := 100) hx hb dX4_pass_137 (by decide) ?_
              obtain ⟨g_46, h⟩ := og_some h
              refine va_cast hx hb hK hP hD hS 13 3 rfl rfl g_46 dX4_pass_139 (fun H locs hP hD hS => ?_)
              replace hP : va_P D xcl (rW cy b (rar V_41 14 (zx3).toNatClampNeg (vp_nar .char 100))) H := hP
              replace hD : va_D A (rW cy b (rar V_41 14 (zx3).toNatClampNeg (vp_nar .char 100))) := hD
              obtain ⟨V_47, eV_48, h⟩ := ob_some h
              rw [Option.some.inj eV_48] at hP hD
              refine lv_iinc (v := zx2 + 1) (lv' := [(2, .int (zx2 + 1)), (0, .ref (b 0)), (3, .int zx3)]) hx hb dX4_pass_140 hl (k := 1) rfl rfl (by decide) rfl (fun ls hl => ?_)
              refine lv_iinc (v := zx3 + 1) (lv' := [(3, .int (zx3 + 1)), (2, .int (zx2 + 1)), (0, .ref (b 0))]) hx hb dX4_pass_143 hl (k := 2) rfl rfl (by decide) rfl (fun ls hl => ?_)
              refine lv_goto (tgt := 55) hx hb dX4_pass_146 (by decide) ?_
              exact ih (zx2 + 1) (zx3 + 1) _ _ _  ls h hP hD hS (lv_sub hl [2, 1, 0] rfl)
            · replace h := oi_f c_45 h
              refine lv_goto (tgt := 143) hx hb dX4_pass_129 (by decide) ?_
              refine lv_iinc (v := zx3 + 1) (lv' := [(3, .int (zx3 + 1)), (0, .ref (b 0)), (2, .int zx2)]) hx hb dX4_pass_143 hl (k := 2) rfl rfl (by decide) rfl (fun ls hl => ?_)
              refine lv_goto (tgt := 55) hx hb dX4_pass_146 (by decide) ?_
              exact ih zx2 (zx3 + 1) _ _ _  ls h hP hD hS (lv_sub hl [1, 2, 0] rfl)
        · replace h := oi_f c_31 h
          refine lv_goto (tgt := 143) hx hb dX4_pass_85 (by decide) ?_
          refine lv_iinc (v := zx3 + 1) (lv' := [(3, .int (zx3 + 1)), (0, .ref (b 0)), (2, .int zx2)]) hx hb dX4_pass_143 hl (k := 2) rfl rfl (by decide) rfl (fun ls hl => ?_)
          refine lv_goto (tgt := 55) hx hb dX4_pass_146 (by decide) ?_
          exact ih zx2 (zx3 + 1) _ _ _  ls h hP hD hS (lv_sub hl [1, 2, 0] rfl)
set_option maxHeartbeats 4000000 in
set_option maxRecDepth 100000 in
theorem c_X4_pass (l : Launch) (D : va_G) (cy : Nat → ClassId) (b : Nat → Nat) (V : RV) (sz : Nat) (p1 : Int32) {res : Int32 × RV} (h : f_X4_pass V p1 = some res) : Met l yX4_pass wsX4_pass ({ frames := 1, cells := 0, slots := 0, locals := 22 } : Room) (va_Pc [.ref (b 0), .int p1] (zJ sz (rI D cy b V))) (va_Qi (fun r (_ : Unit) => r = res.1) (fun _ t => va_P D xcl (rW cy b res.2) t.heap ∧ va_D (va_A (rW cy b V) sz) (rW cy b res.2)) (va_A (rW cy b V) sz)) 0 0 (va_A (rW cy b V) sz) := by
  refine Met.ofW (cc := cX4_pass) (maxL := 4) (ret := (some .int)) (by decide) rfl ?_
  intro p e s m args below meth c s₁ B hml hv
  obtain ⟨rfl, hsz, hP, hK, hD0⟩ := hv
  have hx := B.exec
  have hb := B.bytes
  have hr := B.returns
  have hts := atoms_spec (ws := wsX4_pass) B.pre
  have hown : s.vm.findClass RX4 = some m.cls := findClass_of_methodNamed B.named
  have hlocks := B.notSynchronized
  subst hsz
  have hD := hD0.self (sz := s.heap.size)
  generalize hAe : va_A (rW cy b V) s.heap.size = A at hD ⊢
  have hA : ∀ q : Nat, s.heap.size ≤ q → A q := fun q h => by rw [← hAe]; exact Or.inr h
  have hS : va_S A s.heap s.heap [] := va_S.rf
  have hl := lv_entry ([.ref (b 0), .int p1]) (n := 4) (Nat.le_of_ble_eq_true rfl)
  rw [lg_entry_eq]
  generalize (lg_sl ([.ref (b 0), .int p1]) ++ List.replicate (4 - (lg_sl ([.ref (b 0), .int p1])).length) Slot.unset).toArray = ls at hl ⊢
  have hl : lv_has ls 4 [(0, .ref (b 0)), (1, .int p1)] := hl
  have hinX4 : ∀ w ∈ wsX40, w ∈ wsX4_pass := (fun _ h => (List.mem_cons_of_mem _ (List.mem_append_right _ h)))
  revert hP hS
  intro hP hS
  refine lv_aload_n hx hb dX4_pass_0 rfl (lv_at hl 0 rfl) ?_
  refine lv_iload_n hx hb dX4_pass_1 rfl (lv_at hl 1 rfl) ?_
  refine lv_iconst (v := 1) hx hb dX4_pass_2 (by decide) ?_
  refine lv_sipush (v := 240) hx hb dX4_pass_3 (by decide) ?_
  obtain ⟨u_1, hg_2, h⟩ := ob_some h
  refine zcSi (W.runS (As := [.int p1, .int 1, .int 240]) (rest := [.ref (b 0)]) ⟨hx, hb, hml, hown, hts⟩ (c_X4_in l p1 1 240 hg_2) (va_cwS 3 hts gX4_pass_X4_in rfl rfl rfl hd_X4_in ⟨Nat.le_of_ble_eq_true rfl, Nat.le_of_ble_eq_true rfl⟩) ⟨zT_blind, zT_at⟩ rfl rfl hl.1 rfl (lv_room (Nat.le_of_ble_eq_true rfl)) dX4_pass_6 ⟨Nat.le_of_ble_eq_true rfl, Nat.le_of_ble_eq_true rfl⟩) ?_
  refine lv_if_ne (tgt := 16) hx hb dX4_pass_9 (by decide) (fun c_3 => ?_) (fun c_3 => ?_)
  · replace h := oi_f c_3 h
    refine lv_aload_n hx hb dX4_pass_16 rfl (lv_at hl 0 rfl) ?_
    refine va_get (D := D) (ci := 4) (v := .int (V.1 25)) (C := RX4) (T := TX4) (N := 28) hx hb hts hinX4 hown hK hP 0 rfl rfl 25 (by decide) (hts _ (List.mem_of_getElem? (i := 1) rfl)) (fun _ h9 => h9) rfl dX4_pass_17 ?_
    refine lv_iload_n hx hb dX4_pass_20 rfl (lv_at hl 1 rfl) ?_
    refine lv_iadd hx hb dX4_pass_21 ?_
    refine lv_sipush (v := 1440) hx hb dX4_pass_22 (by decide) ?_
    refine lv_icmp_le (tgt := 32) hx hb dX4_pass_25 (by decide) (fun c_4 => ?_) (fun c_4 => ?_)
    · replace h := oi_t c_4 h
      refine lv_iconst (v := 0) hx hb dX4_pass_32 (by decide) ?_
      obtain ⟨u_5, hg_6, h⟩ := ob_some h
      refine zcWi (va_runV (As := [.int 0]) (rest := []) ⟨hx, hb, hml, hown, hts⟩ (c_X4_fails l D cy b V _ 0 hg_6) (cwV 1 hts gX4_pass_X4_fails rfl rfl rfl hd_X4_fails ⟨Nat.le_of_ble_eq_true rfl, Nat.le_of_ble_eq_true rfl⟩) ⟨(zJ_blind rI_blind), va_recv hK hP (ci := 4) (q0 := 0) rfl rfl, (zJ_at (rI_at hP hK hD))⟩ rfl rfl hl.1 rfl (lv_room (Nat.le_of_ble_eq_true rfl)) dX4_pass_33 ⟨Nat.le_of_ble_eq_true rfl, Nat.le_of_ble_eq_true rfl⟩) hS (z_free hD hS hA) (fun H locs hP hD hS => ?_)
      refine lv_if_eq (tgt := 41) hx hb dX4_pass_36 (by decide) (fun c_7 => ?_) (fun c_7 => ?_)
      · replace h := oi_t c_7 h
        refine lv_aload_n hx hb dX4_pass_41 rfl (lv_at hl 0 rfl) ?_
        refine lv_dup hx hb dX4_pass_42 rfl ?_
        refine va_get (D := D) (ci := 4) (v := .int (u_5.2.1 25)) (C := RX4) (T := TX4) (N := 28) hx hb hts hinX4 hown hK hP 0 rfl rfl 25 (by decide) (hts _ (List.mem_of_getElem? (i := 1) rfl)) (fun _ h9 => h9) rfl dX4_pass_43 ?_
        refine lv_iload_n hx hb dX4_pass_46 rfl (lv_at hl 1 rfl) ?_
        refine lv_iadd hx hb dX4_pass_47 ?_
        refine va_put (D := D) (ci := 4) (v := .int ((u_5.2.1 25) + p1)) (ty := .int) (C := RX4) (T := TX4) (N := 28) hx hb hts hinX4 tyX4 tyX4_ok nmX4 hown hK hP hD hS 0 rfl rfl 25 (by decide) (hts _ (List.mem_of_getElem? (i := 1) rfl)) (fun _ h9 => h9) rfl (by decide +kernel) rfl rfl (Nat.le_of_ble_eq_true rfl) dX4_pass_48 (fun H locs hP hD hS => ?_)
        replace hP : va_P D xcl (rW cy b (rsc u_5.2 25 ((u_5.2.1 25) + p1))) H := hP
        replace hD : va_D A (rW cy b (rsc u_5.2 25 ((u_5.2.1 25) + p1))) := hD
        obtain ⟨V_8, eV_9, h⟩ := ob_some h
        rw [Option.some.inj eV_9] at hP hD
        refine lv_iconst (v := 0) hx hb dX4_pass_51 (by decide) ?_
        refine lv_istore_n (lv' := [(2, .int 0), (0, .ref (b 0)), (1, .int p1)]) hx hb dX4_pass_52 rfl hl (by decide) rfl (fun ls hl => ?_)
        refine lv_iconst (v := 0) hx hb dX4_pass_53 (by decide) ?_
        refine lv_istore_n (lv' := [(3, .int 0), (2, .int 0), (0, .ref (b 0)), (1, .int p1)]) hx hb dX4_pass_54 rfl hl (by decide) rfl (fun ls hl => ?_)
        exact k_X4_pass_55 hx hb hr hts hml hown hlocks hK hA _ _ 0 0 _ _ _  ls h hP hD hS (lv_sub hl [2, 1, 0] rfl)
      · replace h := oi_f c_7 h
        refine lv_iconst (v := 0) hx hb dX4_pass_39 (by decide) ?_
        have h9 := Option.some.inj h
        subst h9
        exact W.iret (v := 0) hx hb hr (fun t ht hW => ⟨⟨0, (), rfl, rfl, ⟨by rw [ht]; exact hP, hD⟩⟩, hS.F ht⟩) hS.2.2 dX4_pass_40 hlocks
    · replace h := oi_f c_4 h
      refine lv_iconst (v := 2) hx hb dX4_pass_28 (by decide) ?_
      refine lv_goto (tgt := 33) hx hb dX4_pass_29 (by decide) ?_
      obtain ⟨u_49, hg_50, h⟩ := ob_some h
      refine zcWi (va_runV (As := [.int 2]) (rest := []) ⟨hx, hb, hml, hown, hts⟩ (c_X4_fails l D cy b V _ 2 hg_50) (cwV 1 hts gX4_pass_X4_fails rfl rfl rfl hd_X4_fails ⟨Nat.le_of_ble_eq_true rfl, Nat.le_of_ble_eq_true rfl⟩) ⟨(zJ_blind rI_blind), va_recv hK hP (ci := 4) (q0 := 0) rfl rfl, (zJ_at (rI_at hP hK hD))⟩ rfl rfl hl.1 rfl (lv_room (Nat.le_of_ble_eq_true rfl)) dX4_pass_33 ⟨Nat.le_of_ble_eq_true rfl, Nat.le_of_ble_eq_true rfl⟩) hS (z_free hD hS hA) (fun H locs hP hD hS => ?_)
      refine lv_if_eq (tgt := 41) hx hb dX4_pass_36 (by decide) (fun c_51 => ?_) (fun c_51 => ?_)
      · replace h := oi_t c_51 h
        refine lv_aload_n hx hb dX4_pass_41 rfl (lv_at hl 0 rfl) ?_
        refine lv_dup hx hb dX4_pass_42 rfl ?_
        refine va_get (D := D) (ci := 4) (v := .int (u_49.2.1 25)) (C := RX4) (T := TX4) (N := 28) hx hb hts hinX4 hown hK hP 0 rfl rfl 25 (by decide) (hts _ (List.mem_of_getElem? (i := 1) rfl)) (fun _ h9 => h9) rfl dX4_pass_43 ?_
        refine lv_iload_n hx hb dX4_pass_46 rfl (lv_at hl 1 rfl) ?_
        refine lv_iadd hx hb dX4_pass_47 ?_
        refine va_put (D := D) (ci := 4) (v := .int ((u_49.2.1 25) + p1)) (ty := .int) (C := RX4) (T := TX4) (N := 28) hx hb hts hinX4 tyX4 tyX4_ok nmX4 hown hK hP hD hS 0 rfl rfl 25 (by decide) (hts _ (List.mem_of_getElem? (i := 1) rfl)) (fun _ h9 => h9) rfl (by decide +kernel) rfl rfl (Nat.le_of_ble_eq_true rfl) dX4_pass_48 (fun H locs hP hD hS => ?_)
        replace hP : va_P D xcl (rW cy b (rsc u_49.2 25 ((u_49.2.1 25) + p1))) H := hP
        replace hD : va_D A (rW cy b (rsc u_49.2 25 ((u_49.2.1 25) + p1))) := hD
        obtain ⟨V_52, eV_53, h⟩ := ob_some h
        rw [Option.some.inj eV_53] at hP hD
        refine lv_iconst (v := 0) hx hb dX4_pass_51 (by decide) ?_
        refine lv_istore_n (lv' := [(2, .int 0), (0, .ref (b 0)), (1, .int p1)]) hx hb dX4_pass_52 rfl hl (by decide) rfl (fun ls hl => ?_)
        refine lv_iconst (v := 0) hx hb dX4_pass_53 (by decide) ?_
        refine lv_istore_n (lv' := [(3, .int 0), (2, .int 0), (0, .ref (b 0)), (1, .int p1)]) hx hb dX4_pass_54 rfl hl (by decide) rfl (fun ls hl => ?_)
        exact k_X4_pass_55 hx hb hr hts hml hown hlocks hK hA _ _ 0 0 _ _ _  ls h hP hD hS (lv_sub hl [2, 1, 0] rfl)
      · replace h := oi_f c_51 h
        refine lv_iconst (v := 0) hx hb dX4_pass_39 (by decide) ?_
        have h9 := Option.some.inj h
        subst h9
        exact W.iret (v := 0) hx hb hr (fun t ht hW => ⟨⟨0, (), rfl, rfl, ⟨by rw [ht]; exact hP, hD⟩⟩, hS.F ht⟩) hS.2.2 dX4_pass_40 hlocks
  · replace h := oi_t c_3 h
    refine lv_iconst (v := 1) hx hb dX4_pass_12 (by decide) ?_
    refine lv_goto (tgt := 33) hx hb dX4_pass_13 (by decide) ?_
    obtain ⟨u_54, hg_55, h⟩ := ob_some h
    refine zcWi (va_runV (As := [.int 1]) (rest := []) ⟨hx, hb, hml, hown, hts⟩ (c_X4_fails l D cy b V _ 1 hg_55) (cwV 1 hts gX4_pass_X4_fails rfl rfl rfl hd_X4_fails ⟨Nat.le_of_ble_eq_true rfl, Nat.le_of_ble_eq_true rfl⟩) ⟨(zJ_blind rI_blind), va_recv hK hP (ci := 4) (q0 := 0) rfl rfl, (zJ_at (rI_at hP hK hD))⟩ rfl rfl hl.1 rfl (lv_room (Nat.le_of_ble_eq_true rfl)) dX4_pass_33 ⟨Nat.le_of_ble_eq_true rfl, Nat.le_of_ble_eq_true rfl⟩) hS (z_free hD hS hA) (fun H locs hP hD hS => ?_)
    refine lv_if_eq (tgt := 41) hx hb dX4_pass_36 (by decide) (fun c_56 => ?_) (fun c_56 => ?_)
    · replace h := oi_t c_56 h
      refine lv_aload_n hx hb dX4_pass_41 rfl (lv_at hl 0 rfl) ?_
      refine lv_dup hx hb dX4_pass_42 rfl ?_
      refine va_get (D := D) (ci := 4) (v := .int (u_54.2.1 25)) (C := RX4) (T := TX4) (N := 28) hx hb hts hinX4 hown hK hP 0 rfl rfl 25 (by decide) (hts _ (List.mem_of_getElem? (i := 1) rfl)) (fun _ h9 => h9) rfl dX4_pass_43 ?_
      refine lv_iload_n hx hb dX4_pass_46 rfl (lv_at hl 1 rfl) ?_
      refine lv_iadd hx hb dX4_pass_47 ?_
      refine va_put (D := D) (ci := 4) (v := .int ((u_54.2.1 25) + p1)) (ty := .int) (C := RX4) (T := TX4) (N := 28) hx hb hts hinX4 tyX4 tyX4_ok nmX4 hown hK hP hD hS 0 rfl rfl 25 (by decide) (hts _ (List.mem_of_getElem? (i := 1) rfl)) (fun _ h9 => h9) rfl (by decide +kernel) rfl rfl (Nat.le_of_ble_eq_true rfl) dX4_pass_48 (fun H locs hP hD hS => ?_)
      replace hP : va_P D xcl (rW cy b (rsc u_54.2 25 ((u_54.2.1 25) + p1))) H := hP
      replace hD : va_D A (rW cy b (rsc u_54.2 25 ((u_54.2.1 25) + p1))) := hD
      obtain ⟨V_57, eV_58, h⟩ := ob_some h
      rw [Option.some.inj eV_58] at hP hD
      refine lv_iconst (v := 0) hx hb dX4_pass_51 (by decide) ?_
      refine lv_istore_n (lv' := [(2, .int 0), (0, .ref (b 0)), (1, .int p1)]) hx hb dX4_pass_52 rfl hl (by decide) rfl (fun ls hl => ?_)
      refine lv_iconst (v := 0) hx hb dX4_pass_53 (by decide) ?_
      refine lv_istore_n (lv' := [(3, .int 0), (2, .int 0), (0, .ref (b 0)), (1, .int p1)]) hx hb dX4_pass_54 rfl hl (by decide) rfl (fun ls hl => ?_)
      exact k_X4_pass_55 hx hb hr hts hml hown hlocks hK hA _ _ 0 0 _ _ _  ls h hP hD hS (lv_sub hl [2, 1, 0] rfl)
    · replace h := oi_f c_56 h
      refine lv_iconst (v := 0) hx hb dX4_pass_39 (by decide) ?_
      have h9 := Option.some.inj h
      subst h9
      exact W.iret (v := 0) hx hb hr (fun t ht hW => ⟨⟨0, (), rfl, rfl, ⟨by rw [ht]; exact hP, hD⟩⟩, hS.F ht⟩) hS.2.2 dX4_pass_40 hlocks
def f_X4_now (V : RV)  : Option (Int32 × RV) := ob (f_X4_tells V (V.1 25)) (fun u_1 => some (u_1.1, u_1.2))
theorem hd_X4_now : yX4_now.cls = RX4 ∧ yX4_now.cls ≠ "java/lang/invoke/MethodHandle" ∧ yX4_now.cls ≠ "java/lang/invoke/VarHandle" ∧ (parseMethodDescriptor yX4_now.desc).map (fun d => d.parameters.length) = some 0 := by decide +kernel
set_option maxHeartbeats 4000000 in
set_option maxRecDepth 100000 in
theorem c_X4_now (l : Launch) (D : va_G) (cy : Nat → ClassId) (b : Nat → Nat) (V : RV) (sz : Nat)  {res : Int32 × RV} (h : f_X4_now V  = some res) : Met l yX4_now wsX4_now ({ frames := 1, cells := 0, slots := 0, locals := 21 } : Room) (va_Pc [.ref (b 0)] (zJ sz (rI D cy b V))) (va_Qi (fun r (_ : Unit) => r = res.1) (fun _ t => va_P D xcl (rW cy b res.2) t.heap ∧ va_D (va_A (rW cy b V) sz) (rW cy b res.2)) (va_A (rW cy b V) sz)) 0 0 (va_A (rW cy b V) sz) := by
  refine Met.ofW (cc := cX4_now) (maxL := 1) (ret := (some .int)) (by decide) rfl ?_
  intro p e s m args below meth c s₁ B hml hv
  obtain ⟨rfl, hsz, hP, hK, hD0⟩ := hv
  have hx := B.exec
  have hb := B.bytes
  have hr := B.returns
  have hts := atoms_spec (ws := wsX4_now) B.pre
  have hown : s.vm.findClass RX4 = some m.cls := findClass_of_methodNamed B.named
  have hlocks := B.notSynchronized
  subst hsz
  have hD := hD0.self (sz := s.heap.size)
  generalize hAe : va_A (rW cy b V) s.heap.size = A at hD ⊢
  have hA : ∀ q : Nat, s.heap.size ≤ q → A q := fun q h => by rw [← hAe]; exact Or.inr h
  have hS : va_S A s.heap s.heap [] := va_S.rf
  have hl := lv_entry ([.ref (b 0)]) (n := 1) (Nat.le_of_ble_eq_true rfl)
  rw [lg_entry_eq]
  generalize (lg_sl ([.ref (b 0)]) ++ List.replicate (1 - (lg_sl ([.ref (b 0)])).length) Slot.unset).toArray = ls at hl ⊢
  have hl : lv_has ls 1 [(0, .ref (b 0))] := hl
  have hinX4 : ∀ w ∈ wsX40, w ∈ wsX4_now := (fun _ h => (List.mem_cons_of_mem _ (List.mem_append_right _ h)))
  revert hP hS
  intro hP hS
  refine lv_aload_n hx hb dX4_now_0 rfl (lv_at hl 0 rfl) ?_
  refine lv_aload_n hx hb dX4_now_1 rfl (lv_at hl 0 rfl) ?_
  refine va_get (D := D) (ci := 4) (v := .int (V.1 25)) (C := RX4) (T := TX4) (N := 28) hx hb hts hinX4 hown hK hP 0 rfl rfl 25 (by decide) (hts _ (List.mem_of_getElem? (i := 1) rfl)) (fun _ h9 => h9) rfl dX4_now_2 ?_
  obtain ⟨u_1, hg_2, h⟩ := ob_some h
  refine zcWi (va_runV (As := [.int (V.1 25)]) (rest := []) ⟨hx, hb, hml, hown, hts⟩ (c_X4_tells l D cy b V _ (V.1 25) hg_2) (cwV 1 hts gX4_now_X4_tells rfl rfl rfl hd_X4_tells ⟨Nat.le_of_ble_eq_true rfl, Nat.le_of_ble_eq_true rfl⟩) ⟨(zJ_blind rI_blind), va_recv hK hP (ci := 4) (q0 := 0) rfl rfl, (zJ_at (rI_at hP hK hD))⟩ rfl rfl hl.1 rfl (lv_room (Nat.le_of_ble_eq_true rfl)) dX4_now_5 ⟨Nat.le_of_ble_eq_true rfl, Nat.le_of_ble_eq_true rfl⟩) hS (z_free hD hS hA) (fun H locs hP hD hS => ?_)
  have h9 := Option.some.inj h
  subst h9
  exact W.iret (v := u_1.1) hx hb hr (fun t ht hW => ⟨⟨u_1.1, (), rfl, rfl, ⟨by rw [ht]; exact hP, hD⟩⟩, hS.F ht⟩) hS.2.2 dX4_now_8 hlocks
def f_X4_cranes (V : RV)  : Option (Int32 × RV) := ob (f_X4_tells V (V.1 0)) (fun u_1 => some (u_1.1, u_1.2))
theorem hd_X4_cranes : yX4_cranes.cls = RX4 ∧ yX4_cranes.cls ≠ "java/lang/invoke/MethodHandle" ∧ yX4_cranes.cls ≠ "java/lang/invoke/VarHandle" ∧ (parseMethodDescriptor yX4_cranes.desc).map (fun d => d.parameters.length) = some 0 := by decide +kernel
set_option maxHeartbeats 4000000 in
set_option maxRecDepth 100000 in
theorem c_X4_cranes (l : Launch) (D : va_G) (cy : Nat → ClassId) (b : Nat → Nat) (V : RV) (sz : Nat)  {res : Int32 × RV} (h : f_X4_cranes V  = some res) : Met l yX4_cranes wsX4_cranes ({ frames := 1, cells := 0, slots := 0, locals := 21 } : Room) (va_Pc [.ref (b 0)] (zJ sz (rI D cy b V))) (va_Qi (fun r (_ : Unit) => r = res.1) (fun _ t => va_P D xcl (rW cy b res.2) t.heap ∧ va_D (va_A (rW cy b V) sz) (rW cy b res.2)) (va_A (rW cy b V) sz)) 0 0 (va_A (rW cy b V) sz) := by
  refine Met.ofW (cc := cX4_cranes) (maxL := 1) (ret := (some .int)) (by decide) rfl ?_
  intro p e s m args below meth c s₁ B hml hv
  obtain ⟨rfl, hsz, hP, hK, hD0⟩ := hv
  have hx := B.exec
  have hb := B.bytes
  have hr := B.returns
  have hts := atoms_spec (ws := wsX4_cranes) B.pre
  have hown : s.vm.findClass RX4 = some m.cls := findClass_of_methodNamed B.named
  have hlocks := B.notSynchronized
  subst hsz
  have hD := hD0.self (sz := s.heap.size)
  generalize hAe : va_A (rW cy b V) s.heap.size = A at hD ⊢
  have hA : ∀ q : Nat, s.heap.size ≤ q → A q := fun q h => by rw [← hAe]; exact Or.inr h
  have hS : va_S A s.heap s.heap [] := va_S.rf
  have hl := lv_entry ([.ref (b 0)]) (n := 1) (Nat.le_of_ble_eq_true rfl)
  rw [lg_entry_eq]
  generalize (lg_sl ([.ref (b 0)]) ++ List.replicate (1 - (lg_sl ([.ref (b 0)])).length) Slot.unset).toArray = ls at hl ⊢
  have hl : lv_has ls 1 [(0, .ref (b 0))] := hl
  have hinX4 : ∀ w ∈ wsX40, w ∈ wsX4_cranes := (fun _ h => (List.mem_cons_of_mem _ (List.mem_append_right _ h)))
  revert hP hS
  intro hP hS
  refine lv_aload_n hx hb dX4_cranes_0 rfl (lv_at hl 0 rfl) ?_
  refine lv_aload_n hx hb dX4_cranes_1 rfl (lv_at hl 0 rfl) ?_
  refine va_get (D := D) (ci := 4) (v := .int (V.1 0)) (C := RX4) (T := TX4) (N := 28) hx hb hts hinX4 hown hK hP 0 rfl rfl 0 (by decide) (hts _ (List.mem_of_getElem? (i := 1) rfl)) (fun _ h9 => h9) rfl dX4_cranes_2 ?_
  obtain ⟨u_1, hg_2, h⟩ := ob_some h
  refine zcWi (va_runV (As := [.int (V.1 0)]) (rest := []) ⟨hx, hb, hml, hown, hts⟩ (c_X4_tells l D cy b V _ (V.1 0) hg_2) (cwV 1 hts gX4_cranes_X4_tells rfl rfl rfl hd_X4_tells ⟨Nat.le_of_ble_eq_true rfl, Nat.le_of_ble_eq_true rfl⟩) ⟨(zJ_blind rI_blind), va_recv hK hP (ci := 4) (q0 := 0) rfl rfl, (zJ_at (rI_at hP hK hD))⟩ rfl rfl hl.1 rfl (lv_room (Nat.le_of_ble_eq_true rfl)) dX4_cranes_5 ⟨Nat.le_of_ble_eq_true rfl, Nat.le_of_ble_eq_true rfl⟩) hS (z_free hD hS hA) (fun H locs hP hD hS => ?_)
  have h9 := Option.some.inj h
  subst h9
  exact W.iret (v := u_1.1) hx hb hr (fun t ht hW => ⟨⟨u_1.1, (), rfl, rfl, ⟨by rw [ht]; exact hP, hD⟩⟩, hS.F ht⟩) hS.2.2 dX4_cranes_8 hlocks
def f_X4_lifts (V : RV)  : Option (Int32 × RV) := ob (f_X4_tells V (V.1 7)) (fun u_1 => some (u_1.1, u_1.2))
theorem hd_X4_lifts : yX4_lifts.cls = RX4 ∧ yX4_lifts.cls ≠ "java/lang/invoke/MethodHandle" ∧ yX4_lifts.cls ≠ "java/lang/invoke/VarHandle" ∧ (parseMethodDescriptor yX4_lifts.desc).map (fun d => d.parameters.length) = some 0 := by decide +kernel
set_option maxHeartbeats 4000000 in
set_option maxRecDepth 100000 in
theorem c_X4_lifts (l : Launch) (D : va_G) (cy : Nat → ClassId) (b : Nat → Nat) (V : RV) (sz : Nat)  {res : Int32 × RV} (h : f_X4_lifts V  = some res) : Met l yX4_lifts wsX4_lifts ({ frames := 1, cells := 0, slots := 0, locals := 21 } : Room) (va_Pc [.ref (b 0)] (zJ sz (rI D cy b V))) (va_Qi (fun r (_ : Unit) => r = res.1) (fun _ t => va_P D xcl (rW cy b res.2) t.heap ∧ va_D (va_A (rW cy b V) sz) (rW cy b res.2)) (va_A (rW cy b V) sz)) 0 0 (va_A (rW cy b V) sz) := by
  refine Met.ofW (cc := cX4_lifts) (maxL := 1) (ret := (some .int)) (by decide) rfl ?_
  intro p e s m args below meth c s₁ B hml hv
  obtain ⟨rfl, hsz, hP, hK, hD0⟩ := hv
  have hx := B.exec
  have hb := B.bytes
  have hr := B.returns
  have hts := atoms_spec (ws := wsX4_lifts) B.pre
  have hown : s.vm.findClass RX4 = some m.cls := findClass_of_methodNamed B.named
  have hlocks := B.notSynchronized
  subst hsz
  have hD := hD0.self (sz := s.heap.size)
  generalize hAe : va_A (rW cy b V) s.heap.size = A at hD ⊢
  have hA : ∀ q : Nat, s.heap.size ≤ q → A q := fun q h => by rw [← hAe]; exact Or.inr h
  have hS : va_S A s.heap s.heap [] := va_S.rf
  have hl := lv_entry ([.ref (b 0)]) (n := 1) (Nat.le_of_ble_eq_true rfl)
  rw [lg_entry_eq]
  generalize (lg_sl ([.ref (b 0)]) ++ List.replicate (1 - (lg_sl ([.ref (b 0)])).length) Slot.unset).toArray = ls at hl ⊢
  have hl : lv_has ls 1 [(0, .ref (b 0))] := hl
  have hinX4 : ∀ w ∈ wsX40, w ∈ wsX4_lifts := (fun _ h => (List.mem_cons_of_mem _ (List.mem_append_right _ h)))
  revert hP hS
  intro hP hS
  refine lv_aload_n hx hb dX4_lifts_0 rfl (lv_at hl 0 rfl) ?_
  refine lv_aload_n hx hb dX4_lifts_1 rfl (lv_at hl 0 rfl) ?_
  refine va_get (D := D) (ci := 4) (v := .int (V.1 7)) (C := RX4) (T := TX4) (N := 28) hx hb hts hinX4 hown hK hP 0 rfl rfl 7 (by decide) (hts _ (List.mem_of_getElem? (i := 1) rfl)) (fun _ h9 => h9) rfl dX4_lifts_2 ?_
  obtain ⟨u_1, hg_2, h⟩ := ob_some h
  refine zcWi (va_runV (As := [.int (V.1 7)]) (rest := []) ⟨hx, hb, hml, hown, hts⟩ (c_X4_tells l D cy b V _ (V.1 7) hg_2) (cwV 1 hts gX4_lifts_X4_tells rfl rfl rfl hd_X4_tells ⟨Nat.le_of_ble_eq_true rfl, Nat.le_of_ble_eq_true rfl⟩) ⟨(zJ_blind rI_blind), va_recv hK hP (ci := 4) (q0 := 0) rfl rfl, (zJ_at (rI_at hP hK hD))⟩ rfl rfl hl.1 rfl (lv_room (Nat.le_of_ble_eq_true rfl)) dX4_lifts_5 ⟨Nat.le_of_ble_eq_true rfl, Nat.le_of_ble_eq_true rfl⟩) hS (z_free hD hS hA) (fun H locs hP hD hS => ?_)
  have h9 := Option.some.inj h
  subst h9
  exact W.iret (v := u_1.1) hx hb hr (fun t ht hW => ⟨⟨u_1.1, (), rfl, rfl, ⟨by rw [ht]; exact hP, hD⟩⟩, hS.F ht⟩) hS.2.2 dX4_lifts_8 hlocks
def f_X4_limit (V : RV) (p1 : Int32) (p2 : Int32) (p3 : Int32) : Option (Int32 × RV) := ob (f_X4_isNoCrane V p1) (fun u_1 => oi (u_1 = 0) (ob (f_X4_isPlace p2 p3) (fun u_4 => oi (u_4 = 0) (ob (f_X4_fails V 2) (fun u_7 => oi (u_7.1 = 0) (ob (f_X4_reaches u_7.2 p1 p2 p3) (fun u_10 => oi (u_10 = 0) (some (0, u_7.2)) (ob (f_X4_limitAt u_7.2 p1 p2 p3) (fun u_13 => some (u_13, u_7.2))))) (some (0, u_7.2)))) (ob (f_X4_fails V 0) (fun u_15 => oi (u_15.1 = 0) (ob (f_X4_reaches u_15.2 p1 p2 p3) (fun u_18 => oi (u_18 = 0) (some (0, u_15.2)) (ob (f_X4_limitAt u_15.2 p1 p2 p3) (fun u_21 => some (u_21, u_15.2))))) (some (0, u_15.2)))))) (ob (f_X4_fails V 1) (fun u_23 => oi (u_23.1 = 0) (ob (f_X4_reaches u_23.2 p1 p2 p3) (fun u_26 => oi (u_26 = 0) (some (0, u_23.2)) (ob (f_X4_limitAt u_23.2 p1 p2 p3) (fun u_29 => some (u_29, u_23.2))))) (some (0, u_23.2)))))
theorem hd_X4_limit : yX4_limit.cls = RX4 ∧ yX4_limit.cls ≠ "java/lang/invoke/MethodHandle" ∧ yX4_limit.cls ≠ "java/lang/invoke/VarHandle" ∧ (parseMethodDescriptor yX4_limit.desc).map (fun d => d.parameters.length) = some 3 := by decide +kernel
set_option maxHeartbeats 4000000 in
set_option maxRecDepth 100000 in
theorem c_X4_limit (l : Launch) (D : va_G) (cy : Nat → ClassId) (b : Nat → Nat) (V : RV) (sz : Nat) (p1 : Int32) (p2 : Int32) (p3 : Int32) {res : Int32 × RV} (h : f_X4_limit V p1 p2 p3 = some res) : Met l yX4_limit wsX4_limit ({ frames := 2, cells := 0, slots := 0, locals := 48 } : Room) (va_Pc [.ref (b 0), .int p1, .int p2, .int p3] (zJ sz (rI D cy b V))) (va_Qi (fun r (_ : Unit) => r = res.1) (fun _ t => va_P D xcl (rW cy b res.2) t.heap ∧ va_D (va_A (rW cy b V) sz) (rW cy b res.2)) (va_A (rW cy b V) sz)) 0 0 (va_A (rW cy b V) sz) := by
  refine Met.ofW (cc := cX4_limit) (maxL := 4) (ret := (some .int)) (by decide) rfl ?_
  intro p e s m args below meth c s₁ B hml hv
  obtain ⟨rfl, hsz, hP, hK, hD0⟩ := hv
  have hx := B.exec
  have hb := B.bytes
  have hr := B.returns
  have hts := atoms_spec (ws := wsX4_limit) B.pre
  have hown : s.vm.findClass RX4 = some m.cls := findClass_of_methodNamed B.named
  have hlocks := B.notSynchronized
  subst hsz
  have hD := hD0.self (sz := s.heap.size)
  generalize hAe : va_A (rW cy b V) s.heap.size = A at hD ⊢
  have hA : ∀ q : Nat, s.heap.size ≤ q → A q := fun q h => by rw [← hAe]; exact Or.inr h
  have hS : va_S A s.heap s.heap [] := va_S.rf
  have hl := lv_entry ([.ref (b 0), .int p1, .int p2, .int p3]) (n := 4) (Nat.le_of_ble_eq_true rfl)
  rw [lg_entry_eq]
  generalize (lg_sl ([.ref (b 0), .int p1, .int p2, .int p3]) ++ List.replicate (4 - (lg_sl ([.ref (b 0), .int p1, .int p2, .int p3])).length) Slot.unset).toArray = ls at hl ⊢
  have hl : lv_has ls 4 [(0, .ref (b 0)), (1, .int p1), (2, .int p2), (3, .int p3)] := hl
  revert hP hS
  intro hP hS
  refine lv_aload_n hx hb dX4_limit_0 rfl (lv_at hl 0 rfl) ?_
  refine lv_aload_n hx hb dX4_limit_1 rfl (lv_at hl 0 rfl) ?_
  refine lv_iload_n hx hb dX4_limit_2 rfl (lv_at hl 1 rfl) ?_
  obtain ⟨u_1, hg_2, h⟩ := ob_some h
  refine zcSi (W.runV (As := [.int p1]) (rest := [.ref (b 0)]) ⟨hx, hb, hml, hown, hts⟩ (c_X4_isNoCrane l D cy b V p1 hg_2) (cwV 1 hts gX4_limit_X4_isNoCrane rfl rfl rfl hd_X4_isNoCrane ⟨Nat.le_of_ble_eq_true rfl, Nat.le_of_ble_eq_true rfl⟩) ⟨rI_blind, va_recv hK hP (ci := 4) (q0 := 0) rfl rfl, (rI_at hP hK hD)⟩ rfl rfl hl.1 rfl (lv_room (Nat.le_of_ble_eq_true rfl)) dX4_limit_3 ⟨Nat.le_of_ble_eq_true rfl, Nat.le_of_ble_eq_true rfl⟩) ?_
  refine lv_if_eq (tgt := 13) hx hb dX4_limit_6 (by decide) (fun c_3 => ?_) (fun c_3 => ?_)
  · replace h := oi_t c_3 h
    refine lv_iload_n hx hb dX4_limit_13 rfl (lv_at hl 2 rfl) ?_
    refine lv_iload_n hx hb dX4_limit_14 rfl (lv_at hl 3 rfl) ?_
    obtain ⟨u_4, hg_5, h⟩ := ob_some h
    refine zcSi (W.runS (As := [.int p2, .int p3]) (rest := [.ref (b 0)]) ⟨hx, hb, hml, hown, hts⟩ (c_X4_isPlace l p2 p3 hg_5) (va_cwS 2 hts gX4_limit_X4_isPlace rfl rfl rfl hd_X4_isPlace ⟨Nat.le_of_ble_eq_true rfl, Nat.le_of_ble_eq_true rfl⟩) ⟨zT_blind, zT_at⟩ rfl rfl hl.1 rfl (lv_room (Nat.le_of_ble_eq_true rfl)) dX4_limit_15 ⟨Nat.le_of_ble_eq_true rfl, Nat.le_of_ble_eq_true rfl⟩) ?_
    refine lv_if_eq (tgt := 25) hx hb dX4_limit_18 (by decide) (fun c_6 => ?_) (fun c_6 => ?_)
    · replace h := oi_t c_6 h
      refine lv_iconst (v := 2) hx hb dX4_limit_25 (by decide) ?_
      obtain ⟨u_7, hg_8, h⟩ := ob_some h
      refine zcWi (va_runV (As := [.int 2]) (rest := []) ⟨hx, hb, hml, hown, hts⟩ (c_X4_fails l D cy b V _ 2 hg_8) (cwV 1 hts gX4_limit_X4_fails rfl rfl rfl hd_X4_fails ⟨Nat.le_of_ble_eq_true rfl, Nat.le_of_ble_eq_true rfl⟩) ⟨(zJ_blind rI_blind), va_recv hK hP (ci := 4) (q0 := 0) rfl rfl, (zJ_at (rI_at hP hK hD))⟩ rfl rfl hl.1 rfl (lv_room (Nat.le_of_ble_eq_true rfl)) dX4_limit_26 ⟨Nat.le_of_ble_eq_true rfl, Nat.le_of_ble_eq_true rfl⟩) hS (z_free hD hS hA) (fun H locs hP hD hS => ?_)
      refine lv_if_ne (tgt := 42) hx hb dX4_limit_29 (by decide) (fun c_9 => ?_) (fun c_9 => ?_)
      · replace h := oi_f c_9 h
        refine lv_iconst (v := 0) hx hb dX4_limit_42 (by decide) ?_
        refine lv_goto (tgt := 53) hx hb dX4_limit_43 (by decide) ?_
        have h9 := Option.some.inj h
        subst h9
        exact W.iret (v := 0) hx hb hr (fun t ht hW => ⟨⟨0, (), rfl, rfl, ⟨by rw [ht]; exact hP, hD⟩⟩, hS.F ht⟩) hS.2.2 dX4_limit_53 hlocks
      · replace h := oi_t c_9 h
        refine lv_aload_n hx hb dX4_limit_32 rfl (lv_at hl 0 rfl) ?_
        refine lv_iload_n hx hb dX4_limit_33 rfl (lv_at hl 1 rfl) ?_
        refine lv_iload_n hx hb dX4_limit_34 rfl (lv_at hl 2 rfl) ?_
        refine lv_iload_n hx hb dX4_limit_35 rfl (lv_at hl 3 rfl) ?_
        obtain ⟨u_10, hg_11, h⟩ := ob_some h
        refine zcSi (W.runV (As := [.int p1, .int p2, .int p3]) (rest := []) ⟨hx, hb, hml, hown, hts⟩ (c_X4_reaches l D cy b u_7.2 p1 p2 p3 hg_11) (cwV 3 hts gX4_limit_X4_reaches rfl rfl rfl hd_X4_reaches ⟨Nat.le_of_ble_eq_true rfl, Nat.le_of_ble_eq_true rfl⟩) ⟨rI_blind, va_recv hK hP (ci := 4) (q0 := 0) rfl rfl, (rI_at hP hK hD)⟩ rfl rfl hl.1 rfl (lv_room (Nat.le_of_ble_eq_true rfl)) dX4_limit_36 ⟨Nat.le_of_ble_eq_true rfl, Nat.le_of_ble_eq_true rfl⟩) ?_
        refine lv_if_ne (tgt := 46) hx hb dX4_limit_39 (by decide) (fun c_12 => ?_) (fun c_12 => ?_)
        · replace h := oi_f c_12 h
          refine lv_aload_n hx hb dX4_limit_46 rfl (lv_at hl 0 rfl) ?_
          refine lv_iload_n hx hb dX4_limit_47 rfl (lv_at hl 1 rfl) ?_
          refine lv_iload_n hx hb dX4_limit_48 rfl (lv_at hl 2 rfl) ?_
          refine lv_iload_n hx hb dX4_limit_49 rfl (lv_at hl 3 rfl) ?_
          obtain ⟨u_13, hg_14, h⟩ := ob_some h
          refine zcSi (W.runV (As := [.int p1, .int p2, .int p3]) (rest := []) ⟨hx, hb, hml, hown, hts⟩ (c_X4_limitAt l D cy b u_7.2 p1 p2 p3 hg_14) (cwV 3 hts gX4_limit_X4_limitAt rfl rfl rfl hd_X4_limitAt ⟨Nat.le_of_ble_eq_true rfl, Nat.le_of_ble_eq_true rfl⟩) ⟨rI_blind, va_recv hK hP (ci := 4) (q0 := 0) rfl rfl, (rI_at hP hK hD)⟩ rfl rfl hl.1 rfl (lv_room (Nat.le_of_ble_eq_true rfl)) dX4_limit_50 ⟨Nat.le_of_ble_eq_true rfl, Nat.le_of_ble_eq_true rfl⟩) ?_
          have h9 := Option.some.inj h
          subst h9
          exact W.iret (v := u_13) hx hb hr (fun t ht hW => ⟨⟨u_13, (), rfl, rfl, ⟨by rw [ht]; exact hP, hD⟩⟩, hS.F ht⟩) hS.2.2 dX4_limit_53 hlocks
        · replace h := oi_t c_12 h
          refine lv_iconst (v := 0) hx hb dX4_limit_42 (by decide) ?_
          refine lv_goto (tgt := 53) hx hb dX4_limit_43 (by decide) ?_
          have h9 := Option.some.inj h
          subst h9
          exact W.iret (v := 0) hx hb hr (fun t ht hW => ⟨⟨0, (), rfl, rfl, ⟨by rw [ht]; exact hP, hD⟩⟩, hS.F ht⟩) hS.2.2 dX4_limit_53 hlocks
    · replace h := oi_f c_6 h
      refine lv_iconst (v := 0) hx hb dX4_limit_21 (by decide) ?_
      refine lv_goto (tgt := 26) hx hb dX4_limit_22 (by decide) ?_
      obtain ⟨u_15, hg_16, h⟩ := ob_some h
      refine zcWi (va_runV (As := [.int 0]) (rest := []) ⟨hx, hb, hml, hown, hts⟩ (c_X4_fails l D cy b V _ 0 hg_16) (cwV 1 hts gX4_limit_X4_fails rfl rfl rfl hd_X4_fails ⟨Nat.le_of_ble_eq_true rfl, Nat.le_of_ble_eq_true rfl⟩) ⟨(zJ_blind rI_blind), va_recv hK hP (ci := 4) (q0 := 0) rfl rfl, (zJ_at (rI_at hP hK hD))⟩ rfl rfl hl.1 rfl (lv_room (Nat.le_of_ble_eq_true rfl)) dX4_limit_26 ⟨Nat.le_of_ble_eq_true rfl, Nat.le_of_ble_eq_true rfl⟩) hS (z_free hD hS hA) (fun H locs hP hD hS => ?_)
      refine lv_if_ne (tgt := 42) hx hb dX4_limit_29 (by decide) (fun c_17 => ?_) (fun c_17 => ?_)
      · replace h := oi_f c_17 h
        refine lv_iconst (v := 0) hx hb dX4_limit_42 (by decide) ?_
        refine lv_goto (tgt := 53) hx hb dX4_limit_43 (by decide) ?_
        have h9 := Option.some.inj h
        subst h9
        exact W.iret (v := 0) hx hb hr (fun t ht hW => ⟨⟨0, (), rfl, rfl, ⟨by rw [ht]; exact hP, hD⟩⟩, hS.F ht⟩) hS.2.2 dX4_limit_53 hlocks
      · replace h := oi_t c_17 h
        refine lv_aload_n hx hb dX4_limit_32 rfl (lv_at hl 0 rfl) ?_
        refine lv_iload_n hx hb dX4_limit_33 rfl (lv_at hl 1 rfl) ?_
        refine lv_iload_n hx hb dX4_limit_34 rfl (lv_at hl 2 rfl) ?_
        refine lv_iload_n hx hb dX4_limit_35 rfl (lv_at hl 3 rfl) ?_
        obtain ⟨u_18, hg_19, h⟩ := ob_some h
        refine zcSi (W.runV (As := [.int p1, .int p2, .int p3]) (rest := []) ⟨hx, hb, hml, hown, hts⟩ (c_X4_reaches l D cy b u_15.2 p1 p2 p3 hg_19) (cwV 3 hts gX4_limit_X4_reaches rfl rfl rfl hd_X4_reaches ⟨Nat.le_of_ble_eq_true rfl, Nat.le_of_ble_eq_true rfl⟩) ⟨rI_blind, va_recv hK hP (ci := 4) (q0 := 0) rfl rfl, (rI_at hP hK hD)⟩ rfl rfl hl.1 rfl (lv_room (Nat.le_of_ble_eq_true rfl)) dX4_limit_36 ⟨Nat.le_of_ble_eq_true rfl, Nat.le_of_ble_eq_true rfl⟩) ?_
        refine lv_if_ne (tgt := 46) hx hb dX4_limit_39 (by decide) (fun c_20 => ?_) (fun c_20 => ?_)
        · replace h := oi_f c_20 h
          refine lv_aload_n hx hb dX4_limit_46 rfl (lv_at hl 0 rfl) ?_
          refine lv_iload_n hx hb dX4_limit_47 rfl (lv_at hl 1 rfl) ?_
          refine lv_iload_n hx hb dX4_limit_48 rfl (lv_at hl 2 rfl) ?_
          refine lv_iload_n hx hb dX4_limit_49 rfl (lv_at hl 3 rfl) ?_
          obtain ⟨u_21, hg_22, h⟩ := ob_some h
          refine zcSi (W.runV (As := [.int p1, .int p2, .int p3]) (rest := []) ⟨hx, hb, hml, hown, hts⟩ (c_X4_limitAt l D cy b u_15.2 p1 p2 p3 hg_22) (cwV 3 hts gX4_limit_X4_limitAt rfl rfl rfl hd_X4_limitAt ⟨Nat.le_of_ble_eq_true rfl, Nat.le_of_ble_eq_true rfl⟩) ⟨rI_blind, va_recv hK hP (ci := 4) (q0 := 0) rfl rfl, (rI_at hP hK hD)⟩ rfl rfl hl.1 rfl (lv_room (Nat.le_of_ble_eq_true rfl)) dX4_limit_50 ⟨Nat.le_of_ble_eq_true rfl, Nat.le_of_ble_eq_true rfl⟩) ?_
          have h9 := Option.some.inj h
          subst h9
          exact W.iret (v := u_21) hx hb hr (fun t ht hW => ⟨⟨u_21, (), rfl, rfl, ⟨by rw [ht]; exact hP, hD⟩⟩, hS.F ht⟩) hS.2.2 dX4_limit_53 hlocks
        · replace h := oi_t c_20 h
          refine lv_iconst (v := 0) hx hb dX4_limit_42 (by decide) ?_
          refine lv_goto (tgt := 53) hx hb dX4_limit_43 (by decide) ?_
          have h9 := Option.some.inj h
          subst h9
          exact W.iret (v := 0) hx hb hr (fun t ht hW => ⟨⟨0, (), rfl, rfl, ⟨by rw [ht]; exact hP, hD⟩⟩, hS.F ht⟩) hS.2.2 dX4_limit_53 hlocks
  · replace h := oi_f c_3 h
    refine lv_iconst (v := 1) hx hb dX4_limit_9 (by decide) ?_
    refine lv_goto (tgt := 26) hx hb dX4_limit_10 (by decide) ?_
    obtain ⟨u_23, hg_24, h⟩ := ob_some h
    refine zcWi (va_runV (As := [.int 1]) (rest := []) ⟨hx, hb, hml, hown, hts⟩ (c_X4_fails l D cy b V _ 1 hg_24) (cwV 1 hts gX4_limit_X4_fails rfl rfl rfl hd_X4_fails ⟨Nat.le_of_ble_eq_true rfl, Nat.le_of_ble_eq_true rfl⟩) ⟨(zJ_blind rI_blind), va_recv hK hP (ci := 4) (q0 := 0) rfl rfl, (zJ_at (rI_at hP hK hD))⟩ rfl rfl hl.1 rfl (lv_room (Nat.le_of_ble_eq_true rfl)) dX4_limit_26 ⟨Nat.le_of_ble_eq_true rfl, Nat.le_of_ble_eq_true rfl⟩) hS (z_free hD hS hA) (fun H locs hP hD hS => ?_)
    refine lv_if_ne (tgt := 42) hx hb dX4_limit_29 (by decide) (fun c_25 => ?_) (fun c_25 => ?_)
    · replace h := oi_f c_25 h
      refine lv_iconst (v := 0) hx hb dX4_limit_42 (by decide) ?_
      refine lv_goto (tgt := 53) hx hb dX4_limit_43 (by decide) ?_
      have h9 := Option.some.inj h
      subst h9
      exact W.iret (v := 0) hx hb hr (fun t ht hW => ⟨⟨0, (), rfl, rfl, ⟨by rw [ht]; exact hP, hD⟩⟩, hS.F ht⟩) hS.2.2 dX4_limit_53 hlocks
    · replace h := oi_t c_25 h
      refine lv_aload_n hx hb dX4_limit_32 rfl (lv_at hl 0 rfl) ?_
      refine lv_iload_n hx hb dX4_limit_33 rfl (lv_at hl 1 rfl) ?_
      refine lv_iload_n hx hb dX4_limit_34 rfl (lv_at hl 2 rfl) ?_
      refine lv_iload_n hx hb dX4_limit_35 rfl (lv_at hl 3 rfl) ?_
      obtain ⟨u_26, hg_27, h⟩ := ob_some h
      refine zcSi (W.runV (As := [.int p1, .int p2, .int p3]) (rest := []) ⟨hx, hb, hml, hown, hts⟩ (c_X4_reaches l D cy b u_23.2 p1 p2 p3 hg_27) (cwV 3 hts gX4_limit_X4_reaches rfl rfl rfl hd_X4_reaches ⟨Nat.le_of_ble_eq_true rfl, Nat.le_of_ble_eq_true rfl⟩) ⟨rI_blind, va_recv hK hP (ci := 4) (q0 := 0) rfl rfl, (rI_at hP hK hD)⟩ rfl rfl hl.1 rfl (lv_room (Nat.le_of_ble_eq_true rfl)) dX4_limit_36 ⟨Nat.le_of_ble_eq_true rfl, Nat.le_of_ble_eq_true rfl⟩) ?_
      refine lv_if_ne (tgt := 46) hx hb dX4_limit_39 (by decide) (fun c_28 => ?_) (fun c_28 => ?_)
      · replace h := oi_f c_28 h
        refine lv_aload_n hx hb dX4_limit_46 rfl (lv_at hl 0 rfl) ?_
        refine lv_iload_n hx hb dX4_limit_47 rfl (lv_at hl 1 rfl) ?_
        refine lv_iload_n hx hb dX4_limit_48 rfl (lv_at hl 2 rfl) ?_
        refine lv_iload_n hx hb dX4_limit_49 rfl (lv_at hl 3 rfl) ?_
        obtain ⟨u_29, hg_30, h⟩ := ob_some h
        refine zcSi (W.runV (As := [.int p1, .int p2, .int p3]) (rest := []) ⟨hx, hb, hml, hown, hts⟩ (c_X4_limitAt l D cy b u_23.2 p1 p2 p3 hg_30) (cwV 3 hts gX4_limit_X4_limitAt rfl rfl rfl hd_X4_limitAt ⟨Nat.le_of_ble_eq_true rfl, Nat.le_of_ble_eq_true rfl⟩) ⟨rI_blind, va_recv hK hP (ci := 4) (q0 := 0) rfl rfl, (rI_at hP hK hD)⟩ rfl rfl hl.1 rfl (lv_room (Nat.le_of_ble_eq_true rfl)) dX4_limit_50 ⟨Nat.le_of_ble_eq_true rfl, Nat.le_of_ble_eq_true rfl⟩) ?_
        have h9 := Option.some.inj h
        subst h9
        exact W.iret (v := u_29) hx hb hr (fun t ht hW => ⟨⟨u_29, (), rfl, rfl, ⟨by rw [ht]; exact hP, hD⟩⟩, hS.F ht⟩) hS.2.2 dX4_limit_53 hlocks
      · replace h := oi_t c_28 h
        refine lv_iconst (v := 0) hx hb dX4_limit_42 (by decide) ?_
        refine lv_goto (tgt := 53) hx hb dX4_limit_43 (by decide) ?_
        have h9 := Option.some.inj h
        subst h9
        exact W.iret (v := 0) hx hb hr (fun t ht hW => ⟨⟨0, (), rfl, rfl, ⟨by rw [ht]; exact hP, hD⟩⟩, hS.F ht⟩) hS.2.2 dX4_limit_53 hlocks
def f_X4_both_35 : RV → Nat → Int32 → Int32 → Int32 → Int32 → Option (Int32 × RV)
  | _, 0, _, _, _, _ => none
  | V, fu + 1, zx1, zx2, zx3, zx4 => oi (1600 ≤ zx4) (some (zx3, V)) (ob (f_X4_reaches V zx1 (zx4 - zx4 / 40 * 40) (zx4 / 40)) (fun u_8 => oi (u_8 = 0) (f_X4_both_35 V fu zx1 zx2 (zx3 + 0) (zx4 + 1)) (ob (f_X4_reaches V zx2 (zx4 - zx4 / 40 * 40) (zx4 / 40)) (fun u_11 => oi (u_11 = 0) (f_X4_both_35 V fu zx1 zx2 (zx3 + 0) (zx4 + 1)) (f_X4_both_35 V fu zx1 zx2 (zx3 + 1) (zx4 + 1))))))
def f_X4_both (V : RV) (p1 : Int32) (p2 : Int32) : Option (Int32 × RV) := ob (f_X4_isNoCrane V p1) (fun u_1 => oi (u_1 = 0) (ob (f_X4_isNoCrane V p2) (fun u_14 => oi (u_14 = 0) (ob (f_X4_fails V 0) (fun u_17 => oi (u_17.1 = 0) (f_X4_both_35 u_17.2 FU p1 p2 0 0) (some (0, u_17.2)))) (ob (f_X4_fails V 1) (fun u_20 => oi (u_20.1 = 0) (f_X4_both_35 u_20.2 FU p1 p2 0 0) (some (0, u_20.2)))))) (ob (f_X4_fails V 1) (fun u_4 => oi (u_4.1 = 0) (f_X4_both_35 u_4.2 FU p1 p2 0 0) (some (0, u_4.2)))))
theorem hd_X4_both : yX4_both.cls = RX4 ∧ yX4_both.cls ≠ "java/lang/invoke/MethodHandle" ∧ yX4_both.cls ≠ "java/lang/invoke/VarHandle" ∧ (parseMethodDescriptor yX4_both.desc).map (fun d => d.parameters.length) = some 2 := by decide +kernel
set_option maxHeartbeats 4000000 in
set_option maxRecDepth 100000 in
theorem k_X4_both_35 {p : Program} {l : Launch} {e : Env} {s : State} {m : MethodId} {args : Array Value} {below : List Frame} {meth : Method} {c : Code} {D : va_G} {cy : Nat → ClassId} {b : Nat → Nat} {A : Nat → Prop} (hx : p.tables.exec = Jvm.exec) (hb : c.code = cX4_both) (hr : meth.sig.returnType = (some .int)) (hts : ∀ w ∈ wsX4_both, w.before args s = true) (hml : c.maxLocals = 5) (hown : s.vm.findClass RX4 = some m.cls) (hlocks : meth.locks = false) (hK : va_K D xcl (xty cy) s) (hA : ∀ q, s.heap.size ≤ q → A q) (res : Int32 × RV) : ∀ (fu : Nat) (zx1 : Int32) (zx2 : Int32) (zx3 : Int32) (zx4 : Int32) (V : RV) (H : Heap) (locs : List Loc)  (ls : Array Slot), f_X4_both_35 V fu zx1 zx2 zx3 zx4 = some res → va_P D xcl (rW cy b V) H → va_D A (rW cy b V) → va_S A s.heap H locs → lv_has ls 5 [(0, .ref (b 0)), (1, .int zx1), (2, .int zx2), (3, .int zx3), (4, .int zx4)] → W p l e ({ frames := 2, cells := 0, slots := 0, locals := 46 } : Room) s m args below meth c H locs 0 0 (MQ below (va_Qi (fun r (_ : Unit) => r = res.1) (fun _ t => va_P D xcl (rW cy b res.2) t.heap ∧ va_D A (rW cy b res.2)) A) args s 0 0 (A)) (F0 m 35 ls []) := by
  intro fu
  induction fu with
  | zero =>
    intro zx1 zx2 zx3 zx4 V H locs  ls h hP hD hS hl
    cases h
  | succ fu ih =>
    intro zx1 zx2 zx3 zx4 V H locs  ls h hP hD hS hl
    refine lv_iload hx hb dX4_both_35 (lv_at hl 4 rfl) ?_
    refine lv_sipush (v := 1600) hx hb dX4_both_37 (by decide) ?_
    refine lv_icmp_ge (tgt := 93) hx hb dX4_both_40 (by decide) (fun c_7 => ?_) (fun c_7 => ?_)
    · replace h := oi_t c_7 h
      refine lv_iload_n hx hb dX4_both_93 rfl (lv_at hl 3 rfl) ?_
      have h9 := Option.some.inj h
      subst h9
      exact W.iret (v := zx3) hx hb hr (fun t ht hW => ⟨⟨zx3, (), rfl, rfl, ⟨by rw [ht]; exact hP, hD⟩⟩, hS.F ht⟩) hS.2.2 dX4_both_94 hlocks
    · replace h := oi_f c_7 h
      refine lv_iload_n hx hb dX4_both_43 rfl (lv_at hl 3 rfl) ?_
      refine lv_aload_n hx hb dX4_both_44 rfl (lv_at hl 0 rfl) ?_
      refine lv_iload_n hx hb dX4_both_45 rfl (lv_at hl 1 rfl) ?_
      refine lv_iload hx hb dX4_both_46 (lv_at hl 4 rfl) ?_
      refine lv_bipush (v := 40) hx hb dX4_both_48 (by decide) ?_
      refine lv_irem hx hb dX4_both_50 (by decide) ?_
      refine lv_iload hx hb dX4_both_51 (lv_at hl 4 rfl) ?_
      refine lv_bipush (v := 40) hx hb dX4_both_53 (by decide) ?_
      refine lv_idiv hx hb dX4_both_55 (by decide) ?_
      obtain ⟨u_8, hg_9, h⟩ := ob_some h
      refine zcSi (W.runV (As := [.int zx1, .int (zx4 - zx4 / 40 * 40), .int (zx4 / 40)]) (rest := [.int zx3]) ⟨hx, hb, hml, hown, hts⟩ (c_X4_reaches l D cy b V zx1 (zx4 - zx4 / 40 * 40) (zx4 / 40) hg_9) (cwV 3 hts gX4_both_X4_reaches rfl rfl rfl hd_X4_reaches ⟨Nat.le_of_ble_eq_true rfl, Nat.le_of_ble_eq_true rfl⟩) ⟨rI_blind, va_recv hK hP (ci := 4) (q0 := 0) rfl rfl, (rI_at hP hK hD)⟩ rfl rfl hl.1 rfl (lv_room (Nat.le_of_ble_eq_true rfl)) dX4_both_56 ⟨Nat.le_of_ble_eq_true rfl, Nat.le_of_ble_eq_true rfl⟩) ?_
      refine lv_if_eq (tgt := 84) hx hb dX4_both_59 (by decide) (fun c_10 => ?_) (fun c_10 => ?_)
      · replace h := oi_t c_10 h
        refine lv_iconst (v := 0) hx hb dX4_both_84 (by decide) ?_
        refine lv_iadd hx hb dX4_both_85 ?_
        refine lv_istore_n (lv' := [(3, .int (zx3 + 0)), (0, .ref (b 0)), (1, .int zx1), (2, .int zx2), (4, .int zx4)]) hx hb dX4_both_86 rfl hl (by decide) rfl (fun ls hl => ?_)
        refine lv_iinc (v := zx4 + 1) (lv' := [(4, .int (zx4 + 1)), (3, .int (zx3 + 0)), (0, .ref (b 0)), (1, .int zx1), (2, .int zx2)]) hx hb dX4_both_87 hl (k := 4) rfl rfl (by decide) rfl (fun ls hl => ?_)
        refine lv_goto (tgt := 35) hx hb dX4_both_90 (by decide) ?_
        exact ih zx1 zx2 (zx3 + 0) (zx4 + 1) _ _ _  ls h hP hD hS (lv_sub hl [2, 3, 4, 1, 0] rfl)
      · replace h := oi_f c_10 h
        refine lv_aload_n hx hb dX4_both_62 rfl (lv_at hl 0 rfl) ?_
        refine lv_iload_n hx hb dX4_both_63 rfl (lv_at hl 2 rfl) ?_
        refine lv_iload hx hb dX4_both_64 (lv_at hl 4 rfl) ?_
        refine lv_bipush (v := 40) hx hb dX4_both_66 (by decide) ?_
        refine lv_irem hx hb dX4_both_68 (by decide) ?_
        refine lv_iload hx hb dX4_both_69 (lv_at hl 4 rfl) ?_
        refine lv_bipush (v := 40) hx hb dX4_both_71 (by decide) ?_
        refine lv_idiv hx hb dX4_both_73 (by decide) ?_
        obtain ⟨u_11, hg_12, h⟩ := ob_some h
        refine zcSi (W.runV (As := [.int zx2, .int (zx4 - zx4 / 40 * 40), .int (zx4 / 40)]) (rest := [.int zx3]) ⟨hx, hb, hml, hown, hts⟩ (c_X4_reaches l D cy b V zx2 (zx4 - zx4 / 40 * 40) (zx4 / 40) hg_12) (cwV 3 hts gX4_both_X4_reaches rfl rfl rfl hd_X4_reaches ⟨Nat.le_of_ble_eq_true rfl, Nat.le_of_ble_eq_true rfl⟩) ⟨rI_blind, va_recv hK hP (ci := 4) (q0 := 0) rfl rfl, (rI_at hP hK hD)⟩ rfl rfl hl.1 rfl (lv_room (Nat.le_of_ble_eq_true rfl)) dX4_both_74 ⟨Nat.le_of_ble_eq_true rfl, Nat.le_of_ble_eq_true rfl⟩) ?_
        refine lv_if_eq (tgt := 84) hx hb dX4_both_77 (by decide) (fun c_13 => ?_) (fun c_13 => ?_)
        · replace h := oi_t c_13 h
          refine lv_iconst (v := 0) hx hb dX4_both_84 (by decide) ?_
          refine lv_iadd hx hb dX4_both_85 ?_
          refine lv_istore_n (lv' := [(3, .int (zx3 + 0)), (0, .ref (b 0)), (1, .int zx1), (2, .int zx2), (4, .int zx4)]) hx hb dX4_both_86 rfl hl (by decide) rfl (fun ls hl => ?_)
          refine lv_iinc (v := zx4 + 1) (lv' := [(4, .int (zx4 + 1)), (3, .int (zx3 + 0)), (0, .ref (b 0)), (1, .int zx1), (2, .int zx2)]) hx hb dX4_both_87 hl (k := 4) rfl rfl (by decide) rfl (fun ls hl => ?_)
          refine lv_goto (tgt := 35) hx hb dX4_both_90 (by decide) ?_
          exact ih zx1 zx2 (zx3 + 0) (zx4 + 1) _ _ _  ls h hP hD hS (lv_sub hl [2, 3, 4, 1, 0] rfl)
        · replace h := oi_f c_13 h
          refine lv_iconst (v := 1) hx hb dX4_both_80 (by decide) ?_
          refine lv_goto (tgt := 85) hx hb dX4_both_81 (by decide) ?_
          refine lv_iadd hx hb dX4_both_85 ?_
          refine lv_istore_n (lv' := [(3, .int (zx3 + 1)), (0, .ref (b 0)), (1, .int zx1), (2, .int zx2), (4, .int zx4)]) hx hb dX4_both_86 rfl hl (by decide) rfl (fun ls hl => ?_)
          refine lv_iinc (v := zx4 + 1) (lv' := [(4, .int (zx4 + 1)), (3, .int (zx3 + 1)), (0, .ref (b 0)), (1, .int zx1), (2, .int zx2)]) hx hb dX4_both_87 hl (k := 4) rfl rfl (by decide) rfl (fun ls hl => ?_)
          refine lv_goto (tgt := 35) hx hb dX4_both_90 (by decide) ?_
          exact ih zx1 zx2 (zx3 + 1) (zx4 + 1) _ _ _  ls h hP hD hS (lv_sub hl [2, 3, 4, 1, 0] rfl)
set_option maxHeartbeats 4000000 in
set_option maxRecDepth 100000 in
theorem c_X4_both (l : Launch) (D : va_G) (cy : Nat → ClassId) (b : Nat → Nat) (V : RV) (sz : Nat) (p1 : Int32) (p2 : Int32) {res : Int32 × RV} (h : f_X4_both V p1 p2 = some res) : Met l yX4_both wsX4_both ({ frames := 2, cells := 0, slots := 0, locals := 46 } : Room) (va_Pc [.ref (b 0), .int p1, .int p2] (zJ sz (rI D cy b V))) (va_Qi (fun r (_ : Unit) => r = res.1) (fun _ t => va_P D xcl (rW cy b res.2) t.heap ∧ va_D (va_A (rW cy b V) sz) (rW cy b res.2)) (va_A (rW cy b V) sz)) 0 0 (va_A (rW cy b V) sz) := by
  refine Met.ofW (cc := cX4_both) (maxL := 5) (ret := (some .int)) (by decide) rfl ?_
  intro p e s m args below meth c s₁ B hml hv
  obtain ⟨rfl, hsz, hP, hK, hD0⟩ := hv
  have hx := B.exec
  have hb := B.bytes
  have hr := B.returns
  have hts := atoms_spec (ws := wsX4_both) B.pre
  have hown : s.vm.findClass RX4 = some m.cls := findClass_of_methodNamed B.named
  have hlocks := B.notSynchronized
  subst hsz
  have hD := hD0.self (sz := s.heap.size)
  generalize hAe : va_A (rW cy b V) s.heap.size = A at hD ⊢
  have hA : ∀ q : Nat, s.heap.size ≤ q → A q := fun q h => by rw [← hAe]; exact Or.inr h
  have hS : va_S A s.heap s.heap [] := va_S.rf
  have hl := lv_entry ([.ref (b 0), .int p1, .int p2]) (n := 5) (Nat.le_of_ble_eq_true rfl)
  rw [lg_entry_eq]
  generalize (lg_sl ([.ref (b 0), .int p1, .int p2]) ++ List.replicate (5 - (lg_sl ([.ref (b 0), .int p1, .int p2])).length) Slot.unset).toArray = ls at hl ⊢
  have hl : lv_has ls 5 [(0, .ref (b 0)), (1, .int p1), (2, .int p2)] := hl
  revert hP hS
  intro hP hS
  refine lv_aload_n hx hb dX4_both_0 rfl (lv_at hl 0 rfl) ?_
  refine lv_aload_n hx hb dX4_both_1 rfl (lv_at hl 0 rfl) ?_
  refine lv_iload_n hx hb dX4_both_2 rfl (lv_at hl 1 rfl) ?_
  obtain ⟨u_1, hg_2, h⟩ := ob_some h
  refine zcSi (W.runV (As := [.int p1]) (rest := [.ref (b 0)]) ⟨hx, hb, hml, hown, hts⟩ (c_X4_isNoCrane l D cy b V p1 hg_2) (cwV 1 hts gX4_both_X4_isNoCrane rfl rfl rfl hd_X4_isNoCrane ⟨Nat.le_of_ble_eq_true rfl, Nat.le_of_ble_eq_true rfl⟩) ⟨rI_blind, va_recv hK hP (ci := 4) (q0 := 0) rfl rfl, (rI_at hP hK hD)⟩ rfl rfl hl.1 rfl (lv_room (Nat.le_of_ble_eq_true rfl)) dX4_both_3 ⟨Nat.le_of_ble_eq_true rfl, Nat.le_of_ble_eq_true rfl⟩) ?_
  refine lv_if_ne (tgt := 17) hx hb dX4_both_6 (by decide) (fun c_3 => ?_) (fun c_3 => ?_)
  · replace h := oi_f c_3 h
    refine lv_iconst (v := 1) hx hb dX4_both_17 (by decide) ?_
    refine lv_goto (tgt := 22) hx hb dX4_both_18 (by decide) ?_
    obtain ⟨u_4, hg_5, h⟩ := ob_some h
    refine zcWi (va_runV (As := [.int 1]) (rest := []) ⟨hx, hb, hml, hown, hts⟩ (c_X4_fails l D cy b V _ 1 hg_5) (cwV 1 hts gX4_both_X4_fails rfl rfl rfl hd_X4_fails ⟨Nat.le_of_ble_eq_true rfl, Nat.le_of_ble_eq_true rfl⟩) ⟨(zJ_blind rI_blind), va_recv hK hP (ci := 4) (q0 := 0) rfl rfl, (zJ_at (rI_at hP hK hD))⟩ rfl rfl hl.1 rfl (lv_room (Nat.le_of_ble_eq_true rfl)) dX4_both_22 ⟨Nat.le_of_ble_eq_true rfl, Nat.le_of_ble_eq_true rfl⟩) hS (z_free hD hS hA) (fun H locs hP hD hS => ?_)
    refine lv_if_eq (tgt := 30) hx hb dX4_both_25 (by decide) (fun c_6 => ?_) (fun c_6 => ?_)
    · replace h := oi_t c_6 h
      refine lv_iconst (v := 0) hx hb dX4_both_30 (by decide) ?_
      refine lv_istore_n (lv' := [(3, .int 0), (0, .ref (b 0)), (1, .int p1), (2, .int p2)]) hx hb dX4_both_31 rfl hl (by decide) rfl (fun ls hl => ?_)
      refine lv_iconst (v := 0) hx hb dX4_both_32 (by decide) ?_
      refine lv_istore (lv' := [(4, .int 0), (3, .int 0), (0, .ref (b 0)), (1, .int p1), (2, .int p2)]) hx hb dX4_both_33 hl (by decide) rfl (fun ls hl => ?_)
      exact k_X4_both_35 hx hb hr hts hml hown hlocks hK hA _ _ p1 p2 0 0 _ _ _  ls h hP hD hS (lv_sub hl [2, 3, 4, 1, 0] rfl)
    · replace h := oi_f c_6 h
      refine lv_iconst (v := 0) hx hb dX4_both_28 (by decide) ?_
      have h9 := Option.some.inj h
      subst h9
      exact W.iret (v := 0) hx hb hr (fun t ht hW => ⟨⟨0, (), rfl, rfl, ⟨by rw [ht]; exact hP, hD⟩⟩, hS.F ht⟩) hS.2.2 dX4_both_29 hlocks
  · replace h := oi_t c_3 h
    refine lv_aload_n hx hb dX4_both_9 rfl (lv_at hl 0 rfl) ?_
    refine lv_iload_n hx hb dX4_both_10 rfl (lv_at hl 2 rfl) ?_
    obtain ⟨u_14, hg_15, h⟩ := ob_some h
    refine zcSi (W.runV (As := [.int p2]) (rest := [.ref (b 0)]) ⟨hx, hb, hml, hown, hts⟩ (c_X4_isNoCrane l D cy b V p2 hg_15) (cwV 1 hts gX4_both_X4_isNoCrane rfl rfl rfl hd_X4_isNoCrane ⟨Nat.le_of_ble_eq_true rfl, Nat.le_of_ble_eq_true rfl⟩) ⟨rI_blind, va_recv hK hP (ci := 4) (q0 := 0) rfl rfl, (rI_at hP hK hD)⟩ rfl rfl hl.1 rfl (lv_room (Nat.le_of_ble_eq_true rfl)) dX4_both_11 ⟨Nat.le_of_ble_eq_true rfl, Nat.le_of_ble_eq_true rfl⟩) ?_
    refine lv_if_eq (tgt := 21) hx hb dX4_both_14 (by decide) (fun c_16 => ?_) (fun c_16 => ?_)
    · replace h := oi_t c_16 h
      refine lv_iconst (v := 0) hx hb dX4_both_21 (by decide) ?_
      obtain ⟨u_17, hg_18, h⟩ := ob_some h
      refine zcWi (va_runV (As := [.int 0]) (rest := []) ⟨hx, hb, hml, hown, hts⟩ (c_X4_fails l D cy b V _ 0 hg_18) (cwV 1 hts gX4_both_X4_fails rfl rfl rfl hd_X4_fails ⟨Nat.le_of_ble_eq_true rfl, Nat.le_of_ble_eq_true rfl⟩) ⟨(zJ_blind rI_blind), va_recv hK hP (ci := 4) (q0 := 0) rfl rfl, (zJ_at (rI_at hP hK hD))⟩ rfl rfl hl.1 rfl (lv_room (Nat.le_of_ble_eq_true rfl)) dX4_both_22 ⟨Nat.le_of_ble_eq_true rfl, Nat.le_of_ble_eq_true rfl⟩) hS (z_free hD hS hA) (fun H locs hP hD hS => ?_)
      refine lv_if_eq (tgt := 30) hx hb dX4_both_25 (by decide) (fun c_19 => ?_) (fun c_19 => ?_)
      · replace h := oi_t c_19 h
        refine lv_iconst (v := 0) hx hb dX4_both_30 (by decide) ?_
        refine lv_istore_n (lv' := [(3, .int 0), (0, .ref (b 0)), (1, .int p1), (2, .int p2)]) hx hb dX4_both_31 rfl hl (by decide) rfl (fun ls hl => ?_)
        refine lv_iconst (v := 0) hx hb dX4_both_32 (by decide) ?_
        refine lv_istore (lv' := [(4, .int 0), (3, .int 0), (0, .ref (b 0)), (1, .int p1), (2, .int p2)]) hx hb dX4_both_33 hl (by decide) rfl (fun ls hl => ?_)
        exact k_X4_both_35 hx hb hr hts hml hown hlocks hK hA _ _ p1 p2 0 0 _ _ _  ls h hP hD hS (lv_sub hl [2, 3, 4, 1, 0] rfl)
      · replace h := oi_f c_19 h
        refine lv_iconst (v := 0) hx hb dX4_both_28 (by decide) ?_
        have h9 := Option.some.inj h
        subst h9
        exact W.iret (v := 0) hx hb hr (fun t ht hW => ⟨⟨0, (), rfl, rfl, ⟨by rw [ht]; exact hP, hD⟩⟩, hS.F ht⟩) hS.2.2 dX4_both_29 hlocks
    · replace h := oi_f c_16 h
      refine lv_iconst (v := 1) hx hb dX4_both_17 (by decide) ?_
      refine lv_goto (tgt := 22) hx hb dX4_both_18 (by decide) ?_
      obtain ⟨u_20, hg_21, h⟩ := ob_some h
      refine zcWi (va_runV (As := [.int 1]) (rest := []) ⟨hx, hb, hml, hown, hts⟩ (c_X4_fails l D cy b V _ 1 hg_21) (cwV 1 hts gX4_both_X4_fails rfl rfl rfl hd_X4_fails ⟨Nat.le_of_ble_eq_true rfl, Nat.le_of_ble_eq_true rfl⟩) ⟨(zJ_blind rI_blind), va_recv hK hP (ci := 4) (q0 := 0) rfl rfl, (zJ_at (rI_at hP hK hD))⟩ rfl rfl hl.1 rfl (lv_room (Nat.le_of_ble_eq_true rfl)) dX4_both_22 ⟨Nat.le_of_ble_eq_true rfl, Nat.le_of_ble_eq_true rfl⟩) hS (z_free hD hS hA) (fun H locs hP hD hS => ?_)
      refine lv_if_eq (tgt := 30) hx hb dX4_both_25 (by decide) (fun c_22 => ?_) (fun c_22 => ?_)
      · replace h := oi_t c_22 h
        refine lv_iconst (v := 0) hx hb dX4_both_30 (by decide) ?_
        refine lv_istore_n (lv' := [(3, .int 0), (0, .ref (b 0)), (1, .int p1), (2, .int p2)]) hx hb dX4_both_31 rfl hl (by decide) rfl (fun ls hl => ?_)
        refine lv_iconst (v := 0) hx hb dX4_both_32 (by decide) ?_
        refine lv_istore (lv' := [(4, .int 0), (3, .int 0), (0, .ref (b 0)), (1, .int p1), (2, .int p2)]) hx hb dX4_both_33 hl (by decide) rfl (fun ls hl => ?_)
        exact k_X4_both_35 hx hb hr hts hml hown hlocks hK hA _ _ p1 p2 0 0 _ _ _  ls h hP hD hS (lv_sub hl [2, 3, 4, 1, 0] rfl)
      · replace h := oi_f c_22 h
        refine lv_iconst (v := 0) hx hb dX4_both_28 (by decide) ?_
        have h9 := Option.some.inj h
        subst h9
        exact W.iret (v := 0) hx hb hr (fun t ht hW => ⟨⟨0, (), rfl, rfl, ⟨by rw [ht]; exact hP, hD⟩⟩, hS.F ht⟩) hS.2.2 dX4_both_29 hlocks
def f_X4_overlap (V : RV) (p1 : Int32) (p2 : Int32) : Option (Int32 × RV) := ob (f_X4_both V p1 p2) (fun u_1 => oi (u_1.1 ≤ 0) (some (0, u_1.2)) (some (1, u_1.2)))
theorem hd_X4_overlap : yX4_overlap.cls = RX4 ∧ yX4_overlap.cls ≠ "java/lang/invoke/MethodHandle" ∧ yX4_overlap.cls ≠ "java/lang/invoke/VarHandle" ∧ (parseMethodDescriptor yX4_overlap.desc).map (fun d => d.parameters.length) = some 2 := by decide +kernel
set_option maxHeartbeats 4000000 in
set_option maxRecDepth 100000 in
theorem c_X4_overlap (l : Launch) (D : va_G) (cy : Nat → ClassId) (b : Nat → Nat) (V : RV) (sz : Nat) (p1 : Int32) (p2 : Int32) {res : Int32 × RV} (h : f_X4_overlap V p1 p2 = some res) : Met l yX4_overlap wsX4_overlap ({ frames := 3, cells := 0, slots := 0, locals := 70 } : Room) (va_Pc [.ref (b 0), .int p1, .int p2] (zJ sz (rI D cy b V))) (va_Qi (fun r (_ : Unit) => r = res.1) (fun _ t => va_P D xcl (rW cy b res.2) t.heap ∧ va_D (va_A (rW cy b V) sz) (rW cy b res.2)) (va_A (rW cy b V) sz)) 0 0 (va_A (rW cy b V) sz) := by
  refine Met.ofW (cc := cX4_overlap) (maxL := 3) (ret := (some .boolean)) (by decide) rfl ?_
  intro p e s m args below meth c s₁ B hml hv
  obtain ⟨rfl, hsz, hP, hK, hD0⟩ := hv
  have hx := B.exec
  have hb := B.bytes
  have hr := B.returns
  have hts := atoms_spec (ws := wsX4_overlap) B.pre
  have hown : s.vm.findClass RX4 = some m.cls := findClass_of_methodNamed B.named
  have hlocks := B.notSynchronized
  subst hsz
  have hD := hD0.self (sz := s.heap.size)
  generalize hAe : va_A (rW cy b V) s.heap.size = A at hD ⊢
  have hA : ∀ q : Nat, s.heap.size ≤ q → A q := fun q h => by rw [← hAe]; exact Or.inr h
  have hS : va_S A s.heap s.heap [] := va_S.rf
  have hl := lv_entry ([.ref (b 0), .int p1, .int p2]) (n := 3) (Nat.le_of_ble_eq_true rfl)
  rw [lg_entry_eq]
  generalize (lg_sl ([.ref (b 0), .int p1, .int p2]) ++ List.replicate (3 - (lg_sl ([.ref (b 0), .int p1, .int p2])).length) Slot.unset).toArray = ls at hl ⊢
  have hl : lv_has ls 3 [(0, .ref (b 0)), (1, .int p1), (2, .int p2)] := hl
  revert hP hS
  intro hP hS
  refine lv_aload_n hx hb dX4_overlap_0 rfl (lv_at hl 0 rfl) ?_
  refine lv_iload_n hx hb dX4_overlap_1 rfl (lv_at hl 1 rfl) ?_
  refine lv_iload_n hx hb dX4_overlap_2 rfl (lv_at hl 2 rfl) ?_
  obtain ⟨u_1, hg_2, h⟩ := ob_some h
  refine zcWi (va_runV (As := [.int p1, .int p2]) (rest := []) ⟨hx, hb, hml, hown, hts⟩ (c_X4_both l D cy b V _ p1 p2 hg_2) (cwV 2 hts gX4_overlap_X4_both rfl rfl rfl hd_X4_both ⟨Nat.le_of_ble_eq_true rfl, Nat.le_of_ble_eq_true rfl⟩) ⟨(zJ_blind rI_blind), va_recv hK hP (ci := 4) (q0 := 0) rfl rfl, (zJ_at (rI_at hP hK hD))⟩ rfl rfl hl.1 rfl (lv_room (Nat.le_of_ble_eq_true rfl)) dX4_overlap_3 ⟨Nat.le_of_ble_eq_true rfl, Nat.le_of_ble_eq_true rfl⟩) hS (z_free hD hS hA) (fun H locs hP hD hS => ?_)
  refine lv_if_le (tgt := 13) hx hb dX4_overlap_6 (by decide) (fun c_3 => ?_) (fun c_3 => ?_)
  · replace h := oi_t c_3 h
    refine lv_iconst (v := 0) hx hb dX4_overlap_13 (by decide) ?_
    have h9 := Option.some.inj h
    subst h9
    exact W.zret (v := 0) hx hb hr (by decide) (fun t ht hW => ⟨⟨0, (), rfl, rfl, ⟨by rw [ht]; exact hP, hD⟩⟩, hS.F ht⟩) hS.2.2 dX4_overlap_14 hlocks
  · replace h := oi_f c_3 h
    refine lv_iconst (v := 1) hx hb dX4_overlap_9 (by decide) ?_
    refine lv_goto (tgt := 14) hx hb dX4_overlap_10 (by decide) ?_
    have h9 := Option.some.inj h
    subst h9
    exact W.zret (v := 1) hx hb hr (by decide) (fun t ht hW => ⟨⟨1, (), rfl, rfl, ⟨by rw [ht]; exact hP, hD⟩⟩, hS.F ht⟩) hS.2.2 dX4_overlap_14 hlocks
def f_X4_bothReach (V : RV) (p1 : Int32) (p2 : Int32) : Option (Int32 × RV) := ob (f_X4_both V p1 p2) (fun u_1 => some (u_1.1, u_1.2))
theorem hd_X4_bothReach : yX4_bothReach.cls = RX4 ∧ yX4_bothReach.cls ≠ "java/lang/invoke/MethodHandle" ∧ yX4_bothReach.cls ≠ "java/lang/invoke/VarHandle" ∧ (parseMethodDescriptor yX4_bothReach.desc).map (fun d => d.parameters.length) = some 2 := by decide +kernel
set_option maxHeartbeats 4000000 in
set_option maxRecDepth 100000 in
theorem c_X4_bothReach (l : Launch) (D : va_G) (cy : Nat → ClassId) (b : Nat → Nat) (V : RV) (sz : Nat) (p1 : Int32) (p2 : Int32) {res : Int32 × RV} (h : f_X4_bothReach V p1 p2 = some res) : Met l yX4_bothReach wsX4_bothReach ({ frames := 3, cells := 0, slots := 0, locals := 70 } : Room) (va_Pc [.ref (b 0), .int p1, .int p2] (zJ sz (rI D cy b V))) (va_Qi (fun r (_ : Unit) => r = res.1) (fun _ t => va_P D xcl (rW cy b res.2) t.heap ∧ va_D (va_A (rW cy b V) sz) (rW cy b res.2)) (va_A (rW cy b V) sz)) 0 0 (va_A (rW cy b V) sz) := by
  refine Met.ofW (cc := cX4_bothReach) (maxL := 3) (ret := (some .int)) (by decide) rfl ?_
  intro p e s m args below meth c s₁ B hml hv
  obtain ⟨rfl, hsz, hP, hK, hD0⟩ := hv
  have hx := B.exec
  have hb := B.bytes
  have hr := B.returns
  have hts := atoms_spec (ws := wsX4_bothReach) B.pre
  have hown : s.vm.findClass RX4 = some m.cls := findClass_of_methodNamed B.named
  have hlocks := B.notSynchronized
  subst hsz
  have hD := hD0.self (sz := s.heap.size)
  generalize hAe : va_A (rW cy b V) s.heap.size = A at hD ⊢
  have hA : ∀ q : Nat, s.heap.size ≤ q → A q := fun q h => by rw [← hAe]; exact Or.inr h
  have hS : va_S A s.heap s.heap [] := va_S.rf
  have hl := lv_entry ([.ref (b 0), .int p1, .int p2]) (n := 3) (Nat.le_of_ble_eq_true rfl)
  rw [lg_entry_eq]
  generalize (lg_sl ([.ref (b 0), .int p1, .int p2]) ++ List.replicate (3 - (lg_sl ([.ref (b 0), .int p1, .int p2])).length) Slot.unset).toArray = ls at hl ⊢
  have hl : lv_has ls 3 [(0, .ref (b 0)), (1, .int p1), (2, .int p2)] := hl
  revert hP hS
  intro hP hS
  refine lv_aload_n hx hb dX4_bothReach_0 rfl (lv_at hl 0 rfl) ?_
  refine lv_iload_n hx hb dX4_bothReach_1 rfl (lv_at hl 1 rfl) ?_
  refine lv_iload_n hx hb dX4_bothReach_2 rfl (lv_at hl 2 rfl) ?_
  obtain ⟨u_1, hg_2, h⟩ := ob_some h
  refine zcWi (va_runV (As := [.int p1, .int p2]) (rest := []) ⟨hx, hb, hml, hown, hts⟩ (c_X4_both l D cy b V _ p1 p2 hg_2) (cwV 2 hts gX4_bothReach_X4_both rfl rfl rfl hd_X4_both ⟨Nat.le_of_ble_eq_true rfl, Nat.le_of_ble_eq_true rfl⟩) ⟨(zJ_blind rI_blind), va_recv hK hP (ci := 4) (q0 := 0) rfl rfl, (zJ_at (rI_at hP hK hD))⟩ rfl rfl hl.1 rfl (lv_room (Nat.le_of_ble_eq_true rfl)) dX4_bothReach_3 ⟨Nat.le_of_ble_eq_true rfl, Nat.le_of_ble_eq_true rfl⟩) hS (z_free hD hS hA) (fun H locs hP hD hS => ?_)
  have h9 := Option.some.inj h
  subst h9
  exact W.iret (v := u_1.1) hx hb hr (fun t ht hW => ⟨⟨u_1.1, (), rfl, rfl, ⟨by rw [ht]; exact hP, hD⟩⟩, hS.F ht⟩) hS.2.2 dX4_bothReach_6 hlocks
def f_X4_reason (V : RV) (p1 : Int32) (p2 : Int32) (p3 : Int32) : Option (Int32 × RV) := ob (f_X4_isNoPair V p1 p2) (fun u_1 => oi (u_1.1 = 0) (ob (f_X4_why u_1.2 p1 p2 p3) (fun u_4 => og (u_4.toUInt32.toUInt16.toUInt32.toInt32 = u_4) (some (u_4, u_1.2)))) (some (32, u_1.2)))
theorem hd_X4_reason : yX4_reason.cls = RX4 ∧ yX4_reason.cls ≠ "java/lang/invoke/MethodHandle" ∧ yX4_reason.cls ≠ "java/lang/invoke/VarHandle" ∧ (parseMethodDescriptor yX4_reason.desc).map (fun d => d.parameters.length) = some 3 := by decide +kernel
set_option maxHeartbeats 4000000 in
set_option maxRecDepth 100000 in
theorem c_X4_reason (l : Launch) (D : va_G) (cy : Nat → ClassId) (b : Nat → Nat) (V : RV) (sz : Nat) (p1 : Int32) (p2 : Int32) (p3 : Int32) {res : Int32 × RV} (h : f_X4_reason V p1 p2 p3 = some res) : Met l yX4_reason wsX4_reason ({ frames := 4, cells := 0, slots := 0, locals := 95 } : Room) (va_Pc [.ref (b 0), .int p1, .int p2, .int p3] (zJ sz (rI D cy b V))) (va_Qi (fun r (_ : Unit) => r = res.1) (fun _ t => va_P D xcl (rW cy b res.2) t.heap ∧ va_D (va_A (rW cy b V) sz) (rW cy b res.2)) (va_A (rW cy b V) sz)) 0 0 (va_A (rW cy b V) sz) := by
  refine Met.ofW (cc := cX4_reason) (maxL := 4) (ret := (some .char)) (by decide) rfl ?_
  intro p e s m args below meth c s₁ B hml hv
  obtain ⟨rfl, hsz, hP, hK, hD0⟩ := hv
  have hx := B.exec
  have hb := B.bytes
  have hr := B.returns
  have hts := atoms_spec (ws := wsX4_reason) B.pre
  have hown : s.vm.findClass RX4 = some m.cls := findClass_of_methodNamed B.named
  have hlocks := B.notSynchronized
  subst hsz
  have hD := hD0.self (sz := s.heap.size)
  generalize hAe : va_A (rW cy b V) s.heap.size = A at hD ⊢
  have hA : ∀ q : Nat, s.heap.size ≤ q → A q := fun q h => by rw [← hAe]; exact Or.inr h
  have hS : va_S A s.heap s.heap [] := va_S.rf
  have hl := lv_entry ([.ref (b 0), .int p1, .int p2, .int p3]) (n := 4) (Nat.le_of_ble_eq_true rfl)
  rw [lg_entry_eq]
  generalize (lg_sl ([.ref (b 0), .int p1, .int p2, .int p3]) ++ List.replicate (4 - (lg_sl ([.ref (b 0), .int p1, .int p2, .int p3])).length) Slot.unset).toArray = ls at hl ⊢
  have hl : lv_has ls 4 [(0, .ref (b 0)), (1, .int p1), (2, .int p2), (3, .int p3)] := hl
  revert hP hS
  intro hP hS
  refine lv_aload_n hx hb dX4_reason_0 rfl (lv_at hl 0 rfl) ?_
  refine lv_iload_n hx hb dX4_reason_1 rfl (lv_at hl 1 rfl) ?_
  refine lv_iload_n hx hb dX4_reason_2 rfl (lv_at hl 2 rfl) ?_
  obtain ⟨u_1, hg_2, h⟩ := ob_some h
  refine zcWi (va_runV (As := [.int p1, .int p2]) (rest := []) ⟨hx, hb, hml, hown, hts⟩ (c_X4_isNoPair l D cy b V _ p1 p2 hg_2) (cwV 2 hts gX4_reason_X4_isNoPair rfl rfl rfl hd_X4_isNoPair ⟨Nat.le_of_ble_eq_true rfl, Nat.le_of_ble_eq_true rfl⟩) ⟨(zJ_blind rI_blind), va_recv hK hP (ci := 4) (q0 := 0) rfl rfl, (zJ_at (rI_at hP hK hD))⟩ rfl rfl hl.1 rfl (lv_room (Nat.le_of_ble_eq_true rfl)) dX4_reason_3 ⟨Nat.le_of_ble_eq_true rfl, Nat.le_of_ble_eq_true rfl⟩) hS (z_free hD hS hA) (fun H locs hP hD hS => ?_)
  refine lv_if_eq (tgt := 14) hx hb dX4_reason_6 (by decide) (fun c_3 => ?_) (fun c_3 => ?_)
  · replace h := oi_t c_3 h
    refine lv_aload_n hx hb dX4_reason_14 rfl (lv_at hl 0 rfl) ?_
    refine lv_iload_n hx hb dX4_reason_15 rfl (lv_at hl 1 rfl) ?_
    refine lv_iload_n hx hb dX4_reason_16 rfl (lv_at hl 2 rfl) ?_
    refine lv_iload_n hx hb dX4_reason_17 rfl (lv_at hl 3 rfl) ?_
    obtain ⟨u_4, hg_5, h⟩ := ob_some h
    refine zcSi (W.runV (As := [.int p1, .int p2, .int p3]) (rest := []) ⟨hx, hb, hml, hown, hts⟩ (c_X4_why l D cy b u_1.2 p1 p2 p3 hg_5) (cwV 3 hts gX4_reason_X4_why rfl rfl rfl hd_X4_why ⟨Nat.le_of_ble_eq_true rfl, Nat.le_of_ble_eq_true rfl⟩) ⟨rI_blind, va_recv hK hP (ci := 4) (q0 := 0) rfl rfl, (rI_at hP hK hD)⟩ rfl rfl hl.1 rfl (lv_room (Nat.le_of_ble_eq_true rfl)) dX4_reason_18 ⟨Nat.le_of_ble_eq_true rfl, Nat.le_of_ble_eq_true rfl⟩) ?_
    obtain ⟨g_6, h⟩ := og_some h
    have h9 := Option.some.inj h
    subst h9
    exact W.zret (v := u_4) hx hb hr (congrArg Value.int g_6) (fun t ht hW => ⟨⟨u_4, (), rfl, rfl, ⟨by rw [ht]; exact hP, hD⟩⟩, hS.F ht⟩) hS.2.2 dX4_reason_21 hlocks
  · replace h := oi_f c_3 h
    refine lv_bipush (v := 32) hx hb dX4_reason_9 (by decide) ?_
    refine lv_goto (tgt := 21) hx hb dX4_reason_11 (by decide) ?_
    have h9 := Option.some.inj h
    subst h9
    exact W.zret (v := 32) hx hb hr (by decide) (fun t ht hW => ⟨⟨32, (), rfl, rfl, ⟨by rw [ht]; exact hP, hD⟩⟩, hS.F ht⟩) hS.2.2 dX4_reason_21 hlocks
def f_X4_earliestOf (V : RV) (p1 : Int32) (p2 : Int32) : Option (Int32 × RV) := ob (f_X4_isNoPair V p1 p2) (fun u_1 => oi (u_1.1 = 0) (ob (f_X4_first u_1.2 p1 p2) (fun u_4 => oi (0 ≤ u_4.1) (ob (f_X4_fails u_4.2 0) (fun u_7 => oi (u_7.1 = 0) (some (u_4.1, u_7.2)) (some (0, u_7.2)))) (ob (f_X4_fails u_4.2 2) (fun u_10 => oi (u_10.1 = 0) (some (u_4.1, u_10.2)) (some (0, u_10.2)))))) (some (0, u_1.2)))
theorem hd_X4_earliestOf : yX4_earliestOf.cls = RX4 ∧ yX4_earliestOf.cls ≠ "java/lang/invoke/MethodHandle" ∧ yX4_earliestOf.cls ≠ "java/lang/invoke/VarHandle" ∧ (parseMethodDescriptor yX4_earliestOf.desc).map (fun d => d.parameters.length) = some 2 := by decide +kernel
set_option maxHeartbeats 4000000 in
set_option maxRecDepth 100000 in
theorem c_X4_earliestOf (l : Launch) (D : va_G) (cy : Nat → ClassId) (b : Nat → Nat) (V : RV) (sz : Nat) (p1 : Int32) (p2 : Int32) {res : Int32 × RV} (h : f_X4_earliestOf V p1 p2 = some res) : Met l yX4_earliestOf wsX4_earliestOf ({ frames := 5, cells := 0, slots := 0, locals := 116 } : Room) (va_Pc [.ref (b 0), .int p1, .int p2] (zJ sz (rI D cy b V))) (va_Qi (fun r (_ : Unit) => r = res.1) (fun _ t => va_P D xcl (rW cy b res.2) t.heap ∧ va_D (va_A (rW cy b V) sz) (rW cy b res.2)) (va_A (rW cy b V) sz)) 0 0 (va_A (rW cy b V) sz) := by
  refine Met.ofW (cc := cX4_earliestOf) (maxL := 4) (ret := (some .int)) (by decide) rfl ?_
  intro p e s m args below meth c s₁ B hml hv
  obtain ⟨rfl, hsz, hP, hK, hD0⟩ := hv
  have hx := B.exec
  have hb := B.bytes
  have hr := B.returns
  have hts := atoms_spec (ws := wsX4_earliestOf) B.pre
  have hown : s.vm.findClass RX4 = some m.cls := findClass_of_methodNamed B.named
  have hlocks := B.notSynchronized
  subst hsz
  have hD := hD0.self (sz := s.heap.size)
  generalize hAe : va_A (rW cy b V) s.heap.size = A at hD ⊢
  have hA : ∀ q : Nat, s.heap.size ≤ q → A q := fun q h => by rw [← hAe]; exact Or.inr h
  have hS : va_S A s.heap s.heap [] := va_S.rf
  have hl := lv_entry ([.ref (b 0), .int p1, .int p2]) (n := 4) (Nat.le_of_ble_eq_true rfl)
  rw [lg_entry_eq]
  generalize (lg_sl ([.ref (b 0), .int p1, .int p2]) ++ List.replicate (4 - (lg_sl ([.ref (b 0), .int p1, .int p2])).length) Slot.unset).toArray = ls at hl ⊢
  have hl : lv_has ls 4 [(0, .ref (b 0)), (1, .int p1), (2, .int p2)] := hl
  revert hP hS
  intro hP hS
  refine lv_aload_n hx hb dX4_earliestOf_0 rfl (lv_at hl 0 rfl) ?_
  refine lv_iload_n hx hb dX4_earliestOf_1 rfl (lv_at hl 1 rfl) ?_
  refine lv_iload_n hx hb dX4_earliestOf_2 rfl (lv_at hl 2 rfl) ?_
  obtain ⟨u_1, hg_2, h⟩ := ob_some h
  refine zcWi (va_runV (As := [.int p1, .int p2]) (rest := []) ⟨hx, hb, hml, hown, hts⟩ (c_X4_isNoPair l D cy b V _ p1 p2 hg_2) (cwV 2 hts gX4_earliestOf_X4_isNoPair rfl rfl rfl hd_X4_isNoPair ⟨Nat.le_of_ble_eq_true rfl, Nat.le_of_ble_eq_true rfl⟩) ⟨(zJ_blind rI_blind), va_recv hK hP (ci := 4) (q0 := 0) rfl rfl, (zJ_at (rI_at hP hK hD))⟩ rfl rfl hl.1 rfl (lv_room (Nat.le_of_ble_eq_true rfl)) dX4_earliestOf_3 ⟨Nat.le_of_ble_eq_true rfl, Nat.le_of_ble_eq_true rfl⟩) hS (z_free hD hS hA) (fun H locs hP hD hS => ?_)
  refine lv_if_eq (tgt := 11) hx hb dX4_earliestOf_6 (by decide) (fun c_3 => ?_) (fun c_3 => ?_)
  · replace h := oi_t c_3 h
    refine lv_aload_n hx hb dX4_earliestOf_11 rfl (lv_at hl 0 rfl) ?_
    refine lv_iload_n hx hb dX4_earliestOf_12 rfl (lv_at hl 1 rfl) ?_
    refine lv_iload_n hx hb dX4_earliestOf_13 rfl (lv_at hl 2 rfl) ?_
    obtain ⟨u_4, hg_5, h⟩ := ob_some h
    refine zcWi (va_runV (As := [.int p1, .int p2]) (rest := []) ⟨hx, hb, hml, hown, hts⟩ (c_X4_first l D cy b u_1.2 _ p1 p2 hg_5) (cwV 2 hts gX4_earliestOf_X4_first rfl rfl rfl hd_X4_first ⟨Nat.le_of_ble_eq_true rfl, Nat.le_of_ble_eq_true rfl⟩) ⟨(zJ_blind rI_blind), va_recv hK hP (ci := 4) (q0 := 0) rfl rfl, (zJ_at (rI_at hP hK hD))⟩ rfl rfl hl.1 rfl (lv_room (Nat.le_of_ble_eq_true rfl)) dX4_earliestOf_14 ⟨Nat.le_of_ble_eq_true rfl, Nat.le_of_ble_eq_true rfl⟩) hS (z_free hD hS hA) (fun H locs hP hD hS => ?_)
    refine lv_istore_n (lv' := [(3, .int u_4.1), (0, .ref (b 0)), (1, .int p1), (2, .int p2)]) hx hb dX4_earliestOf_17 rfl hl (by decide) rfl (fun ls hl => ?_)
    refine lv_aload_n hx hb dX4_earliestOf_18 rfl (lv_at hl 1 rfl) ?_
    refine lv_iload_n hx hb dX4_earliestOf_19 rfl (lv_at hl 0 rfl) ?_
    refine lv_if_ge (tgt := 27) hx hb dX4_earliestOf_20 (by decide) (fun c_6 => ?_) (fun c_6 => ?_)
    · replace h := oi_t c_6 h
      refine lv_iconst (v := 0) hx hb dX4_earliestOf_27 (by decide) ?_
      obtain ⟨u_7, hg_8, h⟩ := ob_some h
      refine zcWi (va_runV (As := [.int 0]) (rest := []) ⟨hx, hb, hml, hown, hts⟩ (c_X4_fails l D cy b u_4.2 _ 0 hg_8) (cwV 1 hts gX4_earliestOf_X4_fails rfl rfl rfl hd_X4_fails ⟨Nat.le_of_ble_eq_true rfl, Nat.le_of_ble_eq_true rfl⟩) ⟨(zJ_blind rI_blind), va_recv hK hP (ci := 4) (q0 := 0) rfl rfl, (zJ_at (rI_at hP hK hD))⟩ rfl rfl hl.1 rfl (lv_room (Nat.le_of_ble_eq_true rfl)) dX4_earliestOf_28 ⟨Nat.le_of_ble_eq_true rfl, Nat.le_of_ble_eq_true rfl⟩) hS (z_free hD hS hA) (fun H locs hP hD hS => ?_)
      refine lv_if_eq (tgt := 38) hx hb dX4_earliestOf_31 (by decide) (fun c_9 => ?_) (fun c_9 => ?_)
      · replace h := oi_t c_9 h
        refine lv_iload_n hx hb dX4_earliestOf_38 rfl (lv_at hl 0 rfl) ?_
        have h9 := Option.some.inj h
        subst h9
        exact W.iret (v := u_4.1) hx hb hr (fun t ht hW => ⟨⟨u_4.1, (), rfl, rfl, ⟨by rw [ht]; exact hP, hD⟩⟩, hS.F ht⟩) hS.2.2 dX4_earliestOf_39 hlocks
      · replace h := oi_f c_9 h
        refine lv_iconst (v := 0) hx hb dX4_earliestOf_34 (by decide) ?_
        refine lv_goto (tgt := 39) hx hb dX4_earliestOf_35 (by decide) ?_
        have h9 := Option.some.inj h
        subst h9
        exact W.iret (v := 0) hx hb hr (fun t ht hW => ⟨⟨0, (), rfl, rfl, ⟨by rw [ht]; exact hP, hD⟩⟩, hS.F ht⟩) hS.2.2 dX4_earliestOf_39 hlocks
    · replace h := oi_f c_6 h
      refine lv_iconst (v := 2) hx hb dX4_earliestOf_23 (by decide) ?_
      refine lv_goto (tgt := 28) hx hb dX4_earliestOf_24 (by decide) ?_
      obtain ⟨u_10, hg_11, h⟩ := ob_some h
      refine zcWi (va_runV (As := [.int 2]) (rest := []) ⟨hx, hb, hml, hown, hts⟩ (c_X4_fails l D cy b u_4.2 _ 2 hg_11) (cwV 1 hts gX4_earliestOf_X4_fails rfl rfl rfl hd_X4_fails ⟨Nat.le_of_ble_eq_true rfl, Nat.le_of_ble_eq_true rfl⟩) ⟨(zJ_blind rI_blind), va_recv hK hP (ci := 4) (q0 := 0) rfl rfl, (zJ_at (rI_at hP hK hD))⟩ rfl rfl hl.1 rfl (lv_room (Nat.le_of_ble_eq_true rfl)) dX4_earliestOf_28 ⟨Nat.le_of_ble_eq_true rfl, Nat.le_of_ble_eq_true rfl⟩) hS (z_free hD hS hA) (fun H locs hP hD hS => ?_)
      refine lv_if_eq (tgt := 38) hx hb dX4_earliestOf_31 (by decide) (fun c_12 => ?_) (fun c_12 => ?_)
      · replace h := oi_t c_12 h
        refine lv_iload_n hx hb dX4_earliestOf_38 rfl (lv_at hl 0 rfl) ?_
        have h9 := Option.some.inj h
        subst h9
        exact W.iret (v := u_4.1) hx hb hr (fun t ht hW => ⟨⟨u_4.1, (), rfl, rfl, ⟨by rw [ht]; exact hP, hD⟩⟩, hS.F ht⟩) hS.2.2 dX4_earliestOf_39 hlocks
      · replace h := oi_f c_12 h
        refine lv_iconst (v := 0) hx hb dX4_earliestOf_34 (by decide) ?_
        refine lv_goto (tgt := 39) hx hb dX4_earliestOf_35 (by decide) ?_
        have h9 := Option.some.inj h
        subst h9
        exact W.iret (v := 0) hx hb hr (fun t ht hW => ⟨⟨0, (), rfl, rfl, ⟨by rw [ht]; exact hP, hD⟩⟩, hS.F ht⟩) hS.2.2 dX4_earliestOf_39 hlocks
  · replace h := oi_f c_3 h
    refine lv_iconst (v := 0) hx hb dX4_earliestOf_9 (by decide) ?_
    have h9 := Option.some.inj h
    subst h9
    exact W.iret (v := 0) hx hb hr (fun t ht hW => ⟨⟨0, (), rfl, rfl, ⟨by rw [ht]; exact hP, hD⟩⟩, hS.F ht⟩) hS.2.2 dX4_earliestOf_10 hlocks
def f_X4_earliest (V : RV) (p1 : Int32) (p2 : Int32) : Option (Int32 × RV) := ob (f_X4_earliestOf V p1 p2) (fun u_1 => some (u_1.1, u_1.2))
theorem hd_X4_earliest : yX4_earliest.cls = RX4 ∧ yX4_earliest.cls ≠ "java/lang/invoke/MethodHandle" ∧ yX4_earliest.cls ≠ "java/lang/invoke/VarHandle" ∧ (parseMethodDescriptor yX4_earliest.desc).map (fun d => d.parameters.length) = some 2 := by decide +kernel
set_option maxHeartbeats 4000000 in
set_option maxRecDepth 100000 in
theorem c_X4_earliest (l : Launch) (D : va_G) (cy : Nat → ClassId) (b : Nat → Nat) (V : RV) (sz : Nat) (p1 : Int32) (p2 : Int32) {res : Int32 × RV} (h : f_X4_earliest V p1 p2 = some res) : Met l yX4_earliest wsX4_earliest ({ frames := 6, cells := 0, slots := 0, locals := 139 } : Room) (va_Pc [.ref (b 0), .int p1, .int p2] (zJ sz (rI D cy b V))) (va_Qi (fun r (_ : Unit) => r = res.1) (fun _ t => va_P D xcl (rW cy b res.2) t.heap ∧ va_D (va_A (rW cy b V) sz) (rW cy b res.2)) (va_A (rW cy b V) sz)) 0 0 (va_A (rW cy b V) sz) := by
  refine Met.ofW (cc := cX4_earliest) (maxL := 3) (ret := (some .int)) (by decide) rfl ?_
  intro p e s m args below meth c s₁ B hml hv
  obtain ⟨rfl, hsz, hP, hK, hD0⟩ := hv
  have hx := B.exec
  have hb := B.bytes
  have hr := B.returns
  have hts := atoms_spec (ws := wsX4_earliest) B.pre
  have hown : s.vm.findClass RX4 = some m.cls := findClass_of_methodNamed B.named
  have hlocks := B.notSynchronized
  subst hsz
  have hD := hD0.self (sz := s.heap.size)
  generalize hAe : va_A (rW cy b V) s.heap.size = A at hD ⊢
  have hA : ∀ q : Nat, s.heap.size ≤ q → A q := fun q h => by rw [← hAe]; exact Or.inr h
  have hS : va_S A s.heap s.heap [] := va_S.rf
  have hl := lv_entry ([.ref (b 0), .int p1, .int p2]) (n := 3) (Nat.le_of_ble_eq_true rfl)
  rw [lg_entry_eq]
  generalize (lg_sl ([.ref (b 0), .int p1, .int p2]) ++ List.replicate (3 - (lg_sl ([.ref (b 0), .int p1, .int p2])).length) Slot.unset).toArray = ls at hl ⊢
  have hl : lv_has ls 3 [(0, .ref (b 0)), (1, .int p1), (2, .int p2)] := hl
  revert hP hS
  intro hP hS
  refine lv_aload_n hx hb dX4_earliest_0 rfl (lv_at hl 0 rfl) ?_
  refine lv_iload_n hx hb dX4_earliest_1 rfl (lv_at hl 1 rfl) ?_
  refine lv_iload_n hx hb dX4_earliest_2 rfl (lv_at hl 2 rfl) ?_
  obtain ⟨u_1, hg_2, h⟩ := ob_some h
  refine zcWi (va_runV (As := [.int p1, .int p2]) (rest := []) ⟨hx, hb, hml, hown, hts⟩ (c_X4_earliestOf l D cy b V _ p1 p2 hg_2) (cwV 2 hts gX4_earliest_X4_earliestOf rfl rfl rfl hd_X4_earliestOf ⟨Nat.le_of_ble_eq_true rfl, Nat.le_of_ble_eq_true rfl⟩) ⟨(zJ_blind rI_blind), va_recv hK hP (ci := 4) (q0 := 0) rfl rfl, (zJ_at (rI_at hP hK hD))⟩ rfl rfl hl.1 rfl (lv_room (Nat.le_of_ble_eq_true rfl)) dX4_earliest_3 ⟨Nat.le_of_ble_eq_true rfl, Nat.le_of_ble_eq_true rfl⟩) hS (z_free hD hS hA) (fun H locs hP hD hS => ?_)
  have h9 := Option.some.inj h
  subst h9
  exact W.iret (v := u_1.1) hx hb hr (fun t ht hW => ⟨⟨u_1.1, (), rfl, rfl, ⟨by rw [ht]; exact hP, hD⟩⟩, hS.F ht⟩) hS.2.2 dX4_earliest_6 hlocks
def f_X4_earliestByMinutes (V : RV) (p1 : Int32) (p2 : Int32) : Option (Int32 × RV) := ob (f_X4_earliestOf V p1 p2) (fun u_1 => some (u_1.1, u_1.2))
theorem hd_X4_earliestByMinutes : yX4_earliestByMinutes.cls = RX4 ∧ yX4_earliestByMinutes.cls ≠ "java/lang/invoke/MethodHandle" ∧ yX4_earliestByMinutes.cls ≠ "java/lang/invoke/VarHandle" ∧ (parseMethodDescriptor yX4_earliestByMinutes.desc).map (fun d => d.parameters.length) = some 2 := by decide +kernel
set_option maxHeartbeats 4000000 in
set_option maxRecDepth 100000 in
theorem c_X4_earliestByMinutes (l : Launch) (D : va_G) (cy : Nat → ClassId) (b : Nat → Nat) (V : RV) (sz : Nat) (p1 : Int32) (p2 : Int32) {res : Int32 × RV} (h : f_X4_earliestByMinutes V p1 p2 = some res) : Met l yX4_earliestByMinutes wsX4_earliestByMinutes ({ frames := 6, cells := 0, slots := 0, locals := 139 } : Room) (va_Pc [.ref (b 0), .int p1, .int p2] (zJ sz (rI D cy b V))) (va_Qi (fun r (_ : Unit) => r = res.1) (fun _ t => va_P D xcl (rW cy b res.2) t.heap ∧ va_D (va_A (rW cy b V) sz) (rW cy b res.2)) (va_A (rW cy b V) sz)) 0 0 (va_A (rW cy b V) sz) := by
  refine Met.ofW (cc := cX4_earliestByMinutes) (maxL := 3) (ret := (some .int)) (by decide) rfl ?_
  intro p e s m args below meth c s₁ B hml hv
  obtain ⟨rfl, hsz, hP, hK, hD0⟩ := hv
  have hx := B.exec
  have hb := B.bytes
  have hr := B.returns
  have hts := atoms_spec (ws := wsX4_earliestByMinutes) B.pre
  have hown : s.vm.findClass RX4 = some m.cls := findClass_of_methodNamed B.named
  have hlocks := B.notSynchronized
  subst hsz
  have hD := hD0.self (sz := s.heap.size)
  generalize hAe : va_A (rW cy b V) s.heap.size = A at hD ⊢
  have hA : ∀ q : Nat, s.heap.size ≤ q → A q := fun q h => by rw [← hAe]; exact Or.inr h
  have hS : va_S A s.heap s.heap [] := va_S.rf
  have hl := lv_entry ([.ref (b 0), .int p1, .int p2]) (n := 3) (Nat.le_of_ble_eq_true rfl)
  rw [lg_entry_eq]
  generalize (lg_sl ([.ref (b 0), .int p1, .int p2]) ++ List.replicate (3 - (lg_sl ([.ref (b 0), .int p1, .int p2])).length) Slot.unset).toArray = ls at hl ⊢
  have hl : lv_has ls 3 [(0, .ref (b 0)), (1, .int p1), (2, .int p2)] := hl
  revert hP hS
  intro hP hS
  refine lv_aload_n hx hb dX4_earliestByMinutes_0 rfl (lv_at hl 0 rfl) ?_
  refine lv_iload_n hx hb dX4_earliestByMinutes_1 rfl (lv_at hl 1 rfl) ?_
  refine lv_iload_n hx hb dX4_earliestByMinutes_2 rfl (lv_at hl 2 rfl) ?_
  obtain ⟨u_1, hg_2, h⟩ := ob_some h
  refine zcWi (va_runV (As := [.int p1, .int p2]) (rest := []) ⟨hx, hb, hml, hown, hts⟩ (c_X4_earliestOf l D cy b V _ p1 p2 hg_2) (cwV 2 hts gX4_earliestByMinutes_X4_earliestOf rfl rfl rfl hd_X4_earliestOf ⟨Nat.le_of_ble_eq_true rfl, Nat.le_of_ble_eq_true rfl⟩) ⟨(zJ_blind rI_blind), va_recv hK hP (ci := 4) (q0 := 0) rfl rfl, (zJ_at (rI_at hP hK hD))⟩ rfl rfl hl.1 rfl (lv_room (Nat.le_of_ble_eq_true rfl)) dX4_earliestByMinutes_3 ⟨Nat.le_of_ble_eq_true rfl, Nat.le_of_ble_eq_true rfl⟩) hS (z_free hD hS hA) (fun H locs hP hD hS => ?_)
  have h9 := Option.some.inj h
  subst h9
  exact W.iret (v := u_1.1) hx hb hr (fun t ht hW => ⟨⟨u_1.1, (), rfl, rfl, ⟨by rw [ht]; exact hP, hD⟩⟩, hS.F ht⟩) hS.2.2 dX4_earliestByMinutes_6 hlocks
def f_X4_stateOf (V : RV) (p1 : Int32) : Option (Int32 × RV) := ob (f_X4_isNone V p1) (fun u_1 => oi (u_1.1 = 0) (og (¬ (p1 < 0 ∨ 40 ≤ (p1).toNatClampNeg)) (og ((u_1.2.2.1 14 (p1).toNatClampNeg).toUInt32.toUInt16.toUInt32.toInt32 = u_1.2.2.1 14 (p1).toNatClampNeg) (some (u_1.2.2.1 14 (p1).toNatClampNeg, u_1.2)))) (some (32, u_1.2)))
theorem hd_X4_stateOf : yX4_stateOf.cls = RX4 ∧ yX4_stateOf.cls ≠ "java/lang/invoke/MethodHandle" ∧ yX4_stateOf.cls ≠ "java/lang/invoke/VarHandle" ∧ (parseMethodDescriptor yX4_stateOf.desc).map (fun d => d.parameters.length) = some 1 := by decide +kernel
set_option maxHeartbeats 4000000 in
set_option maxRecDepth 100000 in
theorem c_X4_stateOf (l : Launch) (D : va_G) (cy : Nat → ClassId) (b : Nat → Nat) (V : RV) (sz : Nat) (p1 : Int32) {res : Int32 × RV} (h : f_X4_stateOf V p1 = some res) : Met l yX4_stateOf wsX4_stateOf ({ frames := 3, cells := 0, slots := 0, locals := 64 } : Room) (va_Pc [.ref (b 0), .int p1] (zJ sz (rI D cy b V))) (va_Qi (fun r (_ : Unit) => r = res.1) (fun _ t => va_P D xcl (rW cy b res.2) t.heap ∧ va_D (va_A (rW cy b V) sz) (rW cy b res.2)) (va_A (rW cy b V) sz)) 0 0 (va_A (rW cy b V) sz) := by
  refine Met.ofW (cc := cX4_stateOf) (maxL := 2) (ret := (some .char)) (by decide) rfl ?_
  intro p e s m args below meth c s₁ B hml hv
  obtain ⟨rfl, hsz, hP, hK, hD0⟩ := hv
  have hx := B.exec
  have hb := B.bytes
  have hr := B.returns
  have hts := atoms_spec (ws := wsX4_stateOf) B.pre
  have hown : s.vm.findClass RX4 = some m.cls := findClass_of_methodNamed B.named
  have hlocks := B.notSynchronized
  subst hsz
  have hD := hD0.self (sz := s.heap.size)
  generalize hAe : va_A (rW cy b V) s.heap.size = A at hD ⊢
  have hA : ∀ q : Nat, s.heap.size ≤ q → A q := fun q h => by rw [← hAe]; exact Or.inr h
  have hS : va_S A s.heap s.heap [] := va_S.rf
  have hl := lv_entry ([.ref (b 0), .int p1]) (n := 2) (Nat.le_of_ble_eq_true rfl)
  rw [lg_entry_eq]
  generalize (lg_sl ([.ref (b 0), .int p1]) ++ List.replicate (2 - (lg_sl ([.ref (b 0), .int p1])).length) Slot.unset).toArray = ls at hl ⊢
  have hl : lv_has ls 2 [(0, .ref (b 0)), (1, .int p1)] := hl
  have hinX4 : ∀ w ∈ wsX40, w ∈ wsX4_stateOf := (fun _ h => (List.mem_cons_of_mem _ (List.mem_append_right _ h)))
  revert hP hS
  intro hP hS
  refine lv_aload_n hx hb dX4_stateOf_0 rfl (lv_at hl 0 rfl) ?_
  refine lv_iload_n hx hb dX4_stateOf_1 rfl (lv_at hl 1 rfl) ?_
  obtain ⟨u_1, hg_2, h⟩ := ob_some h
  refine zcWi (va_runV (As := [.int p1]) (rest := []) ⟨hx, hb, hml, hown, hts⟩ (c_X4_isNone l D cy b V _ p1 hg_2) (cwV 1 hts gX4_stateOf_X4_isNone rfl rfl rfl hd_X4_isNone ⟨Nat.le_of_ble_eq_true rfl, Nat.le_of_ble_eq_true rfl⟩) ⟨(zJ_blind rI_blind), va_recv hK hP (ci := 4) (q0 := 0) rfl rfl, (zJ_at (rI_at hP hK hD))⟩ rfl rfl hl.1 rfl (lv_room (Nat.le_of_ble_eq_true rfl)) dX4_stateOf_2 ⟨Nat.le_of_ble_eq_true rfl, Nat.le_of_ble_eq_true rfl⟩) hS (z_free hD hS hA) (fun H locs hP hD hS => ?_)
  refine lv_if_eq (tgt := 13) hx hb dX4_stateOf_5 (by decide) (fun c_3 => ?_) (fun c_3 => ?_)
  · replace h := oi_t c_3 h
    refine lv_aload_n hx hb dX4_stateOf_13 rfl (lv_at hl 0 rfl) ?_
    refine va_get (D := D) (ci := 4) (v := .ref (b 14)) (C := RX4) (T := TX4) (N := 28) hx hb hts hinX4 hown hK hP 0 rfl rfl 14 (by decide) (hts _ (List.mem_of_getElem? (i := 1) rfl)) (fun _ h9 => h9) rfl dX4_stateOf_14 ?_
    refine lv_iload_n hx hb dX4_stateOf_17 rfl (lv_at hl 1 rfl) ?_
    obtain ⟨g_4, h⟩ := og_some h
    refine va_cald hx hb hK hP 13 3 rfl rfl g_4 dX4_stateOf_18 ?_
    obtain ⟨g_5, h⟩ := og_some h
    have h9 := Option.some.inj h
    subst h9
    exact W.zret (v := u_1.2.2.1 14 (p1).toNatClampNeg) hx hb hr (congrArg Value.int g_5) (fun t ht hW => ⟨⟨u_1.2.2.1 14 (p1).toNatClampNeg, (), rfl, rfl, ⟨by rw [ht]; exact hP, hD⟩⟩, hS.F ht⟩) hS.2.2 dX4_stateOf_19 hlocks
  · replace h := oi_f c_3 h
    refine lv_bipush (v := 32) hx hb dX4_stateOf_8 (by decide) ?_
    refine lv_goto (tgt := 19) hx hb dX4_stateOf_10 (by decide) ?_
    have h9 := Option.some.inj h
    subst h9
    exact W.zret (v := 32) hx hb hr (by decide) (fun t ht hW => ⟨⟨32, (), rfl, rfl, ⟨by rw [ht]; exact hP, hD⟩⟩, hS.F ht⟩) hS.2.2 dX4_stateOf_19 hlocks
def f_X4_isLoose (V : RV) (p1 : Int32) : Option (Int32 × RV) := ob (f_X4_isNone V p1) (fun u_1 => oi (u_1.1 = 0) (og (¬ (p1 < 0 ∨ 40 ≤ (p1).toNatClampNeg)) (oi ((u_1.2.2.1 14 (p1).toNatClampNeg) = 119) (ob (f_X4_fails u_1.2 2) (fun u_9 => oi (u_9.1 = 0) (some (0, u_9.2)) (some (1, u_9.2)))) (ob (f_X4_fails u_1.2 0) (fun u_6 => oi (u_6.1 = 0) (some (0, u_6.2)) (some (1, u_6.2)))))) (some (1, u_1.2)))
theorem hd_X4_isLoose : yX4_isLoose.cls = RX4 ∧ yX4_isLoose.cls ≠ "java/lang/invoke/MethodHandle" ∧ yX4_isLoose.cls ≠ "java/lang/invoke/VarHandle" ∧ (parseMethodDescriptor yX4_isLoose.desc).map (fun d => d.parameters.length) = some 1 := by decide +kernel
set_option maxHeartbeats 4000000 in
set_option maxRecDepth 100000 in
theorem c_X4_isLoose (l : Launch) (D : va_G) (cy : Nat → ClassId) (b : Nat → Nat) (V : RV) (sz : Nat) (p1 : Int32) {res : Int32 × RV} (h : f_X4_isLoose V p1 = some res) : Met l yX4_isLoose wsX4_isLoose ({ frames := 3, cells := 0, slots := 0, locals := 64 } : Room) (va_Pc [.ref (b 0), .int p1] (zJ sz (rI D cy b V))) (va_Qi (fun r (_ : Unit) => r = res.1) (fun _ t => va_P D xcl (rW cy b res.2) t.heap ∧ va_D (va_A (rW cy b V) sz) (rW cy b res.2)) (va_A (rW cy b V) sz)) 0 0 (va_A (rW cy b V) sz) := by
  refine Met.ofW (cc := cX4_isLoose) (maxL := 2) (ret := (some .boolean)) (by decide) rfl ?_
  intro p e s m args below meth c s₁ B hml hv
  obtain ⟨rfl, hsz, hP, hK, hD0⟩ := hv
  have hx := B.exec
  have hb := B.bytes
  have hr := B.returns
  have hts := atoms_spec (ws := wsX4_isLoose) B.pre
  have hown : s.vm.findClass RX4 = some m.cls := findClass_of_methodNamed B.named
  have hlocks := B.notSynchronized
  subst hsz
  have hD := hD0.self (sz := s.heap.size)
  generalize hAe : va_A (rW cy b V) s.heap.size = A at hD ⊢
  have hA : ∀ q : Nat, s.heap.size ≤ q → A q := fun q h => by rw [← hAe]; exact Or.inr h
  have hS : va_S A s.heap s.heap [] := va_S.rf
  have hl := lv_entry ([.ref (b 0), .int p1]) (n := 2) (Nat.le_of_ble_eq_true rfl)
  rw [lg_entry_eq]
  generalize (lg_sl ([.ref (b 0), .int p1]) ++ List.replicate (2 - (lg_sl ([.ref (b 0), .int p1])).length) Slot.unset).toArray = ls at hl ⊢
  have hl : lv_has ls 2 [(0, .ref (b 0)), (1, .int p1)] := hl
  have hinX4 : ∀ w ∈ wsX40, w ∈ wsX4_isLoose := (fun _ h => (List.mem_cons_of_mem _ (List.mem_append_right _ h)))
  revert hP hS
  intro hP hS
  refine lv_aload_n hx hb dX4_isLoose_0 rfl (lv_at hl 0 rfl) ?_
  refine lv_iload_n hx hb dX4_isLoose_1 rfl (lv_at hl 1 rfl) ?_
  obtain ⟨u_1, hg_2, h⟩ := ob_some h
  refine zcWi (va_runV (As := [.int p1]) (rest := []) ⟨hx, hb, hml, hown, hts⟩ (c_X4_isNone l D cy b V _ p1 hg_2) (cwV 1 hts gX4_isLoose_X4_isNone rfl rfl rfl hd_X4_isNone ⟨Nat.le_of_ble_eq_true rfl, Nat.le_of_ble_eq_true rfl⟩) ⟨(zJ_blind rI_blind), va_recv hK hP (ci := 4) (q0 := 0) rfl rfl, (zJ_at (rI_at hP hK hD))⟩ rfl rfl hl.1 rfl (lv_room (Nat.le_of_ble_eq_true rfl)) dX4_isLoose_2 ⟨Nat.le_of_ble_eq_true rfl, Nat.le_of_ble_eq_true rfl⟩) hS (z_free hD hS hA) (fun H locs hP hD hS => ?_)
  refine lv_if_ne (tgt := 31) hx hb dX4_isLoose_5 (by decide) (fun c_3 => ?_) (fun c_3 => ?_)
  · replace h := oi_f c_3 h
    refine lv_iconst (v := 1) hx hb dX4_isLoose_31 (by decide) ?_
    refine lv_goto (tgt := 36) hx hb dX4_isLoose_32 (by decide) ?_
    have h9 := Option.some.inj h
    subst h9
    exact W.zret (v := 1) hx hb hr (by decide) (fun t ht hW => ⟨⟨1, (), rfl, rfl, ⟨by rw [ht]; exact hP, hD⟩⟩, hS.F ht⟩) hS.2.2 dX4_isLoose_36 hlocks
  · replace h := oi_t c_3 h
    refine lv_aload_n hx hb dX4_isLoose_8 rfl (lv_at hl 0 rfl) ?_
    refine lv_aload_n hx hb dX4_isLoose_9 rfl (lv_at hl 0 rfl) ?_
    refine va_get (D := D) (ci := 4) (v := .ref (b 14)) (C := RX4) (T := TX4) (N := 28) hx hb hts hinX4 hown hK hP 0 rfl rfl 14 (by decide) (hts _ (List.mem_of_getElem? (i := 1) rfl)) (fun _ h9 => h9) rfl dX4_isLoose_10 ?_
    refine lv_iload_n hx hb dX4_isLoose_13 rfl (lv_at hl 1 rfl) ?_
    obtain ⟨g_4, h⟩ := og_some h
    refine va_cald hx hb hK hP 13 3 rfl rfl g_4 dX4_isLoose_14 ?_
    refine lv_bipush (v := 119) hx hb dX4_isLoose_15 (by decide) ?_
    refine lv_icmp_ne (tgt := 24) hx hb dX4_isLoose_17 (by decide) (fun c_5 => ?_) (fun c_5 => ?_)
    · replace h := oi_f c_5 h
      refine lv_iconst (v := 0) hx hb dX4_isLoose_24 (by decide) ?_
      obtain ⟨u_6, hg_7, h⟩ := ob_some h
      refine zcWi (va_runV (As := [.int 0]) (rest := []) ⟨hx, hb, hml, hown, hts⟩ (c_X4_fails l D cy b u_1.2 _ 0 hg_7) (cwV 1 hts gX4_isLoose_X4_fails rfl rfl rfl hd_X4_fails ⟨Nat.le_of_ble_eq_true rfl, Nat.le_of_ble_eq_true rfl⟩) ⟨(zJ_blind rI_blind), va_recv hK hP (ci := 4) (q0 := 0) rfl rfl, (zJ_at (rI_at hP hK hD))⟩ rfl rfl hl.1 rfl (lv_room (Nat.le_of_ble_eq_true rfl)) dX4_isLoose_25 ⟨Nat.le_of_ble_eq_true rfl, Nat.le_of_ble_eq_true rfl⟩) hS (z_free hD hS hA) (fun H locs hP hD hS => ?_)
      refine lv_if_eq (tgt := 35) hx hb dX4_isLoose_28 (by decide) (fun c_8 => ?_) (fun c_8 => ?_)
      · replace h := oi_t c_8 h
        refine lv_iconst (v := 0) hx hb dX4_isLoose_35 (by decide) ?_
        have h9 := Option.some.inj h
        subst h9
        exact W.zret (v := 0) hx hb hr (by decide) (fun t ht hW => ⟨⟨0, (), rfl, rfl, ⟨by rw [ht]; exact hP, hD⟩⟩, hS.F ht⟩) hS.2.2 dX4_isLoose_36 hlocks
      · replace h := oi_f c_8 h
        refine lv_iconst (v := 1) hx hb dX4_isLoose_31 (by decide) ?_
        refine lv_goto (tgt := 36) hx hb dX4_isLoose_32 (by decide) ?_
        have h9 := Option.some.inj h
        subst h9
        exact W.zret (v := 1) hx hb hr (by decide) (fun t ht hW => ⟨⟨1, (), rfl, rfl, ⟨by rw [ht]; exact hP, hD⟩⟩, hS.F ht⟩) hS.2.2 dX4_isLoose_36 hlocks
    · replace h := oi_t c_5 h
      refine lv_iconst (v := 2) hx hb dX4_isLoose_20 (by decide) ?_
      refine lv_goto (tgt := 25) hx hb dX4_isLoose_21 (by decide) ?_
      obtain ⟨u_9, hg_10, h⟩ := ob_some h
      refine zcWi (va_runV (As := [.int 2]) (rest := []) ⟨hx, hb, hml, hown, hts⟩ (c_X4_fails l D cy b u_1.2 _ 2 hg_10) (cwV 1 hts gX4_isLoose_X4_fails rfl rfl rfl hd_X4_fails ⟨Nat.le_of_ble_eq_true rfl, Nat.le_of_ble_eq_true rfl⟩) ⟨(zJ_blind rI_blind), va_recv hK hP (ci := 4) (q0 := 0) rfl rfl, (zJ_at (rI_at hP hK hD))⟩ rfl rfl hl.1 rfl (lv_room (Nat.le_of_ble_eq_true rfl)) dX4_isLoose_25 ⟨Nat.le_of_ble_eq_true rfl, Nat.le_of_ble_eq_true rfl⟩) hS (z_free hD hS hA) (fun H locs hP hD hS => ?_)
      refine lv_if_eq (tgt := 35) hx hb dX4_isLoose_28 (by decide) (fun c_11 => ?_) (fun c_11 => ?_)
      · replace h := oi_t c_11 h
        refine lv_iconst (v := 0) hx hb dX4_isLoose_35 (by decide) ?_
        have h9 := Option.some.inj h
        subst h9
        exact W.zret (v := 0) hx hb hr (by decide) (fun t ht hW => ⟨⟨0, (), rfl, rfl, ⟨by rw [ht]; exact hP, hD⟩⟩, hS.F ht⟩) hS.2.2 dX4_isLoose_36 hlocks
      · replace h := oi_f c_11 h
        refine lv_iconst (v := 1) hx hb dX4_isLoose_31 (by decide) ?_
        refine lv_goto (tgt := 36) hx hb dX4_isLoose_32 (by decide) ?_
        have h9 := Option.some.inj h
        subst h9
        exact W.zret (v := 1) hx hb hr (by decide) (fun t ht hW => ⟨⟨1, (), rfl, rfl, ⟨by rw [ht]; exact hP, hD⟩⟩, hS.F ht⟩) hS.2.2 dX4_isLoose_36 hlocks
def f_X4_startOf (V : RV) (p1 : Int32) : Option (Int32 × RV) := ob (f_X4_isLoose V p1) (fun u_1 => oi (u_1.1 = 0) (og (¬ (p1 < 0 ∨ 40 ≤ (p1).toNatClampNeg)) (some (u_1.2.2.1 16 (p1).toNatClampNeg, u_1.2))) (some (0, u_1.2)))
theorem hd_X4_startOf : yX4_startOf.cls = RX4 ∧ yX4_startOf.cls ≠ "java/lang/invoke/MethodHandle" ∧ yX4_startOf.cls ≠ "java/lang/invoke/VarHandle" ∧ (parseMethodDescriptor yX4_startOf.desc).map (fun d => d.parameters.length) = some 1 := by decide +kernel
set_option maxHeartbeats 4000000 in
set_option maxRecDepth 100000 in
theorem c_X4_startOf (l : Launch) (D : va_G) (cy : Nat → ClassId) (b : Nat → Nat) (V : RV) (sz : Nat) (p1 : Int32) {res : Int32 × RV} (h : f_X4_startOf V p1 = some res) : Met l yX4_startOf wsX4_startOf ({ frames := 4, cells := 0, slots := 0, locals := 85 } : Room) (va_Pc [.ref (b 0), .int p1] (zJ sz (rI D cy b V))) (va_Qi (fun r (_ : Unit) => r = res.1) (fun _ t => va_P D xcl (rW cy b res.2) t.heap ∧ va_D (va_A (rW cy b V) sz) (rW cy b res.2)) (va_A (rW cy b V) sz)) 0 0 (va_A (rW cy b V) sz) := by
  refine Met.ofW (cc := cX4_startOf) (maxL := 2) (ret := (some .int)) (by decide) rfl ?_
  intro p e s m args below meth c s₁ B hml hv
  obtain ⟨rfl, hsz, hP, hK, hD0⟩ := hv
  have hx := B.exec
  have hb := B.bytes
  have hr := B.returns
  have hts := atoms_spec (ws := wsX4_startOf) B.pre
  have hown : s.vm.findClass RX4 = some m.cls := findClass_of_methodNamed B.named
  have hlocks := B.notSynchronized
  subst hsz
  have hD := hD0.self (sz := s.heap.size)
  generalize hAe : va_A (rW cy b V) s.heap.size = A at hD ⊢
  have hA : ∀ q : Nat, s.heap.size ≤ q → A q := fun q h => by rw [← hAe]; exact Or.inr h
  have hS : va_S A s.heap s.heap [] := va_S.rf
  have hl := lv_entry ([.ref (b 0), .int p1]) (n := 2) (Nat.le_of_ble_eq_true rfl)
  rw [lg_entry_eq]
  generalize (lg_sl ([.ref (b 0), .int p1]) ++ List.replicate (2 - (lg_sl ([.ref (b 0), .int p1])).length) Slot.unset).toArray = ls at hl ⊢
  have hl : lv_has ls 2 [(0, .ref (b 0)), (1, .int p1)] := hl
  have hinX4 : ∀ w ∈ wsX40, w ∈ wsX4_startOf := (fun _ h => (List.mem_cons_of_mem _ (List.mem_append_right _ h)))
  revert hP hS
  intro hP hS
  refine lv_aload_n hx hb dX4_startOf_0 rfl (lv_at hl 0 rfl) ?_
  refine lv_iload_n hx hb dX4_startOf_1 rfl (lv_at hl 1 rfl) ?_
  obtain ⟨u_1, hg_2, h⟩ := ob_some h
  refine zcWi (va_runV (As := [.int p1]) (rest := []) ⟨hx, hb, hml, hown, hts⟩ (c_X4_isLoose l D cy b V _ p1 hg_2) (cwV 1 hts gX4_startOf_X4_isLoose rfl rfl rfl hd_X4_isLoose ⟨Nat.le_of_ble_eq_true rfl, Nat.le_of_ble_eq_true rfl⟩) ⟨(zJ_blind rI_blind), va_recv hK hP (ci := 4) (q0 := 0) rfl rfl, (zJ_at (rI_at hP hK hD))⟩ rfl rfl hl.1 rfl (lv_room (Nat.le_of_ble_eq_true rfl)) dX4_startOf_2 ⟨Nat.le_of_ble_eq_true rfl, Nat.le_of_ble_eq_true rfl⟩) hS (z_free hD hS hA) (fun H locs hP hD hS => ?_)
  refine lv_if_eq (tgt := 12) hx hb dX4_startOf_5 (by decide) (fun c_3 => ?_) (fun c_3 => ?_)
  · replace h := oi_t c_3 h
    refine lv_aload_n hx hb dX4_startOf_12 rfl (lv_at hl 0 rfl) ?_
    refine va_get (D := D) (ci := 4) (v := .ref (b 16)) (C := RX4) (T := TX4) (N := 28) hx hb hts hinX4 hown hK hP 0 rfl rfl 16 (by decide) (hts _ (List.mem_of_getElem? (i := 1) rfl)) (fun _ h9 => h9) rfl dX4_startOf_13 ?_
    refine lv_iload_n hx hb dX4_startOf_16 rfl (lv_at hl 1 rfl) ?_
    obtain ⟨g_4, h⟩ := og_some h
    refine va_iald hx hb hK hP 15 0 rfl rfl g_4 dX4_startOf_17 ?_
    have h9 := Option.some.inj h
    subst h9
    exact W.iret (v := u_1.2.2.1 16 (p1).toNatClampNeg) hx hb hr (fun t ht hW => ⟨⟨u_1.2.2.1 16 (p1).toNatClampNeg, (), rfl, rfl, ⟨by rw [ht]; exact hP, hD⟩⟩, hS.F ht⟩) hS.2.2 dX4_startOf_18 hlocks
  · replace h := oi_f c_3 h
    refine lv_iconst (v := 0) hx hb dX4_startOf_8 (by decide) ?_
    refine lv_goto (tgt := 18) hx hb dX4_startOf_9 (by decide) ?_
    have h9 := Option.some.inj h
    subst h9
    exact W.iret (v := 0) hx hb hr (fun t ht hW => ⟨⟨0, (), rfl, rfl, ⟨by rw [ht]; exact hP, hD⟩⟩, hS.F ht⟩) hS.2.2 dX4_startOf_18 hlocks
def f_X4_craneOf (V : RV) (p1 : Int32) : Option (Int32 × RV) := ob (f_X4_isLoose V p1) (fun u_1 => oi (u_1.1 = 0) (og (¬ (p1 < 0 ∨ 40 ≤ (p1).toNatClampNeg)) (some (u_1.2.2.1 15 (p1).toNatClampNeg, u_1.2))) (some (0, u_1.2)))
theorem hd_X4_craneOf : yX4_craneOf.cls = RX4 ∧ yX4_craneOf.cls ≠ "java/lang/invoke/MethodHandle" ∧ yX4_craneOf.cls ≠ "java/lang/invoke/VarHandle" ∧ (parseMethodDescriptor yX4_craneOf.desc).map (fun d => d.parameters.length) = some 1 := by decide +kernel
set_option maxHeartbeats 4000000 in
set_option maxRecDepth 100000 in
theorem c_X4_craneOf (l : Launch) (D : va_G) (cy : Nat → ClassId) (b : Nat → Nat) (V : RV) (sz : Nat) (p1 : Int32) {res : Int32 × RV} (h : f_X4_craneOf V p1 = some res) : Met l yX4_craneOf wsX4_craneOf ({ frames := 4, cells := 0, slots := 0, locals := 85 } : Room) (va_Pc [.ref (b 0), .int p1] (zJ sz (rI D cy b V))) (va_Qi (fun r (_ : Unit) => r = res.1) (fun _ t => va_P D xcl (rW cy b res.2) t.heap ∧ va_D (va_A (rW cy b V) sz) (rW cy b res.2)) (va_A (rW cy b V) sz)) 0 0 (va_A (rW cy b V) sz) := by
  refine Met.ofW (cc := cX4_craneOf) (maxL := 2) (ret := (some .int)) (by decide) rfl ?_
  intro p e s m args below meth c s₁ B hml hv
  obtain ⟨rfl, hsz, hP, hK, hD0⟩ := hv
  have hx := B.exec
  have hb := B.bytes
  have hr := B.returns
  have hts := atoms_spec (ws := wsX4_craneOf) B.pre
  have hown : s.vm.findClass RX4 = some m.cls := findClass_of_methodNamed B.named
  have hlocks := B.notSynchronized
  subst hsz
  have hD := hD0.self (sz := s.heap.size)
  generalize hAe : va_A (rW cy b V) s.heap.size = A at hD ⊢
  have hA : ∀ q : Nat, s.heap.size ≤ q → A q := fun q h => by rw [← hAe]; exact Or.inr h
  have hS : va_S A s.heap s.heap [] := va_S.rf
  have hl := lv_entry ([.ref (b 0), .int p1]) (n := 2) (Nat.le_of_ble_eq_true rfl)
  rw [lg_entry_eq]
  generalize (lg_sl ([.ref (b 0), .int p1]) ++ List.replicate (2 - (lg_sl ([.ref (b 0), .int p1])).length) Slot.unset).toArray = ls at hl ⊢
  have hl : lv_has ls 2 [(0, .ref (b 0)), (1, .int p1)] := hl
  have hinX4 : ∀ w ∈ wsX40, w ∈ wsX4_craneOf := (fun _ h => (List.mem_cons_of_mem _ (List.mem_append_right _ h)))
  revert hP hS
  intro hP hS
  refine lv_aload_n hx hb dX4_craneOf_0 rfl (lv_at hl 0 rfl) ?_
  refine lv_iload_n hx hb dX4_craneOf_1 rfl (lv_at hl 1 rfl) ?_
  obtain ⟨u_1, hg_2, h⟩ := ob_some h
  refine zcWi (va_runV (As := [.int p1]) (rest := []) ⟨hx, hb, hml, hown, hts⟩ (c_X4_isLoose l D cy b V _ p1 hg_2) (cwV 1 hts gX4_craneOf_X4_isLoose rfl rfl rfl hd_X4_isLoose ⟨Nat.le_of_ble_eq_true rfl, Nat.le_of_ble_eq_true rfl⟩) ⟨(zJ_blind rI_blind), va_recv hK hP (ci := 4) (q0 := 0) rfl rfl, (zJ_at (rI_at hP hK hD))⟩ rfl rfl hl.1 rfl (lv_room (Nat.le_of_ble_eq_true rfl)) dX4_craneOf_2 ⟨Nat.le_of_ble_eq_true rfl, Nat.le_of_ble_eq_true rfl⟩) hS (z_free hD hS hA) (fun H locs hP hD hS => ?_)
  refine lv_if_eq (tgt := 12) hx hb dX4_craneOf_5 (by decide) (fun c_3 => ?_) (fun c_3 => ?_)
  · replace h := oi_t c_3 h
    refine lv_aload_n hx hb dX4_craneOf_12 rfl (lv_at hl 0 rfl) ?_
    refine va_get (D := D) (ci := 4) (v := .ref (b 15)) (C := RX4) (T := TX4) (N := 28) hx hb hts hinX4 hown hK hP 0 rfl rfl 15 (by decide) (hts _ (List.mem_of_getElem? (i := 1) rfl)) (fun _ h9 => h9) rfl dX4_craneOf_13 ?_
    refine lv_iload_n hx hb dX4_craneOf_16 rfl (lv_at hl 1 rfl) ?_
    obtain ⟨g_4, h⟩ := og_some h
    refine va_iald hx hb hK hP 14 0 rfl rfl g_4 dX4_craneOf_17 ?_
    have h9 := Option.some.inj h
    subst h9
    exact W.iret (v := u_1.2.2.1 15 (p1).toNatClampNeg) hx hb hr (fun t ht hW => ⟨⟨u_1.2.2.1 15 (p1).toNatClampNeg, (), rfl, rfl, ⟨by rw [ht]; exact hP, hD⟩⟩, hS.F ht⟩) hS.2.2 dX4_craneOf_18 hlocks
  · replace h := oi_f c_3 h
    refine lv_iconst (v := 0) hx hb dX4_craneOf_8 (by decide) ?_
    refine lv_goto (tgt := 18) hx hb dX4_craneOf_9 (by decide) ?_
    have h9 := Option.some.inj h
    subst h9
    exact W.iret (v := 0) hx hb hr (fun t ht hW => ⟨⟨0, (), rfl, rfl, ⟨by rw [ht]; exact hP, hD⟩⟩, hS.F ht⟩) hS.2.2 dX4_craneOf_18 hlocks
def f_X4_pourOf (V : RV) (p1 : Int32) : Option (Int32 × RV) := ob (f_X4_isNone V p1) (fun u_1 => oi (u_1.1 = 0) (og (¬ (p1 < 0 ∨ 40 ≤ (p1).toNatClampNeg)) (some (u_1.2.2.1 17 (p1).toNatClampNeg, u_1.2))) (some (0, u_1.2)))
theorem hd_X4_pourOf : yX4_pourOf.cls = RX4 ∧ yX4_pourOf.cls ≠ "java/lang/invoke/MethodHandle" ∧ yX4_pourOf.cls ≠ "java/lang/invoke/VarHandle" ∧ (parseMethodDescriptor yX4_pourOf.desc).map (fun d => d.parameters.length) = some 1 := by decide +kernel
set_option maxHeartbeats 4000000 in
set_option maxRecDepth 100000 in
theorem c_X4_pourOf (l : Launch) (D : va_G) (cy : Nat → ClassId) (b : Nat → Nat) (V : RV) (sz : Nat) (p1 : Int32) {res : Int32 × RV} (h : f_X4_pourOf V p1 = some res) : Met l yX4_pourOf wsX4_pourOf ({ frames := 3, cells := 0, slots := 0, locals := 64 } : Room) (va_Pc [.ref (b 0), .int p1] (zJ sz (rI D cy b V))) (va_Qi (fun r (_ : Unit) => r = res.1) (fun _ t => va_P D xcl (rW cy b res.2) t.heap ∧ va_D (va_A (rW cy b V) sz) (rW cy b res.2)) (va_A (rW cy b V) sz)) 0 0 (va_A (rW cy b V) sz) := by
  refine Met.ofW (cc := cX4_pourOf) (maxL := 2) (ret := (some .int)) (by decide) rfl ?_
  intro p e s m args below meth c s₁ B hml hv
  obtain ⟨rfl, hsz, hP, hK, hD0⟩ := hv
  have hx := B.exec
  have hb := B.bytes
  have hr := B.returns
  have hts := atoms_spec (ws := wsX4_pourOf) B.pre
  have hown : s.vm.findClass RX4 = some m.cls := findClass_of_methodNamed B.named
  have hlocks := B.notSynchronized
  subst hsz
  have hD := hD0.self (sz := s.heap.size)
  generalize hAe : va_A (rW cy b V) s.heap.size = A at hD ⊢
  have hA : ∀ q : Nat, s.heap.size ≤ q → A q := fun q h => by rw [← hAe]; exact Or.inr h
  have hS : va_S A s.heap s.heap [] := va_S.rf
  have hl := lv_entry ([.ref (b 0), .int p1]) (n := 2) (Nat.le_of_ble_eq_true rfl)
  rw [lg_entry_eq]
  generalize (lg_sl ([.ref (b 0), .int p1]) ++ List.replicate (2 - (lg_sl ([.ref (b 0), .int p1])).length) Slot.unset).toArray = ls at hl ⊢
  have hl : lv_has ls 2 [(0, .ref (b 0)), (1, .int p1)] := hl
  have hinX4 : ∀ w ∈ wsX40, w ∈ wsX4_pourOf := (fun _ h => (List.mem_cons_of_mem _ (List.mem_append_right _ h)))
  revert hP hS
  intro hP hS
  refine lv_aload_n hx hb dX4_pourOf_0 rfl (lv_at hl 0 rfl) ?_
  refine lv_iload_n hx hb dX4_pourOf_1 rfl (lv_at hl 1 rfl) ?_
  obtain ⟨u_1, hg_2, h⟩ := ob_some h
  refine zcWi (va_runV (As := [.int p1]) (rest := []) ⟨hx, hb, hml, hown, hts⟩ (c_X4_isNone l D cy b V _ p1 hg_2) (cwV 1 hts gX4_pourOf_X4_isNone rfl rfl rfl hd_X4_isNone ⟨Nat.le_of_ble_eq_true rfl, Nat.le_of_ble_eq_true rfl⟩) ⟨(zJ_blind rI_blind), va_recv hK hP (ci := 4) (q0 := 0) rfl rfl, (zJ_at (rI_at hP hK hD))⟩ rfl rfl hl.1 rfl (lv_room (Nat.le_of_ble_eq_true rfl)) dX4_pourOf_2 ⟨Nat.le_of_ble_eq_true rfl, Nat.le_of_ble_eq_true rfl⟩) hS (z_free hD hS hA) (fun H locs hP hD hS => ?_)
  refine lv_if_eq (tgt := 12) hx hb dX4_pourOf_5 (by decide) (fun c_3 => ?_) (fun c_3 => ?_)
  · replace h := oi_t c_3 h
    refine lv_aload_n hx hb dX4_pourOf_12 rfl (lv_at hl 0 rfl) ?_
    refine va_get (D := D) (ci := 4) (v := .ref (b 17)) (C := RX4) (T := TX4) (N := 28) hx hb hts hinX4 hown hK hP 0 rfl rfl 17 (by decide) (hts _ (List.mem_of_getElem? (i := 1) rfl)) (fun _ h9 => h9) rfl dX4_pourOf_13 ?_
    refine lv_iload_n hx hb dX4_pourOf_16 rfl (lv_at hl 1 rfl) ?_
    obtain ⟨g_4, h⟩ := og_some h
    refine va_iald hx hb hK hP 16 0 rfl rfl g_4 dX4_pourOf_17 ?_
    have h9 := Option.some.inj h
    subst h9
    exact W.iret (v := u_1.2.2.1 17 (p1).toNatClampNeg) hx hb hr (fun t ht hW => ⟨⟨u_1.2.2.1 17 (p1).toNatClampNeg, (), rfl, rfl, ⟨by rw [ht]; exact hP, hD⟩⟩, hS.F ht⟩) hS.2.2 dX4_pourOf_18 hlocks
  · replace h := oi_f c_3 h
    refine lv_iconst (v := 0) hx hb dX4_pourOf_8 (by decide) ?_
    refine lv_goto (tgt := 18) hx hb dX4_pourOf_9 (by decide) ?_
    have h9 := Option.some.inj h
    subst h9
    exact W.iret (v := 0) hx hb hr (fun t ht hW => ⟨⟨0, (), rfl, rfl, ⟨by rw [ht]; exact hP, hD⟩⟩, hS.F ht⟩) hS.2.2 dX4_pourOf_18 hlocks
def f_X4_airOf (V : RV) (p1 : Int32) : Option (Int64 × RV) := ob (f_X4_isNone V p1) (fun u_1 => oi (u_1.1 = 0) (og (¬ (p1 < 0 ∨ 40 ≤ (p1).toNatClampNeg)) (some (u_1.2.2.2 (p1).toNatClampNeg, u_1.2))) (some (0, u_1.2)))
theorem hd_X4_airOf : yX4_airOf.cls = RX4 ∧ yX4_airOf.cls ≠ "java/lang/invoke/MethodHandle" ∧ yX4_airOf.cls ≠ "java/lang/invoke/VarHandle" ∧ (parseMethodDescriptor yX4_airOf.desc).map (fun d => d.parameters.length) = some 1 := by decide +kernel
set_option maxHeartbeats 4000000 in
set_option maxRecDepth 100000 in
theorem c_X4_airOf (l : Launch) (D : va_G) (cy : Nat → ClassId) (b : Nat → Nat) (V : RV) (sz : Nat) (p1 : Int32) {res : Int64 × RV} (h : f_X4_airOf V p1 = some res) : Met l yX4_airOf wsX4_airOf ({ frames := 3, cells := 0, slots := 0, locals := 64 } : Room) (va_Pc [.ref (b 0), .int p1] (zJ sz (rI D cy b V))) (va_Ql (fun r (_ : Unit) => r = res.1) (fun _ t => va_P D xcl (rW cy b res.2) t.heap ∧ va_D (va_A (rW cy b V) sz) (rW cy b res.2)) (va_A (rW cy b V) sz)) 0 0 (va_A (rW cy b V) sz) := by
  refine Met.ofW (cc := cX4_airOf) (maxL := 2) (ret := (some .long)) (by decide) rfl ?_
  intro p e s m args below meth c s₁ B hml hv
  obtain ⟨rfl, hsz, hP, hK, hD0⟩ := hv
  have hx := B.exec
  have hb := B.bytes
  have hr := B.returns
  have hts := atoms_spec (ws := wsX4_airOf) B.pre
  have hown : s.vm.findClass RX4 = some m.cls := findClass_of_methodNamed B.named
  have hlocks := B.notSynchronized
  subst hsz
  have hD := hD0.self (sz := s.heap.size)
  generalize hAe : va_A (rW cy b V) s.heap.size = A at hD ⊢
  have hA : ∀ q : Nat, s.heap.size ≤ q → A q := fun q h => by rw [← hAe]; exact Or.inr h
  have hS : va_S A s.heap s.heap [] := va_S.rf
  have hl := lv_entry ([.ref (b 0), .int p1]) (n := 2) (Nat.le_of_ble_eq_true rfl)
  rw [lg_entry_eq]
  generalize (lg_sl ([.ref (b 0), .int p1]) ++ List.replicate (2 - (lg_sl ([.ref (b 0), .int p1])).length) Slot.unset).toArray = ls at hl ⊢
  have hl : lv_has ls 2 [(0, .ref (b 0)), (1, .int p1)] := hl
  have hinX4 : ∀ w ∈ wsX40, w ∈ wsX4_airOf := (fun _ h => (List.mem_cons_of_mem _ (List.mem_append_right _ h)))
  revert hP hS
  intro hP hS
  refine lv_aload_n hx hb dX4_airOf_0 rfl (lv_at hl 0 rfl) ?_
  refine lv_iload_n hx hb dX4_airOf_1 rfl (lv_at hl 1 rfl) ?_
  obtain ⟨u_1, hg_2, h⟩ := ob_some h
  refine zcWi (va_runV (As := [.int p1]) (rest := []) ⟨hx, hb, hml, hown, hts⟩ (c_X4_isNone l D cy b V _ p1 hg_2) (cwV 1 hts gX4_airOf_X4_isNone rfl rfl rfl hd_X4_isNone ⟨Nat.le_of_ble_eq_true rfl, Nat.le_of_ble_eq_true rfl⟩) ⟨(zJ_blind rI_blind), va_recv hK hP (ci := 4) (q0 := 0) rfl rfl, (zJ_at (rI_at hP hK hD))⟩ rfl rfl hl.1 rfl (lv_room (Nat.le_of_ble_eq_true rfl)) dX4_airOf_2 ⟨Nat.le_of_ble_eq_true rfl, Nat.le_of_ble_eq_true rfl⟩) hS (z_free hD hS hA) (fun H locs hP hD hS => ?_)
  refine lv_if_eq (tgt := 12) hx hb dX4_airOf_5 (by decide) (fun c_3 => ?_) (fun c_3 => ?_)
  · replace h := oi_t c_3 h
    refine lv_aload_n hx hb dX4_airOf_12 rfl (lv_at hl 0 rfl) ?_
    refine va_get (D := D) (ci := 4) (v := .ref (b 18)) (C := RX4) (T := TX4) (N := 28) hx hb hts hinX4 hown hK hP 0 rfl rfl 18 (by decide) (hts _ (List.mem_of_getElem? (i := 1) rfl)) (fun _ h9 => h9) rfl dX4_airOf_13 ?_
    refine lv_iload_n hx hb dX4_airOf_16 rfl (lv_at hl 1 rfl) ?_
    obtain ⟨g_4, h⟩ := og_some h
    refine va_lald hx hb hK hP 17 1 rfl rfl g_4 dX4_airOf_17 ?_
    have h9 := Option.some.inj h
    subst h9
    exact W.lret (v := u_1.2.2.2 (p1).toNatClampNeg) hx hb hr (fun t ht hW => ⟨⟨u_1.2.2.2 (p1).toNatClampNeg, (), rfl, rfl, ⟨by rw [ht]; exact hP, hD⟩⟩, hS.F ht⟩) hS.2.2 dX4_airOf_18 hlocks
  · replace h := oi_f c_3 h
    refine lv_lconst (v := 0) hx hb dX4_airOf_8 (by decide) ?_
    refine lv_goto (tgt := 18) hx hb dX4_airOf_9 (by decide) ?_
    have h9 := Option.some.inj h
    subst h9
    exact W.lret (v := 0) hx hb hr (fun t ht hW => ⟨⟨0, (), rfl, rfl, ⟨by rw [ht]; exact hP, hD⟩⟩, hS.F ht⟩) hS.2.2 dX4_airOf_18 hlocks
def f_X4_shareAir (V : RV) (p1 : Int32) (p2 : Int32) : Option (Int32 × RV) := ob (f_X4_isNoLift V p1) (fun u_1 => oi (u_1 = 0) (ob (f_X4_isNoLift V p2) (fun u_10 => oi (u_10 = 0) (ob (f_X4_fails V 0) (fun u_13 => oi (u_13.1 = 0) (og (¬ (p1 < 0 ∨ 40 ≤ (p1).toNatClampNeg)) (og (¬ (p2 < 0 ∨ 40 ≤ (p2).toNatClampNeg)) (oi ((lg_cmp ((u_13.2.2.2 (p1).toNatClampNeg) &&& (u_13.2.2.2 (p2).toNatClampNeg)) 0) = 0) (some (0, u_13.2)) (some (1, u_13.2))))) (some (0, u_13.2)))) (ob (f_X4_fails V 1) (fun u_19 => oi (u_19.1 = 0) (og (¬ (p1 < 0 ∨ 40 ≤ (p1).toNatClampNeg)) (og (¬ (p2 < 0 ∨ 40 ≤ (p2).toNatClampNeg)) (oi ((lg_cmp ((u_19.2.2.2 (p1).toNatClampNeg) &&& (u_19.2.2.2 (p2).toNatClampNeg)) 0) = 0) (some (0, u_19.2)) (some (1, u_19.2))))) (some (0, u_19.2)))))) (ob (f_X4_fails V 1) (fun u_4 => oi (u_4.1 = 0) (og (¬ (p1 < 0 ∨ 40 ≤ (p1).toNatClampNeg)) (og (¬ (p2 < 0 ∨ 40 ≤ (p2).toNatClampNeg)) (oi ((lg_cmp ((u_4.2.2.2 (p1).toNatClampNeg) &&& (u_4.2.2.2 (p2).toNatClampNeg)) 0) = 0) (some (0, u_4.2)) (some (1, u_4.2))))) (some (0, u_4.2)))))
theorem hd_X4_shareAir : yX4_shareAir.cls = RX4 ∧ yX4_shareAir.cls ≠ "java/lang/invoke/MethodHandle" ∧ yX4_shareAir.cls ≠ "java/lang/invoke/VarHandle" ∧ (parseMethodDescriptor yX4_shareAir.desc).map (fun d => d.parameters.length) = some 2 := by decide +kernel
set_option maxHeartbeats 4000000 in
set_option maxRecDepth 100000 in
theorem c_X4_shareAir (l : Launch) (D : va_G) (cy : Nat → ClassId) (b : Nat → Nat) (V : RV) (sz : Nat) (p1 : Int32) (p2 : Int32) {res : Int32 × RV} (h : f_X4_shareAir V p1 p2 = some res) : Met l yX4_shareAir wsX4_shareAir ({ frames := 2, cells := 0, slots := 0, locals := 43 } : Room) (va_Pc [.ref (b 0), .int p1, .int p2] (zJ sz (rI D cy b V))) (va_Qi (fun r (_ : Unit) => r = res.1) (fun _ t => va_P D xcl (rW cy b res.2) t.heap ∧ va_D (va_A (rW cy b V) sz) (rW cy b res.2)) (va_A (rW cy b V) sz)) 0 0 (va_A (rW cy b V) sz) := by
  refine Met.ofW (cc := cX4_shareAir) (maxL := 3) (ret := (some .boolean)) (by decide) rfl ?_
  intro p e s m args below meth c s₁ B hml hv
  obtain ⟨rfl, hsz, hP, hK, hD0⟩ := hv
  have hx := B.exec
  have hb := B.bytes
  have hr := B.returns
  have hts := atoms_spec (ws := wsX4_shareAir) B.pre
  have hown : s.vm.findClass RX4 = some m.cls := findClass_of_methodNamed B.named
  have hlocks := B.notSynchronized
  subst hsz
  have hD := hD0.self (sz := s.heap.size)
  generalize hAe : va_A (rW cy b V) s.heap.size = A at hD ⊢
  have hA : ∀ q : Nat, s.heap.size ≤ q → A q := fun q h => by rw [← hAe]; exact Or.inr h
  have hS : va_S A s.heap s.heap [] := va_S.rf
  have hl := lv_entry ([.ref (b 0), .int p1, .int p2]) (n := 3) (Nat.le_of_ble_eq_true rfl)
  rw [lg_entry_eq]
  generalize (lg_sl ([.ref (b 0), .int p1, .int p2]) ++ List.replicate (3 - (lg_sl ([.ref (b 0), .int p1, .int p2])).length) Slot.unset).toArray = ls at hl ⊢
  have hl : lv_has ls 3 [(0, .ref (b 0)), (1, .int p1), (2, .int p2)] := hl
  have hinX4 : ∀ w ∈ wsX40, w ∈ wsX4_shareAir := (fun _ h => (List.mem_cons_of_mem _ (List.mem_append_right _ h)))
  revert hP hS
  intro hP hS
  refine lv_aload_n hx hb dX4_shareAir_0 rfl (lv_at hl 0 rfl) ?_
  refine lv_aload_n hx hb dX4_shareAir_1 rfl (lv_at hl 0 rfl) ?_
  refine lv_iload_n hx hb dX4_shareAir_2 rfl (lv_at hl 1 rfl) ?_
  obtain ⟨u_1, hg_2, h⟩ := ob_some h
  refine zcSi (W.runV (As := [.int p1]) (rest := [.ref (b 0)]) ⟨hx, hb, hml, hown, hts⟩ (c_X4_isNoLift l D cy b V p1 hg_2) (cwV 1 hts gX4_shareAir_X4_isNoLift rfl rfl rfl hd_X4_isNoLift ⟨Nat.le_of_ble_eq_true rfl, Nat.le_of_ble_eq_true rfl⟩) ⟨rI_blind, va_recv hK hP (ci := 4) (q0 := 0) rfl rfl, (rI_at hP hK hD)⟩ rfl rfl hl.1 rfl (lv_room (Nat.le_of_ble_eq_true rfl)) dX4_shareAir_3 ⟨Nat.le_of_ble_eq_true rfl, Nat.le_of_ble_eq_true rfl⟩) ?_
  refine lv_if_ne (tgt := 17) hx hb dX4_shareAir_6 (by decide) (fun c_3 => ?_) (fun c_3 => ?_)
  · replace h := oi_f c_3 h
    refine lv_iconst (v := 1) hx hb dX4_shareAir_17 (by decide) ?_
    refine lv_goto (tgt := 22) hx hb dX4_shareAir_18 (by decide) ?_
    obtain ⟨u_4, hg_5, h⟩ := ob_some h
    refine zcWi (va_runV (As := [.int 1]) (rest := []) ⟨hx, hb, hml, hown, hts⟩ (c_X4_fails l D cy b V _ 1 hg_5) (cwV 1 hts gX4_shareAir_X4_fails rfl rfl rfl hd_X4_fails ⟨Nat.le_of_ble_eq_true rfl, Nat.le_of_ble_eq_true rfl⟩) ⟨(zJ_blind rI_blind), va_recv hK hP (ci := 4) (q0 := 0) rfl rfl, (zJ_at (rI_at hP hK hD))⟩ rfl rfl hl.1 rfl (lv_room (Nat.le_of_ble_eq_true rfl)) dX4_shareAir_22 ⟨Nat.le_of_ble_eq_true rfl, Nat.le_of_ble_eq_true rfl⟩) hS (z_free hD hS hA) (fun H locs hP hD hS => ?_)
    refine lv_if_ne (tgt := 50) hx hb dX4_shareAir_25 (by decide) (fun c_6 => ?_) (fun c_6 => ?_)
    · replace h := oi_f c_6 h
      refine lv_iconst (v := 0) hx hb dX4_shareAir_50 (by decide) ?_
      have h9 := Option.some.inj h
      subst h9
      exact W.zret (v := 0) hx hb hr (by decide) (fun t ht hW => ⟨⟨0, (), rfl, rfl, ⟨by rw [ht]; exact hP, hD⟩⟩, hS.F ht⟩) hS.2.2 dX4_shareAir_51 hlocks
    · replace h := oi_t c_6 h
      refine lv_aload_n hx hb dX4_shareAir_28 rfl (lv_at hl 0 rfl) ?_
      refine va_get (D := D) (ci := 4) (v := .ref (b 18)) (C := RX4) (T := TX4) (N := 28) hx hb hts hinX4 hown hK hP 0 rfl rfl 18 (by decide) (hts _ (List.mem_of_getElem? (i := 1) rfl)) (fun _ h9 => h9) rfl dX4_shareAir_29 ?_
      refine lv_iload_n hx hb dX4_shareAir_32 rfl (lv_at hl 1 rfl) ?_
      obtain ⟨g_7, h⟩ := og_some h
      refine va_lald hx hb hK hP 17 1 rfl rfl g_7 dX4_shareAir_33 ?_
      refine lv_aload_n hx hb dX4_shareAir_34 rfl (lv_at hl 0 rfl) ?_
      refine va_get (D := D) (ci := 4) (v := .ref (b 18)) (C := RX4) (T := TX4) (N := 28) hx hb hts hinX4 hown hK hP 0 rfl rfl 18 (by decide) (hts _ (List.mem_of_getElem? (i := 1) rfl)) (fun _ h9 => h9) rfl dX4_shareAir_35 ?_
      refine lv_iload_n hx hb dX4_shareAir_38 rfl (lv_at hl 2 rfl) ?_
      obtain ⟨g_8, h⟩ := og_some h
      refine va_lald hx hb hK hP 17 1 rfl rfl g_8 dX4_shareAir_39 ?_
      refine lv_land hx hb dX4_shareAir_40 ?_
      refine lv_lconst (v := 0) hx hb dX4_shareAir_41 (by decide) ?_
      refine W.lcmp hx hb dX4_shareAir_42 ?_
      refine lv_if_eq (tgt := 50) hx hb dX4_shareAir_43 (by decide) (fun c_9 => ?_) (fun c_9 => ?_)
      · replace h := oi_t c_9 h
        refine lv_iconst (v := 0) hx hb dX4_shareAir_50 (by decide) ?_
        have h9 := Option.some.inj h
        subst h9
        exact W.zret (v := 0) hx hb hr (by decide) (fun t ht hW => ⟨⟨0, (), rfl, rfl, ⟨by rw [ht]; exact hP, hD⟩⟩, hS.F ht⟩) hS.2.2 dX4_shareAir_51 hlocks
      · replace h := oi_f c_9 h
        refine lv_iconst (v := 1) hx hb dX4_shareAir_46 (by decide) ?_
        refine lv_goto (tgt := 51) hx hb dX4_shareAir_47 (by decide) ?_
        have h9 := Option.some.inj h
        subst h9
        exact W.zret (v := 1) hx hb hr (by decide) (fun t ht hW => ⟨⟨1, (), rfl, rfl, ⟨by rw [ht]; exact hP, hD⟩⟩, hS.F ht⟩) hS.2.2 dX4_shareAir_51 hlocks
  · replace h := oi_t c_3 h
    refine lv_aload_n hx hb dX4_shareAir_9 rfl (lv_at hl 0 rfl) ?_
    refine lv_iload_n hx hb dX4_shareAir_10 rfl (lv_at hl 2 rfl) ?_
    obtain ⟨u_10, hg_11, h⟩ := ob_some h
    refine zcSi (W.runV (As := [.int p2]) (rest := [.ref (b 0)]) ⟨hx, hb, hml, hown, hts⟩ (c_X4_isNoLift l D cy b V p2 hg_11) (cwV 1 hts gX4_shareAir_X4_isNoLift rfl rfl rfl hd_X4_isNoLift ⟨Nat.le_of_ble_eq_true rfl, Nat.le_of_ble_eq_true rfl⟩) ⟨rI_blind, va_recv hK hP (ci := 4) (q0 := 0) rfl rfl, (rI_at hP hK hD)⟩ rfl rfl hl.1 rfl (lv_room (Nat.le_of_ble_eq_true rfl)) dX4_shareAir_11 ⟨Nat.le_of_ble_eq_true rfl, Nat.le_of_ble_eq_true rfl⟩) ?_
    refine lv_if_eq (tgt := 21) hx hb dX4_shareAir_14 (by decide) (fun c_12 => ?_) (fun c_12 => ?_)
    · replace h := oi_t c_12 h
      refine lv_iconst (v := 0) hx hb dX4_shareAir_21 (by decide) ?_
      obtain ⟨u_13, hg_14, h⟩ := ob_some h
      refine zcWi (va_runV (As := [.int 0]) (rest := []) ⟨hx, hb, hml, hown, hts⟩ (c_X4_fails l D cy b V _ 0 hg_14) (cwV 1 hts gX4_shareAir_X4_fails rfl rfl rfl hd_X4_fails ⟨Nat.le_of_ble_eq_true rfl, Nat.le_of_ble_eq_true rfl⟩) ⟨(zJ_blind rI_blind), va_recv hK hP (ci := 4) (q0 := 0) rfl rfl, (zJ_at (rI_at hP hK hD))⟩ rfl rfl hl.1 rfl (lv_room (Nat.le_of_ble_eq_true rfl)) dX4_shareAir_22 ⟨Nat.le_of_ble_eq_true rfl, Nat.le_of_ble_eq_true rfl⟩) hS (z_free hD hS hA) (fun H locs hP hD hS => ?_)
      refine lv_if_ne (tgt := 50) hx hb dX4_shareAir_25 (by decide) (fun c_15 => ?_) (fun c_15 => ?_)
      · replace h := oi_f c_15 h
        refine lv_iconst (v := 0) hx hb dX4_shareAir_50 (by decide) ?_
        have h9 := Option.some.inj h
        subst h9
        exact W.zret (v := 0) hx hb hr (by decide) (fun t ht hW => ⟨⟨0, (), rfl, rfl, ⟨by rw [ht]; exact hP, hD⟩⟩, hS.F ht⟩) hS.2.2 dX4_shareAir_51 hlocks
      · replace h := oi_t c_15 h
        refine lv_aload_n hx hb dX4_shareAir_28 rfl (lv_at hl 0 rfl) ?_
        refine va_get (D := D) (ci := 4) (v := .ref (b 18)) (C := RX4) (T := TX4) (N := 28) hx hb hts hinX4 hown hK hP 0 rfl rfl 18 (by decide) (hts _ (List.mem_of_getElem? (i := 1) rfl)) (fun _ h9 => h9) rfl dX4_shareAir_29 ?_
        refine lv_iload_n hx hb dX4_shareAir_32 rfl (lv_at hl 1 rfl) ?_
        obtain ⟨g_16, h⟩ := og_some h
        refine va_lald hx hb hK hP 17 1 rfl rfl g_16 dX4_shareAir_33 ?_
        refine lv_aload_n hx hb dX4_shareAir_34 rfl (lv_at hl 0 rfl) ?_
        refine va_get (D := D) (ci := 4) (v := .ref (b 18)) (C := RX4) (T := TX4) (N := 28) hx hb hts hinX4 hown hK hP 0 rfl rfl 18 (by decide) (hts _ (List.mem_of_getElem? (i := 1) rfl)) (fun _ h9 => h9) rfl dX4_shareAir_35 ?_
        refine lv_iload_n hx hb dX4_shareAir_38 rfl (lv_at hl 2 rfl) ?_
        obtain ⟨g_17, h⟩ := og_some h
        refine va_lald hx hb hK hP 17 1 rfl rfl g_17 dX4_shareAir_39 ?_
        refine lv_land hx hb dX4_shareAir_40 ?_
        refine lv_lconst (v := 0) hx hb dX4_shareAir_41 (by decide) ?_
        refine W.lcmp hx hb dX4_shareAir_42 ?_
        refine lv_if_eq (tgt := 50) hx hb dX4_shareAir_43 (by decide) (fun c_18 => ?_) (fun c_18 => ?_)
        · replace h := oi_t c_18 h
          refine lv_iconst (v := 0) hx hb dX4_shareAir_50 (by decide) ?_
          have h9 := Option.some.inj h
          subst h9
          exact W.zret (v := 0) hx hb hr (by decide) (fun t ht hW => ⟨⟨0, (), rfl, rfl, ⟨by rw [ht]; exact hP, hD⟩⟩, hS.F ht⟩) hS.2.2 dX4_shareAir_51 hlocks
        · replace h := oi_f c_18 h
          refine lv_iconst (v := 1) hx hb dX4_shareAir_46 (by decide) ?_
          refine lv_goto (tgt := 51) hx hb dX4_shareAir_47 (by decide) ?_
          have h9 := Option.some.inj h
          subst h9
          exact W.zret (v := 1) hx hb hr (by decide) (fun t ht hW => ⟨⟨1, (), rfl, rfl, ⟨by rw [ht]; exact hP, hD⟩⟩, hS.F ht⟩) hS.2.2 dX4_shareAir_51 hlocks
    · replace h := oi_f c_12 h
      refine lv_iconst (v := 1) hx hb dX4_shareAir_17 (by decide) ?_
      refine lv_goto (tgt := 22) hx hb dX4_shareAir_18 (by decide) ?_
      obtain ⟨u_19, hg_20, h⟩ := ob_some h
      refine zcWi (va_runV (As := [.int 1]) (rest := []) ⟨hx, hb, hml, hown, hts⟩ (c_X4_fails l D cy b V _ 1 hg_20) (cwV 1 hts gX4_shareAir_X4_fails rfl rfl rfl hd_X4_fails ⟨Nat.le_of_ble_eq_true rfl, Nat.le_of_ble_eq_true rfl⟩) ⟨(zJ_blind rI_blind), va_recv hK hP (ci := 4) (q0 := 0) rfl rfl, (zJ_at (rI_at hP hK hD))⟩ rfl rfl hl.1 rfl (lv_room (Nat.le_of_ble_eq_true rfl)) dX4_shareAir_22 ⟨Nat.le_of_ble_eq_true rfl, Nat.le_of_ble_eq_true rfl⟩) hS (z_free hD hS hA) (fun H locs hP hD hS => ?_)
      refine lv_if_ne (tgt := 50) hx hb dX4_shareAir_25 (by decide) (fun c_21 => ?_) (fun c_21 => ?_)
      · replace h := oi_f c_21 h
        refine lv_iconst (v := 0) hx hb dX4_shareAir_50 (by decide) ?_
        have h9 := Option.some.inj h
        subst h9
        exact W.zret (v := 0) hx hb hr (by decide) (fun t ht hW => ⟨⟨0, (), rfl, rfl, ⟨by rw [ht]; exact hP, hD⟩⟩, hS.F ht⟩) hS.2.2 dX4_shareAir_51 hlocks
      · replace h := oi_t c_21 h
        refine lv_aload_n hx hb dX4_shareAir_28 rfl (lv_at hl 0 rfl) ?_
        refine va_get (D := D) (ci := 4) (v := .ref (b 18)) (C := RX4) (T := TX4) (N := 28) hx hb hts hinX4 hown hK hP 0 rfl rfl 18 (by decide) (hts _ (List.mem_of_getElem? (i := 1) rfl)) (fun _ h9 => h9) rfl dX4_shareAir_29 ?_
        refine lv_iload_n hx hb dX4_shareAir_32 rfl (lv_at hl 1 rfl) ?_
        obtain ⟨g_22, h⟩ := og_some h
        refine va_lald hx hb hK hP 17 1 rfl rfl g_22 dX4_shareAir_33 ?_
        refine lv_aload_n hx hb dX4_shareAir_34 rfl (lv_at hl 0 rfl) ?_
        refine va_get (D := D) (ci := 4) (v := .ref (b 18)) (C := RX4) (T := TX4) (N := 28) hx hb hts hinX4 hown hK hP 0 rfl rfl 18 (by decide) (hts _ (List.mem_of_getElem? (i := 1) rfl)) (fun _ h9 => h9) rfl dX4_shareAir_35 ?_
        refine lv_iload_n hx hb dX4_shareAir_38 rfl (lv_at hl 2 rfl) ?_
        obtain ⟨g_23, h⟩ := og_some h
        refine va_lald hx hb hK hP 17 1 rfl rfl g_23 dX4_shareAir_39 ?_
        refine lv_land hx hb dX4_shareAir_40 ?_
        refine lv_lconst (v := 0) hx hb dX4_shareAir_41 (by decide) ?_
        refine W.lcmp hx hb dX4_shareAir_42 ?_
        refine lv_if_eq (tgt := 50) hx hb dX4_shareAir_43 (by decide) (fun c_24 => ?_) (fun c_24 => ?_)
        · replace h := oi_t c_24 h
          refine lv_iconst (v := 0) hx hb dX4_shareAir_50 (by decide) ?_
          have h9 := Option.some.inj h
          subst h9
          exact W.zret (v := 0) hx hb hr (by decide) (fun t ht hW => ⟨⟨0, (), rfl, rfl, ⟨by rw [ht]; exact hP, hD⟩⟩, hS.F ht⟩) hS.2.2 dX4_shareAir_51 hlocks
        · replace h := oi_f c_24 h
          refine lv_iconst (v := 1) hx hb dX4_shareAir_46 (by decide) ?_
          refine lv_goto (tgt := 51) hx hb dX4_shareAir_47 (by decide) ?_
          have h9 := Option.some.inj h
          subst h9
          exact W.zret (v := 1) hx hb hr (by decide) (fun t ht hW => ⟨⟨1, (), rfl, rfl, ⟨by rw [ht]; exact hP, hD⟩⟩, hS.F ht⟩) hS.2.2 dX4_shareAir_51 hlocks
def f_X4_at_2 : RV → Nat → Int32 → Int32 → Int32 → Option (Int32)
  | _, 0, _, _, _ => none
  | V, fu + 1, zx1, zx2, zx3 => oi ((V.1 7) ≤ zx3) (some (-1)) (ob (f_X4_isIn V zx3 zx2 1) (fun u_2 => oi (u_2 = 0) (f_X4_at_2 V fu zx1 zx2 (zx3 + 1)) (og (¬ (zx3 < 0 ∨ 40 ≤ (zx3).toNatClampNeg)) (oi ((V.2.1 15 (zx3).toNatClampNeg) = zx1) (some zx3) (f_X4_at_2 V fu zx1 zx2 (zx3 + 1))))))
def f_X4_at (V : RV) (p1 : Int32) (p2 : Int32) : Option (Int32) := f_X4_at_2 V FU p1 p2 0
theorem hd_X4_at : yX4_at.cls = RX4 ∧ yX4_at.cls ≠ "java/lang/invoke/MethodHandle" ∧ yX4_at.cls ≠ "java/lang/invoke/VarHandle" ∧ (parseMethodDescriptor yX4_at.desc).map (fun d => d.parameters.length) = some 2 := by decide +kernel
set_option maxHeartbeats 4000000 in
set_option maxRecDepth 100000 in
theorem k_X4_at_2 {p : Program} {l : Launch} {e : Env} {s : State} {m : MethodId} {args : Array Value} {below : List Frame} {meth : Method} {c : Code} {D : va_G} {cy : Nat → ClassId} {b : Nat → Nat} {V : RV} (hx : p.tables.exec = Jvm.exec) (hb : c.code = cX4_at) (hr : meth.sig.returnType = (some .int)) (hts : ∀ w ∈ wsX4_at, w.before args s = true) (hml : c.maxLocals = 4) (hown : s.vm.findClass RX4 = some m.cls) (hlocks : meth.locks = false) (hK : va_K D xcl (xty cy) s) (hP : va_P D xcl (rW cy b V) s.heap) (hD : va_D (fun _ => True) (rW cy b V)) (res : Int32) : ∀ (fu : Nat) (zx1 : Int32) (zx2 : Int32) (zx3 : Int32)  (ls : Array Slot), f_X4_at_2 V fu zx1 zx2 zx3 = some res → lv_has ls 4 [(0, .ref (b 0)), (1, .int zx1), (2, .int zx2), (3, .int zx3)] → W p l e ({ frames := 1, cells := 0, slots := 0, locals := 23 } : Room) s m args below meth c s.heap [] 0 0 (MQ below (vp_Si (fun r => r = res)) args s 0 0 (fun _ => False)) (F0 m 2 ls []) := by
  have hinX4 : ∀ w ∈ wsX40, w ∈ wsX4_at := (fun _ h => (List.mem_cons_of_mem _ (List.mem_append_right _ h)))
  intro fu
  induction fu with
  | zero =>
    intro zx1 zx2 zx3  ls h hl
    cases h
  | succ fu ih =>
    intro zx1 zx2 zx3  ls h hl
    refine lv_iload_n hx hb dX4_at_2 rfl (lv_at hl 3 rfl) ?_
    refine lv_aload_n hx hb dX4_at_3 rfl (lv_at hl 0 rfl) ?_
    refine va_get (D := D) (ci := 4) (v := .int (V.1 7)) (C := RX4) (T := TX4) (N := 28) hx hb hts hinX4 hown hK hP 0 rfl rfl 7 (by decide) (hts _ (List.mem_of_getElem? (i := 1) rfl)) (fun _ h9 => h9) rfl dX4_at_4 ?_
    refine lv_icmp_ge (tgt := 38) hx hb dX4_at_7 (by decide) (fun c_1 => ?_) (fun c_1 => ?_)
    · replace h := oi_t c_1 h
      refine lv_iconst (v := (-1)) hx hb dX4_at_38 (by decide) ?_
      have h9 := Option.some.inj h
      exact W.iret (v := (-1)) hx hb hr (fun t ht hW => ⟨(-1), rfl, h9, ht⟩) (fun _ hq => absurd hq List.not_mem_nil) dX4_at_39 hlocks
    · replace h := oi_f c_1 h
      refine lv_aload_n hx hb dX4_at_10 rfl (lv_at hl 0 rfl) ?_
      refine lv_iload_n hx hb dX4_at_11 rfl (lv_at hl 3 rfl) ?_
      refine lv_iload_n hx hb dX4_at_12 rfl (lv_at hl 2 rfl) ?_
      refine lv_iconst (v := 1) hx hb dX4_at_13 (by decide) ?_
      obtain ⟨u_2, hg_3, h⟩ := ob_some h
      refine zcSi (W.runV (As := [.int zx3, .int zx2, .int 1]) (rest := []) ⟨hx, hb, hml, hown, hts⟩ (c_X4_isIn l D cy b V zx3 zx2 1 hg_3) (cwV 3 hts gX4_at_X4_isIn rfl rfl rfl hd_X4_isIn ⟨Nat.le_of_ble_eq_true rfl, Nat.le_of_ble_eq_true rfl⟩) ⟨rI_blind, va_recv hK hP (ci := 4) (q0 := 0) rfl rfl, (rI_at hP hK hD)⟩ rfl rfl hl.1 rfl (lv_room (Nat.le_of_ble_eq_true rfl)) dX4_at_14 ⟨Nat.le_of_ble_eq_true rfl, Nat.le_of_ble_eq_true rfl⟩) ?_
      refine lv_if_eq (tgt := 32) hx hb dX4_at_17 (by decide) (fun c_4 => ?_) (fun c_4 => ?_)
      · replace h := oi_t c_4 h
        refine lv_iinc (v := zx3 + 1) (lv' := [(3, .int (zx3 + 1)), (0, .ref (b 0)), (1, .int zx1), (2, .int zx2)]) hx hb dX4_at_32 hl (k := 3) rfl rfl (by decide) rfl (fun ls hl => ?_)
        refine lv_goto (tgt := 2) hx hb dX4_at_35 (by decide) ?_
        exact ih zx1 zx2 (zx3 + 1)  ls h (lv_sub hl [1, 2, 3, 0] rfl)
      · replace h := oi_f c_4 h
        refine lv_aload_n hx hb dX4_at_20 rfl (lv_at hl 0 rfl) ?_
        refine va_get (D := D) (ci := 4) (v := .ref (b 15)) (C := RX4) (T := TX4) (N := 28) hx hb hts hinX4 hown hK hP 0 rfl rfl 15 (by decide) (hts _ (List.mem_of_getElem? (i := 2) rfl)) (fun _ h9 => h9) rfl dX4_at_21 ?_
        refine lv_iload_n hx hb dX4_at_24 rfl (lv_at hl 3 rfl) ?_
        obtain ⟨g_5, h⟩ := og_some h
        refine va_iald hx hb hK hP 14 0 rfl rfl g_5 dX4_at_25 ?_
        refine lv_iload_n hx hb dX4_at_26 rfl (lv_at hl 1 rfl) ?_
        refine lv_icmp_ne (tgt := 32) hx hb dX4_at_27 (by decide) (fun c_6 => ?_) (fun c_6 => ?_)
        · replace h := oi_f c_6 h
          refine lv_iinc (v := zx3 + 1) (lv' := [(3, .int (zx3 + 1)), (0, .ref (b 0)), (1, .int zx1), (2, .int zx2)]) hx hb dX4_at_32 hl (k := 3) rfl rfl (by decide) rfl (fun ls hl => ?_)
          refine lv_goto (tgt := 2) hx hb dX4_at_35 (by decide) ?_
          exact ih zx1 zx2 (zx3 + 1)  ls h (lv_sub hl [1, 2, 3, 0] rfl)
        · replace h := oi_t c_6 h
          refine lv_iload_n hx hb dX4_at_30 rfl (lv_at hl 3 rfl) ?_
          have h9 := Option.some.inj h
          exact W.iret (v := zx3) hx hb hr (fun t ht hW => ⟨zx3, rfl, h9, ht⟩) (fun _ hq => absurd hq List.not_mem_nil) dX4_at_31 hlocks
set_option maxHeartbeats 4000000 in
set_option maxRecDepth 100000 in
theorem c_X4_at (l : Launch) (D : va_G) (cy : Nat → ClassId) (b : Nat → Nat) (V : RV) (p1 : Int32) (p2 : Int32) {res : Int32} (h : f_X4_at V p1 p2 = some res) : Met l yX4_at wsX4_at ({ frames := 1, cells := 0, slots := 0, locals := 23 } : Room) (va_Pc [.ref (b 0), .int p1, .int p2] (rI D cy b V)) (vp_Si (fun r => r = res)) 0 0 (fun _ => False) := by
  refine Met.ofW (cc := cX4_at) (maxL := 4) (ret := (some .int)) (by decide) rfl ?_
  intro p e s m args below meth c s₁ B hml hv
  obtain ⟨rfl, hP, hK, hD⟩ := hv
  have hx := B.exec
  have hb := B.bytes
  have hr := B.returns
  have hts := atoms_spec (ws := wsX4_at) B.pre
  have hown : s.vm.findClass RX4 = some m.cls := findClass_of_methodNamed B.named
  have hlocks := B.notSynchronized
  have hl := lv_entry ([.ref (b 0), .int p1, .int p2]) (n := 4) (Nat.le_of_ble_eq_true rfl)
  rw [lg_entry_eq]
  generalize (lg_sl ([.ref (b 0), .int p1, .int p2]) ++ List.replicate (4 - (lg_sl ([.ref (b 0), .int p1, .int p2])).length) Slot.unset).toArray = ls at hl ⊢
  have hl : lv_has ls 4 [(0, .ref (b 0)), (1, .int p1), (2, .int p2)] := hl
  refine lv_iconst (v := 0) hx hb dX4_at_0 (by decide) ?_
  refine lv_istore_n (lv' := [(3, .int 0), (0, .ref (b 0)), (1, .int p1), (2, .int p2)]) hx hb dX4_at_1 rfl hl (by decide) rfl (fun ls hl => ?_)
  exact k_X4_at_2 hx hb hr hts hml hown hlocks hK hP hD _ _ p1 p2 0  ls h (lv_sub hl [1, 2, 3, 0] rfl)
def f_X4_asked (V : RV) (p1 : Int32) (p2 : Int32) : Option (Int32 × RV) := ob (f_X4_isNoCrane V p1) (fun u_1 => oi (u_1 = 0) (ob (f_X4_in p2 0 1439) (fun u_4 => oi (u_4 = 0) (ob (f_X4_fails V 2) (fun u_7 => oi (u_7.1 = 0) (ob (f_X4_at u_7.2 p1 p2) (fun u_10 => some (u_10, u_7.2))) (some (0, u_7.2)))) (ob (f_X4_fails V 0) (fun u_12 => oi (u_12.1 = 0) (ob (f_X4_at u_12.2 p1 p2) (fun u_15 => some (u_15, u_12.2))) (some (0, u_12.2)))))) (ob (f_X4_fails V 1) (fun u_17 => oi (u_17.1 = 0) (ob (f_X4_at u_17.2 p1 p2) (fun u_20 => some (u_20, u_17.2))) (some (0, u_17.2)))))
theorem hd_X4_asked : yX4_asked.cls = RX4 ∧ yX4_asked.cls ≠ "java/lang/invoke/MethodHandle" ∧ yX4_asked.cls ≠ "java/lang/invoke/VarHandle" ∧ (parseMethodDescriptor yX4_asked.desc).map (fun d => d.parameters.length) = some 2 := by decide +kernel
set_option maxHeartbeats 4000000 in
set_option maxRecDepth 100000 in
theorem c_X4_asked (l : Launch) (D : va_G) (cy : Nat → ClassId) (b : Nat → Nat) (V : RV) (sz : Nat) (p1 : Int32) (p2 : Int32) {res : Int32 × RV} (h : f_X4_asked V p1 p2 = some res) : Met l yX4_asked wsX4_asked ({ frames := 2, cells := 0, slots := 0, locals := 46 } : Room) (va_Pc [.ref (b 0), .int p1, .int p2] (zJ sz (rI D cy b V))) (va_Qi (fun r (_ : Unit) => r = res.1) (fun _ t => va_P D xcl (rW cy b res.2) t.heap ∧ va_D (va_A (rW cy b V) sz) (rW cy b res.2)) (va_A (rW cy b V) sz)) 0 0 (va_A (rW cy b V) sz) := by
  refine Met.ofW (cc := cX4_asked) (maxL := 3) (ret := (some .int)) (by decide) rfl ?_
  intro p e s m args below meth c s₁ B hml hv
  obtain ⟨rfl, hsz, hP, hK, hD0⟩ := hv
  have hx := B.exec
  have hb := B.bytes
  have hr := B.returns
  have hts := atoms_spec (ws := wsX4_asked) B.pre
  have hown : s.vm.findClass RX4 = some m.cls := findClass_of_methodNamed B.named
  have hlocks := B.notSynchronized
  subst hsz
  have hD := hD0.self (sz := s.heap.size)
  generalize hAe : va_A (rW cy b V) s.heap.size = A at hD ⊢
  have hA : ∀ q : Nat, s.heap.size ≤ q → A q := fun q h => by rw [← hAe]; exact Or.inr h
  have hS : va_S A s.heap s.heap [] := va_S.rf
  have hl := lv_entry ([.ref (b 0), .int p1, .int p2]) (n := 3) (Nat.le_of_ble_eq_true rfl)
  rw [lg_entry_eq]
  generalize (lg_sl ([.ref (b 0), .int p1, .int p2]) ++ List.replicate (3 - (lg_sl ([.ref (b 0), .int p1, .int p2])).length) Slot.unset).toArray = ls at hl ⊢
  have hl : lv_has ls 3 [(0, .ref (b 0)), (1, .int p1), (2, .int p2)] := hl
  revert hP hS
  intro hP hS
  refine lv_aload_n hx hb dX4_asked_0 rfl (lv_at hl 0 rfl) ?_
  refine lv_aload_n hx hb dX4_asked_1 rfl (lv_at hl 0 rfl) ?_
  refine lv_iload_n hx hb dX4_asked_2 rfl (lv_at hl 1 rfl) ?_
  obtain ⟨u_1, hg_2, h⟩ := ob_some h
  refine zcSi (W.runV (As := [.int p1]) (rest := [.ref (b 0)]) ⟨hx, hb, hml, hown, hts⟩ (c_X4_isNoCrane l D cy b V p1 hg_2) (cwV 1 hts gX4_asked_X4_isNoCrane rfl rfl rfl hd_X4_isNoCrane ⟨Nat.le_of_ble_eq_true rfl, Nat.le_of_ble_eq_true rfl⟩) ⟨rI_blind, va_recv hK hP (ci := 4) (q0 := 0) rfl rfl, (rI_at hP hK hD)⟩ rfl rfl hl.1 rfl (lv_room (Nat.le_of_ble_eq_true rfl)) dX4_asked_3 ⟨Nat.le_of_ble_eq_true rfl, Nat.le_of_ble_eq_true rfl⟩) ?_
  refine lv_if_eq (tgt := 13) hx hb dX4_asked_6 (by decide) (fun c_3 => ?_) (fun c_3 => ?_)
  · replace h := oi_t c_3 h
    refine lv_iload_n hx hb dX4_asked_13 rfl (lv_at hl 2 rfl) ?_
    refine lv_iconst (v := 0) hx hb dX4_asked_14 (by decide) ?_
    refine lv_sipush (v := 1439) hx hb dX4_asked_15 (by decide) ?_
    obtain ⟨u_4, hg_5, h⟩ := ob_some h
    refine zcSi (W.runS (As := [.int p2, .int 0, .int 1439]) (rest := [.ref (b 0)]) ⟨hx, hb, hml, hown, hts⟩ (c_X4_in l p2 0 1439 hg_5) (va_cwS 3 hts gX4_asked_X4_in rfl rfl rfl hd_X4_in ⟨Nat.le_of_ble_eq_true rfl, Nat.le_of_ble_eq_true rfl⟩) ⟨zT_blind, zT_at⟩ rfl rfl hl.1 rfl (lv_room (Nat.le_of_ble_eq_true rfl)) dX4_asked_18 ⟨Nat.le_of_ble_eq_true rfl, Nat.le_of_ble_eq_true rfl⟩) ?_
    refine lv_if_eq (tgt := 28) hx hb dX4_asked_21 (by decide) (fun c_6 => ?_) (fun c_6 => ?_)
    · replace h := oi_t c_6 h
      refine lv_iconst (v := 2) hx hb dX4_asked_28 (by decide) ?_
      obtain ⟨u_7, hg_8, h⟩ := ob_some h
      refine zcWi (va_runV (As := [.int 2]) (rest := []) ⟨hx, hb, hml, hown, hts⟩ (c_X4_fails l D cy b V _ 2 hg_8) (cwV 1 hts gX4_asked_X4_fails rfl rfl rfl hd_X4_fails ⟨Nat.le_of_ble_eq_true rfl, Nat.le_of_ble_eq_true rfl⟩) ⟨(zJ_blind rI_blind), va_recv hK hP (ci := 4) (q0 := 0) rfl rfl, (zJ_at (rI_at hP hK hD))⟩ rfl rfl hl.1 rfl (lv_room (Nat.le_of_ble_eq_true rfl)) dX4_asked_29 ⟨Nat.le_of_ble_eq_true rfl, Nat.le_of_ble_eq_true rfl⟩) hS (z_free hD hS hA) (fun H locs hP hD hS => ?_)
      refine lv_if_eq (tgt := 39) hx hb dX4_asked_32 (by decide) (fun c_9 => ?_) (fun c_9 => ?_)
      · replace h := oi_t c_9 h
        refine lv_aload_n hx hb dX4_asked_39 rfl (lv_at hl 0 rfl) ?_
        refine lv_iload_n hx hb dX4_asked_40 rfl (lv_at hl 1 rfl) ?_
        refine lv_iload_n hx hb dX4_asked_41 rfl (lv_at hl 2 rfl) ?_
        obtain ⟨u_10, hg_11, h⟩ := ob_some h
        refine zcSi (W.runV (As := [.int p1, .int p2]) (rest := []) ⟨hx, hb, hml, hown, hts⟩ (c_X4_at l D cy b u_7.2 p1 p2 hg_11) (cwV 2 hts gX4_asked_X4_at rfl rfl rfl hd_X4_at ⟨Nat.le_of_ble_eq_true rfl, Nat.le_of_ble_eq_true rfl⟩) ⟨rI_blind, va_recv hK hP (ci := 4) (q0 := 0) rfl rfl, (rI_at hP hK hD)⟩ rfl rfl hl.1 rfl (lv_room (Nat.le_of_ble_eq_true rfl)) dX4_asked_42 ⟨Nat.le_of_ble_eq_true rfl, Nat.le_of_ble_eq_true rfl⟩) ?_
        have h9 := Option.some.inj h
        subst h9
        exact W.iret (v := u_10) hx hb hr (fun t ht hW => ⟨⟨u_10, (), rfl, rfl, ⟨by rw [ht]; exact hP, hD⟩⟩, hS.F ht⟩) hS.2.2 dX4_asked_45 hlocks
      · replace h := oi_f c_9 h
        refine lv_iconst (v := 0) hx hb dX4_asked_35 (by decide) ?_
        refine lv_goto (tgt := 45) hx hb dX4_asked_36 (by decide) ?_
        have h9 := Option.some.inj h
        subst h9
        exact W.iret (v := 0) hx hb hr (fun t ht hW => ⟨⟨0, (), rfl, rfl, ⟨by rw [ht]; exact hP, hD⟩⟩, hS.F ht⟩) hS.2.2 dX4_asked_45 hlocks
    · replace h := oi_f c_6 h
      refine lv_iconst (v := 0) hx hb dX4_asked_24 (by decide) ?_
      refine lv_goto (tgt := 29) hx hb dX4_asked_25 (by decide) ?_
      obtain ⟨u_12, hg_13, h⟩ := ob_some h
      refine zcWi (va_runV (As := [.int 0]) (rest := []) ⟨hx, hb, hml, hown, hts⟩ (c_X4_fails l D cy b V _ 0 hg_13) (cwV 1 hts gX4_asked_X4_fails rfl rfl rfl hd_X4_fails ⟨Nat.le_of_ble_eq_true rfl, Nat.le_of_ble_eq_true rfl⟩) ⟨(zJ_blind rI_blind), va_recv hK hP (ci := 4) (q0 := 0) rfl rfl, (zJ_at (rI_at hP hK hD))⟩ rfl rfl hl.1 rfl (lv_room (Nat.le_of_ble_eq_true rfl)) dX4_asked_29 ⟨Nat.le_of_ble_eq_true rfl, Nat.le_of_ble_eq_true rfl⟩) hS (z_free hD hS hA) (fun H locs hP hD hS => ?_)
      refine lv_if_eq (tgt := 39) hx hb dX4_asked_32 (by decide) (fun c_14 => ?_) (fun c_14 => ?_)
      · replace h := oi_t c_14 h
        refine lv_aload_n hx hb dX4_asked_39 rfl (lv_at hl 0 rfl) ?_
        refine lv_iload_n hx hb dX4_asked_40 rfl (lv_at hl 1 rfl) ?_
        refine lv_iload_n hx hb dX4_asked_41 rfl (lv_at hl 2 rfl) ?_
        obtain ⟨u_15, hg_16, h⟩ := ob_some h
        refine zcSi (W.runV (As := [.int p1, .int p2]) (rest := []) ⟨hx, hb, hml, hown, hts⟩ (c_X4_at l D cy b u_12.2 p1 p2 hg_16) (cwV 2 hts gX4_asked_X4_at rfl rfl rfl hd_X4_at ⟨Nat.le_of_ble_eq_true rfl, Nat.le_of_ble_eq_true rfl⟩) ⟨rI_blind, va_recv hK hP (ci := 4) (q0 := 0) rfl rfl, (rI_at hP hK hD)⟩ rfl rfl hl.1 rfl (lv_room (Nat.le_of_ble_eq_true rfl)) dX4_asked_42 ⟨Nat.le_of_ble_eq_true rfl, Nat.le_of_ble_eq_true rfl⟩) ?_
        have h9 := Option.some.inj h
        subst h9
        exact W.iret (v := u_15) hx hb hr (fun t ht hW => ⟨⟨u_15, (), rfl, rfl, ⟨by rw [ht]; exact hP, hD⟩⟩, hS.F ht⟩) hS.2.2 dX4_asked_45 hlocks
      · replace h := oi_f c_14 h
        refine lv_iconst (v := 0) hx hb dX4_asked_35 (by decide) ?_
        refine lv_goto (tgt := 45) hx hb dX4_asked_36 (by decide) ?_
        have h9 := Option.some.inj h
        subst h9
        exact W.iret (v := 0) hx hb hr (fun t ht hW => ⟨⟨0, (), rfl, rfl, ⟨by rw [ht]; exact hP, hD⟩⟩, hS.F ht⟩) hS.2.2 dX4_asked_45 hlocks
  · replace h := oi_f c_3 h
    refine lv_iconst (v := 1) hx hb dX4_asked_9 (by decide) ?_
    refine lv_goto (tgt := 29) hx hb dX4_asked_10 (by decide) ?_
    obtain ⟨u_17, hg_18, h⟩ := ob_some h
    refine zcWi (va_runV (As := [.int 1]) (rest := []) ⟨hx, hb, hml, hown, hts⟩ (c_X4_fails l D cy b V _ 1 hg_18) (cwV 1 hts gX4_asked_X4_fails rfl rfl rfl hd_X4_fails ⟨Nat.le_of_ble_eq_true rfl, Nat.le_of_ble_eq_true rfl⟩) ⟨(zJ_blind rI_blind), va_recv hK hP (ci := 4) (q0 := 0) rfl rfl, (zJ_at (rI_at hP hK hD))⟩ rfl rfl hl.1 rfl (lv_room (Nat.le_of_ble_eq_true rfl)) dX4_asked_29 ⟨Nat.le_of_ble_eq_true rfl, Nat.le_of_ble_eq_true rfl⟩) hS (z_free hD hS hA) (fun H locs hP hD hS => ?_)
    refine lv_if_eq (tgt := 39) hx hb dX4_asked_32 (by decide) (fun c_19 => ?_) (fun c_19 => ?_)
    · replace h := oi_t c_19 h
      refine lv_aload_n hx hb dX4_asked_39 rfl (lv_at hl 0 rfl) ?_
      refine lv_iload_n hx hb dX4_asked_40 rfl (lv_at hl 1 rfl) ?_
      refine lv_iload_n hx hb dX4_asked_41 rfl (lv_at hl 2 rfl) ?_
      obtain ⟨u_20, hg_21, h⟩ := ob_some h
      refine zcSi (W.runV (As := [.int p1, .int p2]) (rest := []) ⟨hx, hb, hml, hown, hts⟩ (c_X4_at l D cy b u_17.2 p1 p2 hg_21) (cwV 2 hts gX4_asked_X4_at rfl rfl rfl hd_X4_at ⟨Nat.le_of_ble_eq_true rfl, Nat.le_of_ble_eq_true rfl⟩) ⟨rI_blind, va_recv hK hP (ci := 4) (q0 := 0) rfl rfl, (rI_at hP hK hD)⟩ rfl rfl hl.1 rfl (lv_room (Nat.le_of_ble_eq_true rfl)) dX4_asked_42 ⟨Nat.le_of_ble_eq_true rfl, Nat.le_of_ble_eq_true rfl⟩) ?_
      have h9 := Option.some.inj h
      subst h9
      exact W.iret (v := u_20) hx hb hr (fun t ht hW => ⟨⟨u_20, (), rfl, rfl, ⟨by rw [ht]; exact hP, hD⟩⟩, hS.F ht⟩) hS.2.2 dX4_asked_45 hlocks
    · replace h := oi_f c_19 h
      refine lv_iconst (v := 0) hx hb dX4_asked_35 (by decide) ?_
      refine lv_goto (tgt := 45) hx hb dX4_asked_36 (by decide) ?_
      have h9 := Option.some.inj h
      subst h9
      exact W.iret (v := 0) hx hb hr (fun t ht hW => ⟨⟨0, (), rfl, rfl, ⟨by rw [ht]; exact hP, hD⟩⟩, hS.F ht⟩) hS.2.2 dX4_asked_45 hlocks
def f_X4_liftAt (V : RV) (p1 : Int32) (p2 : Int32) : Option (Int32 × RV) := ob (f_X4_asked V p1 p2) (fun u_1 => some (u_1.1, u_1.2))
theorem hd_X4_liftAt : yX4_liftAt.cls = RX4 ∧ yX4_liftAt.cls ≠ "java/lang/invoke/MethodHandle" ∧ yX4_liftAt.cls ≠ "java/lang/invoke/VarHandle" ∧ (parseMethodDescriptor yX4_liftAt.desc).map (fun d => d.parameters.length) = some 2 := by decide +kernel
set_option maxHeartbeats 4000000 in
set_option maxRecDepth 100000 in
theorem c_X4_liftAt (l : Launch) (D : va_G) (cy : Nat → ClassId) (b : Nat → Nat) (V : RV) (sz : Nat) (p1 : Int32) (p2 : Int32) {res : Int32 × RV} (h : f_X4_liftAt V p1 p2 = some res) : Met l yX4_liftAt wsX4_liftAt ({ frames := 3, cells := 0, slots := 0, locals := 68 } : Room) (va_Pc [.ref (b 0), .int p1, .int p2] (zJ sz (rI D cy b V))) (va_Qi (fun r (_ : Unit) => r = res.1) (fun _ t => va_P D xcl (rW cy b res.2) t.heap ∧ va_D (va_A (rW cy b V) sz) (rW cy b res.2)) (va_A (rW cy b V) sz)) 0 0 (va_A (rW cy b V) sz) := by
  refine Met.ofW (cc := cX4_liftAt) (maxL := 3) (ret := (some .int)) (by decide) rfl ?_
  intro p e s m args below meth c s₁ B hml hv
  obtain ⟨rfl, hsz, hP, hK, hD0⟩ := hv
  have hx := B.exec
  have hb := B.bytes
  have hr := B.returns
  have hts := atoms_spec (ws := wsX4_liftAt) B.pre
  have hown : s.vm.findClass RX4 = some m.cls := findClass_of_methodNamed B.named
  have hlocks := B.notSynchronized
  subst hsz
  have hD := hD0.self (sz := s.heap.size)
  generalize hAe : va_A (rW cy b V) s.heap.size = A at hD ⊢
  have hA : ∀ q : Nat, s.heap.size ≤ q → A q := fun q h => by rw [← hAe]; exact Or.inr h
  have hS : va_S A s.heap s.heap [] := va_S.rf
  have hl := lv_entry ([.ref (b 0), .int p1, .int p2]) (n := 3) (Nat.le_of_ble_eq_true rfl)
  rw [lg_entry_eq]
  generalize (lg_sl ([.ref (b 0), .int p1, .int p2]) ++ List.replicate (3 - (lg_sl ([.ref (b 0), .int p1, .int p2])).length) Slot.unset).toArray = ls at hl ⊢
  have hl : lv_has ls 3 [(0, .ref (b 0)), (1, .int p1), (2, .int p2)] := hl
  revert hP hS
  intro hP hS
  refine lv_aload_n hx hb dX4_liftAt_0 rfl (lv_at hl 0 rfl) ?_
  refine lv_iload_n hx hb dX4_liftAt_1 rfl (lv_at hl 1 rfl) ?_
  refine lv_iload_n hx hb dX4_liftAt_2 rfl (lv_at hl 2 rfl) ?_
  obtain ⟨u_1, hg_2, h⟩ := ob_some h
  refine zcWi (va_runV (As := [.int p1, .int p2]) (rest := []) ⟨hx, hb, hml, hown, hts⟩ (c_X4_asked l D cy b V _ p1 p2 hg_2) (cwV 2 hts gX4_liftAt_X4_asked rfl rfl rfl hd_X4_asked ⟨Nat.le_of_ble_eq_true rfl, Nat.le_of_ble_eq_true rfl⟩) ⟨(zJ_blind rI_blind), va_recv hK hP (ci := 4) (q0 := 0) rfl rfl, (zJ_at (rI_at hP hK hD))⟩ rfl rfl hl.1 rfl (lv_room (Nat.le_of_ble_eq_true rfl)) dX4_liftAt_3 ⟨Nat.le_of_ble_eq_true rfl, Nat.le_of_ble_eq_true rfl⟩) hS (z_free hD hS hA) (fun H locs hP hD hS => ?_)
  have h9 := Option.some.inj h
  subst h9
  exact W.iret (v := u_1.1) hx hb hr (fun t ht hW => ⟨⟨u_1.1, (), rfl, rfl, ⟨by rw [ht]; exact hP, hD⟩⟩, hS.F ht⟩) hS.2.2 dX4_liftAt_6 hlocks
def f_X4_liftByMinutes (V : RV) (p1 : Int32) (p2 : Int32) : Option (Int32 × RV) := ob (f_X4_asked V p1 p2) (fun u_1 => some (u_1.1, u_1.2))
theorem hd_X4_liftByMinutes : yX4_liftByMinutes.cls = RX4 ∧ yX4_liftByMinutes.cls ≠ "java/lang/invoke/MethodHandle" ∧ yX4_liftByMinutes.cls ≠ "java/lang/invoke/VarHandle" ∧ (parseMethodDescriptor yX4_liftByMinutes.desc).map (fun d => d.parameters.length) = some 2 := by decide +kernel
set_option maxHeartbeats 4000000 in
set_option maxRecDepth 100000 in
theorem c_X4_liftByMinutes (l : Launch) (D : va_G) (cy : Nat → ClassId) (b : Nat → Nat) (V : RV) (sz : Nat) (p1 : Int32) (p2 : Int32) {res : Int32 × RV} (h : f_X4_liftByMinutes V p1 p2 = some res) : Met l yX4_liftByMinutes wsX4_liftByMinutes ({ frames := 3, cells := 0, slots := 0, locals := 68 } : Room) (va_Pc [.ref (b 0), .int p1, .int p2] (zJ sz (rI D cy b V))) (va_Qi (fun r (_ : Unit) => r = res.1) (fun _ t => va_P D xcl (rW cy b res.2) t.heap ∧ va_D (va_A (rW cy b V) sz) (rW cy b res.2)) (va_A (rW cy b V) sz)) 0 0 (va_A (rW cy b V) sz) := by
  refine Met.ofW (cc := cX4_liftByMinutes) (maxL := 3) (ret := (some .int)) (by decide) rfl ?_
  intro p e s m args below meth c s₁ B hml hv
  obtain ⟨rfl, hsz, hP, hK, hD0⟩ := hv
  have hx := B.exec
  have hb := B.bytes
  have hr := B.returns
  have hts := atoms_spec (ws := wsX4_liftByMinutes) B.pre
  have hown : s.vm.findClass RX4 = some m.cls := findClass_of_methodNamed B.named
  have hlocks := B.notSynchronized
  subst hsz
  have hD := hD0.self (sz := s.heap.size)
  generalize hAe : va_A (rW cy b V) s.heap.size = A at hD ⊢
  have hA : ∀ q : Nat, s.heap.size ≤ q → A q := fun q h => by rw [← hAe]; exact Or.inr h
  have hS : va_S A s.heap s.heap [] := va_S.rf
  have hl := lv_entry ([.ref (b 0), .int p1, .int p2]) (n := 3) (Nat.le_of_ble_eq_true rfl)
  rw [lg_entry_eq]
  generalize (lg_sl ([.ref (b 0), .int p1, .int p2]) ++ List.replicate (3 - (lg_sl ([.ref (b 0), .int p1, .int p2])).length) Slot.unset).toArray = ls at hl ⊢
  have hl : lv_has ls 3 [(0, .ref (b 0)), (1, .int p1), (2, .int p2)] := hl
  revert hP hS
  intro hP hS
  refine lv_aload_n hx hb dX4_liftByMinutes_0 rfl (lv_at hl 0 rfl) ?_
  refine lv_iload_n hx hb dX4_liftByMinutes_1 rfl (lv_at hl 1 rfl) ?_
  refine lv_iload_n hx hb dX4_liftByMinutes_2 rfl (lv_at hl 2 rfl) ?_
  obtain ⟨u_1, hg_2, h⟩ := ob_some h
  refine zcWi (va_runV (As := [.int p1, .int p2]) (rest := []) ⟨hx, hb, hml, hown, hts⟩ (c_X4_asked l D cy b V _ p1 p2 hg_2) (cwV 2 hts gX4_liftByMinutes_X4_asked rfl rfl rfl hd_X4_asked ⟨Nat.le_of_ble_eq_true rfl, Nat.le_of_ble_eq_true rfl⟩) ⟨(zJ_blind rI_blind), va_recv hK hP (ci := 4) (q0 := 0) rfl rfl, (zJ_at (rI_at hP hK hD))⟩ rfl rfl hl.1 rfl (lv_room (Nat.le_of_ble_eq_true rfl)) dX4_liftByMinutes_3 ⟨Nat.le_of_ble_eq_true rfl, Nat.le_of_ble_eq_true rfl⟩) hS (z_free hD hS hA) (fun H locs hP hD hS => ?_)
  have h9 := Option.some.inj h
  subst h9
  exact W.iret (v := u_1.1) hx hb hr (fun t ht hW => ⟨⟨u_1.1, (), rfl, rfl, ⟨by rw [ht]; exact hP, hD⟩⟩, hS.F ht⟩) hS.2.2 dX4_liftByMinutes_6 hlocks
def f_X4_permittedMinutes_5 : RV → Nat → Int32 → Int32 → Int32 → Int32 → Option (Int32)
  | _, 0, _, _, _, _ => none
  | V, fu + 1, zx1, zx2, zx3, zx4 => oi (1440 ≤ zx4) (some zx3) (og (¬ (((24 * zx1) + (zx4 / 60)) < 0 ∨ 120 ≤ ((24 * zx1) + (zx4 / 60)).toNatClampNeg)) (oi ((V.2.1 6 ((24 * zx1) + (zx4 / 60)).toNatClampNeg) = 0) (f_X4_permittedMinutes_5 V fu zx1 zx2 (zx3 + 0) (zx4 + 1)) (ob (f_X4_at V zx1 zx4) (fun u_4 => oi (u_4 < 0) (oi (0 = zx2) (f_X4_permittedMinutes_5 V fu zx1 zx2 (zx3 + 1) (zx4 + 1)) (f_X4_permittedMinutes_5 V fu zx1 zx2 (zx3 + 0) (zx4 + 1))) (oi (1 = zx2) (f_X4_permittedMinutes_5 V fu zx1 zx2 (zx3 + 1) (zx4 + 1)) (f_X4_permittedMinutes_5 V fu zx1 zx2 (zx3 + 0) (zx4 + 1)))))))
def f_X4_permittedMinutes (V : RV) (p1 : Int32) (p2 : Int32) : Option (Int32) := f_X4_permittedMinutes_5 V FU p1 p2 0 0
theorem hd_X4_permittedMinutes : yX4_permittedMinutes.cls = RX4 ∧ yX4_permittedMinutes.cls ≠ "java/lang/invoke/MethodHandle" ∧ yX4_permittedMinutes.cls ≠ "java/lang/invoke/VarHandle" ∧ (parseMethodDescriptor yX4_permittedMinutes.desc).map (fun d => d.parameters.length) = some 2 := by decide +kernel
set_option maxHeartbeats 4000000 in
set_option maxRecDepth 100000 in
theorem k_X4_permittedMinutes_5 {p : Program} {l : Launch} {e : Env} {s : State} {m : MethodId} {args : Array Value} {below : List Frame} {meth : Method} {c : Code} {D : va_G} {cy : Nat → ClassId} {b : Nat → Nat} {V : RV} (hx : p.tables.exec = Jvm.exec) (hb : c.code = cX4_permittedMinutes) (hr : meth.sig.returnType = (some .int)) (hts : ∀ w ∈ wsX4_permittedMinutes, w.before args s = true) (hml : c.maxLocals = 5) (hown : s.vm.findClass RX4 = some m.cls) (hlocks : meth.locks = false) (hK : va_K D xcl (xty cy) s) (hP : va_P D xcl (rW cy b V) s.heap) (hD : va_D (fun _ => True) (rW cy b V)) (res : Int32) : ∀ (fu : Nat) (zx1 : Int32) (zx2 : Int32) (zx3 : Int32) (zx4 : Int32)  (ls : Array Slot), f_X4_permittedMinutes_5 V fu zx1 zx2 zx3 zx4 = some res → lv_has ls 5 [(0, .ref (b 0)), (1, .int zx1), (2, .int zx2), (3, .int zx3), (4, .int zx4)] → W p l e ({ frames := 2, cells := 0, slots := 0, locals := 46 } : Room) s m args below meth c s.heap [] 0 0 (MQ below (vp_Si (fun r => r = res)) args s 0 0 (fun _ => False)) (F0 m 5 ls []) := by
  have hinX4 : ∀ w ∈ wsX40, w ∈ wsX4_permittedMinutes := (fun _ h => (List.mem_cons_of_mem _ (List.mem_append_right _ h)))
  intro fu
  induction fu with
  | zero =>
    intro zx1 zx2 zx3 zx4  ls h hl
    cases h
  | succ fu ih =>
    intro zx1 zx2 zx3 zx4  ls h hl
    refine lv_iload hx hb dX4_permittedMinutes_5 (lv_at hl 4 rfl) ?_
    refine lv_sipush (v := 1440) hx hb dX4_permittedMinutes_7 (by decide) ?_
    refine lv_icmp_ge (tgt := 64) hx hb dX4_permittedMinutes_10 (by decide) (fun c_1 => ?_) (fun c_1 => ?_)
    · replace h := oi_t c_1 h
      refine lv_iload_n hx hb dX4_permittedMinutes_64 rfl (lv_at hl 3 rfl) ?_
      have h9 := Option.some.inj h
      exact W.iret (v := zx3) hx hb hr (fun t ht hW => ⟨zx3, rfl, h9, ht⟩) (fun _ hq => absurd hq List.not_mem_nil) dX4_permittedMinutes_65 hlocks
    · replace h := oi_f c_1 h
      refine lv_iload_n hx hb dX4_permittedMinutes_13 rfl (lv_at hl 3 rfl) ?_
      refine lv_aload_n hx hb dX4_permittedMinutes_14 rfl (lv_at hl 0 rfl) ?_
      refine va_get (D := D) (ci := 4) (v := .ref (b 6)) (C := RX4) (T := TX4) (N := 28) hx hb hts hinX4 hown hK hP 0 rfl rfl 6 (by decide) (hts _ (List.mem_of_getElem? (i := 1) rfl)) (fun _ h9 => h9) rfl dX4_permittedMinutes_15 ?_
      refine lv_bipush (v := 24) hx hb dX4_permittedMinutes_18 (by decide) ?_
      refine lv_iload_n hx hb dX4_permittedMinutes_20 rfl (lv_at hl 1 rfl) ?_
      refine lv_imul hx hb dX4_permittedMinutes_21 ?_
      refine lv_iload hx hb dX4_permittedMinutes_22 (lv_at hl 4 rfl) ?_
      refine lv_bipush (v := 60) hx hb dX4_permittedMinutes_24 (by decide) ?_
      refine lv_idiv hx hb dX4_permittedMinutes_26 (by decide) ?_
      refine lv_iadd hx hb dX4_permittedMinutes_27 ?_
      obtain ⟨g_2, h⟩ := og_some h
      refine va_zald hx hb hK hP 6 2 rfl rfl g_2 dX4_permittedMinutes_28 ?_
      refine lv_if_eq (tgt := 55) hx hb dX4_permittedMinutes_29 (by decide) (fun c_3 => ?_) (fun c_3 => ?_)
      · replace h := oi_t c_3 h
        refine lv_iconst (v := 0) hx hb dX4_permittedMinutes_55 (by decide) ?_
        refine lv_iadd hx hb dX4_permittedMinutes_56 ?_
        refine lv_istore_n (lv' := [(3, .int (zx3 + 0)), (0, .ref (b 0)), (1, .int zx1), (2, .int zx2), (4, .int zx4)]) hx hb dX4_permittedMinutes_57 rfl hl (by decide) rfl (fun ls hl => ?_)
        refine lv_iinc (v := zx4 + 1) (lv' := [(4, .int (zx4 + 1)), (3, .int (zx3 + 0)), (0, .ref (b 0)), (1, .int zx1), (2, .int zx2)]) hx hb dX4_permittedMinutes_58 hl (k := 4) rfl rfl (by decide) rfl (fun ls hl => ?_)
        refine lv_goto (tgt := 5) hx hb dX4_permittedMinutes_61 (by decide) ?_
        exact ih zx1 zx2 (zx3 + 0) (zx4 + 1)  ls h (lv_sub hl [2, 3, 4, 1, 0] rfl)
      · replace h := oi_f c_3 h
        refine lv_aload_n hx hb dX4_permittedMinutes_32 rfl (lv_at hl 0 rfl) ?_
        refine lv_iload_n hx hb dX4_permittedMinutes_33 rfl (lv_at hl 1 rfl) ?_
        refine lv_iload hx hb dX4_permittedMinutes_34 (lv_at hl 4 rfl) ?_
        obtain ⟨u_4, hg_5, h⟩ := ob_some h
        refine zcSi (W.runV (As := [.int zx1, .int zx4]) (rest := [.int zx3]) ⟨hx, hb, hml, hown, hts⟩ (c_X4_at l D cy b V zx1 zx4 hg_5) (cwV 2 hts gX4_permittedMinutes_X4_at rfl rfl rfl hd_X4_at ⟨Nat.le_of_ble_eq_true rfl, Nat.le_of_ble_eq_true rfl⟩) ⟨rI_blind, va_recv hK hP (ci := 4) (q0 := 0) rfl rfl, (rI_at hP hK hD)⟩ rfl rfl hl.1 rfl (lv_room (Nat.le_of_ble_eq_true rfl)) dX4_permittedMinutes_36 ⟨Nat.le_of_ble_eq_true rfl, Nat.le_of_ble_eq_true rfl⟩) ?_
        refine lv_if_lt (tgt := 46) hx hb dX4_permittedMinutes_39 (by decide) (fun c_6 => ?_) (fun c_6 => ?_)
        · replace h := oi_t c_6 h
          refine lv_iconst (v := 0) hx hb dX4_permittedMinutes_46 (by decide) ?_
          refine lv_iload_n hx hb dX4_permittedMinutes_47 rfl (lv_at hl 2 rfl) ?_
          refine lv_icmp_ne (tgt := 55) hx hb dX4_permittedMinutes_48 (by decide) (fun c_7 => ?_) (fun c_7 => ?_)
          · replace h := oi_f c_7 h
            refine lv_iconst (v := 0) hx hb dX4_permittedMinutes_55 (by decide) ?_
            refine lv_iadd hx hb dX4_permittedMinutes_56 ?_
            refine lv_istore_n (lv' := [(3, .int (zx3 + 0)), (0, .ref (b 0)), (1, .int zx1), (2, .int zx2), (4, .int zx4)]) hx hb dX4_permittedMinutes_57 rfl hl (by decide) rfl (fun ls hl => ?_)
            refine lv_iinc (v := zx4 + 1) (lv' := [(4, .int (zx4 + 1)), (3, .int (zx3 + 0)), (0, .ref (b 0)), (1, .int zx1), (2, .int zx2)]) hx hb dX4_permittedMinutes_58 hl (k := 4) rfl rfl (by decide) rfl (fun ls hl => ?_)
            refine lv_goto (tgt := 5) hx hb dX4_permittedMinutes_61 (by decide) ?_
            exact ih zx1 zx2 (zx3 + 0) (zx4 + 1)  ls h (lv_sub hl [2, 3, 4, 1, 0] rfl)
          · replace h := oi_t c_7 h
            refine lv_iconst (v := 1) hx hb dX4_permittedMinutes_51 (by decide) ?_
            refine lv_goto (tgt := 56) hx hb dX4_permittedMinutes_52 (by decide) ?_
            refine lv_iadd hx hb dX4_permittedMinutes_56 ?_
            refine lv_istore_n (lv' := [(3, .int (zx3 + 1)), (0, .ref (b 0)), (1, .int zx1), (2, .int zx2), (4, .int zx4)]) hx hb dX4_permittedMinutes_57 rfl hl (by decide) rfl (fun ls hl => ?_)
            refine lv_iinc (v := zx4 + 1) (lv' := [(4, .int (zx4 + 1)), (3, .int (zx3 + 1)), (0, .ref (b 0)), (1, .int zx1), (2, .int zx2)]) hx hb dX4_permittedMinutes_58 hl (k := 4) rfl rfl (by decide) rfl (fun ls hl => ?_)
            refine lv_goto (tgt := 5) hx hb dX4_permittedMinutes_61 (by decide) ?_
            exact ih zx1 zx2 (zx3 + 1) (zx4 + 1)  ls h (lv_sub hl [2, 3, 4, 1, 0] rfl)
        · replace h := oi_f c_6 h
          refine lv_iconst (v := 1) hx hb dX4_permittedMinutes_42 (by decide) ?_
          refine lv_goto (tgt := 47) hx hb dX4_permittedMinutes_43 (by decide) ?_
          refine lv_iload_n hx hb dX4_permittedMinutes_47 rfl (lv_at hl 2 rfl) ?_
          refine lv_icmp_ne (tgt := 55) hx hb dX4_permittedMinutes_48 (by decide) (fun c_8 => ?_) (fun c_8 => ?_)
          · replace h := oi_f c_8 h
            refine lv_iconst (v := 0) hx hb dX4_permittedMinutes_55 (by decide) ?_
            refine lv_iadd hx hb dX4_permittedMinutes_56 ?_
            refine lv_istore_n (lv' := [(3, .int (zx3 + 0)), (0, .ref (b 0)), (1, .int zx1), (2, .int zx2), (4, .int zx4)]) hx hb dX4_permittedMinutes_57 rfl hl (by decide) rfl (fun ls hl => ?_)
            refine lv_iinc (v := zx4 + 1) (lv' := [(4, .int (zx4 + 1)), (3, .int (zx3 + 0)), (0, .ref (b 0)), (1, .int zx1), (2, .int zx2)]) hx hb dX4_permittedMinutes_58 hl (k := 4) rfl rfl (by decide) rfl (fun ls hl => ?_)
            refine lv_goto (tgt := 5) hx hb dX4_permittedMinutes_61 (by decide) ?_
            exact ih zx1 zx2 (zx3 + 0) (zx4 + 1)  ls h (lv_sub hl [2, 3, 4, 1, 0] rfl)
          · replace h := oi_t c_8 h
            refine lv_iconst (v := 1) hx hb dX4_permittedMinutes_51 (by decide) ?_
            refine lv_goto (tgt := 56) hx hb dX4_permittedMinutes_52 (by decide) ?_
            refine lv_iadd hx hb dX4_permittedMinutes_56 ?_
            refine lv_istore_n (lv' := [(3, .int (zx3 + 1)), (0, .ref (b 0)), (1, .int zx1), (2, .int zx2), (4, .int zx4)]) hx hb dX4_permittedMinutes_57 rfl hl (by decide) rfl (fun ls hl => ?_)
            refine lv_iinc (v := zx4 + 1) (lv' := [(4, .int (zx4 + 1)), (3, .int (zx3 + 1)), (0, .ref (b 0)), (1, .int zx1), (2, .int zx2)]) hx hb dX4_permittedMinutes_58 hl (k := 4) rfl rfl (by decide) rfl (fun ls hl => ?_)
            refine lv_goto (tgt := 5) hx hb dX4_permittedMinutes_61 (by decide) ?_
            exact ih zx1 zx2 (zx3 + 1) (zx4 + 1)  ls h (lv_sub hl [2, 3, 4, 1, 0] rfl)
set_option maxHeartbeats 4000000 in
set_option maxRecDepth 100000 in
theorem c_X4_permittedMinutes (l : Launch) (D : va_G) (cy : Nat → ClassId) (b : Nat → Nat) (V : RV) (p1 : Int32) (p2 : Int32) {res : Int32} (h : f_X4_permittedMinutes V p1 p2 = some res) : Met l yX4_permittedMinutes wsX4_permittedMinutes ({ frames := 2, cells := 0, slots := 0, locals := 46 } : Room) (va_Pc [.ref (b 0), .int p1, .int p2] (rI D cy b V)) (vp_Si (fun r => r = res)) 0 0 (fun _ => False) := by
  refine Met.ofW (cc := cX4_permittedMinutes) (maxL := 5) (ret := (some .int)) (by decide) rfl ?_
  intro p e s m args below meth c s₁ B hml hv
  obtain ⟨rfl, hP, hK, hD⟩ := hv
  have hx := B.exec
  have hb := B.bytes
  have hr := B.returns
  have hts := atoms_spec (ws := wsX4_permittedMinutes) B.pre
  have hown : s.vm.findClass RX4 = some m.cls := findClass_of_methodNamed B.named
  have hlocks := B.notSynchronized
  have hl := lv_entry ([.ref (b 0), .int p1, .int p2]) (n := 5) (Nat.le_of_ble_eq_true rfl)
  rw [lg_entry_eq]
  generalize (lg_sl ([.ref (b 0), .int p1, .int p2]) ++ List.replicate (5 - (lg_sl ([.ref (b 0), .int p1, .int p2])).length) Slot.unset).toArray = ls at hl ⊢
  have hl : lv_has ls 5 [(0, .ref (b 0)), (1, .int p1), (2, .int p2)] := hl
  refine lv_iconst (v := 0) hx hb dX4_permittedMinutes_0 (by decide) ?_
  refine lv_istore_n (lv' := [(3, .int 0), (0, .ref (b 0)), (1, .int p1), (2, .int p2)]) hx hb dX4_permittedMinutes_1 rfl hl (by decide) rfl (fun ls hl => ?_)
  refine lv_iconst (v := 0) hx hb dX4_permittedMinutes_2 (by decide) ?_
  refine lv_istore (lv' := [(4, .int 0), (3, .int 0), (0, .ref (b 0)), (1, .int p1), (2, .int p2)]) hx hb dX4_permittedMinutes_3 hl (by decide) rfl (fun ls hl => ?_)
  exact k_X4_permittedMinutes_5 hx hb hr hts hml hown hlocks hK hP hD _ _ p1 p2 0 0  ls h (lv_sub hl [2, 3, 4, 1, 0] rfl)
def f_X4_freeMinutes (V : RV) (p1 : Int32) : Option (Int32 × RV) := ob (f_X4_isNobody V p1) (fun u_1 => oi (u_1.1 = 0) (ob (f_X4_permittedMinutes u_1.2 p1 0) (fun u_4 => some (u_4, u_1.2))) (some (0, u_1.2)))
theorem hd_X4_freeMinutes : yX4_freeMinutes.cls = RX4 ∧ yX4_freeMinutes.cls ≠ "java/lang/invoke/MethodHandle" ∧ yX4_freeMinutes.cls ≠ "java/lang/invoke/VarHandle" ∧ (parseMethodDescriptor yX4_freeMinutes.desc).map (fun d => d.parameters.length) = some 1 := by decide +kernel
set_option maxHeartbeats 4000000 in
set_option maxRecDepth 100000 in
theorem c_X4_freeMinutes (l : Launch) (D : va_G) (cy : Nat → ClassId) (b : Nat → Nat) (V : RV) (sz : Nat) (p1 : Int32) {res : Int32 × RV} (h : f_X4_freeMinutes V p1 = some res) : Met l yX4_freeMinutes wsX4_freeMinutes ({ frames := 3, cells := 0, slots := 0, locals := 70 } : Room) (va_Pc [.ref (b 0), .int p1] (zJ sz (rI D cy b V))) (va_Qi (fun r (_ : Unit) => r = res.1) (fun _ t => va_P D xcl (rW cy b res.2) t.heap ∧ va_D (va_A (rW cy b V) sz) (rW cy b res.2)) (va_A (rW cy b V) sz)) 0 0 (va_A (rW cy b V) sz) := by
  refine Met.ofW (cc := cX4_freeMinutes) (maxL := 2) (ret := (some .int)) (by decide) rfl ?_
  intro p e s m args below meth c s₁ B hml hv
  obtain ⟨rfl, hsz, hP, hK, hD0⟩ := hv
  have hx := B.exec
  have hb := B.bytes
  have hr := B.returns
  have hts := atoms_spec (ws := wsX4_freeMinutes) B.pre
  have hown : s.vm.findClass RX4 = some m.cls := findClass_of_methodNamed B.named
  have hlocks := B.notSynchronized
  subst hsz
  have hD := hD0.self (sz := s.heap.size)
  generalize hAe : va_A (rW cy b V) s.heap.size = A at hD ⊢
  have hA : ∀ q : Nat, s.heap.size ≤ q → A q := fun q h => by rw [← hAe]; exact Or.inr h
  have hS : va_S A s.heap s.heap [] := va_S.rf
  have hl := lv_entry ([.ref (b 0), .int p1]) (n := 2) (Nat.le_of_ble_eq_true rfl)
  rw [lg_entry_eq]
  generalize (lg_sl ([.ref (b 0), .int p1]) ++ List.replicate (2 - (lg_sl ([.ref (b 0), .int p1])).length) Slot.unset).toArray = ls at hl ⊢
  have hl : lv_has ls 2 [(0, .ref (b 0)), (1, .int p1)] := hl
  revert hP hS
  intro hP hS
  refine lv_aload_n hx hb dX4_freeMinutes_0 rfl (lv_at hl 0 rfl) ?_
  refine lv_iload_n hx hb dX4_freeMinutes_1 rfl (lv_at hl 1 rfl) ?_
  obtain ⟨u_1, hg_2, h⟩ := ob_some h
  refine zcWi (va_runV (As := [.int p1]) (rest := []) ⟨hx, hb, hml, hown, hts⟩ (c_X4_isNobody l D cy b V _ p1 hg_2) (cwV 1 hts gX4_freeMinutes_X4_isNobody rfl rfl rfl hd_X4_isNobody ⟨Nat.le_of_ble_eq_true rfl, Nat.le_of_ble_eq_true rfl⟩) ⟨(zJ_blind rI_blind), va_recv hK hP (ci := 4) (q0 := 0) rfl rfl, (zJ_at (rI_at hP hK hD))⟩ rfl rfl hl.1 rfl (lv_room (Nat.le_of_ble_eq_true rfl)) dX4_freeMinutes_2 ⟨Nat.le_of_ble_eq_true rfl, Nat.le_of_ble_eq_true rfl⟩) hS (z_free hD hS hA) (fun H locs hP hD hS => ?_)
  refine lv_if_eq (tgt := 12) hx hb dX4_freeMinutes_5 (by decide) (fun c_3 => ?_) (fun c_3 => ?_)
  · replace h := oi_t c_3 h
    refine lv_aload_n hx hb dX4_freeMinutes_12 rfl (lv_at hl 0 rfl) ?_
    refine lv_iload_n hx hb dX4_freeMinutes_13 rfl (lv_at hl 1 rfl) ?_
    refine lv_iconst (v := 0) hx hb dX4_freeMinutes_14 (by decide) ?_
    obtain ⟨u_4, hg_5, h⟩ := ob_some h
    refine zcSi (W.runV (As := [.int p1, .int 0]) (rest := []) ⟨hx, hb, hml, hown, hts⟩ (c_X4_permittedMinutes l D cy b u_1.2 p1 0 hg_5) (cwV 2 hts gX4_freeMinutes_X4_permittedMinutes rfl rfl rfl hd_X4_permittedMinutes ⟨Nat.le_of_ble_eq_true rfl, Nat.le_of_ble_eq_true rfl⟩) ⟨rI_blind, va_recv hK hP (ci := 4) (q0 := 0) rfl rfl, (rI_at hP hK hD)⟩ rfl rfl hl.1 rfl (lv_room (Nat.le_of_ble_eq_true rfl)) dX4_freeMinutes_15 ⟨Nat.le_of_ble_eq_true rfl, Nat.le_of_ble_eq_true rfl⟩) ?_
    have h9 := Option.some.inj h
    subst h9
    exact W.iret (v := u_4) hx hb hr (fun t ht hW => ⟨⟨u_4, (), rfl, rfl, ⟨by rw [ht]; exact hP, hD⟩⟩, hS.F ht⟩) hS.2.2 dX4_freeMinutes_18 hlocks
  · replace h := oi_f c_3 h
    refine lv_iconst (v := 0) hx hb dX4_freeMinutes_8 (by decide) ?_
    refine lv_goto (tgt := 18) hx hb dX4_freeMinutes_9 (by decide) ?_
    have h9 := Option.some.inj h
    subst h9
    exact W.iret (v := 0) hx hb hr (fun t ht hW => ⟨⟨0, (), rfl, rfl, ⟨by rw [ht]; exact hP, hD⟩⟩, hS.F ht⟩) hS.2.2 dX4_freeMinutes_18 hlocks
def f_X4_isNoMinute (V : RV) (p1 : Int32) : Option (Int32 × RV) := ob (f_X4_in p1 0 1439) (fun u_1 => oi (u_1 = 0) (ob (f_X4_fails V 1) (fun u_4 => og (u_4.1 &&& 1 = u_4.1) (some (u_4.1, u_4.2)))) (ob (f_X4_fails V 0) (fun u_7 => og (u_7.1 &&& 1 = u_7.1) (some (u_7.1, u_7.2)))))
theorem hd_X4_isNoMinute : yX4_isNoMinute.cls = RX4 ∧ yX4_isNoMinute.cls ≠ "java/lang/invoke/MethodHandle" ∧ yX4_isNoMinute.cls ≠ "java/lang/invoke/VarHandle" ∧ (parseMethodDescriptor yX4_isNoMinute.desc).map (fun d => d.parameters.length) = some 1 := by decide +kernel
set_option maxHeartbeats 4000000 in
set_option maxRecDepth 100000 in
theorem c_X4_isNoMinute (l : Launch) (D : va_G) (cy : Nat → ClassId) (b : Nat → Nat) (V : RV) (sz : Nat) (p1 : Int32) {res : Int32 × RV} (h : f_X4_isNoMinute V p1 = some res) : Met l yX4_isNoMinute wsX4_isNoMinute ({ frames := 1, cells := 0, slots := 0, locals := 22 } : Room) (va_Pc [.ref (b 0), .int p1] (zJ sz (rI D cy b V))) (va_Qi (fun r (_ : Unit) => r = res.1) (fun _ t => va_P D xcl (rW cy b res.2) t.heap ∧ va_D (va_A (rW cy b V) sz) (rW cy b res.2)) (va_A (rW cy b V) sz)) 0 0 (va_A (rW cy b V) sz) := by
  refine Met.ofW (cc := cX4_isNoMinute) (maxL := 2) (ret := (some .boolean)) (by decide) rfl ?_
  intro p e s m args below meth c s₁ B hml hv
  obtain ⟨rfl, hsz, hP, hK, hD0⟩ := hv
  have hx := B.exec
  have hb := B.bytes
  have hr := B.returns
  have hts := atoms_spec (ws := wsX4_isNoMinute) B.pre
  have hown : s.vm.findClass RX4 = some m.cls := findClass_of_methodNamed B.named
  have hlocks := B.notSynchronized
  subst hsz
  have hD := hD0.self (sz := s.heap.size)
  generalize hAe : va_A (rW cy b V) s.heap.size = A at hD ⊢
  have hA : ∀ q : Nat, s.heap.size ≤ q → A q := fun q h => by rw [← hAe]; exact Or.inr h
  have hS : va_S A s.heap s.heap [] := va_S.rf
  have hl := lv_entry ([.ref (b 0), .int p1]) (n := 2) (Nat.le_of_ble_eq_true rfl)
  rw [lg_entry_eq]
  generalize (lg_sl ([.ref (b 0), .int p1]) ++ List.replicate (2 - (lg_sl ([.ref (b 0), .int p1])).length) Slot.unset).toArray = ls at hl ⊢
  have hl : lv_has ls 2 [(0, .ref (b 0)), (1, .int p1)] := hl
  revert hP hS
  intro hP hS
  refine lv_aload_n hx hb dX4_isNoMinute_0 rfl (lv_at hl 0 rfl) ?_
  refine lv_iload_n hx hb dX4_isNoMinute_1 rfl (lv_at hl 1 rfl) ?_
  refine lv_iconst (v := 0) hx hb dX4_isNoMinute_2 (by decide) ?_
  refine lv_sipush (v := 1439) hx hb dX4_isNoMinute_3 (by decide) ?_
  obtain ⟨u_1, hg_2, h⟩ := ob_some h
  refine zcSi (W.runS (As := [.int p1, .int 0, .int 1439]) (rest := [.ref (b 0)]) ⟨hx, hb, hml, hown, hts⟩ (c_X4_in l p1 0 1439 hg_2) (va_cwS 3 hts gX4_isNoMinute_X4_in rfl rfl rfl hd_X4_in ⟨Nat.le_of_ble_eq_true rfl, Nat.le_of_ble_eq_true rfl⟩) ⟨zT_blind, zT_at⟩ rfl rfl hl.1 rfl (lv_room (Nat.le_of_ble_eq_true rfl)) dX4_isNoMinute_6 ⟨Nat.le_of_ble_eq_true rfl, Nat.le_of_ble_eq_true rfl⟩) ?_
  refine lv_if_eq (tgt := 16) hx hb dX4_isNoMinute_9 (by decide) (fun c_3 => ?_) (fun c_3 => ?_)
  · replace h := oi_t c_3 h
    refine lv_iconst (v := 1) hx hb dX4_isNoMinute_16 (by decide) ?_
    obtain ⟨u_4, hg_5, h⟩ := ob_some h
    refine zcWi (va_runV (As := [.int 1]) (rest := []) ⟨hx, hb, hml, hown, hts⟩ (c_X4_fails l D cy b V _ 1 hg_5) (cwV 1 hts gX4_isNoMinute_X4_fails rfl rfl rfl hd_X4_fails ⟨Nat.le_of_ble_eq_true rfl, Nat.le_of_ble_eq_true rfl⟩) ⟨(zJ_blind rI_blind), va_recv hK hP (ci := 4) (q0 := 0) rfl rfl, (zJ_at (rI_at hP hK hD))⟩ rfl rfl hl.1 rfl (lv_room (Nat.le_of_ble_eq_true rfl)) dX4_isNoMinute_17 ⟨Nat.le_of_ble_eq_true rfl, Nat.le_of_ble_eq_true rfl⟩) hS (z_free hD hS hA) (fun H locs hP hD hS => ?_)
    obtain ⟨g_6, h⟩ := og_some h
    have h9 := Option.some.inj h
    subst h9
    exact W.zret (v := u_4.1) hx hb hr (congrArg Value.int g_6) (fun t ht hW => ⟨⟨u_4.1, (), rfl, rfl, ⟨by rw [ht]; exact hP, hD⟩⟩, hS.F ht⟩) hS.2.2 dX4_isNoMinute_20 hlocks
  · replace h := oi_f c_3 h
    refine lv_iconst (v := 0) hx hb dX4_isNoMinute_12 (by decide) ?_
    refine lv_goto (tgt := 17) hx hb dX4_isNoMinute_13 (by decide) ?_
    obtain ⟨u_7, hg_8, h⟩ := ob_some h
    refine zcWi (va_runV (As := [.int 0]) (rest := []) ⟨hx, hb, hml, hown, hts⟩ (c_X4_fails l D cy b V _ 0 hg_8) (cwV 1 hts gX4_isNoMinute_X4_fails rfl rfl rfl hd_X4_fails ⟨Nat.le_of_ble_eq_true rfl, Nat.le_of_ble_eq_true rfl⟩) ⟨(zJ_blind rI_blind), va_recv hK hP (ci := 4) (q0 := 0) rfl rfl, (zJ_at (rI_at hP hK hD))⟩ rfl rfl hl.1 rfl (lv_room (Nat.le_of_ble_eq_true rfl)) dX4_isNoMinute_17 ⟨Nat.le_of_ble_eq_true rfl, Nat.le_of_ble_eq_true rfl⟩) hS (z_free hD hS hA) (fun H locs hP hD hS => ?_)
    obtain ⟨g_9, h⟩ := og_some h
    have h9 := Option.some.inj h
    subst h9
    exact W.zret (v := u_7.1) hx hb hr (congrArg Value.int g_9) (fun t ht hW => ⟨⟨u_7.1, (), rfl, rfl, ⟨by rw [ht]; exact hP, hD⟩⟩, hS.F ht⟩) hS.2.2 dX4_isNoMinute_20 hlocks
def f_X4_atWork_14 : RV → Nat → Int32 → Int32 → Int32 → Option (Int32 × RV)
  | _, 0, _, _, _ => none
  | V, fu + 1, zx1, zx2, zx3 => oi ((V.1 0) ≤ zx3) (some (zx2, V)) (ob (f_X4_at V zx3 zx1) (fun u_5 => oi (u_5 < 0) (f_X4_atWork_14 V fu zx1 (zx2 + 0) (zx3 + 1)) (f_X4_atWork_14 V fu zx1 (zx2 + 1) (zx3 + 1))))
def f_X4_atWork (V : RV) (p1 : Int32) : Option (Int32 × RV) := ob (f_X4_isNoMinute V p1) (fun u_1 => oi (u_1.1 = 0) (f_X4_atWork_14 u_1.2 FU p1 0 0) (some (0, u_1.2)))
theorem hd_X4_atWork : yX4_atWork.cls = RX4 ∧ yX4_atWork.cls ≠ "java/lang/invoke/MethodHandle" ∧ yX4_atWork.cls ≠ "java/lang/invoke/VarHandle" ∧ (parseMethodDescriptor yX4_atWork.desc).map (fun d => d.parameters.length) = some 1 := by decide +kernel
set_option maxHeartbeats 4000000 in
set_option maxRecDepth 100000 in
theorem k_X4_atWork_14 {p : Program} {l : Launch} {e : Env} {s : State} {m : MethodId} {args : Array Value} {below : List Frame} {meth : Method} {c : Code} {D : va_G} {cy : Nat → ClassId} {b : Nat → Nat} {A : Nat → Prop} (hx : p.tables.exec = Jvm.exec) (hb : c.code = cX4_atWork) (hr : meth.sig.returnType = (some .int)) (hts : ∀ w ∈ wsX4_atWork, w.before args s = true) (hml : c.maxLocals = 4) (hown : s.vm.findClass RX4 = some m.cls) (hlocks : meth.locks = false) (hK : va_K D xcl (xty cy) s) (hA : ∀ q, s.heap.size ≤ q → A q) (res : Int32 × RV) : ∀ (fu : Nat) (zx1 : Int32) (zx2 : Int32) (zx3 : Int32) (V : RV) (H : Heap) (locs : List Loc)  (ls : Array Slot), f_X4_atWork_14 V fu zx1 zx2 zx3 = some res → va_P D xcl (rW cy b V) H → va_D A (rW cy b V) → va_S A s.heap H locs → lv_has ls 4 [(0, .ref (b 0)), (1, .int zx1), (2, .int zx2), (3, .int zx3)] → W p l e ({ frames := 2, cells := 0, slots := 0, locals := 46 } : Room) s m args below meth c H locs 0 0 (MQ below (va_Qi (fun r (_ : Unit) => r = res.1) (fun _ t => va_P D xcl (rW cy b res.2) t.heap ∧ va_D A (rW cy b res.2)) A) args s 0 0 (A)) (F0 m 14 ls []) := by
  have hinX4 : ∀ w ∈ wsX40, w ∈ wsX4_atWork := (fun _ h => (List.mem_cons_of_mem _ (List.mem_append_right _ h)))
  intro fu
  induction fu with
  | zero =>
    intro zx1 zx2 zx3 V H locs  ls h hP hD hS hl
    cases h
  | succ fu ih =>
    intro zx1 zx2 zx3 V H locs  ls h hP hD hS hl
    refine lv_iload_n hx hb dX4_atWork_14 rfl (lv_at hl 3 rfl) ?_
    refine lv_aload_n hx hb dX4_atWork_15 rfl (lv_at hl 0 rfl) ?_
    refine va_get (D := D) (ci := 4) (v := .int (V.1 0)) (C := RX4) (T := TX4) (N := 28) hx hb hts hinX4 hown hK hP 0 rfl rfl 0 (by decide) (hts _ (List.mem_of_getElem? (i := 1) rfl)) (fun _ h9 => h9) rfl dX4_atWork_16 ?_
    refine lv_icmp_ge (tgt := 45) hx hb dX4_atWork_19 (by decide) (fun c_4 => ?_) (fun c_4 => ?_)
    · replace h := oi_t c_4 h
      refine lv_iload_n hx hb dX4_atWork_45 rfl (lv_at hl 2 rfl) ?_
      have h9 := Option.some.inj h
      subst h9
      exact W.iret (v := zx2) hx hb hr (fun t ht hW => ⟨⟨zx2, (), rfl, rfl, ⟨by rw [ht]; exact hP, hD⟩⟩, hS.F ht⟩) hS.2.2 dX4_atWork_46 hlocks
    · replace h := oi_f c_4 h
      refine lv_iload_n hx hb dX4_atWork_22 rfl (lv_at hl 2 rfl) ?_
      refine lv_aload_n hx hb dX4_atWork_23 rfl (lv_at hl 0 rfl) ?_
      refine lv_iload_n hx hb dX4_atWork_24 rfl (lv_at hl 3 rfl) ?_
      refine lv_iload_n hx hb dX4_atWork_25 rfl (lv_at hl 1 rfl) ?_
      obtain ⟨u_5, hg_6, h⟩ := ob_some h
      refine zcSi (W.runV (As := [.int zx3, .int zx1]) (rest := [.int zx2]) ⟨hx, hb, hml, hown, hts⟩ (c_X4_at l D cy b V zx3 zx1 hg_6) (cwV 2 hts gX4_atWork_X4_at rfl rfl rfl hd_X4_at ⟨Nat.le_of_ble_eq_true rfl, Nat.le_of_ble_eq_true rfl⟩) ⟨rI_blind, va_recv hK hP (ci := 4) (q0 := 0) rfl rfl, (rI_at hP hK hD)⟩ rfl rfl hl.1 rfl (lv_room (Nat.le_of_ble_eq_true rfl)) dX4_atWork_26 ⟨Nat.le_of_ble_eq_true rfl, Nat.le_of_ble_eq_true rfl⟩) ?_
      refine lv_if_lt (tgt := 36) hx hb dX4_atWork_29 (by decide) (fun c_7 => ?_) (fun c_7 => ?_)
      · replace h := oi_t c_7 h
        refine lv_iconst (v := 0) hx hb dX4_atWork_36 (by decide) ?_
        refine lv_iadd hx hb dX4_atWork_37 ?_
        refine lv_istore_n (lv' := [(2, .int (zx2 + 0)), (0, .ref (b 0)), (1, .int zx1), (3, .int zx3)]) hx hb dX4_atWork_38 rfl hl (by decide) rfl (fun ls hl => ?_)
        refine lv_iinc (v := zx3 + 1) (lv' := [(3, .int (zx3 + 1)), (2, .int (zx2 + 0)), (0, .ref (b 0)), (1, .int zx1)]) hx hb dX4_atWork_39 hl (k := 3) rfl rfl (by decide) rfl (fun ls hl => ?_)
        refine lv_goto (tgt := 14) hx hb dX4_atWork_42 (by decide) ?_
        exact ih zx1 (zx2 + 0) (zx3 + 1) _ _ _  ls h hP hD hS (lv_sub hl [2, 3, 1, 0] rfl)
      · replace h := oi_f c_7 h
        refine lv_iconst (v := 1) hx hb dX4_atWork_32 (by decide) ?_
        refine lv_goto (tgt := 37) hx hb dX4_atWork_33 (by decide) ?_
        refine lv_iadd hx hb dX4_atWork_37 ?_
        refine lv_istore_n (lv' := [(2, .int (zx2 + 1)), (0, .ref (b 0)), (1, .int zx1), (3, .int zx3)]) hx hb dX4_atWork_38 rfl hl (by decide) rfl (fun ls hl => ?_)
        refine lv_iinc (v := zx3 + 1) (lv' := [(3, .int (zx3 + 1)), (2, .int (zx2 + 1)), (0, .ref (b 0)), (1, .int zx1)]) hx hb dX4_atWork_39 hl (k := 3) rfl rfl (by decide) rfl (fun ls hl => ?_)
        refine lv_goto (tgt := 14) hx hb dX4_atWork_42 (by decide) ?_
        exact ih zx1 (zx2 + 1) (zx3 + 1) _ _ _  ls h hP hD hS (lv_sub hl [2, 3, 1, 0] rfl)
set_option maxHeartbeats 4000000 in
set_option maxRecDepth 100000 in
theorem c_X4_atWork (l : Launch) (D : va_G) (cy : Nat → ClassId) (b : Nat → Nat) (V : RV) (sz : Nat) (p1 : Int32) {res : Int32 × RV} (h : f_X4_atWork V p1 = some res) : Met l yX4_atWork wsX4_atWork ({ frames := 2, cells := 0, slots := 0, locals := 46 } : Room) (va_Pc [.ref (b 0), .int p1] (zJ sz (rI D cy b V))) (va_Qi (fun r (_ : Unit) => r = res.1) (fun _ t => va_P D xcl (rW cy b res.2) t.heap ∧ va_D (va_A (rW cy b V) sz) (rW cy b res.2)) (va_A (rW cy b V) sz)) 0 0 (va_A (rW cy b V) sz) := by
  refine Met.ofW (cc := cX4_atWork) (maxL := 4) (ret := (some .int)) (by decide) rfl ?_
  intro p e s m args below meth c s₁ B hml hv
  obtain ⟨rfl, hsz, hP, hK, hD0⟩ := hv
  have hx := B.exec
  have hb := B.bytes
  have hr := B.returns
  have hts := atoms_spec (ws := wsX4_atWork) B.pre
  have hown : s.vm.findClass RX4 = some m.cls := findClass_of_methodNamed B.named
  have hlocks := B.notSynchronized
  subst hsz
  have hD := hD0.self (sz := s.heap.size)
  generalize hAe : va_A (rW cy b V) s.heap.size = A at hD ⊢
  have hA : ∀ q : Nat, s.heap.size ≤ q → A q := fun q h => by rw [← hAe]; exact Or.inr h
  have hS : va_S A s.heap s.heap [] := va_S.rf
  have hl := lv_entry ([.ref (b 0), .int p1]) (n := 4) (Nat.le_of_ble_eq_true rfl)
  rw [lg_entry_eq]
  generalize (lg_sl ([.ref (b 0), .int p1]) ++ List.replicate (4 - (lg_sl ([.ref (b 0), .int p1])).length) Slot.unset).toArray = ls at hl ⊢
  have hl : lv_has ls 4 [(0, .ref (b 0)), (1, .int p1)] := hl
  revert hP hS
  intro hP hS
  refine lv_aload_n hx hb dX4_atWork_0 rfl (lv_at hl 0 rfl) ?_
  refine lv_iload_n hx hb dX4_atWork_1 rfl (lv_at hl 1 rfl) ?_
  obtain ⟨u_1, hg_2, h⟩ := ob_some h
  refine zcWi (va_runV (As := [.int p1]) (rest := []) ⟨hx, hb, hml, hown, hts⟩ (c_X4_isNoMinute l D cy b V _ p1 hg_2) (cwV 1 hts gX4_atWork_X4_isNoMinute rfl rfl rfl hd_X4_isNoMinute ⟨Nat.le_of_ble_eq_true rfl, Nat.le_of_ble_eq_true rfl⟩) ⟨(zJ_blind rI_blind), va_recv hK hP (ci := 4) (q0 := 0) rfl rfl, (zJ_at (rI_at hP hK hD))⟩ rfl rfl hl.1 rfl (lv_room (Nat.le_of_ble_eq_true rfl)) dX4_atWork_2 ⟨Nat.le_of_ble_eq_true rfl, Nat.le_of_ble_eq_true rfl⟩) hS (z_free hD hS hA) (fun H locs hP hD hS => ?_)
  refine lv_if_eq (tgt := 10) hx hb dX4_atWork_5 (by decide) (fun c_3 => ?_) (fun c_3 => ?_)
  · replace h := oi_t c_3 h
    refine lv_iconst (v := 0) hx hb dX4_atWork_10 (by decide) ?_
    refine lv_istore_n (lv' := [(2, .int 0), (0, .ref (b 0)), (1, .int p1)]) hx hb dX4_atWork_11 rfl hl (by decide) rfl (fun ls hl => ?_)
    refine lv_iconst (v := 0) hx hb dX4_atWork_12 (by decide) ?_
    refine lv_istore_n (lv' := [(3, .int 0), (2, .int 0), (0, .ref (b 0)), (1, .int p1)]) hx hb dX4_atWork_13 rfl hl (by decide) rfl (fun ls hl => ?_)
    exact k_X4_atWork_14 hx hb hr hts hml hown hlocks hK hA _ _ p1 0 0 _ _ _  ls h hP hD hS (lv_sub hl [2, 3, 1, 0] rfl)
  · replace h := oi_f c_3 h
    refine lv_iconst (v := 0) hx hb dX4_atWork_8 (by decide) ?_
    have h9 := Option.some.inj h
    subst h9
    exact W.iret (v := 0) hx hb hr (fun t ht hW => ⟨⟨0, (), rfl, rfl, ⟨by rw [ht]; exact hP, hD⟩⟩, hS.F ht⟩) hS.2.2 dX4_atWork_9 hlocks
def f_X4_airIn_5 : RV → Nat → Int32 → Int64 → Int32 → Option (Int64)
  | _, 0, _, _, _ => none
  | V, fu + 1, zx1, zx2, zx4 => oi ((V.1 0) ≤ zx4) (some zx2) (ob (f_X4_at V zx4 zx1) (fun u_2 => oi (u_2 < 0) (f_X4_airIn_5 V fu zx1 zx2 (zx4 + 1)) (ob (f_X4_at V zx4 zx1) (fun u_5 => og (¬ (u_5 < 0 ∨ 40 ≤ (u_5).toNatClampNeg)) (f_X4_airIn_5 V fu zx1 (zx2 ||| (V.2.2 (u_5).toNatClampNeg)) (zx4 + 1))))))
def f_X4_airIn (V : RV) (p1 : Int32) : Option (Int64) := f_X4_airIn_5 V FU p1 0 0
theorem hd_X4_airIn : yX4_airIn.cls = RX4 ∧ yX4_airIn.cls ≠ "java/lang/invoke/MethodHandle" ∧ yX4_airIn.cls ≠ "java/lang/invoke/VarHandle" ∧ (parseMethodDescriptor yX4_airIn.desc).map (fun d => d.parameters.length) = some 1 := by decide +kernel
set_option maxHeartbeats 4000000 in
set_option maxRecDepth 100000 in
theorem k_X4_airIn_5 {p : Program} {l : Launch} {e : Env} {s : State} {m : MethodId} {args : Array Value} {below : List Frame} {meth : Method} {c : Code} {D : va_G} {cy : Nat → ClassId} {b : Nat → Nat} {V : RV} (hx : p.tables.exec = Jvm.exec) (hb : c.code = cX4_airIn) (hr : meth.sig.returnType = (some .long)) (hts : ∀ w ∈ wsX4_airIn, w.before args s = true) (hml : c.maxLocals = 5) (hown : s.vm.findClass RX4 = some m.cls) (hlocks : meth.locks = false) (hK : va_K D xcl (xty cy) s) (hP : va_P D xcl (rW cy b V) s.heap) (hD : va_D (fun _ => True) (rW cy b V)) (res : Int64) : ∀ (fu : Nat) (zx1 : Int32) (zx2 : Int64) (zx4 : Int32)  (ls : Array Slot), f_X4_airIn_5 V fu zx1 zx2 zx4 = some res → lv_has ls 5 [(0, .ref (b 0)), (1, .int zx1), (2, .long (zx2)), (4, .int zx4)] → W p l e ({ frames := 2, cells := 0, slots := 0, locals := 46 } : Room) s m args below meth c s.heap [] 0 0 (MQ below (vp_Sl (fun r => r = res)) args s 0 0 (fun _ => False)) (F0 m 5 ls []) := by
  have hinX4 : ∀ w ∈ wsX40, w ∈ wsX4_airIn := (fun _ h => (List.mem_cons_of_mem _ (List.mem_append_right _ h)))
  intro fu
  induction fu with
  | zero =>
    intro zx1 zx2 zx4  ls h hl
    cases h
  | succ fu ih =>
    intro zx1 zx2 zx4  ls h hl
    refine lv_iload hx hb dX4_airIn_5 (lv_at hl 3 rfl) ?_
    refine lv_aload_n hx hb dX4_airIn_7 rfl (lv_at hl 0 rfl) ?_
    refine va_get (D := D) (ci := 4) (v := .int (V.1 0)) (C := RX4) (T := TX4) (N := 28) hx hb hts hinX4 hown hK hP 0 rfl rfl 0 (by decide) (hts _ (List.mem_of_getElem? (i := 1) rfl)) (fun _ h9 => h9) rfl dX4_airIn_8 ?_
    refine lv_icmp_ge (tgt := 45) hx hb dX4_airIn_11 (by decide) (fun c_1 => ?_) (fun c_1 => ?_)
    · replace h := oi_t c_1 h
      refine lv_lload_n hx hb dX4_airIn_45 rfl (lv_at hl 2 rfl) ?_
      have h9 := Option.some.inj h
      exact W.lret (v := zx2) hx hb hr (fun t ht hW => ⟨zx2, rfl, h9, ht⟩) (fun _ hq => absurd hq List.not_mem_nil) dX4_airIn_46 hlocks
    · replace h := oi_f c_1 h
      refine lv_aload_n hx hb dX4_airIn_14 rfl (lv_at hl 0 rfl) ?_
      refine lv_iload hx hb dX4_airIn_15 (lv_at hl 3 rfl) ?_
      refine lv_iload_n hx hb dX4_airIn_17 rfl (lv_at hl 1 rfl) ?_
      obtain ⟨u_2, hg_3, h⟩ := ob_some h
      refine zcSi (W.runV (As := [.int zx4, .int zx1]) (rest := []) ⟨hx, hb, hml, hown, hts⟩ (c_X4_at l D cy b V zx4 zx1 hg_3) (cwV 2 hts gX4_airIn_X4_at rfl rfl rfl hd_X4_at ⟨Nat.le_of_ble_eq_true rfl, Nat.le_of_ble_eq_true rfl⟩) ⟨rI_blind, va_recv hK hP (ci := 4) (q0 := 0) rfl rfl, (rI_at hP hK hD)⟩ rfl rfl hl.1 rfl (lv_room (Nat.le_of_ble_eq_true rfl)) dX4_airIn_18 ⟨Nat.le_of_ble_eq_true rfl, Nat.le_of_ble_eq_true rfl⟩) ?_
      refine lv_if_lt (tgt := 39) hx hb dX4_airIn_21 (by decide) (fun c_4 => ?_) (fun c_4 => ?_)
      · replace h := oi_t c_4 h
        refine lv_iinc (v := zx4 + 1) (lv' := [(4, .int (zx4 + 1)), (0, .ref (b 0)), (1, .int zx1), (2, .long (zx2))]) hx hb dX4_airIn_39 hl (k := 3) rfl rfl (by decide) rfl (fun ls hl => ?_)
        refine lv_goto (tgt := 5) hx hb dX4_airIn_42 (by decide) ?_
        exact ih zx1 zx2 (zx4 + 1)  ls h (lv_sub hl [1, 2, 3, 0] rfl)
      · replace h := oi_f c_4 h
        refine lv_lload_n hx hb dX4_airIn_24 rfl (lv_at hl 2 rfl) ?_
        refine lv_aload_n hx hb dX4_airIn_25 rfl (lv_at hl 0 rfl) ?_
        refine va_get (D := D) (ci := 4) (v := .ref (b 18)) (C := RX4) (T := TX4) (N := 28) hx hb hts hinX4 hown hK hP 0 rfl rfl 18 (by decide) (hts _ (List.mem_of_getElem? (i := 2) rfl)) (fun _ h9 => h9) rfl dX4_airIn_26 ?_
        refine lv_aload_n hx hb dX4_airIn_29 rfl (lv_at hl 0 rfl) ?_
        refine lv_iload hx hb dX4_airIn_30 (lv_at hl 3 rfl) ?_
        refine lv_iload_n hx hb dX4_airIn_32 rfl (lv_at hl 1 rfl) ?_
        obtain ⟨u_5, hg_6, h⟩ := ob_some h
        refine zcSi (W.runV (As := [.int zx4, .int zx1]) (rest := [.ref (b 18), .long (zx2)]) ⟨hx, hb, hml, hown, hts⟩ (c_X4_at l D cy b V zx4 zx1 hg_6) (cwV 2 hts gX4_airIn_X4_at rfl rfl rfl hd_X4_at ⟨Nat.le_of_ble_eq_true rfl, Nat.le_of_ble_eq_true rfl⟩) ⟨rI_blind, va_recv hK hP (ci := 4) (q0 := 0) rfl rfl, (rI_at hP hK hD)⟩ rfl rfl hl.1 rfl (lv_room (Nat.le_of_ble_eq_true rfl)) dX4_airIn_33 ⟨Nat.le_of_ble_eq_true rfl, Nat.le_of_ble_eq_true rfl⟩) ?_
        obtain ⟨g_7, h⟩ := og_some h
        refine va_lald hx hb hK hP 17 1 rfl rfl g_7 dX4_airIn_36 ?_
        refine lv_lor hx hb dX4_airIn_37 ?_
        refine lv_lstore_n (lv' := [(2, .long (zx2 ||| (V.2.2 (u_5).toNatClampNeg))), (0, .ref (b 0)), (1, .int zx1), (4, .int zx4)]) hx hb dX4_airIn_38 rfl hl (by decide) rfl (fun ls hl => ?_)
        refine lv_iinc (v := zx4 + 1) (lv' := [(4, .int (zx4 + 1)), (2, .long (zx2 ||| (V.2.2 (u_5).toNatClampNeg))), (0, .ref (b 0)), (1, .int zx1)]) hx hb dX4_airIn_39 hl (k := 3) rfl rfl (by decide) rfl (fun ls hl => ?_)
        refine lv_goto (tgt := 5) hx hb dX4_airIn_42 (by decide) ?_
        exact ih zx1 (zx2 ||| (V.2.2 (u_5).toNatClampNeg)) (zx4 + 1)  ls h (lv_sub hl [2, 3, 1, 0] rfl)
set_option maxHeartbeats 4000000 in
set_option maxRecDepth 100000 in
theorem c_X4_airIn (l : Launch) (D : va_G) (cy : Nat → ClassId) (b : Nat → Nat) (V : RV) (p1 : Int32) {res : Int64} (h : f_X4_airIn V p1 = some res) : Met l yX4_airIn wsX4_airIn ({ frames := 2, cells := 0, slots := 0, locals := 46 } : Room) (va_Pc [.ref (b 0), .int p1] (rI D cy b V)) (vp_Sl (fun r => r = res)) 0 0 (fun _ => False) := by
  refine Met.ofW (cc := cX4_airIn) (maxL := 5) (ret := (some .long)) (by decide) rfl ?_
  intro p e s m args below meth c s₁ B hml hv
  obtain ⟨rfl, hP, hK, hD⟩ := hv
  have hx := B.exec
  have hb := B.bytes
  have hr := B.returns
  have hts := atoms_spec (ws := wsX4_airIn) B.pre
  have hown : s.vm.findClass RX4 = some m.cls := findClass_of_methodNamed B.named
  have hlocks := B.notSynchronized
  have hl := lv_entry ([.ref (b 0), .int p1]) (n := 5) (Nat.le_of_ble_eq_true rfl)
  rw [lg_entry_eq]
  generalize (lg_sl ([.ref (b 0), .int p1]) ++ List.replicate (5 - (lg_sl ([.ref (b 0), .int p1])).length) Slot.unset).toArray = ls at hl ⊢
  have hl : lv_has ls 5 [(0, .ref (b 0)), (1, .int p1)] := hl
  refine lv_lconst (v := 0) hx hb dX4_airIn_0 (by decide) ?_
  refine lv_lstore_n (lv' := [(2, .long (0)), (0, .ref (b 0)), (1, .int p1)]) hx hb dX4_airIn_1 rfl hl (by decide) rfl (fun ls hl => ?_)
  refine lv_iconst (v := 0) hx hb dX4_airIn_2 (by decide) ?_
  refine lv_istore (lv' := [(4, .int 0), (2, .long (0)), (0, .ref (b 0)), (1, .int p1)]) hx hb dX4_airIn_3 hl (by decide) rfl (fun ls hl => ?_)
  exact k_X4_airIn_5 hx hb hr hts hml hown hlocks hK hP hD _ _ p1 0 0  ls h (lv_sub hl [2, 3, 1, 0] rfl)
def f_X4_airAt (V : RV) (p1 : Int32) : Option (Int64 × RV) := ob (f_X4_isNoMinute V p1) (fun u_1 => oi (u_1.1 = 0) (ob (f_X4_airIn u_1.2 p1) (fun u_4 => some (u_4, u_1.2))) (some (0, u_1.2)))
theorem hd_X4_airAt : yX4_airAt.cls = RX4 ∧ yX4_airAt.cls ≠ "java/lang/invoke/MethodHandle" ∧ yX4_airAt.cls ≠ "java/lang/invoke/VarHandle" ∧ (parseMethodDescriptor yX4_airAt.desc).map (fun d => d.parameters.length) = some 1 := by decide +kernel
set_option maxHeartbeats 4000000 in
set_option maxRecDepth 100000 in
theorem c_X4_airAt (l : Launch) (D : va_G) (cy : Nat → ClassId) (b : Nat → Nat) (V : RV) (sz : Nat) (p1 : Int32) {res : Int64 × RV} (h : f_X4_airAt V p1 = some res) : Met l yX4_airAt wsX4_airAt ({ frames := 3, cells := 0, slots := 0, locals := 70 } : Room) (va_Pc [.ref (b 0), .int p1] (zJ sz (rI D cy b V))) (va_Ql (fun r (_ : Unit) => r = res.1) (fun _ t => va_P D xcl (rW cy b res.2) t.heap ∧ va_D (va_A (rW cy b V) sz) (rW cy b res.2)) (va_A (rW cy b V) sz)) 0 0 (va_A (rW cy b V) sz) := by
  refine Met.ofW (cc := cX4_airAt) (maxL := 2) (ret := (some .long)) (by decide) rfl ?_
  intro p e s m args below meth c s₁ B hml hv
  obtain ⟨rfl, hsz, hP, hK, hD0⟩ := hv
  have hx := B.exec
  have hb := B.bytes
  have hr := B.returns
  have hts := atoms_spec (ws := wsX4_airAt) B.pre
  have hown : s.vm.findClass RX4 = some m.cls := findClass_of_methodNamed B.named
  have hlocks := B.notSynchronized
  subst hsz
  have hD := hD0.self (sz := s.heap.size)
  generalize hAe : va_A (rW cy b V) s.heap.size = A at hD ⊢
  have hA : ∀ q : Nat, s.heap.size ≤ q → A q := fun q h => by rw [← hAe]; exact Or.inr h
  have hS : va_S A s.heap s.heap [] := va_S.rf
  have hl := lv_entry ([.ref (b 0), .int p1]) (n := 2) (Nat.le_of_ble_eq_true rfl)
  rw [lg_entry_eq]
  generalize (lg_sl ([.ref (b 0), .int p1]) ++ List.replicate (2 - (lg_sl ([.ref (b 0), .int p1])).length) Slot.unset).toArray = ls at hl ⊢
  have hl : lv_has ls 2 [(0, .ref (b 0)), (1, .int p1)] := hl
  revert hP hS
  intro hP hS
  refine lv_aload_n hx hb dX4_airAt_0 rfl (lv_at hl 0 rfl) ?_
  refine lv_iload_n hx hb dX4_airAt_1 rfl (lv_at hl 1 rfl) ?_
  obtain ⟨u_1, hg_2, h⟩ := ob_some h
  refine zcWi (va_runV (As := [.int p1]) (rest := []) ⟨hx, hb, hml, hown, hts⟩ (c_X4_isNoMinute l D cy b V _ p1 hg_2) (cwV 1 hts gX4_airAt_X4_isNoMinute rfl rfl rfl hd_X4_isNoMinute ⟨Nat.le_of_ble_eq_true rfl, Nat.le_of_ble_eq_true rfl⟩) ⟨(zJ_blind rI_blind), va_recv hK hP (ci := 4) (q0 := 0) rfl rfl, (zJ_at (rI_at hP hK hD))⟩ rfl rfl hl.1 rfl (lv_room (Nat.le_of_ble_eq_true rfl)) dX4_airAt_2 ⟨Nat.le_of_ble_eq_true rfl, Nat.le_of_ble_eq_true rfl⟩) hS (z_free hD hS hA) (fun H locs hP hD hS => ?_)
  refine lv_if_eq (tgt := 12) hx hb dX4_airAt_5 (by decide) (fun c_3 => ?_) (fun c_3 => ?_)
  · replace h := oi_t c_3 h
    refine lv_aload_n hx hb dX4_airAt_12 rfl (lv_at hl 0 rfl) ?_
    refine lv_iload_n hx hb dX4_airAt_13 rfl (lv_at hl 1 rfl) ?_
    obtain ⟨u_4, hg_5, h⟩ := ob_some h
    refine zcSl (W.runV (As := [.int p1]) (rest := []) ⟨hx, hb, hml, hown, hts⟩ (c_X4_airIn l D cy b u_1.2 p1 hg_5) (cwV 1 hts gX4_airAt_X4_airIn rfl rfl rfl hd_X4_airIn ⟨Nat.le_of_ble_eq_true rfl, Nat.le_of_ble_eq_true rfl⟩) ⟨rI_blind, va_recv hK hP (ci := 4) (q0 := 0) rfl rfl, (rI_at hP hK hD)⟩ rfl rfl hl.1 rfl (lv_room (Nat.le_of_ble_eq_true rfl)) dX4_airAt_14 ⟨Nat.le_of_ble_eq_true rfl, Nat.le_of_ble_eq_true rfl⟩) ?_
    have h9 := Option.some.inj h
    subst h9
    exact W.lret (v := u_4) hx hb hr (fun t ht hW => ⟨⟨u_4, (), rfl, rfl, ⟨by rw [ht]; exact hP, hD⟩⟩, hS.F ht⟩) hS.2.2 dX4_airAt_17 hlocks
  · replace h := oi_f c_3 h
    refine lv_lconst (v := 0) hx hb dX4_airAt_8 (by decide) ?_
    refine lv_goto (tgt := 17) hx hb dX4_airAt_9 (by decide) ?_
    have h9 := Option.some.inj h
    subst h9
    exact W.lret (v := 0) hx hb hr (fun t ht hW => ⟨⟨0, (), rfl, rfl, ⟨by rw [ht]; exact hP, hD⟩⟩, hS.F ht⟩) hS.2.2 dX4_airAt_17 hlocks
def f_X4_squaresAt_14 : RV → Nat → Int32 → Int32 → Int32 → Option (Int32 × RV)
  | _, 0, _, _, _ => none
  | V, fu + 1, zx1, zx2, zx3 => oi (64 ≤ zx3) (some (zx2, V)) (ob (f_X4_airIn V zx1) (fun u_5 => oi ((lg_cmp ((u_5 >>> (Int32.toInt64 zx3 &&& 63)) &&& 1) 1) = 0) (f_X4_squaresAt_14 V fu zx1 (zx2 + 1) (zx3 + 1)) (f_X4_squaresAt_14 V fu zx1 (zx2 + 0) (zx3 + 1))))
def f_X4_squaresAt (V : RV) (p1 : Int32) : Option (Int32 × RV) := ob (f_X4_isNoMinute V p1) (fun u_1 => oi (u_1.1 = 0) (f_X4_squaresAt_14 u_1.2 FU p1 0 0) (some (0, u_1.2)))
theorem hd_X4_squaresAt : yX4_squaresAt.cls = RX4 ∧ yX4_squaresAt.cls ≠ "java/lang/invoke/MethodHandle" ∧ yX4_squaresAt.cls ≠ "java/lang/invoke/VarHandle" ∧ (parseMethodDescriptor yX4_squaresAt.desc).map (fun d => d.parameters.length) = some 1 := by decide +kernel
set_option maxHeartbeats 4000000 in
set_option maxRecDepth 100000 in
theorem k_X4_squaresAt_14 {p : Program} {l : Launch} {e : Env} {s : State} {m : MethodId} {args : Array Value} {below : List Frame} {meth : Method} {c : Code} {D : va_G} {cy : Nat → ClassId} {b : Nat → Nat} {A : Nat → Prop} (hx : p.tables.exec = Jvm.exec) (hb : c.code = cX4_squaresAt) (hr : meth.sig.returnType = (some .int)) (hts : ∀ w ∈ wsX4_squaresAt, w.before args s = true) (hml : c.maxLocals = 4) (hown : s.vm.findClass RX4 = some m.cls) (hlocks : meth.locks = false) (hK : va_K D xcl (xty cy) s) (hA : ∀ q, s.heap.size ≤ q → A q) (res : Int32 × RV) : ∀ (fu : Nat) (zx1 : Int32) (zx2 : Int32) (zx3 : Int32) (V : RV) (H : Heap) (locs : List Loc)  (ls : Array Slot), f_X4_squaresAt_14 V fu zx1 zx2 zx3 = some res → va_P D xcl (rW cy b V) H → va_D A (rW cy b V) → va_S A s.heap H locs → lv_has ls 4 [(0, .ref (b 0)), (1, .int zx1), (2, .int zx2), (3, .int zx3)] → W p l e ({ frames := 3, cells := 0, slots := 0, locals := 70 } : Room) s m args below meth c H locs 0 0 (MQ below (va_Qi (fun r (_ : Unit) => r = res.1) (fun _ t => va_P D xcl (rW cy b res.2) t.heap ∧ va_D A (rW cy b res.2)) A) args s 0 0 (A)) (F0 m 14 ls []) := by
  intro fu
  induction fu with
  | zero =>
    intro zx1 zx2 zx3 V H locs  ls h hP hD hS hl
    cases h
  | succ fu ih =>
    intro zx1 zx2 zx3 V H locs  ls h hP hD hS hl
    refine lv_iload_n hx hb dX4_squaresAt_14 rfl (lv_at hl 3 rfl) ?_
    refine lv_bipush (v := 64) hx hb dX4_squaresAt_15 (by decide) ?_
    refine lv_icmp_ge (tgt := 48) hx hb dX4_squaresAt_17 (by decide) (fun c_4 => ?_) (fun c_4 => ?_)
    · replace h := oi_t c_4 h
      refine lv_iload_n hx hb dX4_squaresAt_48 rfl (lv_at hl 2 rfl) ?_
      have h9 := Option.some.inj h
      subst h9
      exact W.iret (v := zx2) hx hb hr (fun t ht hW => ⟨⟨zx2, (), rfl, rfl, ⟨by rw [ht]; exact hP, hD⟩⟩, hS.F ht⟩) hS.2.2 dX4_squaresAt_49 hlocks
    · replace h := oi_f c_4 h
      refine lv_iload_n hx hb dX4_squaresAt_20 rfl (lv_at hl 2 rfl) ?_
      refine lv_aload_n hx hb dX4_squaresAt_21 rfl (lv_at hl 0 rfl) ?_
      refine lv_iload_n hx hb dX4_squaresAt_22 rfl (lv_at hl 1 rfl) ?_
      obtain ⟨u_5, hg_6, h⟩ := ob_some h
      refine zcSl (W.runV (As := [.int zx1]) (rest := [.int zx2]) ⟨hx, hb, hml, hown, hts⟩ (c_X4_airIn l D cy b V zx1 hg_6) (cwV 1 hts gX4_squaresAt_X4_airIn rfl rfl rfl hd_X4_airIn ⟨Nat.le_of_ble_eq_true rfl, Nat.le_of_ble_eq_true rfl⟩) ⟨rI_blind, va_recv hK hP (ci := 4) (q0 := 0) rfl rfl, (rI_at hP hK hD)⟩ rfl rfl hl.1 rfl (lv_room (Nat.le_of_ble_eq_true rfl)) dX4_squaresAt_23 ⟨Nat.le_of_ble_eq_true rfl, Nat.le_of_ble_eq_true rfl⟩) ?_
      refine lv_iload_n hx hb dX4_squaresAt_26 rfl (lv_at hl 3 rfl) ?_
      refine lv_lshr (v := u_5 >>> (Int32.toInt64 zx3 &&& 63)) hx hb dX4_squaresAt_27 rfl ?_
      refine lv_lconst (v := 1) hx hb dX4_squaresAt_28 (by decide) ?_
      refine lv_land hx hb dX4_squaresAt_29 ?_
      refine lv_lconst (v := 1) hx hb dX4_squaresAt_30 (by decide) ?_
      refine W.lcmp hx hb dX4_squaresAt_31 ?_
      refine lv_if_ne (tgt := 39) hx hb dX4_squaresAt_32 (by decide) (fun c_7 => ?_) (fun c_7 => ?_)
      · replace h := oi_f c_7 h
        refine lv_iconst (v := 0) hx hb dX4_squaresAt_39 (by decide) ?_
        refine lv_iadd hx hb dX4_squaresAt_40 ?_
        refine lv_istore_n (lv' := [(2, .int (zx2 + 0)), (0, .ref (b 0)), (1, .int zx1), (3, .int zx3)]) hx hb dX4_squaresAt_41 rfl hl (by decide) rfl (fun ls hl => ?_)
        refine lv_iinc (v := zx3 + 1) (lv' := [(3, .int (zx3 + 1)), (2, .int (zx2 + 0)), (0, .ref (b 0)), (1, .int zx1)]) hx hb dX4_squaresAt_42 hl (k := 3) rfl rfl (by decide) rfl (fun ls hl => ?_)
        refine lv_goto (tgt := 14) hx hb dX4_squaresAt_45 (by decide) ?_
        exact ih zx1 (zx2 + 0) (zx3 + 1) _ _ _  ls h hP hD hS (lv_sub hl [2, 3, 1, 0] rfl)
      · replace h := oi_t c_7 h
        refine lv_iconst (v := 1) hx hb dX4_squaresAt_35 (by decide) ?_
        refine lv_goto (tgt := 40) hx hb dX4_squaresAt_36 (by decide) ?_
        refine lv_iadd hx hb dX4_squaresAt_40 ?_
        refine lv_istore_n (lv' := [(2, .int (zx2 + 1)), (0, .ref (b 0)), (1, .int zx1), (3, .int zx3)]) hx hb dX4_squaresAt_41 rfl hl (by decide) rfl (fun ls hl => ?_)
        refine lv_iinc (v := zx3 + 1) (lv' := [(3, .int (zx3 + 1)), (2, .int (zx2 + 1)), (0, .ref (b 0)), (1, .int zx1)]) hx hb dX4_squaresAt_42 hl (k := 3) rfl rfl (by decide) rfl (fun ls hl => ?_)
        refine lv_goto (tgt := 14) hx hb dX4_squaresAt_45 (by decide) ?_
        exact ih zx1 (zx2 + 1) (zx3 + 1) _ _ _  ls h hP hD hS (lv_sub hl [2, 3, 1, 0] rfl)
set_option maxHeartbeats 4000000 in
set_option maxRecDepth 100000 in
theorem c_X4_squaresAt (l : Launch) (D : va_G) (cy : Nat → ClassId) (b : Nat → Nat) (V : RV) (sz : Nat) (p1 : Int32) {res : Int32 × RV} (h : f_X4_squaresAt V p1 = some res) : Met l yX4_squaresAt wsX4_squaresAt ({ frames := 3, cells := 0, slots := 0, locals := 70 } : Room) (va_Pc [.ref (b 0), .int p1] (zJ sz (rI D cy b V))) (va_Qi (fun r (_ : Unit) => r = res.1) (fun _ t => va_P D xcl (rW cy b res.2) t.heap ∧ va_D (va_A (rW cy b V) sz) (rW cy b res.2)) (va_A (rW cy b V) sz)) 0 0 (va_A (rW cy b V) sz) := by
  refine Met.ofW (cc := cX4_squaresAt) (maxL := 4) (ret := (some .int)) (by decide) rfl ?_
  intro p e s m args below meth c s₁ B hml hv
  obtain ⟨rfl, hsz, hP, hK, hD0⟩ := hv
  have hx := B.exec
  have hb := B.bytes
  have hr := B.returns
  have hts := atoms_spec (ws := wsX4_squaresAt) B.pre
  have hown : s.vm.findClass RX4 = some m.cls := findClass_of_methodNamed B.named
  have hlocks := B.notSynchronized
  subst hsz
  have hD := hD0.self (sz := s.heap.size)
  generalize hAe : va_A (rW cy b V) s.heap.size = A at hD ⊢
  have hA : ∀ q : Nat, s.heap.size ≤ q → A q := fun q h => by rw [← hAe]; exact Or.inr h
  have hS : va_S A s.heap s.heap [] := va_S.rf
  have hl := lv_entry ([.ref (b 0), .int p1]) (n := 4) (Nat.le_of_ble_eq_true rfl)
  rw [lg_entry_eq]
  generalize (lg_sl ([.ref (b 0), .int p1]) ++ List.replicate (4 - (lg_sl ([.ref (b 0), .int p1])).length) Slot.unset).toArray = ls at hl ⊢
  have hl : lv_has ls 4 [(0, .ref (b 0)), (1, .int p1)] := hl
  revert hP hS
  intro hP hS
  refine lv_aload_n hx hb dX4_squaresAt_0 rfl (lv_at hl 0 rfl) ?_
  refine lv_iload_n hx hb dX4_squaresAt_1 rfl (lv_at hl 1 rfl) ?_
  obtain ⟨u_1, hg_2, h⟩ := ob_some h
  refine zcWi (va_runV (As := [.int p1]) (rest := []) ⟨hx, hb, hml, hown, hts⟩ (c_X4_isNoMinute l D cy b V _ p1 hg_2) (cwV 1 hts gX4_squaresAt_X4_isNoMinute rfl rfl rfl hd_X4_isNoMinute ⟨Nat.le_of_ble_eq_true rfl, Nat.le_of_ble_eq_true rfl⟩) ⟨(zJ_blind rI_blind), va_recv hK hP (ci := 4) (q0 := 0) rfl rfl, (zJ_at (rI_at hP hK hD))⟩ rfl rfl hl.1 rfl (lv_room (Nat.le_of_ble_eq_true rfl)) dX4_squaresAt_2 ⟨Nat.le_of_ble_eq_true rfl, Nat.le_of_ble_eq_true rfl⟩) hS (z_free hD hS hA) (fun H locs hP hD hS => ?_)
  refine lv_if_eq (tgt := 10) hx hb dX4_squaresAt_5 (by decide) (fun c_3 => ?_) (fun c_3 => ?_)
  · replace h := oi_t c_3 h
    refine lv_iconst (v := 0) hx hb dX4_squaresAt_10 (by decide) ?_
    refine lv_istore_n (lv' := [(2, .int 0), (0, .ref (b 0)), (1, .int p1)]) hx hb dX4_squaresAt_11 rfl hl (by decide) rfl (fun ls hl => ?_)
    refine lv_iconst (v := 0) hx hb dX4_squaresAt_12 (by decide) ?_
    refine lv_istore_n (lv' := [(3, .int 0), (2, .int 0), (0, .ref (b 0)), (1, .int p1)]) hx hb dX4_squaresAt_13 rfl hl (by decide) rfl (fun ls hl => ?_)
    exact k_X4_squaresAt_14 hx hb hr hts hml hown hlocks hK hA _ _ p1 0 0 _ _ _  ls h hP hD hS (lv_sub hl [2, 3, 1, 0] rfl)
  · replace h := oi_f c_3 h
    refine lv_iconst (v := 0) hx hb dX4_squaresAt_8 (by decide) ?_
    have h9 := Option.some.inj h
    subst h9
    exact W.iret (v := 0) hx hb hr (fun t ht hW => ⟨⟨0, (), rfl, rfl, ⟨by rw [ht]; exact hP, hD⟩⟩, hS.F ht⟩) hS.2.2 dX4_squaresAt_9 hlocks
def f_X4_pours (V : RV)  : Option (Int32 × RV) := ob (f_X4_tells V (V.1 19)) (fun u_1 => some (u_1.1, u_1.2))
theorem hd_X4_pours : yX4_pours.cls = RX4 ∧ yX4_pours.cls ≠ "java/lang/invoke/MethodHandle" ∧ yX4_pours.cls ≠ "java/lang/invoke/VarHandle" ∧ (parseMethodDescriptor yX4_pours.desc).map (fun d => d.parameters.length) = some 0 := by decide +kernel
set_option maxHeartbeats 4000000 in
set_option maxRecDepth 100000 in
theorem c_X4_pours (l : Launch) (D : va_G) (cy : Nat → ClassId) (b : Nat → Nat) (V : RV) (sz : Nat)  {res : Int32 × RV} (h : f_X4_pours V  = some res) : Met l yX4_pours wsX4_pours ({ frames := 1, cells := 0, slots := 0, locals := 21 } : Room) (va_Pc [.ref (b 0)] (zJ sz (rI D cy b V))) (va_Qi (fun r (_ : Unit) => r = res.1) (fun _ t => va_P D xcl (rW cy b res.2) t.heap ∧ va_D (va_A (rW cy b V) sz) (rW cy b res.2)) (va_A (rW cy b V) sz)) 0 0 (va_A (rW cy b V) sz) := by
  refine Met.ofW (cc := cX4_pours) (maxL := 1) (ret := (some .int)) (by decide) rfl ?_
  intro p e s m args below meth c s₁ B hml hv
  obtain ⟨rfl, hsz, hP, hK, hD0⟩ := hv
  have hx := B.exec
  have hb := B.bytes
  have hr := B.returns
  have hts := atoms_spec (ws := wsX4_pours) B.pre
  have hown : s.vm.findClass RX4 = some m.cls := findClass_of_methodNamed B.named
  have hlocks := B.notSynchronized
  subst hsz
  have hD := hD0.self (sz := s.heap.size)
  generalize hAe : va_A (rW cy b V) s.heap.size = A at hD ⊢
  have hA : ∀ q : Nat, s.heap.size ≤ q → A q := fun q h => by rw [← hAe]; exact Or.inr h
  have hS : va_S A s.heap s.heap [] := va_S.rf
  have hl := lv_entry ([.ref (b 0)]) (n := 1) (Nat.le_of_ble_eq_true rfl)
  rw [lg_entry_eq]
  generalize (lg_sl ([.ref (b 0)]) ++ List.replicate (1 - (lg_sl ([.ref (b 0)])).length) Slot.unset).toArray = ls at hl ⊢
  have hl : lv_has ls 1 [(0, .ref (b 0))] := hl
  have hinX4 : ∀ w ∈ wsX40, w ∈ wsX4_pours := (fun _ h => (List.mem_cons_of_mem _ (List.mem_append_right _ h)))
  revert hP hS
  intro hP hS
  refine lv_aload_n hx hb dX4_pours_0 rfl (lv_at hl 0 rfl) ?_
  refine lv_aload_n hx hb dX4_pours_1 rfl (lv_at hl 0 rfl) ?_
  refine va_get (D := D) (ci := 4) (v := .int (V.1 19)) (C := RX4) (T := TX4) (N := 28) hx hb hts hinX4 hown hK hP 0 rfl rfl 19 (by decide) (hts _ (List.mem_of_getElem? (i := 1) rfl)) (fun _ h9 => h9) rfl dX4_pours_2 ?_
  obtain ⟨u_1, hg_2, h⟩ := ob_some h
  refine zcWi (va_runV (As := [.int (V.1 19)]) (rest := []) ⟨hx, hb, hml, hown, hts⟩ (c_X4_tells l D cy b V _ (V.1 19) hg_2) (cwV 1 hts gX4_pours_X4_tells rfl rfl rfl hd_X4_tells ⟨Nat.le_of_ble_eq_true rfl, Nat.le_of_ble_eq_true rfl⟩) ⟨(zJ_blind rI_blind), va_recv hK hP (ci := 4) (q0 := 0) rfl rfl, (zJ_at (rI_at hP hK hD))⟩ rfl rfl hl.1 rfl (lv_room (Nat.le_of_ble_eq_true rfl)) dX4_pours_5 ⟨Nat.le_of_ble_eq_true rfl, Nat.le_of_ble_eq_true rfl⟩) hS (z_free hD hS hA) (fun H locs hP hD hS => ?_)
  have h9 := Option.some.inj h
  subst h9
  exact W.iret (v := u_1.1) hx hb hr (fun t ht hW => ⟨⟨u_1.1, (), rfl, rfl, ⟨by rw [ht]; exact hP, hD⟩⟩, hS.F ht⟩) hS.2.2 dX4_pours_8 hlocks
def f_X4_isNoPour (V : RV) (p1 : Int32) : Option (Int32 × RV) := ob (f_X4_in p1 0 ((V.1 19) - 1)) (fun u_1 => oi (u_1 = 0) (ob (f_X4_fails V 1) (fun u_4 => og (u_4.1 &&& 1 = u_4.1) (some (u_4.1, u_4.2)))) (ob (f_X4_fails V 0) (fun u_7 => og (u_7.1 &&& 1 = u_7.1) (some (u_7.1, u_7.2)))))
theorem hd_X4_isNoPour : yX4_isNoPour.cls = RX4 ∧ yX4_isNoPour.cls ≠ "java/lang/invoke/MethodHandle" ∧ yX4_isNoPour.cls ≠ "java/lang/invoke/VarHandle" ∧ (parseMethodDescriptor yX4_isNoPour.desc).map (fun d => d.parameters.length) = some 1 := by decide +kernel
set_option maxHeartbeats 4000000 in
set_option maxRecDepth 100000 in
theorem c_X4_isNoPour (l : Launch) (D : va_G) (cy : Nat → ClassId) (b : Nat → Nat) (V : RV) (sz : Nat) (p1 : Int32) {res : Int32 × RV} (h : f_X4_isNoPour V p1 = some res) : Met l yX4_isNoPour wsX4_isNoPour ({ frames := 1, cells := 0, slots := 0, locals := 22 } : Room) (va_Pc [.ref (b 0), .int p1] (zJ sz (rI D cy b V))) (va_Qi (fun r (_ : Unit) => r = res.1) (fun _ t => va_P D xcl (rW cy b res.2) t.heap ∧ va_D (va_A (rW cy b V) sz) (rW cy b res.2)) (va_A (rW cy b V) sz)) 0 0 (va_A (rW cy b V) sz) := by
  refine Met.ofW (cc := cX4_isNoPour) (maxL := 2) (ret := (some .boolean)) (by decide) rfl ?_
  intro p e s m args below meth c s₁ B hml hv
  obtain ⟨rfl, hsz, hP, hK, hD0⟩ := hv
  have hx := B.exec
  have hb := B.bytes
  have hr := B.returns
  have hts := atoms_spec (ws := wsX4_isNoPour) B.pre
  have hown : s.vm.findClass RX4 = some m.cls := findClass_of_methodNamed B.named
  have hlocks := B.notSynchronized
  subst hsz
  have hD := hD0.self (sz := s.heap.size)
  generalize hAe : va_A (rW cy b V) s.heap.size = A at hD ⊢
  have hA : ∀ q : Nat, s.heap.size ≤ q → A q := fun q h => by rw [← hAe]; exact Or.inr h
  have hS : va_S A s.heap s.heap [] := va_S.rf
  have hl := lv_entry ([.ref (b 0), .int p1]) (n := 2) (Nat.le_of_ble_eq_true rfl)
  rw [lg_entry_eq]
  generalize (lg_sl ([.ref (b 0), .int p1]) ++ List.replicate (2 - (lg_sl ([.ref (b 0), .int p1])).length) Slot.unset).toArray = ls at hl ⊢
  have hl : lv_has ls 2 [(0, .ref (b 0)), (1, .int p1)] := hl
  have hinX4 : ∀ w ∈ wsX40, w ∈ wsX4_isNoPour := (fun _ h => (List.mem_cons_of_mem _ (List.mem_append_right _ h)))
  revert hP hS
  intro hP hS
  refine lv_aload_n hx hb dX4_isNoPour_0 rfl (lv_at hl 0 rfl) ?_
  refine lv_iload_n hx hb dX4_isNoPour_1 rfl (lv_at hl 1 rfl) ?_
  refine lv_iconst (v := 0) hx hb dX4_isNoPour_2 (by decide) ?_
  refine lv_aload_n hx hb dX4_isNoPour_3 rfl (lv_at hl 0 rfl) ?_
  refine va_get (D := D) (ci := 4) (v := .int (V.1 19)) (C := RX4) (T := TX4) (N := 28) hx hb hts hinX4 hown hK hP 0 rfl rfl 19 (by decide) (hts _ (List.mem_of_getElem? (i := 1) rfl)) (fun _ h9 => h9) rfl dX4_isNoPour_4 ?_
  refine lv_iconst (v := 1) hx hb dX4_isNoPour_7 (by decide) ?_
  refine lv_isub hx hb dX4_isNoPour_8 ?_
  obtain ⟨u_1, hg_2, h⟩ := ob_some h
  refine zcSi (W.runS (As := [.int p1, .int 0, .int ((V.1 19) - 1)]) (rest := [.ref (b 0)]) ⟨hx, hb, hml, hown, hts⟩ (c_X4_in l p1 0 ((V.1 19) - 1) hg_2) (va_cwS 3 hts gX4_isNoPour_X4_in rfl rfl rfl hd_X4_in ⟨Nat.le_of_ble_eq_true rfl, Nat.le_of_ble_eq_true rfl⟩) ⟨zT_blind, zT_at⟩ rfl rfl hl.1 rfl (lv_room (Nat.le_of_ble_eq_true rfl)) dX4_isNoPour_9 ⟨Nat.le_of_ble_eq_true rfl, Nat.le_of_ble_eq_true rfl⟩) ?_
  refine lv_if_eq (tgt := 19) hx hb dX4_isNoPour_12 (by decide) (fun c_3 => ?_) (fun c_3 => ?_)
  · replace h := oi_t c_3 h
    refine lv_iconst (v := 1) hx hb dX4_isNoPour_19 (by decide) ?_
    obtain ⟨u_4, hg_5, h⟩ := ob_some h
    refine zcWi (va_runV (As := [.int 1]) (rest := []) ⟨hx, hb, hml, hown, hts⟩ (c_X4_fails l D cy b V _ 1 hg_5) (cwV 1 hts gX4_isNoPour_X4_fails rfl rfl rfl hd_X4_fails ⟨Nat.le_of_ble_eq_true rfl, Nat.le_of_ble_eq_true rfl⟩) ⟨(zJ_blind rI_blind), va_recv hK hP (ci := 4) (q0 := 0) rfl rfl, (zJ_at (rI_at hP hK hD))⟩ rfl rfl hl.1 rfl (lv_room (Nat.le_of_ble_eq_true rfl)) dX4_isNoPour_20 ⟨Nat.le_of_ble_eq_true rfl, Nat.le_of_ble_eq_true rfl⟩) hS (z_free hD hS hA) (fun H locs hP hD hS => ?_)
    obtain ⟨g_6, h⟩ := og_some h
    have h9 := Option.some.inj h
    subst h9
    exact W.zret (v := u_4.1) hx hb hr (congrArg Value.int g_6) (fun t ht hW => ⟨⟨u_4.1, (), rfl, rfl, ⟨by rw [ht]; exact hP, hD⟩⟩, hS.F ht⟩) hS.2.2 dX4_isNoPour_23 hlocks
  · replace h := oi_f c_3 h
    refine lv_iconst (v := 0) hx hb dX4_isNoPour_15 (by decide) ?_
    refine lv_goto (tgt := 20) hx hb dX4_isNoPour_16 (by decide) ?_
    obtain ⟨u_7, hg_8, h⟩ := ob_some h
    refine zcWi (va_runV (As := [.int 0]) (rest := []) ⟨hx, hb, hml, hown, hts⟩ (c_X4_fails l D cy b V _ 0 hg_8) (cwV 1 hts gX4_isNoPour_X4_fails rfl rfl rfl hd_X4_fails ⟨Nat.le_of_ble_eq_true rfl, Nat.le_of_ble_eq_true rfl⟩) ⟨(zJ_blind rI_blind), va_recv hK hP (ci := 4) (q0 := 0) rfl rfl, (zJ_at (rI_at hP hK hD))⟩ rfl rfl hl.1 rfl (lv_room (Nat.le_of_ble_eq_true rfl)) dX4_isNoPour_20 ⟨Nat.le_of_ble_eq_true rfl, Nat.le_of_ble_eq_true rfl⟩) hS (z_free hD hS hA) (fun H locs hP hD hS => ?_)
    obtain ⟨g_9, h⟩ := og_some h
    have h9 := Option.some.inj h
    subst h9
    exact W.zret (v := u_7.1) hx hb hr (congrArg Value.int g_9) (fun t ht hW => ⟨⟨u_7.1, (), rfl, rfl, ⟨by rw [ht]; exact hP, hD⟩⟩, hS.F ht⟩) hS.2.2 dX4_isNoPour_23 hlocks
def f_X4_firstOf (V : RV) (p1 : Int32) : Option (Int32 × RV) := ob (f_X4_isNoPour V p1) (fun u_1 => oi (u_1.1 = 0) (og (¬ (p1 < 0 ∨ 6 ≤ (p1).toNatClampNeg)) (some (u_1.2.2.1 20 (p1).toNatClampNeg, u_1.2))) (some (0, u_1.2)))
theorem hd_X4_firstOf : yX4_firstOf.cls = RX4 ∧ yX4_firstOf.cls ≠ "java/lang/invoke/MethodHandle" ∧ yX4_firstOf.cls ≠ "java/lang/invoke/VarHandle" ∧ (parseMethodDescriptor yX4_firstOf.desc).map (fun d => d.parameters.length) = some 1 := by decide +kernel
set_option maxHeartbeats 4000000 in
set_option maxRecDepth 100000 in
theorem c_X4_firstOf (l : Launch) (D : va_G) (cy : Nat → ClassId) (b : Nat → Nat) (V : RV) (sz : Nat) (p1 : Int32) {res : Int32 × RV} (h : f_X4_firstOf V p1 = some res) : Met l yX4_firstOf wsX4_firstOf ({ frames := 2, cells := 0, slots := 0, locals := 43 } : Room) (va_Pc [.ref (b 0), .int p1] (zJ sz (rI D cy b V))) (va_Qi (fun r (_ : Unit) => r = res.1) (fun _ t => va_P D xcl (rW cy b res.2) t.heap ∧ va_D (va_A (rW cy b V) sz) (rW cy b res.2)) (va_A (rW cy b V) sz)) 0 0 (va_A (rW cy b V) sz) := by
  refine Met.ofW (cc := cX4_firstOf) (maxL := 2) (ret := (some .int)) (by decide) rfl ?_
  intro p e s m args below meth c s₁ B hml hv
  obtain ⟨rfl, hsz, hP, hK, hD0⟩ := hv
  have hx := B.exec
  have hb := B.bytes
  have hr := B.returns
  have hts := atoms_spec (ws := wsX4_firstOf) B.pre
  have hown : s.vm.findClass RX4 = some m.cls := findClass_of_methodNamed B.named
  have hlocks := B.notSynchronized
  subst hsz
  have hD := hD0.self (sz := s.heap.size)
  generalize hAe : va_A (rW cy b V) s.heap.size = A at hD ⊢
  have hA : ∀ q : Nat, s.heap.size ≤ q → A q := fun q h => by rw [← hAe]; exact Or.inr h
  have hS : va_S A s.heap s.heap [] := va_S.rf
  have hl := lv_entry ([.ref (b 0), .int p1]) (n := 2) (Nat.le_of_ble_eq_true rfl)
  rw [lg_entry_eq]
  generalize (lg_sl ([.ref (b 0), .int p1]) ++ List.replicate (2 - (lg_sl ([.ref (b 0), .int p1])).length) Slot.unset).toArray = ls at hl ⊢
  have hl : lv_has ls 2 [(0, .ref (b 0)), (1, .int p1)] := hl
  have hinX4 : ∀ w ∈ wsX40, w ∈ wsX4_firstOf := (fun _ h => (List.mem_cons_of_mem _ (List.mem_append_right _ h)))
  revert hP hS
  intro hP hS
  refine lv_aload_n hx hb dX4_firstOf_0 rfl (lv_at hl 0 rfl) ?_
  refine lv_iload_n hx hb dX4_firstOf_1 rfl (lv_at hl 1 rfl) ?_
  obtain ⟨u_1, hg_2, h⟩ := ob_some h
  refine zcWi (va_runV (As := [.int p1]) (rest := []) ⟨hx, hb, hml, hown, hts⟩ (c_X4_isNoPour l D cy b V _ p1 hg_2) (cwV 1 hts gX4_firstOf_X4_isNoPour rfl rfl rfl hd_X4_isNoPour ⟨Nat.le_of_ble_eq_true rfl, Nat.le_of_ble_eq_true rfl⟩) ⟨(zJ_blind rI_blind), va_recv hK hP (ci := 4) (q0 := 0) rfl rfl, (zJ_at (rI_at hP hK hD))⟩ rfl rfl hl.1 rfl (lv_room (Nat.le_of_ble_eq_true rfl)) dX4_firstOf_2 ⟨Nat.le_of_ble_eq_true rfl, Nat.le_of_ble_eq_true rfl⟩) hS (z_free hD hS hA) (fun H locs hP hD hS => ?_)
  refine lv_if_eq (tgt := 12) hx hb dX4_firstOf_5 (by decide) (fun c_3 => ?_) (fun c_3 => ?_)
  · replace h := oi_t c_3 h
    refine lv_aload_n hx hb dX4_firstOf_12 rfl (lv_at hl 0 rfl) ?_
    refine va_get (D := D) (ci := 4) (v := .ref (b 20)) (C := RX4) (T := TX4) (N := 28) hx hb hts hinX4 hown hK hP 0 rfl rfl 20 (by decide) (hts _ (List.mem_of_getElem? (i := 1) rfl)) (fun _ h9 => h9) rfl dX4_firstOf_13 ?_
    refine lv_iload_n hx hb dX4_firstOf_16 rfl (lv_at hl 1 rfl) ?_
    obtain ⟨g_4, h⟩ := og_some h
    refine va_iald hx hb hK hP 18 0 rfl rfl g_4 dX4_firstOf_17 ?_
    have h9 := Option.some.inj h
    subst h9
    exact W.iret (v := u_1.2.2.1 20 (p1).toNatClampNeg) hx hb hr (fun t ht hW => ⟨⟨u_1.2.2.1 20 (p1).toNatClampNeg, (), rfl, rfl, ⟨by rw [ht]; exact hP, hD⟩⟩, hS.F ht⟩) hS.2.2 dX4_firstOf_18 hlocks
  · replace h := oi_f c_3 h
    refine lv_iconst (v := 0) hx hb dX4_firstOf_8 (by decide) ?_
    refine lv_goto (tgt := 18) hx hb dX4_firstOf_9 (by decide) ?_
    have h9 := Option.some.inj h
    subst h9
    exact W.iret (v := 0) hx hb hr (fun t ht hW => ⟨⟨0, (), rfl, rfl, ⟨by rw [ht]; exact hP, hD⟩⟩, hS.F ht⟩) hS.2.2 dX4_firstOf_18 hlocks
def f_X4_loadsOf (V : RV) (p1 : Int32) : Option (Int32 × RV) := ob (f_X4_isNoPour V p1) (fun u_1 => oi (u_1.1 = 0) (og (¬ (p1 < 0 ∨ 6 ≤ (p1).toNatClampNeg)) (some (u_1.2.2.1 21 (p1).toNatClampNeg, u_1.2))) (some (0, u_1.2)))
theorem hd_X4_loadsOf : yX4_loadsOf.cls = RX4 ∧ yX4_loadsOf.cls ≠ "java/lang/invoke/MethodHandle" ∧ yX4_loadsOf.cls ≠ "java/lang/invoke/VarHandle" ∧ (parseMethodDescriptor yX4_loadsOf.desc).map (fun d => d.parameters.length) = some 1 := by decide +kernel
set_option maxHeartbeats 4000000 in
set_option maxRecDepth 100000 in
theorem c_X4_loadsOf (l : Launch) (D : va_G) (cy : Nat → ClassId) (b : Nat → Nat) (V : RV) (sz : Nat) (p1 : Int32) {res : Int32 × RV} (h : f_X4_loadsOf V p1 = some res) : Met l yX4_loadsOf wsX4_loadsOf ({ frames := 2, cells := 0, slots := 0, locals := 43 } : Room) (va_Pc [.ref (b 0), .int p1] (zJ sz (rI D cy b V))) (va_Qi (fun r (_ : Unit) => r = res.1) (fun _ t => va_P D xcl (rW cy b res.2) t.heap ∧ va_D (va_A (rW cy b V) sz) (rW cy b res.2)) (va_A (rW cy b V) sz)) 0 0 (va_A (rW cy b V) sz) := by
  refine Met.ofW (cc := cX4_loadsOf) (maxL := 2) (ret := (some .int)) (by decide) rfl ?_
  intro p e s m args below meth c s₁ B hml hv
  obtain ⟨rfl, hsz, hP, hK, hD0⟩ := hv
  have hx := B.exec
  have hb := B.bytes
  have hr := B.returns
  have hts := atoms_spec (ws := wsX4_loadsOf) B.pre
  have hown : s.vm.findClass RX4 = some m.cls := findClass_of_methodNamed B.named
  have hlocks := B.notSynchronized
  subst hsz
  have hD := hD0.self (sz := s.heap.size)
  generalize hAe : va_A (rW cy b V) s.heap.size = A at hD ⊢
  have hA : ∀ q : Nat, s.heap.size ≤ q → A q := fun q h => by rw [← hAe]; exact Or.inr h
  have hS : va_S A s.heap s.heap [] := va_S.rf
  have hl := lv_entry ([.ref (b 0), .int p1]) (n := 2) (Nat.le_of_ble_eq_true rfl)
  rw [lg_entry_eq]
  generalize (lg_sl ([.ref (b 0), .int p1]) ++ List.replicate (2 - (lg_sl ([.ref (b 0), .int p1])).length) Slot.unset).toArray = ls at hl ⊢
  have hl : lv_has ls 2 [(0, .ref (b 0)), (1, .int p1)] := hl
  have hinX4 : ∀ w ∈ wsX40, w ∈ wsX4_loadsOf := (fun _ h => (List.mem_cons_of_mem _ (List.mem_append_right _ h)))
  revert hP hS
  intro hP hS
  refine lv_aload_n hx hb dX4_loadsOf_0 rfl (lv_at hl 0 rfl) ?_
  refine lv_iload_n hx hb dX4_loadsOf_1 rfl (lv_at hl 1 rfl) ?_
  obtain ⟨u_1, hg_2, h⟩ := ob_some h
  refine zcWi (va_runV (As := [.int p1]) (rest := []) ⟨hx, hb, hml, hown, hts⟩ (c_X4_isNoPour l D cy b V _ p1 hg_2) (cwV 1 hts gX4_loadsOf_X4_isNoPour rfl rfl rfl hd_X4_isNoPour ⟨Nat.le_of_ble_eq_true rfl, Nat.le_of_ble_eq_true rfl⟩) ⟨(zJ_blind rI_blind), va_recv hK hP (ci := 4) (q0 := 0) rfl rfl, (zJ_at (rI_at hP hK hD))⟩ rfl rfl hl.1 rfl (lv_room (Nat.le_of_ble_eq_true rfl)) dX4_loadsOf_2 ⟨Nat.le_of_ble_eq_true rfl, Nat.le_of_ble_eq_true rfl⟩) hS (z_free hD hS hA) (fun H locs hP hD hS => ?_)
  refine lv_if_eq (tgt := 12) hx hb dX4_loadsOf_5 (by decide) (fun c_3 => ?_) (fun c_3 => ?_)
  · replace h := oi_t c_3 h
    refine lv_aload_n hx hb dX4_loadsOf_12 rfl (lv_at hl 0 rfl) ?_
    refine va_get (D := D) (ci := 4) (v := .ref (b 21)) (C := RX4) (T := TX4) (N := 28) hx hb hts hinX4 hown hK hP 0 rfl rfl 21 (by decide) (hts _ (List.mem_of_getElem? (i := 1) rfl)) (fun _ h9 => h9) rfl dX4_loadsOf_13 ?_
    refine lv_iload_n hx hb dX4_loadsOf_16 rfl (lv_at hl 1 rfl) ?_
    obtain ⟨g_4, h⟩ := og_some h
    refine va_iald hx hb hK hP 19 0 rfl rfl g_4 dX4_loadsOf_17 ?_
    have h9 := Option.some.inj h
    subst h9
    exact W.iret (v := u_1.2.2.1 21 (p1).toNatClampNeg) hx hb hr (fun t ht hW => ⟨⟨u_1.2.2.1 21 (p1).toNatClampNeg, (), rfl, rfl, ⟨by rw [ht]; exact hP, hD⟩⟩, hS.F ht⟩) hS.2.2 dX4_loadsOf_18 hlocks
  · replace h := oi_f c_3 h
    refine lv_iconst (v := 0) hx hb dX4_loadsOf_8 (by decide) ?_
    refine lv_goto (tgt := 18) hx hb dX4_loadsOf_9 (by decide) ?_
    have h9 := Option.some.inj h
    subst h9
    exact W.iret (v := 0) hx hb hr (fun t ht hW => ⟨⟨0, (), rfl, rfl, ⟨by rw [ht]; exact hP, hD⟩⟩, hS.F ht⟩) hS.2.2 dX4_loadsOf_18 hlocks
def f_X4_inState_5 : RV → Nat → Int32 → Int32 → Int32 → Int32 → Option (Int32)
  | _, 0, _, _, _, _ => none
  | V, fu + 1, zx1, zx2, zx3, zx4 => og (¬ (zx1 < 0 ∨ 6 ≤ (zx1).toNatClampNeg)) (oi ((V.2.1 21 (zx1).toNatClampNeg) ≤ zx4) (some zx3) (og (¬ (zx1 < 0 ∨ 6 ≤ (zx1).toNatClampNeg)) (og (¬ (((V.2.1 20 (zx1).toNatClampNeg) + zx4) < 0 ∨ 40 ≤ ((V.2.1 20 (zx1).toNatClampNeg) + zx4).toNatClampNeg)) (oi ((V.2.1 14 ((V.2.1 20 (zx1).toNatClampNeg) + zx4).toNatClampNeg) = zx2) (f_X4_inState_5 V fu zx1 zx2 (zx3 + 1) (zx4 + 1)) (f_X4_inState_5 V fu zx1 zx2 (zx3 + 0) (zx4 + 1))))))
def f_X4_inState (V : RV) (p1 : Int32) (p2 : Int32) : Option (Int32) := f_X4_inState_5 V FU p1 p2 0 0
theorem hd_X4_inState : yX4_inState.cls = RX4 ∧ yX4_inState.cls ≠ "java/lang/invoke/MethodHandle" ∧ yX4_inState.cls ≠ "java/lang/invoke/VarHandle" ∧ (parseMethodDescriptor yX4_inState.desc).map (fun d => d.parameters.length) = some 2 := by decide +kernel
set_option maxHeartbeats 4000000 in
set_option maxRecDepth 100000 in
theorem k_X4_inState_5 {p : Program} {l : Launch} {e : Env} {s : State} {m : MethodId} {args : Array Value} {below : List Frame} {meth : Method} {c : Code} {D : va_G} {cy : Nat → ClassId} {b : Nat → Nat} {V : RV} (hx : p.tables.exec = Jvm.exec) (hb : c.code = cX4_inState) (hr : meth.sig.returnType = (some .int)) (hts : ∀ w ∈ wsX4_inState, w.before args s = true) (hml : c.maxLocals = 5) (hown : s.vm.findClass RX4 = some m.cls) (hlocks : meth.locks = false) (hK : va_K D xcl (xty cy) s) (hP : va_P D xcl (rW cy b V) s.heap) (hD : va_D (fun _ => True) (rW cy b V)) (res : Int32) : ∀ (fu : Nat) (zx1 : Int32) (zx2 : Int32) (zx3 : Int32) (zx4 : Int32)  (ls : Array Slot), f_X4_inState_5 V fu zx1 zx2 zx3 zx4 = some res → lv_has ls 5 [(0, .ref (b 0)), (1, .int zx1), (2, .int zx2), (3, .int zx3), (4, .int zx4)] → W p l e ({ frames := 0, cells := 0, slots := 0, locals := 0 } : Room) s m args below meth c s.heap [] 0 0 (MQ below (vp_Si (fun r => r = res)) args s 0 0 (fun _ => False)) (F0 m 5 ls []) := by
  have hinX4 : ∀ w ∈ wsX40, w ∈ wsX4_inState := (fun _ h => (List.mem_cons_of_mem _ (List.mem_append_right _ h)))
  intro fu
  induction fu with
  | zero =>
    intro zx1 zx2 zx3 zx4  ls h hl
    cases h
  | succ fu ih =>
    intro zx1 zx2 zx3 zx4  ls h hl
    refine lv_iload hx hb dX4_inState_5 (lv_at hl 4 rfl) ?_
    refine lv_aload_n hx hb dX4_inState_7 rfl (lv_at hl 0 rfl) ?_
    refine va_get (D := D) (ci := 4) (v := .ref (b 21)) (C := RX4) (T := TX4) (N := 28) hx hb hts hinX4 hown hK hP 0 rfl rfl 21 (by decide) (hts _ (List.mem_of_getElem? (i := 1) rfl)) (fun _ h9 => h9) rfl dX4_inState_8 ?_
    refine lv_iload_n hx hb dX4_inState_11 rfl (lv_at hl 1 rfl) ?_
    obtain ⟨g_1, h⟩ := og_some h
    refine va_iald hx hb hK hP 19 0 rfl rfl g_1 dX4_inState_12 ?_
    refine lv_icmp_ge (tgt := 48) hx hb dX4_inState_13 (by decide) (fun c_2 => ?_) (fun c_2 => ?_)
    · replace h := oi_t c_2 h
      refine lv_iload_n hx hb dX4_inState_48 rfl (lv_at hl 3 rfl) ?_
      have h9 := Option.some.inj h
      exact W.iret (v := zx3) hx hb hr (fun t ht hW => ⟨zx3, rfl, h9, ht⟩) (fun _ hq => absurd hq List.not_mem_nil) dX4_inState_49 hlocks
    · replace h := oi_f c_2 h
      refine lv_iload_n hx hb dX4_inState_16 rfl (lv_at hl 3 rfl) ?_
      refine lv_aload_n hx hb dX4_inState_17 rfl (lv_at hl 0 rfl) ?_
      refine va_get (D := D) (ci := 4) (v := .ref (b 14)) (C := RX4) (T := TX4) (N := 28) hx hb hts hinX4 hown hK hP 0 rfl rfl 14 (by decide) (hts _ (List.mem_of_getElem? (i := 2) rfl)) (fun _ h9 => h9) rfl dX4_inState_18 ?_
      refine lv_aload_n hx hb dX4_inState_21 rfl (lv_at hl 0 rfl) ?_
      refine va_get (D := D) (ci := 4) (v := .ref (b 20)) (C := RX4) (T := TX4) (N := 28) hx hb hts hinX4 hown hK hP 0 rfl rfl 20 (by decide) (hts _ (List.mem_of_getElem? (i := 3) rfl)) (fun _ h9 => h9) rfl dX4_inState_22 ?_
      refine lv_iload_n hx hb dX4_inState_25 rfl (lv_at hl 1 rfl) ?_
      obtain ⟨g_3, h⟩ := og_some h
      refine va_iald hx hb hK hP 18 0 rfl rfl g_3 dX4_inState_26 ?_
      refine lv_iload hx hb dX4_inState_27 (lv_at hl 4 rfl) ?_
      refine lv_iadd hx hb dX4_inState_29 ?_
      obtain ⟨g_4, h⟩ := og_some h
      refine va_cald hx hb hK hP 13 3 rfl rfl g_4 dX4_inState_30 ?_
      refine lv_iload_n hx hb dX4_inState_31 rfl (lv_at hl 2 rfl) ?_
      refine lv_icmp_ne (tgt := 39) hx hb dX4_inState_32 (by decide) (fun c_5 => ?_) (fun c_5 => ?_)
      · replace h := oi_f c_5 h
        refine lv_iconst (v := 0) hx hb dX4_inState_39 (by decide) ?_
        refine lv_iadd hx hb dX4_inState_40 ?_
        refine lv_istore_n (lv' := [(3, .int (zx3 + 0)), (0, .ref (b 0)), (1, .int zx1), (2, .int zx2), (4, .int zx4)]) hx hb dX4_inState_41 rfl hl (by decide) rfl (fun ls hl => ?_)
        refine lv_iinc (v := zx4 + 1) (lv' := [(4, .int (zx4 + 1)), (3, .int (zx3 + 0)), (0, .ref (b 0)), (1, .int zx1), (2, .int zx2)]) hx hb dX4_inState_42 hl (k := 4) rfl rfl (by decide) rfl (fun ls hl => ?_)
        refine lv_goto (tgt := 5) hx hb dX4_inState_45 (by decide) ?_
        exact ih zx1 zx2 (zx3 + 0) (zx4 + 1)  ls h (lv_sub hl [2, 3, 4, 1, 0] rfl)
      · replace h := oi_t c_5 h
        refine lv_iconst (v := 1) hx hb dX4_inState_35 (by decide) ?_
        refine lv_goto (tgt := 40) hx hb dX4_inState_36 (by decide) ?_
        refine lv_iadd hx hb dX4_inState_40 ?_
        refine lv_istore_n (lv' := [(3, .int (zx3 + 1)), (0, .ref (b 0)), (1, .int zx1), (2, .int zx2), (4, .int zx4)]) hx hb dX4_inState_41 rfl hl (by decide) rfl (fun ls hl => ?_)
        refine lv_iinc (v := zx4 + 1) (lv' := [(4, .int (zx4 + 1)), (3, .int (zx3 + 1)), (0, .ref (b 0)), (1, .int zx1), (2, .int zx2)]) hx hb dX4_inState_42 hl (k := 4) rfl rfl (by decide) rfl (fun ls hl => ?_)
        refine lv_goto (tgt := 5) hx hb dX4_inState_45 (by decide) ?_
        exact ih zx1 zx2 (zx3 + 1) (zx4 + 1)  ls h (lv_sub hl [2, 3, 4, 1, 0] rfl)
set_option maxHeartbeats 4000000 in
set_option maxRecDepth 100000 in
theorem c_X4_inState (l : Launch) (D : va_G) (cy : Nat → ClassId) (b : Nat → Nat) (V : RV) (p1 : Int32) (p2 : Int32) {res : Int32} (h : f_X4_inState V p1 p2 = some res) : Met l yX4_inState wsX4_inState ({ frames := 0, cells := 0, slots := 0, locals := 0 } : Room) (va_Pc [.ref (b 0), .int p1, .int p2] (rI D cy b V)) (vp_Si (fun r => r = res)) 0 0 (fun _ => False) := by
  refine Met.ofW (cc := cX4_inState) (maxL := 5) (ret := (some .int)) (by decide) rfl ?_
  intro p e s m args below meth c s₁ B hml hv
  obtain ⟨rfl, hP, hK, hD⟩ := hv
  have hx := B.exec
  have hb := B.bytes
  have hr := B.returns
  have hts := atoms_spec (ws := wsX4_inState) B.pre
  have hown : s.vm.findClass RX4 = some m.cls := findClass_of_methodNamed B.named
  have hlocks := B.notSynchronized
  have hl := lv_entry ([.ref (b 0), .int p1, .int p2]) (n := 5) (Nat.le_of_ble_eq_true rfl)
  rw [lg_entry_eq]
  generalize (lg_sl ([.ref (b 0), .int p1, .int p2]) ++ List.replicate (5 - (lg_sl ([.ref (b 0), .int p1, .int p2])).length) Slot.unset).toArray = ls at hl ⊢
  have hl : lv_has ls 5 [(0, .ref (b 0)), (1, .int p1), (2, .int p2)] := hl
  refine lv_iconst (v := 0) hx hb dX4_inState_0 (by decide) ?_
  refine lv_istore_n (lv' := [(3, .int 0), (0, .ref (b 0)), (1, .int p1), (2, .int p2)]) hx hb dX4_inState_1 rfl hl (by decide) rfl (fun ls hl => ?_)
  refine lv_iconst (v := 0) hx hb dX4_inState_2 (by decide) ?_
  refine lv_istore (lv' := [(4, .int 0), (3, .int 0), (0, .ref (b 0)), (1, .int p1), (2, .int p2)]) hx hb dX4_inState_3 hl (by decide) rfl (fun ls hl => ?_)
  exact k_X4_inState_5 hx hb hr hts hml hown hlocks hK hP hD _ _ p1 p2 0 0  ls h (lv_sub hl [2, 3, 4, 1, 0] rfl)
def f_X4_longestWait_43 : RV → Nat → Int32 → Int32 → Int32 → Option (Int32 × RV)
  | _, 0, _, _, _ => none
  | V, fu + 1, zx1, zx2, zx3 => og (¬ (zx1 < 0 ∨ 6 ≤ (zx1).toNatClampNeg)) (og (¬ (zx1 < 0 ∨ 6 ≤ (zx1).toNatClampNeg)) (oi (((V.2.1 20 (zx1).toNatClampNeg) + (V.2.1 21 (zx1).toNatClampNeg)) ≤ zx3) (some (zx2, V)) (og (¬ (zx3 < 0 ∨ 40 ≤ (zx3).toNatClampNeg)) (og (¬ ((zx3 - 1) < 0 ∨ 40 ≤ (zx3 - 1).toNatClampNeg)) (og (¬ ((zx3 - 1) < 0 ∨ 40 ≤ (zx3 - 1).toNatClampNeg)) (oi ((((V.2.1 16 (zx3).toNatClampNeg) - (V.2.1 16 (zx3 - 1).toNatClampNeg)) - (V.2.1 13 (zx3 - 1).toNatClampNeg)) ≤ zx2) (f_X4_longestWait_43 V fu zx1 zx2 (zx3 + 1)) (f_X4_longestWait_43 V fu zx1 (((V.2.1 16 (zx3).toNatClampNeg) - (V.2.1 16 (zx3 - 1).toNatClampNeg)) - (V.2.1 13 (zx3 - 1).toNatClampNeg)) (zx3 + 1))))))))
def f_X4_longestWait (V : RV) (p1 : Int32) : Option (Int32 × RV) := ob (f_X4_isNoPour V p1) (fun u_1 => oi (u_1.1 = 0) (ob (f_X4_inState u_1.2 p1 119) (fun u_4 => oi (u_4 ≤ 0) (ob (f_X4_fails u_1.2 0) (fun u_7 => oi (u_7.1 = 0) (og (¬ (p1 < 0 ∨ 6 ≤ (p1).toNatClampNeg)) (f_X4_longestWait_43 u_7.2 FU p1 0 ((u_7.2.2.1 20 (p1).toNatClampNeg) + 1))) (some (0, u_7.2)))) (ob (f_X4_fails u_1.2 2) (fun u_18 => oi (u_18.1 = 0) (og (¬ (p1 < 0 ∨ 6 ≤ (p1).toNatClampNeg)) (f_X4_longestWait_43 u_18.2 FU p1 0 ((u_18.2.2.1 20 (p1).toNatClampNeg) + 1))) (some (0, u_18.2)))))) (some (0, u_1.2)))
theorem hd_X4_longestWait : yX4_longestWait.cls = RX4 ∧ yX4_longestWait.cls ≠ "java/lang/invoke/MethodHandle" ∧ yX4_longestWait.cls ≠ "java/lang/invoke/VarHandle" ∧ (parseMethodDescriptor yX4_longestWait.desc).map (fun d => d.parameters.length) = some 1 := by decide +kernel
set_option maxHeartbeats 4000000 in
set_option maxRecDepth 100000 in
theorem k_X4_longestWait_43 {p : Program} {l : Launch} {e : Env} {s : State} {m : MethodId} {args : Array Value} {below : List Frame} {meth : Method} {c : Code} {D : va_G} {cy : Nat → ClassId} {b : Nat → Nat} {A : Nat → Prop} (hx : p.tables.exec = Jvm.exec) (hb : c.code = cX4_longestWait) (hr : meth.sig.returnType = (some .int)) (hts : ∀ w ∈ wsX4_longestWait, w.before args s = true) (hml : c.maxLocals = 5) (hown : s.vm.findClass RX4 = some m.cls) (hlocks : meth.locks = false) (hK : va_K D xcl (xty cy) s) (hA : ∀ q, s.heap.size ≤ q → A q) (res : Int32 × RV) : ∀ (fu : Nat) (zx1 : Int32) (zx2 : Int32) (zx3 : Int32) (V : RV) (H : Heap) (locs : List Loc)  (ls : Array Slot), f_X4_longestWait_43 V fu zx1 zx2 zx3 = some res → va_P D xcl (rW cy b V) H → va_D A (rW cy b V) → va_S A s.heap H locs → lv_has ls 5 [(0, .ref (b 0)), (1, .int zx1), (2, .int zx2), (3, .int zx3)] → W p l e ({ frames := 2, cells := 0, slots := 0, locals := 43 } : Room) s m args below meth c H locs 0 0 (MQ below (va_Qi (fun r (_ : Unit) => r = res.1) (fun _ t => va_P D xcl (rW cy b res.2) t.heap ∧ va_D A (rW cy b res.2)) A) args s 0 0 (A)) (F0 m 43 ls []) := by
  have hinX4 : ∀ w ∈ wsX40, w ∈ wsX4_longestWait := (fun _ h => (List.mem_cons_of_mem _ (List.mem_append_right _ h)))
  intro fu
  induction fu with
  | zero =>
    intro zx1 zx2 zx3 V H locs  ls h hP hD hS hl
    cases h
  | succ fu ih =>
    intro zx1 zx2 zx3 V H locs  ls h hP hD hS hl
    refine lv_iload_n hx hb dX4_longestWait_43 rfl (lv_at hl 3 rfl) ?_
    refine lv_aload_n hx hb dX4_longestWait_44 rfl (lv_at hl 0 rfl) ?_
    refine va_get (D := D) (ci := 4) (v := .ref (b 20)) (C := RX4) (T := TX4) (N := 28) hx hb hts hinX4 hown hK hP 0 rfl rfl 20 (by decide) (hts _ (List.mem_of_getElem? (i := 1) rfl)) (fun _ h9 => h9) rfl dX4_longestWait_45 ?_
    refine lv_iload_n hx hb dX4_longestWait_48 rfl (lv_at hl 1 rfl) ?_
    obtain ⟨g_11, h⟩ := og_some h
    refine va_iald hx hb hK hP 18 0 rfl rfl g_11 dX4_longestWait_49 ?_
    refine lv_aload_n hx hb dX4_longestWait_50 rfl (lv_at hl 0 rfl) ?_
    refine va_get (D := D) (ci := 4) (v := .ref (b 21)) (C := RX4) (T := TX4) (N := 28) hx hb hts hinX4 hown hK hP 0 rfl rfl 21 (by decide) (hts _ (List.mem_of_getElem? (i := 2) rfl)) (fun _ h9 => h9) rfl dX4_longestWait_51 ?_
    refine lv_iload_n hx hb dX4_longestWait_54 rfl (lv_at hl 1 rfl) ?_
    obtain ⟨g_12, h⟩ := og_some h
    refine va_iald hx hb hK hP 19 0 rfl rfl g_12 dX4_longestWait_55 ?_
    refine lv_iadd hx hb dX4_longestWait_56 ?_
    refine lv_icmp_ge (tgt := 105) hx hb dX4_longestWait_57 (by decide) (fun c_13 => ?_) (fun c_13 => ?_)
    · replace h := oi_t c_13 h
      refine lv_iload_n hx hb dX4_longestWait_105 rfl (lv_at hl 2 rfl) ?_
      have h9 := Option.some.inj h
      subst h9
      exact W.iret (v := zx2) hx hb hr (fun t ht hW => ⟨⟨zx2, (), rfl, rfl, ⟨by rw [ht]; exact hP, hD⟩⟩, hS.F ht⟩) hS.2.2 dX4_longestWait_106 hlocks
    · replace h := oi_f c_13 h
      refine lv_aload_n hx hb dX4_longestWait_60 rfl (lv_at hl 0 rfl) ?_
      refine va_get (D := D) (ci := 4) (v := .ref (b 16)) (C := RX4) (T := TX4) (N := 28) hx hb hts hinX4 hown hK hP 0 rfl rfl 16 (by decide) (hts _ (List.mem_of_getElem? (i := 3) rfl)) (fun _ h9 => h9) rfl dX4_longestWait_61 ?_
      refine lv_iload_n hx hb dX4_longestWait_64 rfl (lv_at hl 3 rfl) ?_
      obtain ⟨g_14, h⟩ := og_some h
      refine va_iald hx hb hK hP 15 0 rfl rfl g_14 dX4_longestWait_65 ?_
      refine lv_aload_n hx hb dX4_longestWait_66 rfl (lv_at hl 0 rfl) ?_
      refine va_get (D := D) (ci := 4) (v := .ref (b 16)) (C := RX4) (T := TX4) (N := 28) hx hb hts hinX4 hown hK hP 0 rfl rfl 16 (by decide) (hts _ (List.mem_of_getElem? (i := 3) rfl)) (fun _ h9 => h9) rfl dX4_longestWait_67 ?_
      refine lv_iload_n hx hb dX4_longestWait_70 rfl (lv_at hl 3 rfl) ?_
      refine lv_iconst (v := 1) hx hb dX4_longestWait_71 (by decide) ?_
      refine lv_isub hx hb dX4_longestWait_72 ?_
      obtain ⟨g_15, h⟩ := og_some h
      refine va_iald hx hb hK hP 15 0 rfl rfl g_15 dX4_longestWait_73 ?_
      refine lv_isub hx hb dX4_longestWait_74 ?_
      refine lv_aload_n hx hb dX4_longestWait_75 rfl (lv_at hl 0 rfl) ?_
      refine va_get (D := D) (ci := 4) (v := .ref (b 13)) (C := RX4) (T := TX4) (N := 28) hx hb hts hinX4 hown hK hP 0 rfl rfl 13 (by decide) (hts _ (List.mem_of_getElem? (i := 4) rfl)) (fun _ h9 => h9) rfl dX4_longestWait_76 ?_
      refine lv_iload_n hx hb dX4_longestWait_79 rfl (lv_at hl 3 rfl) ?_
      refine lv_iconst (v := 1) hx hb dX4_longestWait_80 (by decide) ?_
      refine lv_isub hx hb dX4_longestWait_81 ?_
      obtain ⟨g_16, h⟩ := og_some h
      refine va_iald hx hb hK hP 12 0 rfl rfl g_16 dX4_longestWait_82 ?_
      refine lv_isub hx hb dX4_longestWait_83 ?_
      refine lv_istore (lv' := [(4, .int (((V.2.1 16 (zx3).toNatClampNeg) - (V.2.1 16 (zx3 - 1).toNatClampNeg)) - (V.2.1 13 (zx3 - 1).toNatClampNeg))), (0, .ref (b 0)), (1, .int zx1), (2, .int zx2), (3, .int zx3)]) hx hb dX4_longestWait_84 hl (by decide) rfl (fun ls hl => ?_)
      refine lv_iload hx hb dX4_longestWait_86 (lv_at hl 0 rfl) ?_
      refine lv_iload_n hx hb dX4_longestWait_88 rfl (lv_at hl 3 rfl) ?_
      refine lv_icmp_le (tgt := 97) hx hb dX4_longestWait_89 (by decide) (fun c_17 => ?_) (fun c_17 => ?_)
      · replace h := oi_t c_17 h
        refine lv_iload_n hx hb dX4_longestWait_97 rfl (lv_at hl 3 rfl) ?_
        refine lv_istore_n (lv' := [(2, .int zx2), (4, .int (((V.2.1 16 (zx3).toNatClampNeg) - (V.2.1 16 (zx3 - 1).toNatClampNeg)) - (V.2.1 13 (zx3 - 1).toNatClampNeg))), (0, .ref (b 0)), (1, .int zx1), (3, .int zx3)]) hx hb dX4_longestWait_98 rfl hl (by decide) rfl (fun ls hl => ?_)
        refine lv_iinc (v := zx3 + 1) (lv' := [(3, .int (zx3 + 1)), (2, .int zx2), (4, .int (((V.2.1 16 (zx3).toNatClampNeg) - (V.2.1 16 (zx3 - 1).toNatClampNeg)) - (V.2.1 13 (zx3 - 1).toNatClampNeg))), (0, .ref (b 0)), (1, .int zx1)]) hx hb dX4_longestWait_99 hl (k := 4) rfl rfl (by decide) rfl (fun ls hl => ?_)
        refine lv_goto (tgt := 43) hx hb dX4_longestWait_102 (by decide) ?_
        exact ih zx1 zx2 (zx3 + 1) _ _ _  ls h hP hD hS (lv_sub hl [3, 4, 1, 0] rfl)
      · replace h := oi_f c_17 h
        refine lv_iload hx hb dX4_longestWait_92 (lv_at hl 0 rfl) ?_
        refine lv_goto (tgt := 98) hx hb dX4_longestWait_94 (by decide) ?_
        refine lv_istore_n (lv' := [(2, .int (((V.2.1 16 (zx3).toNatClampNeg) - (V.2.1 16 (zx3 - 1).toNatClampNeg)) - (V.2.1 13 (zx3 - 1).toNatClampNeg))), (4, .int (((V.2.1 16 (zx3).toNatClampNeg) - (V.2.1 16 (zx3 - 1).toNatClampNeg)) - (V.2.1 13 (zx3 - 1).toNatClampNeg))), (0, .ref (b 0)), (1, .int zx1), (3, .int zx3)]) hx hb dX4_longestWait_98 rfl hl (by decide) rfl (fun ls hl => ?_)
        refine lv_iinc (v := zx3 + 1) (lv' := [(3, .int (zx3 + 1)), (2, .int (((V.2.1 16 (zx3).toNatClampNeg) - (V.2.1 16 (zx3 - 1).toNatClampNeg)) - (V.2.1 13 (zx3 - 1).toNatClampNeg))), (4, .int (((V.2.1 16 (zx3).toNatClampNeg) - (V.2.1 16 (zx3 - 1).toNatClampNeg)) - (V.2.1 13 (zx3 - 1).toNatClampNeg))), (0, .ref (b 0)), (1, .int zx1)]) hx hb dX4_longestWait_99 hl (k := 4) rfl rfl (by decide) rfl (fun ls hl => ?_)
        refine lv_goto (tgt := 43) hx hb dX4_longestWait_102 (by decide) ?_
        exact ih zx1 (((V.2.1 16 (zx3).toNatClampNeg) - (V.2.1 16 (zx3 - 1).toNatClampNeg)) - (V.2.1 13 (zx3 - 1).toNatClampNeg)) (zx3 + 1) _ _ _  ls h hP hD hS (lv_sub hl [3, 4, 1, 0] rfl)
set_option maxHeartbeats 4000000 in
set_option maxRecDepth 100000 in
theorem c_X4_longestWait (l : Launch) (D : va_G) (cy : Nat → ClassId) (b : Nat → Nat) (V : RV) (sz : Nat) (p1 : Int32) {res : Int32 × RV} (h : f_X4_longestWait V p1 = some res) : Met l yX4_longestWait wsX4_longestWait ({ frames := 2, cells := 0, slots := 0, locals := 43 } : Room) (va_Pc [.ref (b 0), .int p1] (zJ sz (rI D cy b V))) (va_Qi (fun r (_ : Unit) => r = res.1) (fun _ t => va_P D xcl (rW cy b res.2) t.heap ∧ va_D (va_A (rW cy b V) sz) (rW cy b res.2)) (va_A (rW cy b V) sz)) 0 0 (va_A (rW cy b V) sz) := by
  refine Met.ofW (cc := cX4_longestWait) (maxL := 5) (ret := (some .int)) (by decide) rfl ?_
  intro p e s m args below meth c s₁ B hml hv
  obtain ⟨rfl, hsz, hP, hK, hD0⟩ := hv
  have hx := B.exec
  have hb := B.bytes
  have hr := B.returns
  have hts := atoms_spec (ws := wsX4_longestWait) B.pre
  have hown : s.vm.findClass RX4 = some m.cls := findClass_of_methodNamed B.named
  have hlocks := B.notSynchronized
  subst hsz
  have hD := hD0.self (sz := s.heap.size)
  generalize hAe : va_A (rW cy b V) s.heap.size = A at hD ⊢
  have hA : ∀ q : Nat, s.heap.size ≤ q → A q := fun q h => by rw [← hAe]; exact Or.inr h
  have hS : va_S A s.heap s.heap [] := va_S.rf
  have hl := lv_entry ([.ref (b 0), .int p1]) (n := 5) (Nat.le_of_ble_eq_true rfl)
  rw [lg_entry_eq]
  generalize (lg_sl ([.ref (b 0), .int p1]) ++ List.replicate (5 - (lg_sl ([.ref (b 0), .int p1])).length) Slot.unset).toArray = ls at hl ⊢
  have hl : lv_has ls 5 [(0, .ref (b 0)), (1, .int p1)] := hl
  have hinX4 : ∀ w ∈ wsX40, w ∈ wsX4_longestWait := (fun _ h => (List.mem_cons_of_mem _ (List.mem_append_right _ h)))
  revert hP hS
  intro hP hS
  refine lv_aload_n hx hb dX4_longestWait_0 rfl (lv_at hl 0 rfl) ?_
  refine lv_iload_n hx hb dX4_longestWait_1 rfl (lv_at hl 1 rfl) ?_
  obtain ⟨u_1, hg_2, h⟩ := ob_some h
  refine zcWi (va_runV (As := [.int p1]) (rest := []) ⟨hx, hb, hml, hown, hts⟩ (c_X4_isNoPour l D cy b V _ p1 hg_2) (cwV 1 hts gX4_longestWait_X4_isNoPour rfl rfl rfl hd_X4_isNoPour ⟨Nat.le_of_ble_eq_true rfl, Nat.le_of_ble_eq_true rfl⟩) ⟨(zJ_blind rI_blind), va_recv hK hP (ci := 4) (q0 := 0) rfl rfl, (zJ_at (rI_at hP hK hD))⟩ rfl rfl hl.1 rfl (lv_room (Nat.le_of_ble_eq_true rfl)) dX4_longestWait_2 ⟨Nat.le_of_ble_eq_true rfl, Nat.le_of_ble_eq_true rfl⟩) hS (z_free hD hS hA) (fun H locs hP hD hS => ?_)
  refine lv_if_ne (tgt := 30) hx hb dX4_longestWait_5 (by decide) (fun c_3 => ?_) (fun c_3 => ?_)
  · replace h := oi_f c_3 h
    refine lv_iconst (v := 0) hx hb dX4_longestWait_30 (by decide) ?_
    have h9 := Option.some.inj h
    subst h9
    exact W.iret (v := 0) hx hb hr (fun t ht hW => ⟨⟨0, (), rfl, rfl, ⟨by rw [ht]; exact hP, hD⟩⟩, hS.F ht⟩) hS.2.2 dX4_longestWait_31 hlocks
  · replace h := oi_t c_3 h
    refine lv_aload_n hx hb dX4_longestWait_8 rfl (lv_at hl 0 rfl) ?_
    refine lv_aload_n hx hb dX4_longestWait_9 rfl (lv_at hl 0 rfl) ?_
    refine lv_iload_n hx hb dX4_longestWait_10 rfl (lv_at hl 1 rfl) ?_
    refine lv_bipush (v := 119) hx hb dX4_longestWait_11 (by decide) ?_
    obtain ⟨u_4, hg_5, h⟩ := ob_some h
    refine zcSi (W.runV (As := [.int p1, .int 119]) (rest := [.ref (b 0)]) ⟨hx, hb, hml, hown, hts⟩ (c_X4_inState l D cy b u_1.2 p1 119 hg_5) (cwV 2 hts gX4_longestWait_X4_inState rfl rfl rfl hd_X4_inState ⟨Nat.le_of_ble_eq_true rfl, Nat.le_of_ble_eq_true rfl⟩) ⟨rI_blind, va_recv hK hP (ci := 4) (q0 := 0) rfl rfl, (rI_at hP hK hD)⟩ rfl rfl hl.1 rfl (lv_room (Nat.le_of_ble_eq_true rfl)) dX4_longestWait_13 ⟨Nat.le_of_ble_eq_true rfl, Nat.le_of_ble_eq_true rfl⟩) ?_
    refine lv_if_le (tgt := 23) hx hb dX4_longestWait_16 (by decide) (fun c_6 => ?_) (fun c_6 => ?_)
    · replace h := oi_t c_6 h
      refine lv_iconst (v := 0) hx hb dX4_longestWait_23 (by decide) ?_
      obtain ⟨u_7, hg_8, h⟩ := ob_some h
      refine zcWi (va_runV (As := [.int 0]) (rest := []) ⟨hx, hb, hml, hown, hts⟩ (c_X4_fails l D cy b u_1.2 _ 0 hg_8) (cwV 1 hts gX4_longestWait_X4_fails rfl rfl rfl hd_X4_fails ⟨Nat.le_of_ble_eq_true rfl, Nat.le_of_ble_eq_true rfl⟩) ⟨(zJ_blind rI_blind), va_recv hK hP (ci := 4) (q0 := 0) rfl rfl, (zJ_at (rI_at hP hK hD))⟩ rfl rfl hl.1 rfl (lv_room (Nat.le_of_ble_eq_true rfl)) dX4_longestWait_24 ⟨Nat.le_of_ble_eq_true rfl, Nat.le_of_ble_eq_true rfl⟩) hS (z_free hD hS hA) (fun H locs hP hD hS => ?_)
      refine lv_if_eq (tgt := 32) hx hb dX4_longestWait_27 (by decide) (fun c_9 => ?_) (fun c_9 => ?_)
      · replace h := oi_t c_9 h
        refine lv_iconst (v := 0) hx hb dX4_longestWait_32 (by decide) ?_
        refine lv_istore_n (lv' := [(2, .int 0), (0, .ref (b 0)), (1, .int p1)]) hx hb dX4_longestWait_33 rfl hl (by decide) rfl (fun ls hl => ?_)
        refine lv_aload_n hx hb dX4_longestWait_34 rfl (lv_at hl 1 rfl) ?_
        refine va_get (D := D) (ci := 4) (v := .ref (b 20)) (C := RX4) (T := TX4) (N := 28) hx hb hts hinX4 hown hK hP 0 rfl rfl 20 (by decide) (hts _ (List.mem_of_getElem? (i := 1) rfl)) (fun _ h9 => h9) rfl dX4_longestWait_35 ?_
        refine lv_iload_n hx hb dX4_longestWait_38 rfl (lv_at hl 2 rfl) ?_
        obtain ⟨g_10, h⟩ := og_some h
        refine va_iald hx hb hK hP 18 0 rfl rfl g_10 dX4_longestWait_39 ?_
        refine lv_iconst (v := 1) hx hb dX4_longestWait_40 (by decide) ?_
        refine lv_iadd hx hb dX4_longestWait_41 ?_
        refine lv_istore_n (lv' := [(3, .int ((u_7.2.2.1 20 (p1).toNatClampNeg) + 1)), (2, .int 0), (0, .ref (b 0)), (1, .int p1)]) hx hb dX4_longestWait_42 rfl hl (by decide) rfl (fun ls hl => ?_)
        exact k_X4_longestWait_43 hx hb hr hts hml hown hlocks hK hA _ _ p1 0 ((u_7.2.2.1 20 (p1).toNatClampNeg) + 1) _ _ _  ls h hP hD hS (lv_sub hl [2, 3, 1, 0] rfl)
      · replace h := oi_f c_9 h
        refine lv_iconst (v := 0) hx hb dX4_longestWait_30 (by decide) ?_
        have h9 := Option.some.inj h
        subst h9
        exact W.iret (v := 0) hx hb hr (fun t ht hW => ⟨⟨0, (), rfl, rfl, ⟨by rw [ht]; exact hP, hD⟩⟩, hS.F ht⟩) hS.2.2 dX4_longestWait_31 hlocks
    · replace h := oi_f c_6 h
      refine lv_iconst (v := 2) hx hb dX4_longestWait_19 (by decide) ?_
      refine lv_goto (tgt := 24) hx hb dX4_longestWait_20 (by decide) ?_
      obtain ⟨u_18, hg_19, h⟩ := ob_some h
      refine zcWi (va_runV (As := [.int 2]) (rest := []) ⟨hx, hb, hml, hown, hts⟩ (c_X4_fails l D cy b u_1.2 _ 2 hg_19) (cwV 1 hts gX4_longestWait_X4_fails rfl rfl rfl hd_X4_fails ⟨Nat.le_of_ble_eq_true rfl, Nat.le_of_ble_eq_true rfl⟩) ⟨(zJ_blind rI_blind), va_recv hK hP (ci := 4) (q0 := 0) rfl rfl, (zJ_at (rI_at hP hK hD))⟩ rfl rfl hl.1 rfl (lv_room (Nat.le_of_ble_eq_true rfl)) dX4_longestWait_24 ⟨Nat.le_of_ble_eq_true rfl, Nat.le_of_ble_eq_true rfl⟩) hS (z_free hD hS hA) (fun H locs hP hD hS => ?_)
      refine lv_if_eq (tgt := 32) hx hb dX4_longestWait_27 (by decide) (fun c_20 => ?_) (fun c_20 => ?_)
      · replace h := oi_t c_20 h
        refine lv_iconst (v := 0) hx hb dX4_longestWait_32 (by decide) ?_
        refine lv_istore_n (lv' := [(2, .int 0), (0, .ref (b 0)), (1, .int p1)]) hx hb dX4_longestWait_33 rfl hl (by decide) rfl (fun ls hl => ?_)
        refine lv_aload_n hx hb dX4_longestWait_34 rfl (lv_at hl 1 rfl) ?_
        refine va_get (D := D) (ci := 4) (v := .ref (b 20)) (C := RX4) (T := TX4) (N := 28) hx hb hts hinX4 hown hK hP 0 rfl rfl 20 (by decide) (hts _ (List.mem_of_getElem? (i := 1) rfl)) (fun _ h9 => h9) rfl dX4_longestWait_35 ?_
        refine lv_iload_n hx hb dX4_longestWait_38 rfl (lv_at hl 2 rfl) ?_
        obtain ⟨g_21, h⟩ := og_some h
        refine va_iald hx hb hK hP 18 0 rfl rfl g_21 dX4_longestWait_39 ?_
        refine lv_iconst (v := 1) hx hb dX4_longestWait_40 (by decide) ?_
        refine lv_iadd hx hb dX4_longestWait_41 ?_
        refine lv_istore_n (lv' := [(3, .int ((u_18.2.2.1 20 (p1).toNatClampNeg) + 1)), (2, .int 0), (0, .ref (b 0)), (1, .int p1)]) hx hb dX4_longestWait_42 rfl hl (by decide) rfl (fun ls hl => ?_)
        exact k_X4_longestWait_43 hx hb hr hts hml hown hlocks hK hA _ _ p1 0 ((u_18.2.2.1 20 (p1).toNatClampNeg) + 1) _ _ _  ls h hP hD hS (lv_sub hl [2, 3, 1, 0] rfl)
      · replace h := oi_f c_20 h
        refine lv_iconst (v := 0) hx hb dX4_longestWait_30 (by decide) ?_
        have h9 := Option.some.inj h
        subst h9
        exact W.iret (v := 0) hx hb hr (fun t ht hW => ⟨⟨0, (), rfl, rfl, ⟨by rw [ht]; exact hP, hD⟩⟩, hS.F ht⟩) hS.2.2 dX4_longestWait_31 hlocks
def f_X4_isBroken (V : RV) (p1 : Int32) : Option (Int32 × RV) := ob (f_X4_isNoPour V p1) (fun u_1 => oi (u_1.1 = 0) (ob (f_X4_inState u_1.2 p1 119) (fun u_4 => oi (u_4 ≤ 0) (some (0, u_1.2)) (ob (f_X4_inState u_1.2 p1 117) (fun u_7 => ob (f_X4_inState u_1.2 p1 100) (fun u_9 => oi ((u_7 + u_9) ≤ 0) (some (0, u_1.2)) (some (1, u_1.2))))))) (some (0, u_1.2)))
theorem hd_X4_isBroken : yX4_isBroken.cls = RX4 ∧ yX4_isBroken.cls ≠ "java/lang/invoke/MethodHandle" ∧ yX4_isBroken.cls ≠ "java/lang/invoke/VarHandle" ∧ (parseMethodDescriptor yX4_isBroken.desc).map (fun d => d.parameters.length) = some 1 := by decide +kernel
set_option maxHeartbeats 4000000 in
set_option maxRecDepth 100000 in
theorem c_X4_isBroken (l : Launch) (D : va_G) (cy : Nat → ClassId) (b : Nat → Nat) (V : RV) (sz : Nat) (p1 : Int32) {res : Int32 × RV} (h : f_X4_isBroken V p1 = some res) : Met l yX4_isBroken wsX4_isBroken ({ frames := 2, cells := 0, slots := 0, locals := 43 } : Room) (va_Pc [.ref (b 0), .int p1] (zJ sz (rI D cy b V))) (va_Qi (fun r (_ : Unit) => r = res.1) (fun _ t => va_P D xcl (rW cy b res.2) t.heap ∧ va_D (va_A (rW cy b V) sz) (rW cy b res.2)) (va_A (rW cy b V) sz)) 0 0 (va_A (rW cy b V) sz) := by
  refine Met.ofW (cc := cX4_isBroken) (maxL := 2) (ret := (some .boolean)) (by decide) rfl ?_
  intro p e s m args below meth c s₁ B hml hv
  obtain ⟨rfl, hsz, hP, hK, hD0⟩ := hv
  have hx := B.exec
  have hb := B.bytes
  have hr := B.returns
  have hts := atoms_spec (ws := wsX4_isBroken) B.pre
  have hown : s.vm.findClass RX4 = some m.cls := findClass_of_methodNamed B.named
  have hlocks := B.notSynchronized
  subst hsz
  have hD := hD0.self (sz := s.heap.size)
  generalize hAe : va_A (rW cy b V) s.heap.size = A at hD ⊢
  have hA : ∀ q : Nat, s.heap.size ≤ q → A q := fun q h => by rw [← hAe]; exact Or.inr h
  have hS : va_S A s.heap s.heap [] := va_S.rf
  have hl := lv_entry ([.ref (b 0), .int p1]) (n := 2) (Nat.le_of_ble_eq_true rfl)
  rw [lg_entry_eq]
  generalize (lg_sl ([.ref (b 0), .int p1]) ++ List.replicate (2 - (lg_sl ([.ref (b 0), .int p1])).length) Slot.unset).toArray = ls at hl ⊢
  have hl : lv_has ls 2 [(0, .ref (b 0)), (1, .int p1)] := hl
  revert hP hS
  intro hP hS
  refine lv_aload_n hx hb dX4_isBroken_0 rfl (lv_at hl 0 rfl) ?_
  refine lv_iload_n hx hb dX4_isBroken_1 rfl (lv_at hl 1 rfl) ?_
  obtain ⟨u_1, hg_2, h⟩ := ob_some h
  refine zcWi (va_runV (As := [.int p1]) (rest := []) ⟨hx, hb, hml, hown, hts⟩ (c_X4_isNoPour l D cy b V _ p1 hg_2) (cwV 1 hts gX4_isBroken_X4_isNoPour rfl rfl rfl hd_X4_isNoPour ⟨Nat.le_of_ble_eq_true rfl, Nat.le_of_ble_eq_true rfl⟩) ⟨(zJ_blind rI_blind), va_recv hK hP (ci := 4) (q0 := 0) rfl rfl, (zJ_at (rI_at hP hK hD))⟩ rfl rfl hl.1 rfl (lv_room (Nat.le_of_ble_eq_true rfl)) dX4_isBroken_2 ⟨Nat.le_of_ble_eq_true rfl, Nat.le_of_ble_eq_true rfl⟩) hS (z_free hD hS hA) (fun H locs hP hD hS => ?_)
  refine lv_if_ne (tgt := 40) hx hb dX4_isBroken_5 (by decide) (fun c_3 => ?_) (fun c_3 => ?_)
  · replace h := oi_f c_3 h
    refine lv_iconst (v := 0) hx hb dX4_isBroken_40 (by decide) ?_
    have h9 := Option.some.inj h
    subst h9
    exact W.zret (v := 0) hx hb hr (by decide) (fun t ht hW => ⟨⟨0, (), rfl, rfl, ⟨by rw [ht]; exact hP, hD⟩⟩, hS.F ht⟩) hS.2.2 dX4_isBroken_41 hlocks
  · replace h := oi_t c_3 h
    refine lv_aload_n hx hb dX4_isBroken_8 rfl (lv_at hl 0 rfl) ?_
    refine lv_iload_n hx hb dX4_isBroken_9 rfl (lv_at hl 1 rfl) ?_
    refine lv_bipush (v := 119) hx hb dX4_isBroken_10 (by decide) ?_
    obtain ⟨u_4, hg_5, h⟩ := ob_some h
    refine zcSi (W.runV (As := [.int p1, .int 119]) (rest := []) ⟨hx, hb, hml, hown, hts⟩ (c_X4_inState l D cy b u_1.2 p1 119 hg_5) (cwV 2 hts gX4_isBroken_X4_inState rfl rfl rfl hd_X4_inState ⟨Nat.le_of_ble_eq_true rfl, Nat.le_of_ble_eq_true rfl⟩) ⟨rI_blind, va_recv hK hP (ci := 4) (q0 := 0) rfl rfl, (rI_at hP hK hD)⟩ rfl rfl hl.1 rfl (lv_room (Nat.le_of_ble_eq_true rfl)) dX4_isBroken_12 ⟨Nat.le_of_ble_eq_true rfl, Nat.le_of_ble_eq_true rfl⟩) ?_
    refine lv_if_le (tgt := 40) hx hb dX4_isBroken_15 (by decide) (fun c_6 => ?_) (fun c_6 => ?_)
    · replace h := oi_t c_6 h
      refine lv_iconst (v := 0) hx hb dX4_isBroken_40 (by decide) ?_
      have h9 := Option.some.inj h
      subst h9
      exact W.zret (v := 0) hx hb hr (by decide) (fun t ht hW => ⟨⟨0, (), rfl, rfl, ⟨by rw [ht]; exact hP, hD⟩⟩, hS.F ht⟩) hS.2.2 dX4_isBroken_41 hlocks
    · replace h := oi_f c_6 h
      refine lv_aload_n hx hb dX4_isBroken_18 rfl (lv_at hl 0 rfl) ?_
      refine lv_iload_n hx hb dX4_isBroken_19 rfl (lv_at hl 1 rfl) ?_
      refine lv_bipush (v := 117) hx hb dX4_isBroken_20 (by decide) ?_
      obtain ⟨u_7, hg_8, h⟩ := ob_some h
      refine zcSi (W.runV (As := [.int p1, .int 117]) (rest := []) ⟨hx, hb, hml, hown, hts⟩ (c_X4_inState l D cy b u_1.2 p1 117 hg_8) (cwV 2 hts gX4_isBroken_X4_inState rfl rfl rfl hd_X4_inState ⟨Nat.le_of_ble_eq_true rfl, Nat.le_of_ble_eq_true rfl⟩) ⟨rI_blind, va_recv hK hP (ci := 4) (q0 := 0) rfl rfl, (rI_at hP hK hD)⟩ rfl rfl hl.1 rfl (lv_room (Nat.le_of_ble_eq_true rfl)) dX4_isBroken_22 ⟨Nat.le_of_ble_eq_true rfl, Nat.le_of_ble_eq_true rfl⟩) ?_
      refine lv_aload_n hx hb dX4_isBroken_25 rfl (lv_at hl 0 rfl) ?_
      refine lv_iload_n hx hb dX4_isBroken_26 rfl (lv_at hl 1 rfl) ?_
      refine lv_bipush (v := 100) hx hb dX4_isBroken_27 (by decide) ?_
      obtain ⟨u_9, hg_10, h⟩ := ob_some h
      refine zcSi (W.runV (As := [.int p1, .int 100]) (rest := [.int u_7]) ⟨hx, hb, hml, hown, hts⟩ (c_X4_inState l D cy b u_1.2 p1 100 hg_10) (cwV 2 hts gX4_isBroken_X4_inState rfl rfl rfl hd_X4_inState ⟨Nat.le_of_ble_eq_true rfl, Nat.le_of_ble_eq_true rfl⟩) ⟨rI_blind, va_recv hK hP (ci := 4) (q0 := 0) rfl rfl, (rI_at hP hK hD)⟩ rfl rfl hl.1 rfl (lv_room (Nat.le_of_ble_eq_true rfl)) dX4_isBroken_29 ⟨Nat.le_of_ble_eq_true rfl, Nat.le_of_ble_eq_true rfl⟩) ?_
      refine lv_iadd hx hb dX4_isBroken_32 ?_
      refine lv_if_le (tgt := 40) hx hb dX4_isBroken_33 (by decide) (fun c_11 => ?_) (fun c_11 => ?_)
      · replace h := oi_t c_11 h
        refine lv_iconst (v := 0) hx hb dX4_isBroken_40 (by decide) ?_
        have h9 := Option.some.inj h
        subst h9
        exact W.zret (v := 0) hx hb hr (by decide) (fun t ht hW => ⟨⟨0, (), rfl, rfl, ⟨by rw [ht]; exact hP, hD⟩⟩, hS.F ht⟩) hS.2.2 dX4_isBroken_41 hlocks
      · replace h := oi_f c_11 h
        refine lv_iconst (v := 1) hx hb dX4_isBroken_36 (by decide) ?_
        refine lv_goto (tgt := 41) hx hb dX4_isBroken_37 (by decide) ?_
        have h9 := Option.some.inj h
        subst h9
        exact W.zret (v := 1) hx hb hr (by decide) (fun t ht hW => ⟨⟨1, (), rfl, rfl, ⟨by rw [ht]; exact hP, hD⟩⟩, hS.F ht⟩) hS.2.2 dX4_isBroken_41 hlocks
def f_X4_waiting_9 : RV → Nat → Int32 → Int32 → Option (Int32 × RV)
  | _, 0, _, _ => none
  | V, fu + 1, zx1, zx2 => oi ((V.1 7) ≤ zx2) (some (zx1, V)) (og (¬ (zx2 < 0 ∨ 40 ≤ (zx2).toNatClampNeg)) (oi ((V.2.1 14 (zx2).toNatClampNeg) = 119) (f_X4_waiting_9 V fu (zx1 + 1) (zx2 + 1)) (f_X4_waiting_9 V fu (zx1 + 0) (zx2 + 1))))
def f_X4_waiting (V : RV)  : Option (Int32 × RV) := ob (some (rsc V 27 0)) (fun V_1 => f_X4_waiting_9 V_1 FU 0 0)
theorem hd_X4_waiting : yX4_waiting.cls = RX4 ∧ yX4_waiting.cls ≠ "java/lang/invoke/MethodHandle" ∧ yX4_waiting.cls ≠ "java/lang/invoke/VarHandle" ∧ (parseMethodDescriptor yX4_waiting.desc).map (fun d => d.parameters.length) = some 0 := by decide +kernel
set_option maxHeartbeats 4000000 in
set_option maxRecDepth 100000 in
theorem k_X4_waiting_9 {p : Program} {l : Launch} {e : Env} {s : State} {m : MethodId} {args : Array Value} {below : List Frame} {meth : Method} {c : Code} {D : va_G} {cy : Nat → ClassId} {b : Nat → Nat} {A : Nat → Prop} (hx : p.tables.exec = Jvm.exec) (hb : c.code = cX4_waiting) (hr : meth.sig.returnType = (some .int)) (hts : ∀ w ∈ wsX4_waiting, w.before args s = true) (hml : c.maxLocals = 3) (hown : s.vm.findClass RX4 = some m.cls) (hlocks : meth.locks = false) (hK : va_K D xcl (xty cy) s) (hA : ∀ q, s.heap.size ≤ q → A q) (res : Int32 × RV) : ∀ (fu : Nat) (zx1 : Int32) (zx2 : Int32) (V : RV) (H : Heap) (locs : List Loc)  (ls : Array Slot), f_X4_waiting_9 V fu zx1 zx2 = some res → va_P D xcl (rW cy b V) H → va_D A (rW cy b V) → va_S A s.heap H locs → lv_has ls 3 [(0, .ref (b 0)), (1, .int zx1), (2, .int zx2)] → W p l e ({ frames := 0, cells := 0, slots := 0, locals := 0 } : Room) s m args below meth c H locs 0 0 (MQ below (va_Qi (fun r (_ : Unit) => r = res.1) (fun _ t => va_P D xcl (rW cy b res.2) t.heap ∧ va_D A (rW cy b res.2)) A) args s 0 0 (A)) (F0 m 9 ls []) := by
  have hinX4 : ∀ w ∈ wsX40, w ∈ wsX4_waiting := (fun _ h => (List.mem_cons_of_mem _ (List.mem_append_right _ h)))
  intro fu
  induction fu with
  | zero =>
    intro zx1 zx2 V H locs  ls h hP hD hS hl
    cases h
  | succ fu ih =>
    intro zx1 zx2 V H locs  ls h hP hD hS hl
    refine lv_iload_n hx hb dX4_waiting_9 rfl (lv_at hl 2 rfl) ?_
    refine lv_aload_n hx hb dX4_waiting_10 rfl (lv_at hl 0 rfl) ?_
    refine va_get (D := D) (ci := 4) (v := .int (V.1 7)) (C := RX4) (T := TX4) (N := 28) hx hb hts hinX4 hown hK hP 0 rfl rfl 7 (by decide) (hts _ (List.mem_of_getElem? (i := 2) rfl)) (fun _ h9 => h9) rfl dX4_waiting_11 ?_
    refine lv_icmp_ge (tgt := 42) hx hb dX4_waiting_14 (by decide) (fun c_3 => ?_) (fun c_3 => ?_)
    · replace h := oi_t c_3 h
      refine lv_iload_n hx hb dX4_waiting_42 rfl (lv_at hl 1 rfl) ?_
      have h9 := Option.some.inj h
      subst h9
      exact W.iret (v := zx1) hx hb hr (fun t ht hW => ⟨⟨zx1, (), rfl, rfl, ⟨by rw [ht]; exact hP, hD⟩⟩, hS.F ht⟩) hS.2.2 dX4_waiting_43 hlocks
    · replace h := oi_f c_3 h
      refine lv_iload_n hx hb dX4_waiting_17 rfl (lv_at hl 1 rfl) ?_
      refine lv_aload_n hx hb dX4_waiting_18 rfl (lv_at hl 0 rfl) ?_
      refine va_get (D := D) (ci := 4) (v := .ref (b 14)) (C := RX4) (T := TX4) (N := 28) hx hb hts hinX4 hown hK hP 0 rfl rfl 14 (by decide) (hts _ (List.mem_of_getElem? (i := 3) rfl)) (fun _ h9 => h9) rfl dX4_waiting_19 ?_
      refine lv_iload_n hx hb dX4_waiting_22 rfl (lv_at hl 2 rfl) ?_
      obtain ⟨g_4, h⟩ := og_some h
      refine va_cald hx hb hK hP 13 3 rfl rfl g_4 dX4_waiting_23 ?_
      refine lv_bipush (v := 119) hx hb dX4_waiting_24 (by decide) ?_
      refine lv_icmp_ne (tgt := 33) hx hb dX4_waiting_26 (by decide) (fun c_5 => ?_) (fun c_5 => ?_)
      · replace h := oi_f c_5 h
        refine lv_iconst (v := 0) hx hb dX4_waiting_33 (by decide) ?_
        refine lv_iadd hx hb dX4_waiting_34 ?_
        refine lv_istore_n (lv' := [(1, .int (zx1 + 0)), (0, .ref (b 0)), (2, .int zx2)]) hx hb dX4_waiting_35 rfl hl (by decide) rfl (fun ls hl => ?_)
        refine lv_iinc (v := zx2 + 1) (lv' := [(2, .int (zx2 + 1)), (1, .int (zx1 + 0)), (0, .ref (b 0))]) hx hb dX4_waiting_36 hl (k := 2) rfl rfl (by decide) rfl (fun ls hl => ?_)
        refine lv_goto (tgt := 9) hx hb dX4_waiting_39 (by decide) ?_
        exact ih (zx1 + 0) (zx2 + 1) _ _ _  ls h hP hD hS (lv_sub hl [2, 1, 0] rfl)
      · replace h := oi_t c_5 h
        refine lv_iconst (v := 1) hx hb dX4_waiting_29 (by decide) ?_
        refine lv_goto (tgt := 34) hx hb dX4_waiting_30 (by decide) ?_
        refine lv_iadd hx hb dX4_waiting_34 ?_
        refine lv_istore_n (lv' := [(1, .int (zx1 + 1)), (0, .ref (b 0)), (2, .int zx2)]) hx hb dX4_waiting_35 rfl hl (by decide) rfl (fun ls hl => ?_)
        refine lv_iinc (v := zx2 + 1) (lv' := [(2, .int (zx2 + 1)), (1, .int (zx1 + 1)), (0, .ref (b 0))]) hx hb dX4_waiting_36 hl (k := 2) rfl rfl (by decide) rfl (fun ls hl => ?_)
        refine lv_goto (tgt := 9) hx hb dX4_waiting_39 (by decide) ?_
        exact ih (zx1 + 1) (zx2 + 1) _ _ _  ls h hP hD hS (lv_sub hl [2, 1, 0] rfl)
set_option maxHeartbeats 4000000 in
set_option maxRecDepth 100000 in
theorem c_X4_waiting (l : Launch) (D : va_G) (cy : Nat → ClassId) (b : Nat → Nat) (V : RV) (sz : Nat)  {res : Int32 × RV} (h : f_X4_waiting V  = some res) : Met l yX4_waiting wsX4_waiting ({ frames := 0, cells := 0, slots := 0, locals := 0 } : Room) (va_Pc [.ref (b 0)] (zJ sz (rI D cy b V))) (va_Qi (fun r (_ : Unit) => r = res.1) (fun _ t => va_P D xcl (rW cy b res.2) t.heap ∧ va_D (va_A (rW cy b V) sz) (rW cy b res.2)) (va_A (rW cy b V) sz)) 0 0 (va_A (rW cy b V) sz) := by
  refine Met.ofW (cc := cX4_waiting) (maxL := 3) (ret := (some .int)) (by decide) rfl ?_
  intro p e s m args below meth c s₁ B hml hv
  obtain ⟨rfl, hsz, hP, hK, hD0⟩ := hv
  have hx := B.exec
  have hb := B.bytes
  have hr := B.returns
  have hts := atoms_spec (ws := wsX4_waiting) B.pre
  have hown : s.vm.findClass RX4 = some m.cls := findClass_of_methodNamed B.named
  have hlocks := B.notSynchronized
  subst hsz
  have hD := hD0.self (sz := s.heap.size)
  generalize hAe : va_A (rW cy b V) s.heap.size = A at hD ⊢
  have hA : ∀ q : Nat, s.heap.size ≤ q → A q := fun q h => by rw [← hAe]; exact Or.inr h
  have hS : va_S A s.heap s.heap [] := va_S.rf
  have hl := lv_entry ([.ref (b 0)]) (n := 3) (Nat.le_of_ble_eq_true rfl)
  rw [lg_entry_eq]
  generalize (lg_sl ([.ref (b 0)]) ++ List.replicate (3 - (lg_sl ([.ref (b 0)])).length) Slot.unset).toArray = ls at hl ⊢
  have hl : lv_has ls 3 [(0, .ref (b 0))] := hl
  have hinX4 : ∀ w ∈ wsX40, w ∈ wsX4_waiting := (fun _ h => (List.mem_cons_of_mem _ (List.mem_append_right _ h)))
  revert hP hS
  intro hP hS
  refine lv_aload_n hx hb dX4_waiting_0 rfl (lv_at hl 0 rfl) ?_
  refine lv_iconst (v := 0) hx hb dX4_waiting_1 (by decide) ?_
  refine va_put (D := D) (ci := 4) (v := .int 0) (ty := .int) (C := RX4) (T := TX4) (N := 28) hx hb hts hinX4 tyX4 tyX4_ok nmX4 hown hK hP hD hS 0 rfl rfl 27 (by decide) (hts _ (List.mem_of_getElem? (i := 1) rfl)) (fun _ h9 => h9) rfl (by decide +kernel) rfl rfl (Nat.le_of_ble_eq_true rfl) dX4_waiting_2 (fun H locs hP hD hS => ?_)
  replace hP : va_P D xcl (rW cy b (rsc V 27 0)) H := hP
  replace hD : va_D A (rW cy b (rsc V 27 0)) := hD
  obtain ⟨V_1, eV_2, h⟩ := ob_some h
  rw [Option.some.inj eV_2] at hP hD
  refine lv_iconst (v := 0) hx hb dX4_waiting_5 (by decide) ?_
  refine lv_istore_n (lv' := [(1, .int 0), (0, .ref (b 0))]) hx hb dX4_waiting_6 rfl hl (by decide) rfl (fun ls hl => ?_)
  refine lv_iconst (v := 0) hx hb dX4_waiting_7 (by decide) ?_
  refine lv_istore_n (lv' := [(2, .int 0), (1, .int 0), (0, .ref (b 0))]) hx hb dX4_waiting_8 rfl hl (by decide) rfl (fun ls hl => ?_)
  exact k_X4_waiting_9 hx hb hr hts hml hown hlocks hK hA _ _ 0 0 _ _ _  ls h hP hD hS (lv_sub hl [2, 1, 0] rfl)
def f_X4_minutesOf_14 : RV → Nat → Int32 → Int32 → Int32 → Option (Int32 × RV)
  | _, 0, _, _, _ => none
  | V, fu + 1, zx1, zx2, zx3 => oi ((V.1 7) ≤ zx3) (some (zx2, V)) (og (¬ (zx3 < 0 ∨ 40 ≤ (zx3).toNatClampNeg)) (oi ((V.2.1 14 (zx3).toNatClampNeg) = 119) (f_X4_minutesOf_14 V fu zx1 (zx2 + 0) (zx3 + 1)) (og (¬ (zx3 < 0 ∨ 40 ≤ (zx3).toNatClampNeg)) (oi ((V.2.1 15 (zx3).toNatClampNeg) = zx1) (og (¬ (zx3 < 0 ∨ 40 ≤ (zx3).toNatClampNeg)) (f_X4_minutesOf_14 V fu zx1 (zx2 + (V.2.1 13 (zx3).toNatClampNeg)) (zx3 + 1))) (f_X4_minutesOf_14 V fu zx1 (zx2 + 0) (zx3 + 1))))))
def f_X4_minutesOf (V : RV) (p1 : Int32) : Option (Int32 × RV) := ob (f_X4_isNobody V p1) (fun u_1 => oi (u_1.1 = 0) (f_X4_minutesOf_14 u_1.2 FU p1 0 0) (some (0, u_1.2)))
theorem hd_X4_minutesOf : yX4_minutesOf.cls = RX4 ∧ yX4_minutesOf.cls ≠ "java/lang/invoke/MethodHandle" ∧ yX4_minutesOf.cls ≠ "java/lang/invoke/VarHandle" ∧ (parseMethodDescriptor yX4_minutesOf.desc).map (fun d => d.parameters.length) = some 1 := by decide +kernel
set_option maxHeartbeats 4000000 in
set_option maxRecDepth 100000 in
theorem k_X4_minutesOf_14 {p : Program} {l : Launch} {e : Env} {s : State} {m : MethodId} {args : Array Value} {below : List Frame} {meth : Method} {c : Code} {D : va_G} {cy : Nat → ClassId} {b : Nat → Nat} {A : Nat → Prop} (hx : p.tables.exec = Jvm.exec) (hb : c.code = cX4_minutesOf) (hr : meth.sig.returnType = (some .int)) (hts : ∀ w ∈ wsX4_minutesOf, w.before args s = true) (hml : c.maxLocals = 4) (hown : s.vm.findClass RX4 = some m.cls) (hlocks : meth.locks = false) (hK : va_K D xcl (xty cy) s) (hA : ∀ q, s.heap.size ≤ q → A q) (res : Int32 × RV) : ∀ (fu : Nat) (zx1 : Int32) (zx2 : Int32) (zx3 : Int32) (V : RV) (H : Heap) (locs : List Loc)  (ls : Array Slot), f_X4_minutesOf_14 V fu zx1 zx2 zx3 = some res → va_P D xcl (rW cy b V) H → va_D A (rW cy b V) → va_S A s.heap H locs → lv_has ls 4 [(0, .ref (b 0)), (1, .int zx1), (2, .int zx2), (3, .int zx3)] → W p l e ({ frames := 3, cells := 0, slots := 0, locals := 64 } : Room) s m args below meth c H locs 0 0 (MQ below (va_Qi (fun r (_ : Unit) => r = res.1) (fun _ t => va_P D xcl (rW cy b res.2) t.heap ∧ va_D A (rW cy b res.2)) A) args s 0 0 (A)) (F0 m 14 ls []) := by
  have hinX4 : ∀ w ∈ wsX40, w ∈ wsX4_minutesOf := (fun _ h => (List.mem_cons_of_mem _ (List.mem_append_right _ h)))
  intro fu
  induction fu with
  | zero =>
    intro zx1 zx2 zx3 V H locs  ls h hP hD hS hl
    cases h
  | succ fu ih =>
    intro zx1 zx2 zx3 V H locs  ls h hP hD hS hl
    refine lv_iload_n hx hb dX4_minutesOf_14 rfl (lv_at hl 3 rfl) ?_
    refine lv_aload_n hx hb dX4_minutesOf_15 rfl (lv_at hl 0 rfl) ?_
    refine va_get (D := D) (ci := 4) (v := .int (V.1 7)) (C := RX4) (T := TX4) (N := 28) hx hb hts hinX4 hown hK hP 0 rfl rfl 7 (by decide) (hts _ (List.mem_of_getElem? (i := 1) rfl)) (fun _ h9 => h9) rfl dX4_minutesOf_16 ?_
    refine lv_icmp_ge (tgt := 62) hx hb dX4_minutesOf_19 (by decide) (fun c_4 => ?_) (fun c_4 => ?_)
    · replace h := oi_t c_4 h
      refine lv_iload_n hx hb dX4_minutesOf_62 rfl (lv_at hl 2 rfl) ?_
      have h9 := Option.some.inj h
      subst h9
      exact W.iret (v := zx2) hx hb hr (fun t ht hW => ⟨⟨zx2, (), rfl, rfl, ⟨by rw [ht]; exact hP, hD⟩⟩, hS.F ht⟩) hS.2.2 dX4_minutesOf_63 hlocks
    · replace h := oi_f c_4 h
      refine lv_iload_n hx hb dX4_minutesOf_22 rfl (lv_at hl 2 rfl) ?_
      refine lv_aload_n hx hb dX4_minutesOf_23 rfl (lv_at hl 0 rfl) ?_
      refine va_get (D := D) (ci := 4) (v := .ref (b 14)) (C := RX4) (T := TX4) (N := 28) hx hb hts hinX4 hown hK hP 0 rfl rfl 14 (by decide) (hts _ (List.mem_of_getElem? (i := 2) rfl)) (fun _ h9 => h9) rfl dX4_minutesOf_24 ?_
      refine lv_iload_n hx hb dX4_minutesOf_27 rfl (lv_at hl 3 rfl) ?_
      obtain ⟨g_5, h⟩ := og_some h
      refine va_cald hx hb hK hP 13 3 rfl rfl g_5 dX4_minutesOf_28 ?_
      refine lv_bipush (v := 119) hx hb dX4_minutesOf_29 (by decide) ?_
      refine lv_icmp_eq (tgt := 53) hx hb dX4_minutesOf_31 (by decide) (fun c_6 => ?_) (fun c_6 => ?_)
      · replace h := oi_t c_6 h
        refine lv_iconst (v := 0) hx hb dX4_minutesOf_53 (by decide) ?_
        refine lv_iadd hx hb dX4_minutesOf_54 ?_
        refine lv_istore_n (lv' := [(2, .int (zx2 + 0)), (0, .ref (b 0)), (1, .int zx1), (3, .int zx3)]) hx hb dX4_minutesOf_55 rfl hl (by decide) rfl (fun ls hl => ?_)
        refine lv_iinc (v := zx3 + 1) (lv' := [(3, .int (zx3 + 1)), (2, .int (zx2 + 0)), (0, .ref (b 0)), (1, .int zx1)]) hx hb dX4_minutesOf_56 hl (k := 3) rfl rfl (by decide) rfl (fun ls hl => ?_)
        refine lv_goto (tgt := 14) hx hb dX4_minutesOf_59 (by decide) ?_
        exact ih zx1 (zx2 + 0) (zx3 + 1) _ _ _  ls h hP hD hS (lv_sub hl [2, 3, 1, 0] rfl)
      · replace h := oi_f c_6 h
        refine lv_aload_n hx hb dX4_minutesOf_34 rfl (lv_at hl 0 rfl) ?_
        refine va_get (D := D) (ci := 4) (v := .ref (b 15)) (C := RX4) (T := TX4) (N := 28) hx hb hts hinX4 hown hK hP 0 rfl rfl 15 (by decide) (hts _ (List.mem_of_getElem? (i := 3) rfl)) (fun _ h9 => h9) rfl dX4_minutesOf_35 ?_
        refine lv_iload_n hx hb dX4_minutesOf_38 rfl (lv_at hl 3 rfl) ?_
        obtain ⟨g_7, h⟩ := og_some h
        refine va_iald hx hb hK hP 14 0 rfl rfl g_7 dX4_minutesOf_39 ?_
        refine lv_iload_n hx hb dX4_minutesOf_40 rfl (lv_at hl 1 rfl) ?_
        refine lv_icmp_ne (tgt := 53) hx hb dX4_minutesOf_41 (by decide) (fun c_8 => ?_) (fun c_8 => ?_)
        · replace h := oi_f c_8 h
          refine lv_iconst (v := 0) hx hb dX4_minutesOf_53 (by decide) ?_
          refine lv_iadd hx hb dX4_minutesOf_54 ?_
          refine lv_istore_n (lv' := [(2, .int (zx2 + 0)), (0, .ref (b 0)), (1, .int zx1), (3, .int zx3)]) hx hb dX4_minutesOf_55 rfl hl (by decide) rfl (fun ls hl => ?_)
          refine lv_iinc (v := zx3 + 1) (lv' := [(3, .int (zx3 + 1)), (2, .int (zx2 + 0)), (0, .ref (b 0)), (1, .int zx1)]) hx hb dX4_minutesOf_56 hl (k := 3) rfl rfl (by decide) rfl (fun ls hl => ?_)
          refine lv_goto (tgt := 14) hx hb dX4_minutesOf_59 (by decide) ?_
          exact ih zx1 (zx2 + 0) (zx3 + 1) _ _ _  ls h hP hD hS (lv_sub hl [2, 3, 1, 0] rfl)
        · replace h := oi_t c_8 h
          refine lv_aload_n hx hb dX4_minutesOf_44 rfl (lv_at hl 0 rfl) ?_
          refine va_get (D := D) (ci := 4) (v := .ref (b 13)) (C := RX4) (T := TX4) (N := 28) hx hb hts hinX4 hown hK hP 0 rfl rfl 13 (by decide) (hts _ (List.mem_of_getElem? (i := 4) rfl)) (fun _ h9 => h9) rfl dX4_minutesOf_45 ?_
          refine lv_iload_n hx hb dX4_minutesOf_48 rfl (lv_at hl 3 rfl) ?_
          obtain ⟨g_9, h⟩ := og_some h
          refine va_iald hx hb hK hP 12 0 rfl rfl g_9 dX4_minutesOf_49 ?_
          refine lv_goto (tgt := 54) hx hb dX4_minutesOf_50 (by decide) ?_
          refine lv_iadd hx hb dX4_minutesOf_54 ?_
          refine lv_istore_n (lv' := [(2, .int (zx2 + (V.2.1 13 (zx3).toNatClampNeg))), (0, .ref (b 0)), (1, .int zx1), (3, .int zx3)]) hx hb dX4_minutesOf_55 rfl hl (by decide) rfl (fun ls hl => ?_)
          refine lv_iinc (v := zx3 + 1) (lv' := [(3, .int (zx3 + 1)), (2, .int (zx2 + (V.2.1 13 (zx3).toNatClampNeg))), (0, .ref (b 0)), (1, .int zx1)]) hx hb dX4_minutesOf_56 hl (k := 3) rfl rfl (by decide) rfl (fun ls hl => ?_)
          refine lv_goto (tgt := 14) hx hb dX4_minutesOf_59 (by decide) ?_
          exact ih zx1 (zx2 + (V.2.1 13 (zx3).toNatClampNeg)) (zx3 + 1) _ _ _  ls h hP hD hS (lv_sub hl [2, 3, 1, 0] rfl)
set_option maxHeartbeats 4000000 in
set_option maxRecDepth 100000 in
theorem c_X4_minutesOf (l : Launch) (D : va_G) (cy : Nat → ClassId) (b : Nat → Nat) (V : RV) (sz : Nat) (p1 : Int32) {res : Int32 × RV} (h : f_X4_minutesOf V p1 = some res) : Met l yX4_minutesOf wsX4_minutesOf ({ frames := 3, cells := 0, slots := 0, locals := 64 } : Room) (va_Pc [.ref (b 0), .int p1] (zJ sz (rI D cy b V))) (va_Qi (fun r (_ : Unit) => r = res.1) (fun _ t => va_P D xcl (rW cy b res.2) t.heap ∧ va_D (va_A (rW cy b V) sz) (rW cy b res.2)) (va_A (rW cy b V) sz)) 0 0 (va_A (rW cy b V) sz) := by
  refine Met.ofW (cc := cX4_minutesOf) (maxL := 4) (ret := (some .int)) (by decide) rfl ?_
  intro p e s m args below meth c s₁ B hml hv
  obtain ⟨rfl, hsz, hP, hK, hD0⟩ := hv
  have hx := B.exec
  have hb := B.bytes
  have hr := B.returns
  have hts := atoms_spec (ws := wsX4_minutesOf) B.pre
  have hown : s.vm.findClass RX4 = some m.cls := findClass_of_methodNamed B.named
  have hlocks := B.notSynchronized
  subst hsz
  have hD := hD0.self (sz := s.heap.size)
  generalize hAe : va_A (rW cy b V) s.heap.size = A at hD ⊢
  have hA : ∀ q : Nat, s.heap.size ≤ q → A q := fun q h => by rw [← hAe]; exact Or.inr h
  have hS : va_S A s.heap s.heap [] := va_S.rf
  have hl := lv_entry ([.ref (b 0), .int p1]) (n := 4) (Nat.le_of_ble_eq_true rfl)
  rw [lg_entry_eq]
  generalize (lg_sl ([.ref (b 0), .int p1]) ++ List.replicate (4 - (lg_sl ([.ref (b 0), .int p1])).length) Slot.unset).toArray = ls at hl ⊢
  have hl : lv_has ls 4 [(0, .ref (b 0)), (1, .int p1)] := hl
  revert hP hS
  intro hP hS
  refine lv_aload_n hx hb dX4_minutesOf_0 rfl (lv_at hl 0 rfl) ?_
  refine lv_iload_n hx hb dX4_minutesOf_1 rfl (lv_at hl 1 rfl) ?_
  obtain ⟨u_1, hg_2, h⟩ := ob_some h
  refine zcWi (va_runV (As := [.int p1]) (rest := []) ⟨hx, hb, hml, hown, hts⟩ (c_X4_isNobody l D cy b V _ p1 hg_2) (cwV 1 hts gX4_minutesOf_X4_isNobody rfl rfl rfl hd_X4_isNobody ⟨Nat.le_of_ble_eq_true rfl, Nat.le_of_ble_eq_true rfl⟩) ⟨(zJ_blind rI_blind), va_recv hK hP (ci := 4) (q0 := 0) rfl rfl, (zJ_at (rI_at hP hK hD))⟩ rfl rfl hl.1 rfl (lv_room (Nat.le_of_ble_eq_true rfl)) dX4_minutesOf_2 ⟨Nat.le_of_ble_eq_true rfl, Nat.le_of_ble_eq_true rfl⟩) hS (z_free hD hS hA) (fun H locs hP hD hS => ?_)
  refine lv_if_eq (tgt := 10) hx hb dX4_minutesOf_5 (by decide) (fun c_3 => ?_) (fun c_3 => ?_)
  · replace h := oi_t c_3 h
    refine lv_iconst (v := 0) hx hb dX4_minutesOf_10 (by decide) ?_
    refine lv_istore_n (lv' := [(2, .int 0), (0, .ref (b 0)), (1, .int p1)]) hx hb dX4_minutesOf_11 rfl hl (by decide) rfl (fun ls hl => ?_)
    refine lv_iconst (v := 0) hx hb dX4_minutesOf_12 (by decide) ?_
    refine lv_istore_n (lv' := [(3, .int 0), (2, .int 0), (0, .ref (b 0)), (1, .int p1)]) hx hb dX4_minutesOf_13 rfl hl (by decide) rfl (fun ls hl => ?_)
    exact k_X4_minutesOf_14 hx hb hr hts hml hown hlocks hK hA _ _ p1 0 0 _ _ _  ls h hP hD hS (lv_sub hl [2, 3, 1, 0] rfl)
  · replace h := oi_f c_3 h
    refine lv_iconst (v := 0) hx hb dX4_minutesOf_8 (by decide) ?_
    have h9 := Option.some.inj h
    subst h9
    exact W.iret (v := 0) hx hb hr (fun t ht hW => ⟨⟨0, (), rfl, rfl, ⟨by rw [ht]; exact hP, hD⟩⟩, hS.F ht⟩) hS.2.2 dX4_minutesOf_9 hlocks
def f_X4_lifted_9 : RV → Nat → Int64 → Int32 → Option (Int64 × RV)
  | _, 0, _, _ => none
  | V, fu + 1, zx1, zx3 => oi ((V.1 7) ≤ zx3) (some (zx1, V)) (og (¬ (zx3 < 0 ∨ 40 ≤ (zx3).toNatClampNeg)) (oi ((V.2.1 14 (zx3).toNatClampNeg) = 100) (og (¬ (zx3 < 0 ∨ 40 ≤ (zx3).toNatClampNeg)) (f_X4_lifted_9 V fu (zx1 + (Int32.toInt64 (V.2.1 12 (zx3).toNatClampNeg))) (zx3 + 1))) (f_X4_lifted_9 V fu (zx1 + 0) (zx3 + 1))))
def f_X4_lifted (V : RV)  : Option (Int64 × RV) := ob (some (rsc V 27 0)) (fun V_1 => f_X4_lifted_9 V_1 FU 0 0)
theorem hd_X4_lifted : yX4_lifted.cls = RX4 ∧ yX4_lifted.cls ≠ "java/lang/invoke/MethodHandle" ∧ yX4_lifted.cls ≠ "java/lang/invoke/VarHandle" ∧ (parseMethodDescriptor yX4_lifted.desc).map (fun d => d.parameters.length) = some 0 := by decide +kernel
set_option maxHeartbeats 4000000 in
set_option maxRecDepth 100000 in
theorem k_X4_lifted_9 {p : Program} {l : Launch} {e : Env} {s : State} {m : MethodId} {args : Array Value} {below : List Frame} {meth : Method} {c : Code} {D : va_G} {cy : Nat → ClassId} {b : Nat → Nat} {A : Nat → Prop} (hx : p.tables.exec = Jvm.exec) (hb : c.code = cX4_lifted) (hr : meth.sig.returnType = (some .long)) (hts : ∀ w ∈ wsX4_lifted, w.before args s = true) (hml : c.maxLocals = 4) (hown : s.vm.findClass RX4 = some m.cls) (hlocks : meth.locks = false) (hK : va_K D xcl (xty cy) s) (hA : ∀ q, s.heap.size ≤ q → A q) (res : Int64 × RV) : ∀ (fu : Nat) (zx1 : Int64) (zx3 : Int32) (V : RV) (H : Heap) (locs : List Loc)  (ls : Array Slot), f_X4_lifted_9 V fu zx1 zx3 = some res → va_P D xcl (rW cy b V) H → va_D A (rW cy b V) → va_S A s.heap H locs → lv_has ls 4 [(0, .ref (b 0)), (1, .long (zx1)), (3, .int zx3)] → W p l e ({ frames := 0, cells := 0, slots := 0, locals := 0 } : Room) s m args below meth c H locs 0 0 (MQ below (va_Ql (fun r (_ : Unit) => r = res.1) (fun _ t => va_P D xcl (rW cy b res.2) t.heap ∧ va_D A (rW cy b res.2)) A) args s 0 0 (A)) (F0 m 9 ls []) := by
  have hinX4 : ∀ w ∈ wsX40, w ∈ wsX4_lifted := (fun _ h => (List.mem_cons_of_mem _ (List.mem_append_right _ h)))
  intro fu
  induction fu with
  | zero =>
    intro zx1 zx3 V H locs  ls h hP hD hS hl
    cases h
  | succ fu ih =>
    intro zx1 zx3 V H locs  ls h hP hD hS hl
    refine lv_iload_n hx hb dX4_lifted_9 rfl (lv_at hl 2 rfl) ?_
    refine lv_aload_n hx hb dX4_lifted_10 rfl (lv_at hl 0 rfl) ?_
    refine va_get (D := D) (ci := 4) (v := .int (V.1 7)) (C := RX4) (T := TX4) (N := 28) hx hb hts hinX4 hown hK hP 0 rfl rfl 7 (by decide) (hts _ (List.mem_of_getElem? (i := 2) rfl)) (fun _ h9 => h9) rfl dX4_lifted_11 ?_
    refine lv_icmp_ge (tgt := 48) hx hb dX4_lifted_14 (by decide) (fun c_3 => ?_) (fun c_3 => ?_)
    · replace h := oi_t c_3 h
      refine lv_lload_n hx hb dX4_lifted_48 rfl (lv_at hl 1 rfl) ?_
      have h9 := Option.some.inj h
      subst h9
      exact W.lret (v := zx1) hx hb hr (fun t ht hW => ⟨⟨zx1, (), rfl, rfl, ⟨by rw [ht]; exact hP, hD⟩⟩, hS.F ht⟩) hS.2.2 dX4_lifted_49 hlocks
    · replace h := oi_f c_3 h
      refine lv_lload_n hx hb dX4_lifted_17 rfl (lv_at hl 1 rfl) ?_
      refine lv_aload_n hx hb dX4_lifted_18 rfl (lv_at hl 0 rfl) ?_
      refine va_get (D := D) (ci := 4) (v := .ref (b 14)) (C := RX4) (T := TX4) (N := 28) hx hb hts hinX4 hown hK hP 0 rfl rfl 14 (by decide) (hts _ (List.mem_of_getElem? (i := 3) rfl)) (fun _ h9 => h9) rfl dX4_lifted_19 ?_
      refine lv_iload_n hx hb dX4_lifted_22 rfl (lv_at hl 2 rfl) ?_
      obtain ⟨g_4, h⟩ := og_some h
      refine va_cald hx hb hK hP 13 3 rfl rfl g_4 dX4_lifted_23 ?_
      refine lv_bipush (v := 100) hx hb dX4_lifted_24 (by decide) ?_
      refine lv_icmp_ne (tgt := 39) hx hb dX4_lifted_26 (by decide) (fun c_5 => ?_) (fun c_5 => ?_)
      · replace h := oi_f c_5 h
        refine lv_lconst (v := 0) hx hb dX4_lifted_39 (by decide) ?_
        refine lv_ladd hx hb dX4_lifted_40 ?_
        refine lv_lstore_n (lv' := [(1, .long (zx1 + 0)), (0, .ref (b 0)), (3, .int zx3)]) hx hb dX4_lifted_41 rfl hl (by decide) rfl (fun ls hl => ?_)
        refine lv_iinc (v := zx3 + 1) (lv' := [(3, .int (zx3 + 1)), (1, .long (zx1 + 0)), (0, .ref (b 0))]) hx hb dX4_lifted_42 hl (k := 2) rfl rfl (by decide) rfl (fun ls hl => ?_)
        refine lv_goto (tgt := 9) hx hb dX4_lifted_45 (by decide) ?_
        exact ih (zx1 + 0) (zx3 + 1) _ _ _  ls h hP hD hS (lv_sub hl [2, 1, 0] rfl)
      · replace h := oi_t c_5 h
        refine lv_aload_n hx hb dX4_lifted_29 rfl (lv_at hl 0 rfl) ?_
        refine va_get (D := D) (ci := 4) (v := .ref (b 12)) (C := RX4) (T := TX4) (N := 28) hx hb hts hinX4 hown hK hP 0 rfl rfl 12 (by decide) (hts _ (List.mem_of_getElem? (i := 4) rfl)) (fun _ h9 => h9) rfl dX4_lifted_30 ?_
        refine lv_iload_n hx hb dX4_lifted_33 rfl (lv_at hl 2 rfl) ?_
        obtain ⟨g_6, h⟩ := og_some h
        refine va_iald hx hb hK hP 11 0 rfl rfl g_6 dX4_lifted_34 ?_
        refine lv_i2l (v := Int32.toInt64 (V.2.1 12 (zx3).toNatClampNeg)) hx hb dX4_lifted_35 rfl ?_
        refine lv_goto (tgt := 40) hx hb dX4_lifted_36 (by decide) ?_
        refine lv_ladd hx hb dX4_lifted_40 ?_
        refine lv_lstore_n (lv' := [(1, .long (zx1 + (Int32.toInt64 (V.2.1 12 (zx3).toNatClampNeg)))), (0, .ref (b 0)), (3, .int zx3)]) hx hb dX4_lifted_41 rfl hl (by decide) rfl (fun ls hl => ?_)
        refine lv_iinc (v := zx3 + 1) (lv' := [(3, .int (zx3 + 1)), (1, .long (zx1 + (Int32.toInt64 (V.2.1 12 (zx3).toNatClampNeg)))), (0, .ref (b 0))]) hx hb dX4_lifted_42 hl (k := 2) rfl rfl (by decide) rfl (fun ls hl => ?_)
        refine lv_goto (tgt := 9) hx hb dX4_lifted_45 (by decide) ?_
        exact ih (zx1 + (Int32.toInt64 (V.2.1 12 (zx3).toNatClampNeg))) (zx3 + 1) _ _ _  ls h hP hD hS (lv_sub hl [2, 1, 0] rfl)
set_option maxHeartbeats 4000000 in
set_option maxRecDepth 100000 in
theorem c_X4_lifted (l : Launch) (D : va_G) (cy : Nat → ClassId) (b : Nat → Nat) (V : RV) (sz : Nat)  {res : Int64 × RV} (h : f_X4_lifted V  = some res) : Met l yX4_lifted wsX4_lifted ({ frames := 0, cells := 0, slots := 0, locals := 0 } : Room) (va_Pc [.ref (b 0)] (zJ sz (rI D cy b V))) (va_Ql (fun r (_ : Unit) => r = res.1) (fun _ t => va_P D xcl (rW cy b res.2) t.heap ∧ va_D (va_A (rW cy b V) sz) (rW cy b res.2)) (va_A (rW cy b V) sz)) 0 0 (va_A (rW cy b V) sz) := by
  refine Met.ofW (cc := cX4_lifted) (maxL := 4) (ret := (some .long)) (by decide) rfl ?_
  intro p e s m args below meth c s₁ B hml hv
  obtain ⟨rfl, hsz, hP, hK, hD0⟩ := hv
  have hx := B.exec
  have hb := B.bytes
  have hr := B.returns
  have hts := atoms_spec (ws := wsX4_lifted) B.pre
  have hown : s.vm.findClass RX4 = some m.cls := findClass_of_methodNamed B.named
  have hlocks := B.notSynchronized
  subst hsz
  have hD := hD0.self (sz := s.heap.size)
  generalize hAe : va_A (rW cy b V) s.heap.size = A at hD ⊢
  have hA : ∀ q : Nat, s.heap.size ≤ q → A q := fun q h => by rw [← hAe]; exact Or.inr h
  have hS : va_S A s.heap s.heap [] := va_S.rf
  have hl := lv_entry ([.ref (b 0)]) (n := 4) (Nat.le_of_ble_eq_true rfl)
  rw [lg_entry_eq]
  generalize (lg_sl ([.ref (b 0)]) ++ List.replicate (4 - (lg_sl ([.ref (b 0)])).length) Slot.unset).toArray = ls at hl ⊢
  have hl : lv_has ls 4 [(0, .ref (b 0))] := hl
  have hinX4 : ∀ w ∈ wsX40, w ∈ wsX4_lifted := (fun _ h => (List.mem_cons_of_mem _ (List.mem_append_right _ h)))
  revert hP hS
  intro hP hS
  refine lv_aload_n hx hb dX4_lifted_0 rfl (lv_at hl 0 rfl) ?_
  refine lv_iconst (v := 0) hx hb dX4_lifted_1 (by decide) ?_
  refine va_put (D := D) (ci := 4) (v := .int 0) (ty := .int) (C := RX4) (T := TX4) (N := 28) hx hb hts hinX4 tyX4 tyX4_ok nmX4 hown hK hP hD hS 0 rfl rfl 27 (by decide) (hts _ (List.mem_of_getElem? (i := 1) rfl)) (fun _ h9 => h9) rfl (by decide +kernel) rfl rfl (Nat.le_of_ble_eq_true rfl) dX4_lifted_2 (fun H locs hP hD hS => ?_)
  replace hP : va_P D xcl (rW cy b (rsc V 27 0)) H := hP
  replace hD : va_D A (rW cy b (rsc V 27 0)) := hD
  obtain ⟨V_1, eV_2, h⟩ := ob_some h
  rw [Option.some.inj eV_2] at hP hD
  refine lv_lconst (v := 0) hx hb dX4_lifted_5 (by decide) ?_
  refine lv_lstore_n (lv' := [(1, .long (0)), (0, .ref (b 0))]) hx hb dX4_lifted_6 rfl hl (by decide) rfl (fun ls hl => ?_)
  refine lv_iconst (v := 0) hx hb dX4_lifted_7 (by decide) ?_
  refine lv_istore_n (lv' := [(3, .int 0), (1, .long (0)), (0, .ref (b 0))]) hx hb dX4_lifted_8 rfl hl (by decide) rfl (fun ls hl => ?_)
  exact k_X4_lifted_9 hx hb hr hts hml hown hlocks hK hA _ _ 0 0 _ _ _  ls h hP hD hS (lv_sub hl [2, 1, 0] rfl)
def f_X4_code (V : RV) (p1 : Int32) : Option (Int32 × RV) := ob (f_X4_isNobody V p1) (fun u_1 => oi (u_1.1 = 0) (og (¬ (p1 < 0 ∨ 5 ≤ (p1).toNatClampNeg)) (og (¬ (p1 < 0 ∨ 5 ≤ (p1).toNatClampNeg)) (og (¬ (p1 < 0 ∨ 5 ≤ (p1).toNatClampNeg)) (ob (some (((u_1.2.2.1 1 (p1).toNatClampNeg) ||| ((u_1.2.2.1 2 (p1).toNatClampNeg) <<< (6 &&& 31))) ||| ((u_1.2.2.1 3 (p1).toNatClampNeg) <<< (12 &&& 31)))) (fun x_7 => some (x_7 ||| ((u_1.2.1 26) <<< (18 &&& 31)), u_1.2)))))) (some (0, u_1.2)))
theorem hd_X4_code : yX4_code.cls = RX4 ∧ yX4_code.cls ≠ "java/lang/invoke/MethodHandle" ∧ yX4_code.cls ≠ "java/lang/invoke/VarHandle" ∧ (parseMethodDescriptor yX4_code.desc).map (fun d => d.parameters.length) = some 1 := by decide +kernel
set_option maxHeartbeats 4000000 in
set_option maxRecDepth 100000 in
theorem c_X4_code (l : Launch) (D : va_G) (cy : Nat → ClassId) (b : Nat → Nat) (V : RV) (sz : Nat) (p1 : Int32) {res : Int32 × RV} (h : f_X4_code V p1 = some res) : Met l yX4_code wsX4_code ({ frames := 3, cells := 0, slots := 0, locals := 64 } : Room) (va_Pc [.ref (b 0), .int p1] (zJ sz (rI D cy b V))) (va_Qi (fun r (_ : Unit) => r = res.1) (fun _ t => va_P D xcl (rW cy b res.2) t.heap ∧ va_D (va_A (rW cy b V) sz) (rW cy b res.2)) (va_A (rW cy b V) sz)) 0 0 (va_A (rW cy b V) sz) := by
  refine Met.ofW (cc := cX4_code) (maxL := 2) (ret := (some .int)) (by decide) rfl ?_
  intro p e s m args below meth c s₁ B hml hv
  obtain ⟨rfl, hsz, hP, hK, hD0⟩ := hv
  have hx := B.exec
  have hb := B.bytes
  have hr := B.returns
  have hts := atoms_spec (ws := wsX4_code) B.pre
  have hown : s.vm.findClass RX4 = some m.cls := findClass_of_methodNamed B.named
  have hlocks := B.notSynchronized
  subst hsz
  have hD := hD0.self (sz := s.heap.size)
  generalize hAe : va_A (rW cy b V) s.heap.size = A at hD ⊢
  have hA : ∀ q : Nat, s.heap.size ≤ q → A q := fun q h => by rw [← hAe]; exact Or.inr h
  have hS : va_S A s.heap s.heap [] := va_S.rf
  have hl := lv_entry ([.ref (b 0), .int p1]) (n := 2) (Nat.le_of_ble_eq_true rfl)
  rw [lg_entry_eq]
  generalize (lg_sl ([.ref (b 0), .int p1]) ++ List.replicate (2 - (lg_sl ([.ref (b 0), .int p1])).length) Slot.unset).toArray = ls at hl ⊢
  have hl : lv_has ls 2 [(0, .ref (b 0)), (1, .int p1)] := hl
  have hinX4 : ∀ w ∈ wsX40, w ∈ wsX4_code := (fun _ h => (List.mem_cons_of_mem _ (List.mem_append_right _ h)))
  revert hP hS
  intro hP hS
  refine lv_aload_n hx hb dX4_code_0 rfl (lv_at hl 0 rfl) ?_
  refine lv_iload_n hx hb dX4_code_1 rfl (lv_at hl 1 rfl) ?_
  obtain ⟨u_1, hg_2, h⟩ := ob_some h
  refine zcWi (va_runV (As := [.int p1]) (rest := []) ⟨hx, hb, hml, hown, hts⟩ (c_X4_isNobody l D cy b V _ p1 hg_2) (cwV 1 hts gX4_code_X4_isNobody rfl rfl rfl hd_X4_isNobody ⟨Nat.le_of_ble_eq_true rfl, Nat.le_of_ble_eq_true rfl⟩) ⟨(zJ_blind rI_blind), va_recv hK hP (ci := 4) (q0 := 0) rfl rfl, (zJ_at (rI_at hP hK hD))⟩ rfl rfl hl.1 rfl (lv_room (Nat.le_of_ble_eq_true rfl)) dX4_code_2 ⟨Nat.le_of_ble_eq_true rfl, Nat.le_of_ble_eq_true rfl⟩) hS (z_free hD hS hA) (fun H locs hP hD hS => ?_)
  refine lv_if_eq (tgt := 12) hx hb dX4_code_5 (by decide) (fun c_3 => ?_) (fun c_3 => ?_)
  · replace h := oi_t c_3 h
    refine lv_aload_n hx hb dX4_code_12 rfl (lv_at hl 0 rfl) ?_
    refine va_get (D := D) (ci := 4) (v := .ref (b 1)) (C := RX4) (T := TX4) (N := 28) hx hb hts hinX4 hown hK hP 0 rfl rfl 1 (by decide) (hts _ (List.mem_of_getElem? (i := 1) rfl)) (fun _ h9 => h9) rfl dX4_code_13 ?_
    refine lv_iload_n hx hb dX4_code_16 rfl (lv_at hl 1 rfl) ?_
    obtain ⟨g_4, h⟩ := og_some h
    refine va_iald hx hb hK hP 1 0 rfl rfl g_4 dX4_code_17 ?_
    refine lv_aload_n hx hb dX4_code_18 rfl (lv_at hl 0 rfl) ?_
    refine va_get (D := D) (ci := 4) (v := .ref (b 2)) (C := RX4) (T := TX4) (N := 28) hx hb hts hinX4 hown hK hP 0 rfl rfl 2 (by decide) (hts _ (List.mem_of_getElem? (i := 2) rfl)) (fun _ h9 => h9) rfl dX4_code_19 ?_
    refine lv_iload_n hx hb dX4_code_22 rfl (lv_at hl 1 rfl) ?_
    obtain ⟨g_5, h⟩ := og_some h
    refine va_iald hx hb hK hP 2 0 rfl rfl g_5 dX4_code_23 ?_
    refine lv_bipush (v := 6) hx hb dX4_code_24 (by decide) ?_
    refine lv_ishl hx hb dX4_code_26 ?_
    refine lv_ior hx hb dX4_code_27 ?_
    refine lv_aload_n hx hb dX4_code_28 rfl (lv_at hl 0 rfl) ?_
    refine va_get (D := D) (ci := 4) (v := .ref (b 3)) (C := RX4) (T := TX4) (N := 28) hx hb hts hinX4 hown hK hP 0 rfl rfl 3 (by decide) (hts _ (List.mem_of_getElem? (i := 3) rfl)) (fun _ h9 => h9) rfl dX4_code_29 ?_
    refine lv_iload_n hx hb dX4_code_32 rfl (lv_at hl 1 rfl) ?_
    obtain ⟨g_6, h⟩ := og_some h
    refine va_iald hx hb hK hP 3 0 rfl rfl g_6 dX4_code_33 ?_
    refine lv_bipush (v := 12) hx hb dX4_code_34 (by decide) ?_
    refine lv_ishl hx hb dX4_code_36 ?_
    refine lv_ior hx hb dX4_code_37 ?_
    obtain ⟨x_7, ex_8, h⟩ := ob_some h
    refine W.eq (g2 := F0 m 38 ls [.int x_7]) (by rw [← Option.some.inj ex_8]) ?_
    refine lv_aload_n hx hb dX4_code_38 rfl (lv_at hl 0 rfl) ?_
    refine va_get (D := D) (ci := 4) (v := .int (u_1.2.1 26)) (C := RX4) (T := TX4) (N := 28) hx hb hts hinX4 hown hK hP 0 rfl rfl 26 (by decide) (hts _ (List.mem_of_getElem? (i := 4) rfl)) (fun _ h9 => h9) rfl dX4_code_39 ?_
    refine lv_bipush (v := 18) hx hb dX4_code_42 (by decide) ?_
    refine lv_ishl hx hb dX4_code_44 ?_
    refine lv_ior hx hb dX4_code_45 ?_
    have h9 := Option.some.inj h
    subst h9
    exact W.iret (v := x_7 ||| ((u_1.2.1 26) <<< (18 &&& 31))) hx hb hr (fun t ht hW => ⟨⟨x_7 ||| ((u_1.2.1 26) <<< (18 &&& 31)), (), rfl, rfl, ⟨by rw [ht]; exact hP, hD⟩⟩, hS.F ht⟩) hS.2.2 dX4_code_46 hlocks
  · replace h := oi_f c_3 h
    refine lv_iconst (v := 0) hx hb dX4_code_8 (by decide) ?_
    refine lv_goto (tgt := 46) hx hb dX4_code_9 (by decide) ?_
    have h9 := Option.some.inj h
    subst h9
    exact W.iret (v := 0) hx hb hr (fun t ht hW => ⟨⟨0, (), rfl, rfl, ⟨by rw [ht]; exact hP, hD⟩⟩, hS.F ht⟩) hS.2.2 dX4_code_46 hlocks
def f_X4_workShare (V : RV) (p1 : Int32) : Option (UInt32 × RV) := ob (f_X4_isNobody V p1) (fun u_1 => oi (u_1.1 = 0) (ob (f_X4_permitted u_1.2 p1) (fun u_4 => oi (u_4 = 0) (ob (f_X4_fails u_1.2 2) (fun u_15 => oi (u_15.1 = 0) (ob (f_X4_permittedMinutes u_15.2 p1 1) (fun u_18 => ob (f_X4_permitted u_15.2 p1) (fun u_20 => og ((FP.fdiv (FP.i2f u_18) (FP.i2f (60 * u_20))) &&& 0x7fffffff ≤ 0x7f800000) (some (FP.fdiv (FP.i2f u_18) (FP.i2f (60 * u_20)), u_15.2))))) (some (0, u_15.2)))) (ob (f_X4_fails u_1.2 0) (fun u_7 => oi (u_7.1 = 0) (ob (f_X4_permittedMinutes u_7.2 p1 1) (fun u_10 => ob (f_X4_permitted u_7.2 p1) (fun u_12 => og ((FP.fdiv (FP.i2f u_10) (FP.i2f (60 * u_12))) &&& 0x7fffffff ≤ 0x7f800000) (some (FP.fdiv (FP.i2f u_10) (FP.i2f (60 * u_12)), u_7.2))))) (some (0, u_7.2)))))) (some (0, u_1.2)))
theorem hd_X4_workShare : yX4_workShare.cls = RX4 ∧ yX4_workShare.cls ≠ "java/lang/invoke/MethodHandle" ∧ yX4_workShare.cls ≠ "java/lang/invoke/VarHandle" ∧ (parseMethodDescriptor yX4_workShare.desc).map (fun d => d.parameters.length) = some 1 := by decide +kernel
set_option maxHeartbeats 4000000 in
set_option maxRecDepth 100000 in
theorem c_X4_workShare (l : Launch) (D : va_G) (cy : Nat → ClassId) (b : Nat → Nat) (V : RV) (sz : Nat) (p1 : Int32) {res : UInt32 × RV} (h : f_X4_workShare V p1 = some res) : Met l yX4_workShare wsX4_workShare ({ frames := 3, cells := 0, slots := 0, locals := 70 } : Room) (va_Pc [.ref (b 0), .int p1] (zJ sz (rI D cy b V))) (va_Qf (fun r (_ : Unit) => r = res.1) (fun _ t => va_P D xcl (rW cy b res.2) t.heap ∧ va_D (va_A (rW cy b V) sz) (rW cy b res.2)) (va_A (rW cy b V) sz)) 0 0 (va_A (rW cy b V) sz) := by
  refine Met.ofW (cc := cX4_workShare) (maxL := 2) (ret := (some .float)) (by decide) rfl ?_
  intro p e s m args below meth c s₁ B hml hv
  obtain ⟨rfl, hsz, hP, hK, hD0⟩ := hv
  have hx := B.exec
  have hb := B.bytes
  have hr := B.returns
  have hts := atoms_spec (ws := wsX4_workShare) B.pre
  have hown : s.vm.findClass RX4 = some m.cls := findClass_of_methodNamed B.named
  have hlocks := B.notSynchronized
  subst hsz
  have hD := hD0.self (sz := s.heap.size)
  generalize hAe : va_A (rW cy b V) s.heap.size = A at hD ⊢
  have hA : ∀ q : Nat, s.heap.size ≤ q → A q := fun q h => by rw [← hAe]; exact Or.inr h
  have hS : va_S A s.heap s.heap [] := va_S.rf
  have hl := lv_entry ([.ref (b 0), .int p1]) (n := 2) (Nat.le_of_ble_eq_true rfl)
  rw [lg_entry_eq]
  generalize (lg_sl ([.ref (b 0), .int p1]) ++ List.replicate (2 - (lg_sl ([.ref (b 0), .int p1])).length) Slot.unset).toArray = ls at hl ⊢
  have hl : lv_has ls 2 [(0, .ref (b 0)), (1, .int p1)] := hl
  revert hP hS
  intro hP hS
  refine lv_aload_n hx hb dX4_workShare_0 rfl (lv_at hl 0 rfl) ?_
  refine lv_iload_n hx hb dX4_workShare_1 rfl (lv_at hl 1 rfl) ?_
  obtain ⟨u_1, hg_2, h⟩ := ob_some h
  refine zcWi (va_runV (As := [.int p1]) (rest := []) ⟨hx, hb, hml, hown, hts⟩ (c_X4_isNobody l D cy b V _ p1 hg_2) (cwV 1 hts gX4_workShare_X4_isNobody rfl rfl rfl hd_X4_isNobody ⟨Nat.le_of_ble_eq_true rfl, Nat.le_of_ble_eq_true rfl⟩) ⟨(zJ_blind rI_blind), va_recv hK hP (ci := 4) (q0 := 0) rfl rfl, (zJ_at (rI_at hP hK hD))⟩ rfl rfl hl.1 rfl (lv_room (Nat.le_of_ble_eq_true rfl)) dX4_workShare_2 ⟨Nat.le_of_ble_eq_true rfl, Nat.le_of_ble_eq_true rfl⟩) hS (z_free hD hS hA) (fun H locs hP hD hS => ?_)
  refine lv_if_ne (tgt := 28) hx hb dX4_workShare_5 (by decide) (fun c_3 => ?_) (fun c_3 => ?_)
  · replace h := oi_f c_3 h
    refine lv_fconst0 hx hb dX4_workShare_28 ?_
    have h9 := Option.some.inj h
    subst h9
    exact W.fret (v := 0) hx hb hr (fun t ht hW => ⟨⟨0, (), rfl, rfl, ⟨by rw [ht]; exact hP, hD⟩⟩, hS.F ht⟩) hS.2.2 dX4_workShare_29 hlocks
  · replace h := oi_t c_3 h
    refine lv_aload_n hx hb dX4_workShare_8 rfl (lv_at hl 0 rfl) ?_
    refine lv_aload_n hx hb dX4_workShare_9 rfl (lv_at hl 0 rfl) ?_
    refine lv_iload_n hx hb dX4_workShare_10 rfl (lv_at hl 1 rfl) ?_
    obtain ⟨u_4, hg_5, h⟩ := ob_some h
    refine zcSi (W.runV (As := [.int p1]) (rest := [.ref (b 0)]) ⟨hx, hb, hml, hown, hts⟩ (c_X4_permitted l D cy b u_1.2 p1 hg_5) (cwV 1 hts gX4_workShare_X4_permitted rfl rfl rfl hd_X4_permitted ⟨Nat.le_of_ble_eq_true rfl, Nat.le_of_ble_eq_true rfl⟩) ⟨rI_blind, va_recv hK hP (ci := 4) (q0 := 0) rfl rfl, (rI_at hP hK hD)⟩ rfl rfl hl.1 rfl (lv_room (Nat.le_of_ble_eq_true rfl)) dX4_workShare_11 ⟨Nat.le_of_ble_eq_true rfl, Nat.le_of_ble_eq_true rfl⟩) ?_
    refine lv_if_ne (tgt := 21) hx hb dX4_workShare_14 (by decide) (fun c_6 => ?_) (fun c_6 => ?_)
    · replace h := oi_f c_6 h
      refine lv_iconst (v := 0) hx hb dX4_workShare_21 (by decide) ?_
      obtain ⟨u_7, hg_8, h⟩ := ob_some h
      refine zcWi (va_runV (As := [.int 0]) (rest := []) ⟨hx, hb, hml, hown, hts⟩ (c_X4_fails l D cy b u_1.2 _ 0 hg_8) (cwV 1 hts gX4_workShare_X4_fails rfl rfl rfl hd_X4_fails ⟨Nat.le_of_ble_eq_true rfl, Nat.le_of_ble_eq_true rfl⟩) ⟨(zJ_blind rI_blind), va_recv hK hP (ci := 4) (q0 := 0) rfl rfl, (zJ_at (rI_at hP hK hD))⟩ rfl rfl hl.1 rfl (lv_room (Nat.le_of_ble_eq_true rfl)) dX4_workShare_22 ⟨Nat.le_of_ble_eq_true rfl, Nat.le_of_ble_eq_true rfl⟩) hS (z_free hD hS hA) (fun H locs hP hD hS => ?_)
      refine lv_if_eq (tgt := 30) hx hb dX4_workShare_25 (by decide) (fun c_9 => ?_) (fun c_9 => ?_)
      · replace h := oi_t c_9 h
        refine lv_aload_n hx hb dX4_workShare_30 rfl (lv_at hl 0 rfl) ?_
        refine lv_iload_n hx hb dX4_workShare_31 rfl (lv_at hl 1 rfl) ?_
        refine lv_iconst (v := 1) hx hb dX4_workShare_32 (by decide) ?_
        obtain ⟨u_10, hg_11, h⟩ := ob_some h
        refine zcSi (W.runV (As := [.int p1, .int 1]) (rest := []) ⟨hx, hb, hml, hown, hts⟩ (c_X4_permittedMinutes l D cy b u_7.2 p1 1 hg_11) (cwV 2 hts gX4_workShare_X4_permittedMinutes rfl rfl rfl hd_X4_permittedMinutes ⟨Nat.le_of_ble_eq_true rfl, Nat.le_of_ble_eq_true rfl⟩) ⟨rI_blind, va_recv hK hP (ci := 4) (q0 := 0) rfl rfl, (rI_at hP hK hD)⟩ rfl rfl hl.1 rfl (lv_room (Nat.le_of_ble_eq_true rfl)) dX4_workShare_33 ⟨Nat.le_of_ble_eq_true rfl, Nat.le_of_ble_eq_true rfl⟩) ?_
        refine lv_i2f hx hb dX4_workShare_36 ?_
        refine lv_bipush (v := 60) hx hb dX4_workShare_37 (by decide) ?_
        refine lv_aload_n hx hb dX4_workShare_39 rfl (lv_at hl 0 rfl) ?_
        refine lv_iload_n hx hb dX4_workShare_40 rfl (lv_at hl 1 rfl) ?_
        obtain ⟨u_12, hg_13, h⟩ := ob_some h
        refine zcSi (W.runV (As := [.int p1]) (rest := [.int 60, .float (FP.i2f u_10)]) ⟨hx, hb, hml, hown, hts⟩ (c_X4_permitted l D cy b u_7.2 p1 hg_13) (cwV 1 hts gX4_workShare_X4_permitted rfl rfl rfl hd_X4_permitted ⟨Nat.le_of_ble_eq_true rfl, Nat.le_of_ble_eq_true rfl⟩) ⟨rI_blind, va_recv hK hP (ci := 4) (q0 := 0) rfl rfl, (rI_at hP hK hD)⟩ rfl rfl hl.1 rfl (lv_room (Nat.le_of_ble_eq_true rfl)) dX4_workShare_41 ⟨Nat.le_of_ble_eq_true rfl, Nat.le_of_ble_eq_true rfl⟩) ?_
        refine lv_imul hx hb dX4_workShare_44 ?_
        refine lv_i2f hx hb dX4_workShare_45 ?_
        obtain ⟨g_14, h⟩ := og_some h
        refine lv_fdiv hx hb dX4_workShare_46 g_14 ?_
        have h9 := Option.some.inj h
        subst h9
        exact W.fret (v := FP.fdiv (FP.i2f u_10) (FP.i2f (60 * u_12))) hx hb hr (fun t ht hW => ⟨⟨FP.fdiv (FP.i2f u_10) (FP.i2f (60 * u_12)), (), rfl, rfl, ⟨by rw [ht]; exact hP, hD⟩⟩, hS.F ht⟩) hS.2.2 dX4_workShare_47 hlocks
      · replace h := oi_f c_9 h
        refine lv_fconst0 hx hb dX4_workShare_28 ?_
        have h9 := Option.some.inj h
        subst h9
        exact W.fret (v := 0) hx hb hr (fun t ht hW => ⟨⟨0, (), rfl, rfl, ⟨by rw [ht]; exact hP, hD⟩⟩, hS.F ht⟩) hS.2.2 dX4_workShare_29 hlocks
    · replace h := oi_t c_6 h
      refine lv_iconst (v := 2) hx hb dX4_workShare_17 (by decide) ?_
      refine lv_goto (tgt := 22) hx hb dX4_workShare_18 (by decide) ?_
      obtain ⟨u_15, hg_16, h⟩ := ob_some h
      refine zcWi (va_runV (As := [.int 2]) (rest := []) ⟨hx, hb, hml, hown, hts⟩ (c_X4_fails l D cy b u_1.2 _ 2 hg_16) (cwV 1 hts gX4_workShare_X4_fails rfl rfl rfl hd_X4_fails ⟨Nat.le_of_ble_eq_true rfl, Nat.le_of_ble_eq_true rfl⟩) ⟨(zJ_blind rI_blind), va_recv hK hP (ci := 4) (q0 := 0) rfl rfl, (zJ_at (rI_at hP hK hD))⟩ rfl rfl hl.1 rfl (lv_room (Nat.le_of_ble_eq_true rfl)) dX4_workShare_22 ⟨Nat.le_of_ble_eq_true rfl, Nat.le_of_ble_eq_true rfl⟩) hS (z_free hD hS hA) (fun H locs hP hD hS => ?_)
      refine lv_if_eq (tgt := 30) hx hb dX4_workShare_25 (by decide) (fun c_17 => ?_) (fun c_17 => ?_)
      · replace h := oi_t c_17 h
        refine lv_aload_n hx hb dX4_workShare_30 rfl (lv_at hl 0 rfl) ?_
        refine lv_iload_n hx hb dX4_workShare_31 rfl (lv_at hl 1 rfl) ?_
        refine lv_iconst (v := 1) hx hb dX4_workShare_32 (by decide) ?_
        obtain ⟨u_18, hg_19, h⟩ := ob_some h
        refine zcSi (W.runV (As := [.int p1, .int 1]) (rest := []) ⟨hx, hb, hml, hown, hts⟩ (c_X4_permittedMinutes l D cy b u_15.2 p1 1 hg_19) (cwV 2 hts gX4_workShare_X4_permittedMinutes rfl rfl rfl hd_X4_permittedMinutes ⟨Nat.le_of_ble_eq_true rfl, Nat.le_of_ble_eq_true rfl⟩) ⟨rI_blind, va_recv hK hP (ci := 4) (q0 := 0) rfl rfl, (rI_at hP hK hD)⟩ rfl rfl hl.1 rfl (lv_room (Nat.le_of_ble_eq_true rfl)) dX4_workShare_33 ⟨Nat.le_of_ble_eq_true rfl, Nat.le_of_ble_eq_true rfl⟩) ?_
        refine lv_i2f hx hb dX4_workShare_36 ?_
        refine lv_bipush (v := 60) hx hb dX4_workShare_37 (by decide) ?_
        refine lv_aload_n hx hb dX4_workShare_39 rfl (lv_at hl 0 rfl) ?_
        refine lv_iload_n hx hb dX4_workShare_40 rfl (lv_at hl 1 rfl) ?_
        obtain ⟨u_20, hg_21, h⟩ := ob_some h
        refine zcSi (W.runV (As := [.int p1]) (rest := [.int 60, .float (FP.i2f u_18)]) ⟨hx, hb, hml, hown, hts⟩ (c_X4_permitted l D cy b u_15.2 p1 hg_21) (cwV 1 hts gX4_workShare_X4_permitted rfl rfl rfl hd_X4_permitted ⟨Nat.le_of_ble_eq_true rfl, Nat.le_of_ble_eq_true rfl⟩) ⟨rI_blind, va_recv hK hP (ci := 4) (q0 := 0) rfl rfl, (rI_at hP hK hD)⟩ rfl rfl hl.1 rfl (lv_room (Nat.le_of_ble_eq_true rfl)) dX4_workShare_41 ⟨Nat.le_of_ble_eq_true rfl, Nat.le_of_ble_eq_true rfl⟩) ?_
        refine lv_imul hx hb dX4_workShare_44 ?_
        refine lv_i2f hx hb dX4_workShare_45 ?_
        obtain ⟨g_22, h⟩ := og_some h
        refine lv_fdiv hx hb dX4_workShare_46 g_22 ?_
        have h9 := Option.some.inj h
        subst h9
        exact W.fret (v := FP.fdiv (FP.i2f u_18) (FP.i2f (60 * u_20))) hx hb hr (fun t ht hW => ⟨⟨FP.fdiv (FP.i2f u_18) (FP.i2f (60 * u_20)), (), rfl, rfl, ⟨by rw [ht]; exact hP, hD⟩⟩, hS.F ht⟩) hS.2.2 dX4_workShare_47 hlocks
      · replace h := oi_f c_17 h
        refine lv_fconst0 hx hb dX4_workShare_28 ?_
        have h9 := Option.some.inj h
        subst h9
        exact W.fret (v := 0) hx hb hr (fun t ht hW => ⟨⟨0, (), rfl, rfl, ⟨by rw [ht]; exact hP, hD⟩⟩, hS.F ht⟩) hS.2.2 dX4_workShare_29 hlocks
def f_X4_meanStart_6 : RV → Nat → Int32 → Int32 → Int32 → Option (UInt64 × RV)
  | _, 0, _, _, _ => none
  | V, fu + 1, zx1, zx2, zx3 => oi ((V.1 7) ≤ zx3) (oi (zx2 = 0) (ob (f_X4_fails V 1) (fun u_7 => oi (u_7.1 = 0) (og ((FP.ddiv (FP.i2d zx1) (FP.i2d zx2)) &&& 0x7fffffffffffffff ≤ 0x7ff0000000000000) (some (FP.ddiv (FP.i2d zx1) (FP.i2d zx2), u_7.2))) (some (0, u_7.2)))) (ob (f_X4_fails V 0) (fun u_3 => oi (u_3.1 = 0) (og ((FP.ddiv (FP.i2d zx1) (FP.i2d zx2)) &&& 0x7fffffffffffffff ≤ 0x7ff0000000000000) (some (FP.ddiv (FP.i2d zx1) (FP.i2d zx2), u_3.2))) (some (0, u_3.2))))) (og (¬ (zx3 < 0 ∨ 40 ≤ (zx3).toNatClampNeg)) (oi ((V.2.1 14 (zx3).toNatClampNeg) = 119) (f_X4_meanStart_6 V fu zx1 zx2 (zx3 + 1)) (og (¬ (zx3 < 0 ∨ 40 ≤ (zx3).toNatClampNeg)) (f_X4_meanStart_6 V fu (zx1 + (V.2.1 16 (zx3).toNatClampNeg)) (zx2 + 1) (zx3 + 1)))))
def f_X4_meanStart (V : RV)  : Option (UInt64 × RV) := f_X4_meanStart_6 V FU 0 0 0
theorem hd_X4_meanStart : yX4_meanStart.cls = RX4 ∧ yX4_meanStart.cls ≠ "java/lang/invoke/MethodHandle" ∧ yX4_meanStart.cls ≠ "java/lang/invoke/VarHandle" ∧ (parseMethodDescriptor yX4_meanStart.desc).map (fun d => d.parameters.length) = some 0 := by decide +kernel
set_option maxHeartbeats 4000000 in
set_option maxRecDepth 100000 in
theorem k_X4_meanStart_6 {p : Program} {l : Launch} {e : Env} {s : State} {m : MethodId} {args : Array Value} {below : List Frame} {meth : Method} {c : Code} {D : va_G} {cy : Nat → ClassId} {b : Nat → Nat} {A : Nat → Prop} (hx : p.tables.exec = Jvm.exec) (hb : c.code = cX4_meanStart) (hr : meth.sig.returnType = (some .double)) (hts : ∀ w ∈ wsX4_meanStart, w.before args s = true) (hml : c.maxLocals = 4) (hown : s.vm.findClass RX4 = some m.cls) (hlocks : meth.locks = false) (hK : va_K D xcl (xty cy) s) (hA : ∀ q, s.heap.size ≤ q → A q) (res : UInt64 × RV) : ∀ (fu : Nat) (zx1 : Int32) (zx2 : Int32) (zx3 : Int32) (V : RV) (H : Heap) (locs : List Loc)  (ls : Array Slot), f_X4_meanStart_6 V fu zx1 zx2 zx3 = some res → va_P D xcl (rW cy b V) H → va_D A (rW cy b V) → va_S A s.heap H locs → lv_has ls 4 [(0, .ref (b 0)), (1, .int zx1), (2, .int zx2), (3, .int zx3)] → W p l e ({ frames := 1, cells := 0, slots := 0, locals := 21 } : Room) s m args below meth c H locs 0 0 (MQ below (va_Qd (fun r (_ : Unit) => r = res.1) (fun _ t => va_P D xcl (rW cy b res.2) t.heap ∧ va_D A (rW cy b res.2)) A) args s 0 0 (A)) (F0 m 6 ls []) := by
  have hinX4 : ∀ w ∈ wsX40, w ∈ wsX4_meanStart := (fun _ h => (List.mem_cons_of_mem _ (List.mem_append_right _ h)))
  intro fu
  induction fu with
  | zero =>
    intro zx1 zx2 zx3 V H locs  ls h hP hD hS hl
    cases h
  | succ fu ih =>
    intro zx1 zx2 zx3 V H locs  ls h hP hD hS hl
    refine lv_iload_n hx hb dX4_meanStart_6 rfl (lv_at hl 3 rfl) ?_
    refine lv_aload_n hx hb dX4_meanStart_7 rfl (lv_at hl 0 rfl) ?_
    refine va_get (D := D) (ci := 4) (v := .int (V.1 7)) (C := RX4) (T := TX4) (N := 28) hx hb hts hinX4 hown hK hP 0 rfl rfl 7 (by decide) (hts _ (List.mem_of_getElem? (i := 1) rfl)) (fun _ h9 => h9) rfl dX4_meanStart_8 ?_
    refine lv_icmp_ge (tgt := 46) hx hb dX4_meanStart_11 (by decide) (fun c_1 => ?_) (fun c_1 => ?_)
    · replace h := oi_t c_1 h
      refine lv_aload_n hx hb dX4_meanStart_46 rfl (lv_at hl 0 rfl) ?_
      refine lv_iload_n hx hb dX4_meanStart_47 rfl (lv_at hl 2 rfl) ?_
      refine lv_if_ne (tgt := 55) hx hb dX4_meanStart_48 (by decide) (fun c_2 => ?_) (fun c_2 => ?_)
      · replace h := oi_f c_2 h
        refine lv_iconst (v := 0) hx hb dX4_meanStart_55 (by decide) ?_
        obtain ⟨u_3, hg_4, h⟩ := ob_some h
        refine zcWi (va_runV (As := [.int 0]) (rest := []) ⟨hx, hb, hml, hown, hts⟩ (c_X4_fails l D cy b V _ 0 hg_4) (cwV 1 hts gX4_meanStart_X4_fails rfl rfl rfl hd_X4_fails ⟨Nat.le_of_ble_eq_true rfl, Nat.le_of_ble_eq_true rfl⟩) ⟨(zJ_blind rI_blind), va_recv hK hP (ci := 4) (q0 := 0) rfl rfl, (zJ_at (rI_at hP hK hD))⟩ rfl rfl hl.1 rfl (lv_room (Nat.le_of_ble_eq_true rfl)) dX4_meanStart_56 ⟨Nat.le_of_ble_eq_true rfl, Nat.le_of_ble_eq_true rfl⟩) hS (z_free hD hS hA) (fun H locs hP hD hS => ?_)
        refine lv_if_eq (tgt := 66) hx hb dX4_meanStart_59 (by decide) (fun c_5 => ?_) (fun c_5 => ?_)
        · replace h := oi_t c_5 h
          refine lv_iload_n hx hb dX4_meanStart_66 rfl (lv_at hl 1 rfl) ?_
          refine lv_i2d hx hb dX4_meanStart_67 ?_
          refine lv_iload_n hx hb dX4_meanStart_68 rfl (lv_at hl 2 rfl) ?_
          refine lv_i2d hx hb dX4_meanStart_69 ?_
          obtain ⟨g_6, h⟩ := og_some h
          refine lv_ddiv hx hb dX4_meanStart_70 g_6 ?_
          have h9 := Option.some.inj h
          subst h9
          exact W.dret (v := FP.ddiv (FP.i2d zx1) (FP.i2d zx2)) hx hb hr (fun t ht hW => ⟨⟨FP.ddiv (FP.i2d zx1) (FP.i2d zx2), (), rfl, rfl, ⟨by rw [ht]; exact hP, hD⟩⟩, hS.F ht⟩) hS.2.2 dX4_meanStart_71 hlocks
        · replace h := oi_f c_5 h
          refine lv_dconst0 hx hb dX4_meanStart_62 ?_
          refine lv_goto (tgt := 71) hx hb dX4_meanStart_63 (by decide) ?_
          have h9 := Option.some.inj h
          subst h9
          exact W.dret (v := 0) hx hb hr (fun t ht hW => ⟨⟨0, (), rfl, rfl, ⟨by rw [ht]; exact hP, hD⟩⟩, hS.F ht⟩) hS.2.2 dX4_meanStart_71 hlocks
      · replace h := oi_t c_2 h
        refine lv_iconst (v := 1) hx hb dX4_meanStart_51 (by decide) ?_
        refine lv_goto (tgt := 56) hx hb dX4_meanStart_52 (by decide) ?_
        obtain ⟨u_7, hg_8, h⟩ := ob_some h
        refine zcWi (va_runV (As := [.int 1]) (rest := []) ⟨hx, hb, hml, hown, hts⟩ (c_X4_fails l D cy b V _ 1 hg_8) (cwV 1 hts gX4_meanStart_X4_fails rfl rfl rfl hd_X4_fails ⟨Nat.le_of_ble_eq_true rfl, Nat.le_of_ble_eq_true rfl⟩) ⟨(zJ_blind rI_blind), va_recv hK hP (ci := 4) (q0 := 0) rfl rfl, (zJ_at (rI_at hP hK hD))⟩ rfl rfl hl.1 rfl (lv_room (Nat.le_of_ble_eq_true rfl)) dX4_meanStart_56 ⟨Nat.le_of_ble_eq_true rfl, Nat.le_of_ble_eq_true rfl⟩) hS (z_free hD hS hA) (fun H locs hP hD hS => ?_)
        refine lv_if_eq (tgt := 66) hx hb dX4_meanStart_59 (by decide) (fun c_9 => ?_) (fun c_9 => ?_)
        · replace h := oi_t c_9 h
          refine lv_iload_n hx hb dX4_meanStart_66 rfl (lv_at hl 1 rfl) ?_
          refine lv_i2d hx hb dX4_meanStart_67 ?_
          refine lv_iload_n hx hb dX4_meanStart_68 rfl (lv_at hl 2 rfl) ?_
          refine lv_i2d hx hb dX4_meanStart_69 ?_
          obtain ⟨g_10, h⟩ := og_some h
          refine lv_ddiv hx hb dX4_meanStart_70 g_10 ?_
          have h9 := Option.some.inj h
          subst h9
          exact W.dret (v := FP.ddiv (FP.i2d zx1) (FP.i2d zx2)) hx hb hr (fun t ht hW => ⟨⟨FP.ddiv (FP.i2d zx1) (FP.i2d zx2), (), rfl, rfl, ⟨by rw [ht]; exact hP, hD⟩⟩, hS.F ht⟩) hS.2.2 dX4_meanStart_71 hlocks
        · replace h := oi_f c_9 h
          refine lv_dconst0 hx hb dX4_meanStart_62 ?_
          refine lv_goto (tgt := 71) hx hb dX4_meanStart_63 (by decide) ?_
          have h9 := Option.some.inj h
          subst h9
          exact W.dret (v := 0) hx hb hr (fun t ht hW => ⟨⟨0, (), rfl, rfl, ⟨by rw [ht]; exact hP, hD⟩⟩, hS.F ht⟩) hS.2.2 dX4_meanStart_71 hlocks
    · replace h := oi_f c_1 h
      refine lv_aload_n hx hb dX4_meanStart_14 rfl (lv_at hl 0 rfl) ?_
      refine va_get (D := D) (ci := 4) (v := .ref (b 14)) (C := RX4) (T := TX4) (N := 28) hx hb hts hinX4 hown hK hP 0 rfl rfl 14 (by decide) (hts _ (List.mem_of_getElem? (i := 2) rfl)) (fun _ h9 => h9) rfl dX4_meanStart_15 ?_
      refine lv_iload_n hx hb dX4_meanStart_18 rfl (lv_at hl 3 rfl) ?_
      obtain ⟨g_11, h⟩ := og_some h
      refine va_cald hx hb hK hP 13 3 rfl rfl g_11 dX4_meanStart_19 ?_
      refine lv_bipush (v := 119) hx hb dX4_meanStart_20 (by decide) ?_
      refine lv_icmp_ne (tgt := 28) hx hb dX4_meanStart_22 (by decide) (fun c_12 => ?_) (fun c_12 => ?_)
      · replace h := oi_f c_12 h
        refine lv_iload_n hx hb dX4_meanStart_28 rfl (lv_at hl 1 rfl) ?_
        refine lv_aload_n hx hb dX4_meanStart_29 rfl (lv_at hl 0 rfl) ?_
        refine va_get (D := D) (ci := 4) (v := .ref (b 16)) (C := RX4) (T := TX4) (N := 28) hx hb hts hinX4 hown hK hP 0 rfl rfl 16 (by decide) (hts _ (List.mem_of_getElem? (i := 3) rfl)) (fun _ h9 => h9) rfl dX4_meanStart_30 ?_
        refine lv_iload_n hx hb dX4_meanStart_33 rfl (lv_at hl 3 rfl) ?_
        obtain ⟨g_13, h⟩ := og_some h
        refine va_iald hx hb hK hP 15 0 rfl rfl g_13 dX4_meanStart_34 ?_
        refine lv_iadd hx hb dX4_meanStart_35 ?_
        refine lv_istore_n (lv' := [(1, .int (zx1 + (V.2.1 16 (zx3).toNatClampNeg))), (0, .ref (b 0)), (2, .int zx2), (3, .int zx3)]) hx hb dX4_meanStart_36 rfl hl (by decide) rfl (fun ls hl => ?_)
        refine lv_iinc (v := zx2 + 1) (lv' := [(2, .int (zx2 + 1)), (1, .int (zx1 + (V.2.1 16 (zx3).toNatClampNeg))), (0, .ref (b 0)), (3, .int zx3)]) hx hb dX4_meanStart_37 hl (k := 2) rfl rfl (by decide) rfl (fun ls hl => ?_)
        refine lv_iinc (v := zx3 + 1) (lv' := [(3, .int (zx3 + 1)), (2, .int (zx2 + 1)), (1, .int (zx1 + (V.2.1 16 (zx3).toNatClampNeg))), (0, .ref (b 0))]) hx hb dX4_meanStart_40 hl (k := 3) rfl rfl (by decide) rfl (fun ls hl => ?_)
        refine lv_goto (tgt := 6) hx hb dX4_meanStart_43 (by decide) ?_
        exact ih (zx1 + (V.2.1 16 (zx3).toNatClampNeg)) (zx2 + 1) (zx3 + 1) _ _ _  ls h hP hD hS (lv_sub hl [3, 2, 1, 0] rfl)
      · replace h := oi_t c_12 h
        refine lv_goto (tgt := 40) hx hb dX4_meanStart_25 (by decide) ?_
        refine lv_iinc (v := zx3 + 1) (lv' := [(3, .int (zx3 + 1)), (0, .ref (b 0)), (1, .int zx1), (2, .int zx2)]) hx hb dX4_meanStart_40 hl (k := 3) rfl rfl (by decide) rfl (fun ls hl => ?_)
        refine lv_goto (tgt := 6) hx hb dX4_meanStart_43 (by decide) ?_
        exact ih zx1 zx2 (zx3 + 1) _ _ _  ls h hP hD hS (lv_sub hl [1, 2, 3, 0] rfl)
set_option maxHeartbeats 4000000 in
set_option maxRecDepth 100000 in
theorem c_X4_meanStart (l : Launch) (D : va_G) (cy : Nat → ClassId) (b : Nat → Nat) (V : RV) (sz : Nat)  {res : UInt64 × RV} (h : f_X4_meanStart V  = some res) : Met l yX4_meanStart wsX4_meanStart ({ frames := 1, cells := 0, slots := 0, locals := 21 } : Room) (va_Pc [.ref (b 0)] (zJ sz (rI D cy b V))) (va_Qd (fun r (_ : Unit) => r = res.1) (fun _ t => va_P D xcl (rW cy b res.2) t.heap ∧ va_D (va_A (rW cy b V) sz) (rW cy b res.2)) (va_A (rW cy b V) sz)) 0 0 (va_A (rW cy b V) sz) := by
  refine Met.ofW (cc := cX4_meanStart) (maxL := 4) (ret := (some .double)) (by decide) rfl ?_
  intro p e s m args below meth c s₁ B hml hv
  obtain ⟨rfl, hsz, hP, hK, hD0⟩ := hv
  have hx := B.exec
  have hb := B.bytes
  have hr := B.returns
  have hts := atoms_spec (ws := wsX4_meanStart) B.pre
  have hown : s.vm.findClass RX4 = some m.cls := findClass_of_methodNamed B.named
  have hlocks := B.notSynchronized
  subst hsz
  have hD := hD0.self (sz := s.heap.size)
  generalize hAe : va_A (rW cy b V) s.heap.size = A at hD ⊢
  have hA : ∀ q : Nat, s.heap.size ≤ q → A q := fun q h => by rw [← hAe]; exact Or.inr h
  have hS : va_S A s.heap s.heap [] := va_S.rf
  have hl := lv_entry ([.ref (b 0)]) (n := 4) (Nat.le_of_ble_eq_true rfl)
  rw [lg_entry_eq]
  generalize (lg_sl ([.ref (b 0)]) ++ List.replicate (4 - (lg_sl ([.ref (b 0)])).length) Slot.unset).toArray = ls at hl ⊢
  have hl : lv_has ls 4 [(0, .ref (b 0))] := hl
  revert hP hS
  intro hP hS
  refine lv_iconst (v := 0) hx hb dX4_meanStart_0 (by decide) ?_
  refine lv_istore_n (lv' := [(1, .int 0), (0, .ref (b 0))]) hx hb dX4_meanStart_1 rfl hl (by decide) rfl (fun ls hl => ?_)
  refine lv_iconst (v := 0) hx hb dX4_meanStart_2 (by decide) ?_
  refine lv_istore_n (lv' := [(2, .int 0), (1, .int 0), (0, .ref (b 0))]) hx hb dX4_meanStart_3 rfl hl (by decide) rfl (fun ls hl => ?_)
  refine lv_iconst (v := 0) hx hb dX4_meanStart_4 (by decide) ?_
  refine lv_istore_n (lv' := [(3, .int 0), (2, .int 0), (1, .int 0), (0, .ref (b 0))]) hx hb dX4_meanStart_5 rfl hl (by decide) rfl (fun ls hl => ?_)
  exact k_X4_meanStart_6 hx hb hr hts hml hown hlocks hK hA _ _ 0 0 0 _ _ _  ls h hP hD hS (lv_sub hl [3, 2, 1, 0] rfl)
