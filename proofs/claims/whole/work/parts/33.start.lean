theorem l_arr {args : Array Value} {s : State} {ty : FieldType} (hne : ∀ C, ty ≠ .object C) (h : (Cond.arrayClass ty).before args s = true) : ∃ cA : ClassId, ArrOfT s cA ty ∧ va_RA s cA ty := by
  obtain ⟨cA, kA, comp, h1, h2, h3⟩ := Cond.arrayClass_spec h
  refine ⟨cA, fun n z => ⟨fun k h => (by cases h), kA, h2, comp, h3⟩, ?_⟩
  cases ty with
  | object C => exact absurd rfl (hne C)
  | _ => exact h1
theorem l_arrO {args : Array Value} {s : State} {C : String} (h : (Cond.arrayOver (.object C)).before args s = true) : ∃ cA : ClassId, ArrOfT s cA (.object C) ∧ va_RA s cA (.object C) := by
  obtain ⟨comp, cA, kA, h1, h2, h3, h4, h5⟩ := Cond.arrayOver_spec h
  exact ⟨cA, fun n z => ⟨fun k h => (by cases h), kA, h3, comp, h4⟩, kA, comp, h3, h4, h1, h5⟩
theorem l_perm0 {α : Type} {p q : α} {X R : List α} : (((X ++ R) ++ [p]) ++ [q]).Perm ((q :: R) ++ (p :: X)) :=
  (List.perm_append_singleton q ((X ++ R) ++ [p])).trans ((((List.perm_append_singleton p (X ++ R)).trans ((List.perm_append_comm (l₁ := X) (l₂ := R)).cons p)).trans (List.perm_middle (a := p) (l₁ := R) (l₂ := X)).symm).cons q)

set_option maxHeartbeats 4000000 in
set_option maxRecDepth 200000 in
theorem l_known {args : Array Value} {s : State} (htsT : ∀ w ∈ lw_tbl, w.before args s = true) : ∃ (D : va_G) (cy : Nat → ClassId), va_K D xcl (xty cy) s := by
  have hts : ∀ w ∈ wsL_law, w.before args s = true := fun w h => htsT w (wsL_law_in w h)
  obtain ⟨c0, i0, k0⟩ := u_known (C := RX0) (T := TX0) (N := 6) (n := 6) hts bl_wsX00 (htsT _ (List.mem_of_getElem? (i := 241) rfl))
  obtain ⟨c1, i1, k1⟩ := u_known (C := RX1) (T := TX1) (N := 11) (n := 11) hts bl_wsX10 (htsT _ (List.mem_of_getElem? (i := 371) rfl))
  obtain ⟨c2, i2, k2⟩ := u_known (C := RX2) (T := TX2) (N := 3) (n := 3) hts bl_wsX20 (htsT _ (List.mem_of_getElem? (i := 440) rfl))
  obtain ⟨c3, i3, k3⟩ := u_known (C := RX3) (T := TX3) (N := 10) (n := 10) hts bl_wsX30 (htsT _ (List.mem_of_getElem? (i := 76) rfl))
  obtain ⟨c4, i4, k4⟩ := u_known (C := RX4) (T := TX4) (N := 28) (n := 28) hts bl_wsX40 (htsT _ (List.mem_of_getElem? (i := 834) rfl))
  obtain ⟨a0, r0⟩ := l_arr (ty := .int) (fun C h => by cases h) (htsT _ (List.mem_of_getElem? (i := 120) rfl))
  obtain ⟨a1, r1⟩ := l_arr (ty := .long) (fun C h => by cases h) (htsT _ (List.mem_of_getElem? (i := 926) rfl))
  obtain ⟨a2, r2⟩ := l_arr (ty := .boolean) (fun C h => by cases h) (htsT _ (List.mem_of_getElem? (i := 924) rfl))
  obtain ⟨a3, r3⟩ := l_arr (ty := .char) (fun C h => by cases h) (htsT _ (List.mem_of_getElem? (i := 925) rfl))
  obtain ⟨a4, r4⟩ := l_arrO (C := "Cranepool$Crane") (htsT _ (List.mem_of_getElem? (i := 84) rfl))
  obtain ⟨a5, r5⟩ := l_arrO (C := "Cranepool$Lift") (htsT _ (List.mem_of_getElem? (i := 86) rfl))
  obtain ⟨a6, r6⟩ := l_arrO (C := "Cranepool$Pour") (htsT _ (List.mem_of_getElem? (i := 88) rfl))
  obtain ⟨a7, r7⟩ := l_arr (ty := .double) (fun C h => by cases h) (htsT _ (List.mem_of_getElem? (i := 1266) rfl))
  refine ⟨(fun k => match k with | 0 => c0 | 1 => c1 | 2 => c2 | 3 => c3 | _ => c4, fun k => match k with | 0 => i0 | 1 => i1 | 2 => i2 | 3 => i3 | _ => i4), fun k => match k with | 0 => a0 | 1 => a1 | 2 => a2 | 3 => a3 | 4 => a4 | 5 => a5 | 6 => a6 | _ => a7, ?_, ?_⟩
  · intro k q hq
    match k, hq with
    | 0, hq => cases hq; exact k0
    | 1, hq => cases hq; exact k1
    | 2, hq => cases hq; exact k2
    | 3, hq => cases hq; exact k3
    | 4, hq => cases hq; exact k4
    | k + 5, hq => simp [xcl] at hq
  · intro k q hq
    match k, hq with
    | 0, hq => cases hq; exact r0
    | 1, hq => cases hq; exact r1
    | 2, hq => cases hq; exact r2
    | 3, hq => cases hq; exact r3
    | 4, hq => cases hq; exact r4
    | 5, hq => cases hq; exact r5
    | 6, hq => cases hq; exact r6
    | 7, hq => cases hq; exact r7
    | k + 8, hq => simp [xty] at hq
set_option maxHeartbeats 4000000 in
set_option maxRecDepth 200000 in
theorem l_xN {args : Array Value} {s : State} (htsT : ∀ w ∈ lw_tbl, w.before args s = true) : xN s :=
  ⟨⟨va_Nw.of rfl (htsT _ (List.mem_of_getElem? (i := 162) rfl)), va_Nw.of rfl (htsT _ (List.mem_of_getElem? (i := 228) rfl)), va_Nw.of rfl (htsT _ (List.mem_of_getElem? (i := 283) rfl)), va_Nw.of rfl (htsT _ (List.mem_of_getElem? (i := 509) rfl)), va_Nw.of rfl (htsT _ (List.mem_of_getElem? (i := 809) rfl))⟩, va_Nw.of rfl (htsT _ (List.mem_of_getElem? (i := 163) rfl)), va_Nw.of rfl (htsT _ (List.mem_of_getElem? (i := 165) rfl)), va_Nw.of rfl (htsT _ (List.mem_of_getElem? (i := 167) rfl)), va_Nw.of rfl (htsT _ (List.mem_of_getElem? (i := 376) rfl))⟩
set_option maxHeartbeats 4000000 in
set_option maxRecDepth 200000 in
theorem l_zZ {args : Array Value} {s : State} (htsT : ∀ w ∈ lw_tbl, w.before args s = true) (hgv : (Jvm.Cond.and given_1 narrow_1).before args s = true) : zZ (fun q => s.heap.size ≤ q) s :=
  ⟨l_xN htsT, vx_Zqof (htsT _ (List.mem_of_getElem? (i := 187) rfl)) (htsT _ (List.mem_of_getElem? (i := 59) rfl)) (flat_of_before _ hgv _ (by decide +kernel)) (fun a h => Nat.not_le.mpr h), vx_Zqof (htsT _ (List.mem_of_getElem? (i := 189) rfl)) (htsT _ (List.mem_of_getElem? (i := 59) rfl)) (flat_of_before _ hgv _ (by decide +kernel)) (fun a h => Nat.not_le.mpr h)⟩
set_option maxHeartbeats 4000000 in
set_option maxRecDepth 200000 in
theorem l_xC {args : Array Value} {s : State} (hgv : (Jvm.Cond.and given_1 narrow_1).before args s = true) : xC s := by
  have hs := flat_of_before _ hgv
  intro i j hij
  obtain ⟨h1, h2, h3, h4, h5⟩ := hij
  rcases (show i = 1 ∨ i = 2 ∨ i = 3 ∨ i = 4 ∨ i = 5 by omega) with rfl | rfl | rfl | rfl | rfl <;> rcases (show j = 1 ∨ j = 2 ∨ j = 3 ∨ j = 4 ∨ j = 5 by omega) with rfl | rfl | rfl | rfl | rfl <;> first | exact absurd rfl h5 | exact va_Nc.of (hs _ (by decide +kernel))
set_option maxHeartbeats 4000000 in
set_option maxRecDepth 200000 in
/-- the law from its entry, over an invariant of the class and the reference -/
theorem l_start_open (Rel : (Nat → Nat) → XV → RV → Prop) (hsteps : ∀ n V T, Rel n V T → lsteps Rel n V T) (hR0 : Rel (fun _ => 0) xV0 rV0) {p : Program} {e : Env} {s : State} {m : MethodId} {below : List Frame} {meth : Method} {c : Code} (l : Launch) (hflags : l.flags = flags0) {sb L : Nat} {xs : Nat → Int32} (hL : L ≤ 4608) (C0 : lw_At p s m meth c sb L xs) : W p l e room_1 s m #[Value.ref sb] below meth c s.heap [] 0 0 (lw_Z below #[Value.ref sb] s) (entryFrame m ([Value.ref sb] : List Value).toArray 9) := by
  obtain ⟨hx, hb, hr, hml, hown, htsT, hX, hsb, hlocks, hgv⟩ := C0
  have hl0 : l.stackTraces = false := by unfold Launch.stackTraces; rw [hflags]; decide
  have hts : ∀ w ∈ wsL_law, w.before #[Value.ref sb] s = true := fun w h => htsT w (wsL_law_in w h)
  have hown : s.vm.findClass RL = some m.cls := hown
  obtain ⟨D, cy, hK⟩ := l_known htsT
  obtain ⟨A, hAe⟩ : ∃ A : Nat → Prop, A = fun q : Nat => s.heap.size ≤ q := ⟨_, rfl⟩
  have hA : ∀ q : Nat, s.heap.size ≤ q → A q := fun q h => by rw [hAe]; exact h
  have hsA : ¬ A sb := by rw [hAe]; exact Nat.not_le.mpr hsb
  have hZ : zZ A s := by rw [hAe]; exact l_zZ htsT hgv
  have hC : xC s := l_xC hgv
  have hO : va_AO RX0 s ∧ va_AO RX1 s ∧ va_AO RX2 s := ⟨va_AO.of (htsT _ (List.mem_of_getElem? (i := 84) rfl)), va_AO.of (htsT _ (List.mem_of_getElem? (i := 86) rfl)), va_AO.of (htsT _ (List.mem_of_getElem? (i := 88) rfl))⟩
  have hC0 : lC p l s m #[Value.ref sb] meth c D cy A sb L xs := ⟨hl0, hx, hb, hml, hown, hts, hK, hA, hC, hZ, hX, hsb, hsA⟩
  have hS : va_S A s.heap s.heap [] := va_S.rf
  have hP : va_P D xcl [] s.heap := fun k q h => by simp at h
  have hD : va_D A [] := ⟨fun i j p q h => by simp at h, fun k q h => by simp at h⟩
  have hl := lv_entry ([.ref sb]) (n := 9) (Nat.le_of_ble_eq_true rfl)
  rw [lg_entry_eq]
  generalize (lg_sl ([.ref sb]) ++ List.replicate (9 - (lg_sl ([.ref sb])).length) Slot.unset).toArray = ls at hl ⊢
  have hl : lv_has ls 9 [(0, .ref sb)] := hl
  refine va_new (D := D) (ci := 3) (fs := [.null, .null, .null, .int 0, .int 0, .int 0, .int 0, .int 0, .null, .null]) (C := RX3) (T := TX3) (N := 10) hx hb hts bl_wsX30 tyX3 tyX3_ok hown (htsT _ (List.mem_of_getElem? (i := 75) rfl)) (htsT _ (List.mem_of_getElem? (i := 76) rfl)) (htsT _ (List.mem_of_getElem? (i := 57) rfl)) hK hP hD hS hA rfl (fun j hj => by rcases (show j = 0 ∨ j = 1 ∨ j = 2 ∨ j = 3 ∨ j = 4 ∨ j = 5 ∨ j = 6 ∨ j = 7 ∨ j = 8 ∨ j = 9 by omega) with rfl | rfl | rfl | rfl | rfl | rfl | rfl | rfl | rfl | rfl <;> rfl) (Nat.le_of_ble_eq_true rfl) (Nat.le_of_ble_eq_true rfl) dL_law_0 (fun q0 H hP hD hS => ?_)
  refine lv_dup hx hb dL_law_3 rfl ?_
  have hP : va_P D xcl [(q0, .inr (3, [.null, .null, .null, .int 0, .int 0, .int 0, .int 0, .int 0, .null, .null]))] H := hP
  have hD : va_D A [(q0, .inr (3, [.null, .null, .null, .int 0, .int 0, .int 0, .int 0, .int 0, .null, .null]))] := hD
  have hFc := z_free hD hS hA
  refine va_callv (va_runI (As := []) (rest := [.ref q0]) ⟨hx, hb, hml, hown, hts⟩ (c_X3_init l D cy q0 H.size) (cwI 0 hts gL_law_X3_init rfl rfl rfl (htsT _ (List.mem_of_getElem? (i := 57) rfl)) (htsT _ (List.mem_of_getElem? (i := 77) rfl)) (htsT _ (List.mem_of_getElem? (i := 78) rfl)) rfl hd_X3_init ⟨Nat.le_of_ble_eq_true rfl, Nat.le_of_ble_eq_true rfl⟩) ⟨zJ_blind (iAO_blind cI_blind), zJ_at (iAO_at hO (cI_at hP hK hD))⟩ rfl rfl hl.1 rfl (lv_room (Nat.le_of_ble_eq_true rfl)) dL_law_4 ⟨Nat.le_of_ble_eq_true rfl, Nat.le_of_ble_eq_true rfl⟩) hS (fun q _ h => hFc q h) hFc (fun a t H1 locs1 ht hvm hw hB hz1 hk1 hS => ?_)
  obtain ⟨hP1, hD1⟩ := hB
  rw [ht] at hP1
  replace hD := hD1.weaken (fun _ q _ h => hFc q.1 h)
  replace hP := hP1
  clear hk1 hz1 ht hvm hP1 hD1 hFc
  generalize H1 = H at hP hS ⊢
  have hw : a.1 0 = q0 := hw
  rw [← hw]
  refine lv_astore_n (lv' := [(1, .ref (a.1 0)), (0, .ref sb)]) hx hb dL_law_7 rfl hl (by decide) rfl (fun ls hl => ?_)
  refine va_new (D := D) (ci := 4) (fs := [.int 0, .null, .null, .null, .null, .null, .null, .int 0, .null, .null, .null, .null, .null, .null, .null, .null, .null, .null, .null, .int 0, .null, .null, .null, .null, .null, .int 0, .int 0, .int 0]) (C := RX4) (T := TX4) (N := 28) hx hb hts bl_wsX40 tyX4 tyX4_ok hown (htsT _ (List.mem_of_getElem? (i := 833) rfl)) (htsT _ (List.mem_of_getElem? (i := 834) rfl)) (htsT _ (List.mem_of_getElem? (i := 58) rfl)) hK hP hD hS hA rfl (fun j hj => by rcases (show j = 0 ∨ j = 1 ∨ j = 2 ∨ j = 3 ∨ j = 4 ∨ j = 5 ∨ j = 6 ∨ j = 7 ∨ j = 8 ∨ j = 9 ∨ j = 10 ∨ j = 11 ∨ j = 12 ∨ j = 13 ∨ j = 14 ∨ j = 15 ∨ j = 16 ∨ j = 17 ∨ j = 18 ∨ j = 19 ∨ j = 20 ∨ j = 21 ∨ j = 22 ∨ j = 23 ∨ j = 24 ∨ j = 25 ∨ j = 26 ∨ j = 27 by omega) with rfl | rfl | rfl | rfl | rfl | rfl | rfl | rfl | rfl | rfl | rfl | rfl | rfl | rfl | rfl | rfl | rfl | rfl | rfl | rfl | rfl | rfl | rfl | rfl | rfl | rfl | rfl | rfl <;> rfl) (Nat.le_of_ble_eq_true rfl) (Nat.le_of_ble_eq_true rfl) dL_law_8 (fun q1 H hP hD hS => ?_)
  refine lv_dup hx hb dL_law_11 rfl ?_
  have hPc := lP_app hP
  have hDc := lD_app hD
  have hFc := z_free hDc hS hA
  refine va_callv (va_runI (As := []) (rest := [.ref q1]) ⟨hx, hb, hml, hown, hts⟩ (c_X4_init l D cy q1 H.size) (cwI 0 hts gL_law_X4_init rfl rfl rfl (htsT _ (List.mem_of_getElem? (i := 58) rfl)) (htsT _ (List.mem_of_getElem? (i := 835) rfl)) (htsT _ (List.mem_of_getElem? (i := 836) rfl)) rfl hd_X4_init ⟨Nat.le_of_ble_eq_true rfl, Nat.le_of_ble_eq_true rfl⟩) ⟨zJ_blind cI_blind, zJ_at (cI_at hPc hK hDc)⟩ rfl rfl hl.1 rfl (lv_room (Nat.le_of_ble_eq_true rfl)) dL_law_12 ⟨Nat.le_of_ble_eq_true rfl, Nat.le_of_ble_eq_true rfl⟩) hS (fun q _ h => hFc q h) hFc (fun b t H1 locs1 ht hvm hw hB hz1 hk1 hS => ?_)
  obtain ⟨hP1, hD1⟩ := hB
  rw [ht] at hP1
  obtain ⟨hP2, hD2⟩ := z_join hP hD hk1 hFc hP1 hD1
  replace hP := hP2
  replace hD := hD2
  clear hP2 hD2 hk1 hz1 ht hvm hP1 hD1 hFc hPc hDc
  generalize H1 = H at hP hS ⊢
  have hw : b 0 = q1 := hw
  rw [← hw]
  refine lv_astore_n (lv' := [(2, .ref (b 0)), (1, .ref (a.1 0)), (0, .ref sb)]) hx hb dL_law_15 rfl hl (by decide) rfl (fun ls hl => ?_)
  refine lv_iconst (v := 1) hx hb dL_law_16 (by decide) ?_
  refine va_newa (atype := .long) (ty := .long) (a0 := (1, .inr (.inl (fun _ => 0)))) (N' := 1) hx hb (htsT _ (List.mem_of_getElem? (i := 926) rfl)) rfl hK hP hD hS hA (fun _ => rfl) (by decide) rfl (Nat.le_of_ble_eq_true rfl) (Nat.le_of_ble_eq_true rfl) (Nat.le_of_ble_eq_true rfl) dL_law_17 (fun o1 cA H hK9 hP hD hS => ?_)
  obtain rfl : cA = cy 1 := z_cy hK9 1 rfl
  refine lv_astore_n (lv' := [(3, .ref o1), (2, .ref (b 0)), (1, .ref (a.1 0)), (0, .ref sb)]) hx hb dL_law_19 rfl hl (by decide) rfl (fun ls hl => ?_)
  refine lv_iconst (v := 1) hx hb dL_law_20 (by decide) ?_
  refine va_newa (atype := .double) (ty := .double) (a0 := (1, .inr (.inr (.inr (.inl (fun _ => 0)))))) (N' := 1) hx hb (htsT _ (List.mem_of_getElem? (i := 1266) rfl)) rfl hK hP hD hS hA (fun _ => rfl) (by decide) rfl (Nat.le_of_ble_eq_true rfl) (Nat.le_of_ble_eq_true rfl) (Nat.le_of_ble_eq_true rfl) dL_law_21 (fun o2 cB H hK8 hP hD hS => ?_)
  obtain rfl : cB = cy 7 := z_cy hK8 7 rfl
  refine lv_astore (lv' := [(4, .ref o2), (3, .ref o1), (2, .ref (b 0)), (1, .ref (a.1 0)), (0, .ref sb)]) hx hb dL_law_23 hl (by decide) rfl (fun ls hl => ?_)
  refine lv_iconst (v := 0) hx hb dL_law_25 (by decide) ?_
  refine lv_istore (lv' := [(5, .int 0), (4, .ref o2), (3, .ref o1), (2, .ref (b 0)), (1, .ref (a.1 0)), (0, .ref sb)]) hx hb dL_law_26 hl (by decide) rfl (fun ls hl => ?_)
  refine W.widen (k := 60) (n := 4500) (Nat.le_of_ble_eq_true rfl) (Nat.le_of_ble_eq_true rfl) ?_
  refine l_loop_open Rel hsteps hC0 hL ?_ 514 0 a (fun _ => 0) xV0 rV0 (fun _ => 0) (fun _ => 0) H _ ls 60 4500 rfl (Nat.zero_le _) (Nat.le_refl _) (Nat.le_refl _) hR0 (zP_perm l_perm0 hP) (zD_perm l_perm0 hD) hS (lv_sub hl [5, 4, 3, 2, 1, 0] rfl)
  intro H locs ls cells_ slots_ hc1 hc2 hS
  refine lv_iconst (v := 1) hx hb dL_law_2867 (by decide) ?_
  refine va_forget (fun q hq => by have h := hS.2.2 q hq; rw [hAe] at h; exact h) ?_
  refine W.widen (k := 603072) (n := 7129194) (by omega) (by omega) ?_
  exact W.base (lw_ret (Drawn.sameBut.refl s.drawn lw_cs) hx hb hr hlocks dL_law_2868)
