section LAW
variable {p : Program} {l : Launch} {e : Env} {s : State} {m : MethodId} {args : Array Value} {below : List Frame} {meth : Method} {c : Code} {D : va_G} {cy : Nat → ClassId} {A : Nat → Prop} {Q : State → Prop} {sb L : Nat} {xs : Nat → Int32}
def lOut (cy : Nat → ClassId) (o : Nat) (f : Nat → Int64) : Nat × va_E := (o, .inl (cy 1, 1, .inr (.inl f)))
def lOutD (cy : Nat → ClassId) (o : Nat) (f : Nat → UInt64) : Nat × va_E := (o, .inl (cy 7, 1, .inr (.inr (.inr (.inl f)))))
def lW (cy : Nat → ClassId) (a : XA) (n : Nat → Nat) (V : XV) (b : Nat → Nat) (T : RV) (o1 : Nat) (out : Nat → Int64) (o2 : Nat) (outD : Nat → UInt64) : va_W := (lOutD cy o2 outD :: rW cy b T) ++ (lOut cy o1 out :: xW cy a n V)
theorem l_perm1 {α : Type} {p q : α} {A B : List α} : ((q :: A) ++ (p :: B)).Perm ((q :: p :: B) ++ A) := (List.perm_append_comm (l₁ := A) (l₂ := p :: B)).cons q
theorem l_perm3 {α : Type} {p q : α} {A B : List α} : ((q :: A) ++ (p :: B)).Perm ((q :: p :: A) ++ B) := (List.perm_middle (a := p) (l₁ := A) (l₂ := B)).cons q
theorem l_perm2 {α : Type} {p q : α} {A B : List α} : ((q :: A) ++ (p :: B)).Perm ((p :: A) ++ (q :: B)) := ((List.perm_middle (a := p) (l₁ := A) (l₂ := B)).cons q).trans ((List.Perm.swap p q (A ++ B)).trans ((List.perm_middle (a := q) (l₁ := A) (l₂ := B)).symm.cons p))
theorem l_perm4 {α : Type} {p q : α} {A B : List α} : ((q :: A) ++ (p :: B)).Perm (p :: q :: (A ++ B)) := ((List.perm_middle (a := p) (l₁ := A) (l₂ := B)).cons q).trans (List.Perm.swap p q (A ++ B))
theorem lP_app {ws wc : va_W} {H : Heap} (h : va_P D xcl (ws ++ wc) H) : va_P D xcl wc H := by
  induction ws with
  | nil => exact h
  | cons x ws ih => exact ih (lP_tail h)
theorem lD_app {ws wc : va_W} (h : va_D A (ws ++ wc)) : va_D A wc := by
  induction ws with
  | nil => exact h
  | cons x ws ih => exact ih (lD_tail h)
theorem zZ_now {H : Heap} {locs : List Loc} (h : zZ A s) (hS : va_S A s.heap H locs) : ∀ U : State, U.heap = H → s.WarmedH U.vm → zZ A U := fun U hU hW => by
  refine ⟨xN_warm hW h.1, ?_, ?_⟩
  · rw [hU]; exact (h.2.1.kept hS.2.1).moved hW.alike
  · rw [hU]; exact (h.2.2.kept hS.2.1).moved hW.alike
theorem lX_at {av : List Value} {H : Heap} {locs : List Loc} {a : XA} {n : Nat → Nat} {V : XV} {oc : Nat × va_E} {B : Nat → Prop} (hC : xC s) (hZ : zZ A s) (hS : va_S A s.heap H locs) (hB : ∀ q, B q → A q) (hP : va_P D xcl (oc :: xW cy a n V) H) (hK : va_K D xcl (xty cy) s) (hD : va_D A (oc :: xW cy a n V)) : ∀ U : State, U.heap = H → s.WarmedH U.vm → va_Pc av (zX H.size B (lI D cy a n V oc)) av.toArray U :=
  fun U hU hW => ⟨rfl, by rw [hU], lZ_narrow (zZ_now hZ hS U hU hW) hB, xC_moved hW.alike hC, by rw [hU]; exact hP, va_K.moved hW.alike hK, hD.weaken (fun _ _ _ _ => trivial)⟩
theorem lX_blind {av : List Value} {sz : Nat} {a : XA} {n : Nat → Nat} {V : XV} {oc : Nat × va_E} {B : Nat → Prop} : FrameBlind (va_Pc av (zX sz B (lI D cy a n V oc))) := zX_blind (fun a' U g mk q => by
  obtain ⟨q0, qC, qP, qK, qD⟩ := q
  exact ⟨q0, xC_moved (Vm.Alike.refl U.vm) qC, qP, va_K.moved (u := U) (U := U.calling g mk a') (Vm.Alike.refl U.vm) qK, qD⟩)
def lC (p : Program) (l : Launch) (s : State) (m : MethodId) (args : Array Value) (meth : Method) (c : Code) (D : va_G) (cy : Nat → ClassId) (A : Nat → Prop) (sb L : Nat) (xs : Nat → Int32) : Prop :=
  l.stackTraces = false ∧ p.tables.exec = Jvm.exec ∧ c.code = code ∧ c.maxLocals = 9 ∧ s.vm.findClass RL = some m.cls ∧ (∀ w ∈ wsL_law, w.before args s = true) ∧ va_K D xcl (xty cy) s ∧ (∀ q, s.heap.size ≤ q → A q) ∧ xC s ∧ zZ A s ∧ va_X sb L xs s s.heap ∧ sb < s.heap.size ∧ ¬ A sb
theorem lv_tsw {cc : ByteArray} {H : Heap} {locs : List Loc} {cells slots pc : Nat} {R : Room} {ls : Array Slot} {rest : List Value} (hexec : p.tables.exec = Jvm.exec) (hb : c.code = cc) {x : Int32} {dd lo hi : Int} {offs : Array Int} {k : Nat} (hdg : decode cc pc = .ok (.tableswitch dd lo hi offs, k)) {o : Int} {tgt : Nat} (hr : ¬ (x.toInt < lo ∨ x.toInt > hi)) (ho : offs[(x.toInt - lo).toNat]? = some o) (ht : (pc : Int) + o = (tgt : Int))
    (k : W p l e R s m args below meth c H locs cells slots Q (F0 m tgt ls rest)) : W p l e R s m args below meth c H locs cells slots Q (F0 m pc ls (.int x :: rest)) := by
  intro T hT X
  obtain ⟨t, a, b⟩ := k T hT X
  refine ⟨t, ?_, b⟩
  jvm_step X.here [X.here.top, hexec, hb, hdg, tableswitch.wp_whole, hr, ho, ht]
  exact a
theorem lv_tswd {cc : ByteArray} {H : Heap} {locs : List Loc} {cells slots pc : Nat} {R : Room} {ls : Array Slot} {rest : List Value} (hexec : p.tables.exec = Jvm.exec) (hb : c.code = cc) {x : Int32} {dd lo hi : Int} {offs : Array Int} {k : Nat} (hdg : decode cc pc = .ok (.tableswitch dd lo hi offs, k)) {tgt : Nat} (hr : x.toInt < lo ∨ x.toInt > hi) (ht : (pc : Int) + dd = (tgt : Int))
    (k : W p l e R s m args below meth c H locs cells slots Q (F0 m tgt ls rest)) : W p l e R s m args below meth c H locs cells slots Q (F0 m pc ls (.int x :: rest)) := by
  intro T hT X
  obtain ⟨t, a, b⟩ := k T hT X
  refine ⟨t, ?_, b⟩
  jvm_step X.here [X.here.top, hexec, hb, hdg, tableswitch.wp_whole, hr, ht]
  exact a
theorem l_cmp {x y : Int64} (h : x = y) : lg_cmp x y = 0 := by
  subst h
  simp [lg_cmp]
set_option maxHeartbeats 4000000 in
set_option maxRecDepth 100000 in
theorem l_case_0 (hC0 : lC p l s m args meth c D cy A sb L xs) {a : XA} {n : Nat → Nat} {V : XV} {b : Nat → Nat} {T : RV} {o1 o2 : Nat} {out : Nat → Int64} {outD : Nat → UInt64} {i : Int32} {H : Heap} {locs : List Loc} {ls : Array Slot} {cells_ slots_ : Nat} (hc1 : cells_ + 16 ≤ room_1.cells) (hc2 : slots_ + 130 ≤ room_1.slots) (hP : va_P D xcl (lW cy a n V b T o1 out o2 outD) H) (hD : va_D A (lW cy a n V b T o1 out o2 outD)) (hS : va_S A s.heap H locs) (hl : lv_has ls 9 [(0, .ref sb), (1, .ref (a.1 0)), (2, .ref (b 0)), (3, .ref o1), (4, .ref o2), (5, .int i)]) (hi1 : vp_in (i + 1) L) (hi2 : vp_in (i + 2) L) (hi3 : vp_in (i + 3) L) (hi4 : vp_in (i + 4) L) (hi5 : vp_in (i + 5) L) {res : Int32 × (Nat → Nat) × XV × (Nat → Int64)} {rr : Int32 × RV} (hf : f_L_addCrane n V out (xs (i + 1).toNatClampNeg) (xs (i + 2).toNatClampNeg) (xs (i + 3).toNatClampNeg) (xs (i + 4).toNatClampNeg) (xs (i + 5).toNatClampNeg) = some res) (hr : f_X4_addCrane T (xs (i + 1).toNatClampNeg) (xs (i + 2).toNatClampNeg) (xs (i + 3).toNatClampNeg) (xs (i + 4).toNatClampNeg) (xs (i + 5).toNatClampNeg) = some rr) (ht0 : rr.2.1 27 = res.1) (hv : res.1 = 0 → res.2.2.2 (0 : Int32).toNatClampNeg = Int32.toInt64 rr.1)
    (hk : ∀ {a1 : XA} (_ : a1.1 = a.1) (H : Heap) (locs : List Loc) (ls : Array Slot), va_P D xcl (lW cy a1 res.2.1 res.2.2.1 b rr.2 o1 res.2.2.2 o2 outD) H → va_D A (lW cy a1 res.2.1 res.2.2.1 b rr.2 o1 res.2.2.2 o2 outD) → va_S A s.heap H locs → lv_has ls 9 [(0, .ref sb), (1, .ref (a1.1 0)), (2, .ref (b 0)), (3, .ref o1), (4, .ref o2), (5, .int i)] → W p l e room_1 s m args below meth c H locs (cells_ + 16) (slots_ + 130) Q (F0 m 2861 ls [])) : W p l e room_1 s m args below meth c H locs cells_ slots_ Q (F0 m 232 ls []) := by
  obtain ⟨hl0, hx, hb, hml, hown, hts, hK, hA, hC, hZ, hX, hsb, hsA⟩ := hC0
  refine lv_aload_n hx hb dL_law_232 rfl (lv_at hl 1 rfl) ?_
  refine lv_aload_n hx hb dL_law_233 rfl (lv_at hl 0 rfl) ?_
  refine lv_iload hx hb dL_law_234 (lv_at hl 5 rfl) ?_
  refine lv_iconst (v := 1) hx hb dL_law_236 (by decide) ?_
  refine lv_iadd hx hb dL_law_237 ?_
  refine va_sld hx hb hX hsb hsA hS hi1 dL_law_238 ?_
  refine lv_aload_n hx hb dL_law_239 rfl (lv_at hl 0 rfl) ?_
  refine lv_iload hx hb dL_law_240 (lv_at hl 5 rfl) ?_
  refine lv_iconst (v := 2) hx hb dL_law_242 (by decide) ?_
  refine lv_iadd hx hb dL_law_243 ?_
  refine va_sld hx hb hX hsb hsA hS hi2 dL_law_244 ?_
  refine lv_aload_n hx hb dL_law_245 rfl (lv_at hl 0 rfl) ?_
  refine lv_iload hx hb dL_law_246 (lv_at hl 5 rfl) ?_
  refine lv_iconst (v := 3) hx hb dL_law_248 (by decide) ?_
  refine lv_iadd hx hb dL_law_249 ?_
  refine va_sld hx hb hX hsb hsA hS hi3 dL_law_250 ?_
  refine lv_aload_n hx hb dL_law_251 rfl (lv_at hl 0 rfl) ?_
  refine lv_iload hx hb dL_law_252 (lv_at hl 5 rfl) ?_
  refine lv_iconst (v := 4) hx hb dL_law_254 (by decide) ?_
  refine lv_iadd hx hb dL_law_255 ?_
  refine va_sld hx hb hX hsb hsA hS hi4 dL_law_256 ?_
  refine lv_aload_n hx hb dL_law_257 rfl (lv_at hl 0 rfl) ?_
  refine lv_iload hx hb dL_law_258 (lv_at hl 5 rfl) ?_
  refine lv_iconst (v := 5) hx hb dL_law_260 (by decide) ?_
  refine lv_iadd hx hb dL_law_261 ?_
  refine va_sld hx hb hX hsb hsA hS hi5 dL_law_262 ?_
  refine lv_aload_n hx hb dL_law_263 rfl (lv_at hl 3 rfl) ?_
  have hPc := lP_app hP
  have hDc := lD_app hD
  have hfr := z_free hDc hS hA
  refine va_calli (vx_runSW (As := [.ref (a.1 0), .int (xs (i + 1).toNatClampNeg), .int (xs (i + 2).toNatClampNeg), .int (xs (i + 3).toNatClampNeg), .int (xs (i + 4).toNatClampNeg), .int (xs (i + 5).toNatClampNeg), .ref o1]) (rest := []) ⟨hx, hb, hml, hown, hts⟩ (c_L_addCrane l hl0 D cy a n V o1 out H.size (xs (i + 1).toNatClampNeg) (xs (i + 2).toNatClampNeg) (xs (i + 3).toNatClampNeg) (xs (i + 4).toNatClampNeg) (xs (i + 5).toNatClampNeg) hf) (vx_cwSW 7 hts gL_law_L_addCrane rfl rfl rfl hd_L_addCrane ⟨Nat.le_of_ble_eq_true rfl, Nat.le_of_ble_eq_true rfl⟩) ⟨lX_blind, lX_at hC hZ hS hfr hPc hK hDc⟩ rfl rfl hl.1 rfl (lv_room (Nat.le_of_ble_eq_true rfl)) dL_law_264 ⟨by omega, by omega⟩) hS (fun q _ h => hfr q h) hfr (fun r9 a1 t H1 locs1 ht hvm hw hB hz hk hS => ?_)
  obtain ⟨ha1, hP1, hD1⟩ := hB
  rw [ht] at hP1
  subst hw
  obtain ⟨hP2, hD2⟩ := z_join (ws := lOutD cy o2 outD :: rW cy b T) (wc := lOut cy o1 out :: xW cy a n V) (w1 := (o1, .inl (cy 1, 1, .inr (.inl res.2.2.2))) :: xW cy a1 res.2.1 res.2.2.1) hP hD hk hfr hP1 hD1
  replace hP : va_P D xcl (lW cy a1 res.2.1 res.2.2.1 b T o1 res.2.2.2 o2 outD) H1 := hP2
  replace hD : va_D A (lW cy a1 res.2.1 res.2.2.1 b T o1 res.2.2.2 o2 outD) := hD2
  clear hP2 hD2 hP1 hD1 hk hz hPc hDc hfr hvm ht
  generalize H1 = H at hP hS ⊢
  rw [← ha1] at hl
  refine lv_istore (lv' := [(6, .int res.1), (0, .ref sb), (1, .ref (a1.1 0)), (2, .ref (b 0)), (3, .ref o1), (4, .ref o2), (5, .int i)]) hx hb dL_law_267 hl (by decide) rfl (fun ls hl => ?_)
  refine lv_aload_n hx hb dL_law_269 rfl (lv_at hl 3 rfl) ?_
  refine lv_aload_n hx hb dL_law_270 rfl (lv_at hl 1 rfl) ?_
  refine lv_iload hx hb dL_law_271 (lv_at hl 6 rfl) ?_
  refine lv_iconst (v := 1) hx hb dL_law_273 (by decide) ?_
  refine lv_iadd hx hb dL_law_274 ?_
  refine va_sld hx hb hX hsb hsA hS hi1 dL_law_275 ?_
  refine lv_aload_n hx hb dL_law_276 rfl (lv_at hl 1 rfl) ?_
  refine lv_iload hx hb dL_law_277 (lv_at hl 6 rfl) ?_
  refine lv_iconst (v := 2) hx hb dL_law_279 (by decide) ?_
  refine lv_iadd hx hb dL_law_280 ?_
  refine va_sld hx hb hX hsb hsA hS hi2 dL_law_281 ?_
  refine lv_aload_n hx hb dL_law_282 rfl (lv_at hl 1 rfl) ?_
  refine lv_iload hx hb dL_law_283 (lv_at hl 6 rfl) ?_
  refine lv_iconst (v := 3) hx hb dL_law_285 (by decide) ?_
  refine lv_iadd hx hb dL_law_286 ?_
  refine va_sld hx hb hX hsb hsA hS hi3 dL_law_287 ?_
  refine lv_aload_n hx hb dL_law_288 rfl (lv_at hl 1 rfl) ?_
  refine lv_iload hx hb dL_law_289 (lv_at hl 6 rfl) ?_
  refine lv_iconst (v := 4) hx hb dL_law_291 (by decide) ?_
  refine lv_iadd hx hb dL_law_292 ?_
  refine va_sld hx hb hX hsb hsA hS hi4 dL_law_293 ?_
  refine lv_aload_n hx hb dL_law_294 rfl (lv_at hl 1 rfl) ?_
  refine lv_iload hx hb dL_law_295 (lv_at hl 6 rfl) ?_
  refine lv_iconst (v := 5) hx hb dL_law_297 (by decide) ?_
  refine lv_iadd hx hb dL_law_298 ?_
  refine va_sld hx hb hX hsb hsA hS hi5 dL_law_299 ?_
  replace hP := zP_perm l_perm1 hP
  replace hD := zD_perm l_perm1 hD
  have hPc := lP_app hP
  have hDc := lD_app hD
  have hfr := z_free hDc hS hA
  refine va_calli (va_runV (As := [.int (xs (i + 1).toNatClampNeg), .int (xs (i + 2).toNatClampNeg), .int (xs (i + 3).toNatClampNeg), .int (xs (i + 4).toNatClampNeg), .int (xs (i + 5).toNatClampNeg)]) (rest := []) ⟨hx, hb, hml, hown, hts⟩ (c_X4_addCrane l D cy b T H.size (xs (i + 1).toNatClampNeg) (xs (i + 2).toNatClampNeg) (xs (i + 3).toNatClampNeg) (xs (i + 4).toNatClampNeg) (xs (i + 5).toNatClampNeg) hr) (cwV 5 hts gL_law_X4_addCrane rfl rfl rfl hd_X4_addCrane ⟨Nat.le_of_ble_eq_true rfl, Nat.le_of_ble_eq_true rfl⟩) ⟨zJ_blind rI_blind, va_recv hK hPc (ci := 4) (q0 := 0) rfl rfl, zJ_at (rI_at hPc hK hDc)⟩ rfl rfl hl.1 rfl (lv_room (Nat.le_of_ble_eq_true rfl)) dL_law_300 ⟨by omega, by omega⟩) hS (fun q _ h => hfr q h) hfr (fun r9 u9 t H1 locs1 ht hvm hw hB hz hk hS => ?_)
  obtain ⟨hP1, hD1⟩ := hB
  rw [ht] at hP1
  subst hw
  obtain ⟨hP2, hD2⟩ := z_join (ws := (lOutD cy o2 outD) :: (lOut cy o1 res.2.2.2) :: xW cy a1 res.2.1 res.2.2.1) (wc := rW cy b T) (w1 := rW cy b rr.2) hP hD hk hfr hP1 hD1
  replace hP2 := zP_perm l_perm1.symm hP2
  replace hD2 := zD_perm l_perm1.symm hD2
  replace hP : va_P D xcl (lW cy a1 res.2.1 res.2.2.1 b rr.2 o1 res.2.2.2 o2 outD) H1 := hP2
  replace hD : va_D A (lW cy a1 res.2.1 res.2.2.1 b rr.2 o1 res.2.2.2 o2 outD) := hD2
  clear hP2 hD2 hP1 hD1 hk hz hPc hDc hfr hvm ht
  generalize H1 = H at hP hS ⊢
  refine lv_istore (lv' := [(7, .int rr.1), (6, .int res.1), (0, .ref sb), (1, .ref (a1.1 0)), (2, .ref (b 0)), (3, .ref o1), (4, .ref o2), (5, .int i)]) hx hb dL_law_303 hl (by decide) rfl (fun ls hl => ?_)
  refine lv_aload_n hx hb dL_law_305 rfl (lv_at hl 4 rfl) ?_
  have hPc := lP_app (zP_perm l_perm1 hP)
  have hDc := lD_app (zD_perm l_perm1 hD)
  refine zcSi (W.runV (As := []) (rest := []) ⟨hx, hb, hml, hown, hts⟩ (c_X4_thrown l D cy b rr.2 (res := rr.2.1 27) rfl) (cwV 0 hts gL_law_X4_thrown rfl rfl rfl hd_X4_thrown ⟨Nat.le_of_ble_eq_true rfl, Nat.le_of_ble_eq_true rfl⟩) ⟨rI_blind, va_recv hK hPc (ci := 4) (q0 := 0) rfl rfl, rI_at hPc hK hDc⟩ rfl rfl hl.1 rfl (lv_room (Nat.le_of_ble_eq_true rfl)) dL_law_306 ⟨by omega, by omega⟩) ?_
  refine lv_iload hx hb dL_law_309 (lv_at hl 1 rfl) ?_
  refine lv_icmp_eq (tgt := 316) hx hb dL_law_311 (by decide) (fun c0 => ?_) (fun c0 => absurd ht0 c0)
  refine lv_iload hx hb dL_law_316 (lv_at hl 1 rfl) ?_
  refine lv_if_ne (tgt := 333) hx hb dL_law_318 (by decide) (fun c0 => ?_) (fun c0 => ?_)
  · refine lv_goto (tgt := 2861) hx hb dL_law_333 (by decide) ?_
    refine W.widen (k := cells_ + 16) (n := slots_ + 130) (by omega) (by omega) ?_
    exact hk ha1 _ _ _ hP hD hS (lv_sub hl [2, 3, 4, 5, 6, 7] rfl)
  · refine lv_aload_n hx hb dL_law_321 rfl (lv_at hl 5 rfl) ?_
    refine lv_iconst (v := 0) hx hb dL_law_322 (by decide) ?_
    refine va_lald hx hb hK (zP_perm l_perm4 hP) 0 1 rfl rfl (show vp_in 0 1 from by unfold vp_in; decide) dL_law_323 ?_
    refine lv_iload hx hb dL_law_324 (lv_at hl 0 rfl) ?_
    refine lv_i2l (v := Int32.toInt64 rr.1) hx hb dL_law_326 rfl ?_
    refine W.lcmp hx hb dL_law_327 ?_
    refine lv_if_eq (tgt := 333) hx hb dL_law_328 (by decide) (fun c2 => ?_) (fun c2 => absurd (l_cmp (hv c0)) c2)
    refine lv_goto (tgt := 2861) hx hb dL_law_333 (by decide) ?_
    refine W.widen (k := cells_ + 16) (n := slots_ + 130) (by omega) (by omega) ?_
    exact hk ha1 _ _ _ hP hD hS (lv_sub hl [2, 3, 4, 5, 6, 7] rfl)
set_option maxHeartbeats 4000000 in
set_option maxRecDepth 100000 in
theorem l_case_1 (hC0 : lC p l s m args meth c D cy A sb L xs) {a : XA} {n : Nat → Nat} {V : XV} {b : Nat → Nat} {T : RV} {o1 o2 : Nat} {out : Nat → Int64} {outD : Nat → UInt64} {i : Int32} {H : Heap} {locs : List Loc} {ls : Array Slot} {cells_ slots_ : Nat} (hc1 : cells_ + 16 ≤ room_1.cells) (hc2 : slots_ + 130 ≤ room_1.slots) (hP : va_P D xcl (lW cy a n V b T o1 out o2 outD) H) (hD : va_D A (lW cy a n V b T o1 out o2 outD)) (hS : va_S A s.heap H locs) (hl : lv_has ls 9 [(0, .ref sb), (1, .ref (a.1 0)), (2, .ref (b 0)), (3, .ref o1), (4, .ref o2), (5, .int i)]) (hi1 : vp_in (i + 1) L) (hi2 : vp_in (i + 2) L) (hi3 : vp_in (i + 3) L) {res : Int32 × (Nat → Nat) × XV × (Nat → Int64)} {rr : Int32 × RV} (hf : f_L_permit n V out (xs (i + 1).toNatClampNeg) (xs (i + 2).toNatClampNeg) (xs (i + 3).toNatClampNeg) = some res) (hr : f_X4_permit T (xs (i + 1).toNatClampNeg) (xs (i + 2).toNatClampNeg) (xs (i + 3).toNatClampNeg) = some rr) (ht0 : rr.2.1 27 = res.1) (hv : res.1 = 0 → res.2.2.2 (0 : Int32).toNatClampNeg = Int32.toInt64 rr.1)
    (hk : ∀ {a1 : XA} (_ : a1.1 = a.1) (H : Heap) (locs : List Loc) (ls : Array Slot), va_P D xcl (lW cy a1 res.2.1 res.2.2.1 b rr.2 o1 res.2.2.2 o2 outD) H → va_D A (lW cy a1 res.2.1 res.2.2.1 b rr.2 o1 res.2.2.2 o2 outD) → va_S A s.heap H locs → lv_has ls 9 [(0, .ref sb), (1, .ref (a1.1 0)), (2, .ref (b 0)), (3, .ref o1), (4, .ref o2), (5, .int i)] → W p l e room_1 s m args below meth c H locs (cells_ + 16) (slots_ + 130) Q (F0 m 2861 ls [])) : W p l e room_1 s m args below meth c H locs cells_ slots_ Q (F0 m 336 ls []) := by
  obtain ⟨hl0, hx, hb, hml, hown, hts, hK, hA, hC, hZ, hX, hsb, hsA⟩ := hC0
  refine lv_aload_n hx hb dL_law_336 rfl (lv_at hl 1 rfl) ?_
  refine lv_aload_n hx hb dL_law_337 rfl (lv_at hl 0 rfl) ?_
  refine lv_iload hx hb dL_law_338 (lv_at hl 5 rfl) ?_
  refine lv_iconst (v := 1) hx hb dL_law_340 (by decide) ?_
  refine lv_iadd hx hb dL_law_341 ?_
  refine va_sld hx hb hX hsb hsA hS hi1 dL_law_342 ?_
  refine lv_aload_n hx hb dL_law_343 rfl (lv_at hl 0 rfl) ?_
  refine lv_iload hx hb dL_law_344 (lv_at hl 5 rfl) ?_
  refine lv_iconst (v := 2) hx hb dL_law_346 (by decide) ?_
  refine lv_iadd hx hb dL_law_347 ?_
  refine va_sld hx hb hX hsb hsA hS hi2 dL_law_348 ?_
  refine lv_aload_n hx hb dL_law_349 rfl (lv_at hl 0 rfl) ?_
  refine lv_iload hx hb dL_law_350 (lv_at hl 5 rfl) ?_
  refine lv_iconst (v := 3) hx hb dL_law_352 (by decide) ?_
  refine lv_iadd hx hb dL_law_353 ?_
  refine va_sld hx hb hX hsb hsA hS hi3 dL_law_354 ?_
  refine lv_aload_n hx hb dL_law_355 rfl (lv_at hl 3 rfl) ?_
  have hPc := lP_app hP
  have hDc := lD_app hD
  have hfr := z_free hDc hS hA
  refine va_calli (vx_runSW (As := [.ref (a.1 0), .int (xs (i + 1).toNatClampNeg), .int (xs (i + 2).toNatClampNeg), .int (xs (i + 3).toNatClampNeg), .ref o1]) (rest := []) ⟨hx, hb, hml, hown, hts⟩ (c_L_permit l hl0 D cy a n V o1 out H.size (xs (i + 1).toNatClampNeg) (xs (i + 2).toNatClampNeg) (xs (i + 3).toNatClampNeg) hf) (vx_cwSW 5 hts gL_law_L_permit rfl rfl rfl hd_L_permit ⟨Nat.le_of_ble_eq_true rfl, Nat.le_of_ble_eq_true rfl⟩) ⟨lX_blind, lX_at hC hZ hS hfr hPc hK hDc⟩ rfl rfl hl.1 rfl (lv_room (Nat.le_of_ble_eq_true rfl)) dL_law_356 ⟨by omega, by omega⟩) hS (fun q _ h => hfr q h) hfr (fun r9 a1 t H1 locs1 ht hvm hw hB hz hk hS => ?_)
  obtain ⟨ha1, hP1, hD1⟩ := hB
  rw [ht] at hP1
  subst hw
  obtain ⟨hP2, hD2⟩ := z_join (ws := lOutD cy o2 outD :: rW cy b T) (wc := lOut cy o1 out :: xW cy a n V) (w1 := (o1, .inl (cy 1, 1, .inr (.inl res.2.2.2))) :: xW cy a1 res.2.1 res.2.2.1) hP hD hk hfr hP1 hD1
  replace hP : va_P D xcl (lW cy a1 res.2.1 res.2.2.1 b T o1 res.2.2.2 o2 outD) H1 := hP2
  replace hD : va_D A (lW cy a1 res.2.1 res.2.2.1 b T o1 res.2.2.2 o2 outD) := hD2
  clear hP2 hD2 hP1 hD1 hk hz hPc hDc hfr hvm ht
  generalize H1 = H at hP hS ⊢
  rw [← ha1] at hl
  refine lv_istore (lv' := [(6, .int res.1), (0, .ref sb), (1, .ref (a1.1 0)), (2, .ref (b 0)), (3, .ref o1), (4, .ref o2), (5, .int i)]) hx hb dL_law_359 hl (by decide) rfl (fun ls hl => ?_)
  refine lv_aload_n hx hb dL_law_361 rfl (lv_at hl 3 rfl) ?_
  refine lv_aload_n hx hb dL_law_362 rfl (lv_at hl 1 rfl) ?_
  refine lv_iload hx hb dL_law_363 (lv_at hl 6 rfl) ?_
  refine lv_iconst (v := 1) hx hb dL_law_365 (by decide) ?_
  refine lv_iadd hx hb dL_law_366 ?_
  refine va_sld hx hb hX hsb hsA hS hi1 dL_law_367 ?_
  refine lv_aload_n hx hb dL_law_368 rfl (lv_at hl 1 rfl) ?_
  refine lv_iload hx hb dL_law_369 (lv_at hl 6 rfl) ?_
  refine lv_iconst (v := 2) hx hb dL_law_371 (by decide) ?_
  refine lv_iadd hx hb dL_law_372 ?_
  refine va_sld hx hb hX hsb hsA hS hi2 dL_law_373 ?_
  refine lv_aload_n hx hb dL_law_374 rfl (lv_at hl 1 rfl) ?_
  refine lv_iload hx hb dL_law_375 (lv_at hl 6 rfl) ?_
  refine lv_iconst (v := 3) hx hb dL_law_377 (by decide) ?_
  refine lv_iadd hx hb dL_law_378 ?_
  refine va_sld hx hb hX hsb hsA hS hi3 dL_law_379 ?_
  replace hP := zP_perm l_perm1 hP
  replace hD := zD_perm l_perm1 hD
  have hPc := lP_app hP
  have hDc := lD_app hD
  have hfr := z_free hDc hS hA
  refine va_calli (va_runV (As := [.int (xs (i + 1).toNatClampNeg), .int (xs (i + 2).toNatClampNeg), .int (xs (i + 3).toNatClampNeg)]) (rest := []) ⟨hx, hb, hml, hown, hts⟩ (c_X4_permit l D cy b T H.size (xs (i + 1).toNatClampNeg) (xs (i + 2).toNatClampNeg) (xs (i + 3).toNatClampNeg) hr) (cwV 3 hts gL_law_X4_permit rfl rfl rfl hd_X4_permit ⟨Nat.le_of_ble_eq_true rfl, Nat.le_of_ble_eq_true rfl⟩) ⟨zJ_blind rI_blind, va_recv hK hPc (ci := 4) (q0 := 0) rfl rfl, zJ_at (rI_at hPc hK hDc)⟩ rfl rfl hl.1 rfl (lv_room (Nat.le_of_ble_eq_true rfl)) dL_law_380 ⟨by omega, by omega⟩) hS (fun q _ h => hfr q h) hfr (fun r9 u9 t H1 locs1 ht hvm hw hB hz hk hS => ?_)
  obtain ⟨hP1, hD1⟩ := hB
  rw [ht] at hP1
  subst hw
  obtain ⟨hP2, hD2⟩ := z_join (ws := (lOutD cy o2 outD) :: (lOut cy o1 res.2.2.2) :: xW cy a1 res.2.1 res.2.2.1) (wc := rW cy b T) (w1 := rW cy b rr.2) hP hD hk hfr hP1 hD1
  replace hP2 := zP_perm l_perm1.symm hP2
  replace hD2 := zD_perm l_perm1.symm hD2
  replace hP : va_P D xcl (lW cy a1 res.2.1 res.2.2.1 b rr.2 o1 res.2.2.2 o2 outD) H1 := hP2
  replace hD : va_D A (lW cy a1 res.2.1 res.2.2.1 b rr.2 o1 res.2.2.2 o2 outD) := hD2
  clear hP2 hD2 hP1 hD1 hk hz hPc hDc hfr hvm ht
  generalize H1 = H at hP hS ⊢
  refine lv_istore (lv' := [(7, .int rr.1), (6, .int res.1), (0, .ref sb), (1, .ref (a1.1 0)), (2, .ref (b 0)), (3, .ref o1), (4, .ref o2), (5, .int i)]) hx hb dL_law_383 hl (by decide) rfl (fun ls hl => ?_)
  refine lv_aload_n hx hb dL_law_385 rfl (lv_at hl 4 rfl) ?_
  have hPc := lP_app (zP_perm l_perm1 hP)
  have hDc := lD_app (zD_perm l_perm1 hD)
  refine zcSi (W.runV (As := []) (rest := []) ⟨hx, hb, hml, hown, hts⟩ (c_X4_thrown l D cy b rr.2 (res := rr.2.1 27) rfl) (cwV 0 hts gL_law_X4_thrown rfl rfl rfl hd_X4_thrown ⟨Nat.le_of_ble_eq_true rfl, Nat.le_of_ble_eq_true rfl⟩) ⟨rI_blind, va_recv hK hPc (ci := 4) (q0 := 0) rfl rfl, rI_at hPc hK hDc⟩ rfl rfl hl.1 rfl (lv_room (Nat.le_of_ble_eq_true rfl)) dL_law_386 ⟨by omega, by omega⟩) ?_
  refine lv_iload hx hb dL_law_389 (lv_at hl 1 rfl) ?_
  refine lv_icmp_eq (tgt := 396) hx hb dL_law_391 (by decide) (fun c0 => ?_) (fun c0 => absurd ht0 c0)
  refine lv_iload hx hb dL_law_396 (lv_at hl 1 rfl) ?_
  refine lv_if_ne (tgt := 413) hx hb dL_law_398 (by decide) (fun c0 => ?_) (fun c0 => ?_)
  · refine lv_goto (tgt := 2861) hx hb dL_law_413 (by decide) ?_
    refine W.widen (k := cells_ + 16) (n := slots_ + 130) (by omega) (by omega) ?_
    exact hk ha1 _ _ _ hP hD hS (lv_sub hl [2, 3, 4, 5, 6, 7] rfl)
  · refine lv_aload_n hx hb dL_law_401 rfl (lv_at hl 5 rfl) ?_
    refine lv_iconst (v := 0) hx hb dL_law_402 (by decide) ?_
    refine va_lald hx hb hK (zP_perm l_perm4 hP) 0 1 rfl rfl (show vp_in 0 1 from by unfold vp_in; decide) dL_law_403 ?_
    refine lv_iload hx hb dL_law_404 (lv_at hl 0 rfl) ?_
    refine lv_i2l (v := Int32.toInt64 rr.1) hx hb dL_law_406 rfl ?_
    refine W.lcmp hx hb dL_law_407 ?_
    refine lv_if_eq (tgt := 413) hx hb dL_law_408 (by decide) (fun c2 => ?_) (fun c2 => absurd (l_cmp (hv c0)) c2)
    refine lv_goto (tgt := 2861) hx hb dL_law_413 (by decide) ?_
    refine W.widen (k := cells_ + 16) (n := slots_ + 130) (by omega) (by omega) ?_
    exact hk ha1 _ _ _ hP hD hS (lv_sub hl [2, 3, 4, 5, 6, 7] rfl)
set_option maxHeartbeats 4000000 in
set_option maxRecDepth 100000 in
theorem l_case_2 (hC0 : lC p l s m args meth c D cy A sb L xs) {a : XA} {n : Nat → Nat} {V : XV} {b : Nat → Nat} {T : RV} {o1 o2 : Nat} {out : Nat → Int64} {outD : Nat → UInt64} {i : Int32} {H : Heap} {locs : List Loc} {ls : Array Slot} {cells_ slots_ : Nat} (hc1 : cells_ + 16 ≤ room_1.cells) (hc2 : slots_ + 130 ≤ room_1.slots) (hP : va_P D xcl (lW cy a n V b T o1 out o2 outD) H) (hD : va_D A (lW cy a n V b T o1 out o2 outD)) (hS : va_S A s.heap H locs) (hl : lv_has ls 9 [(0, .ref sb), (1, .ref (a.1 0)), (2, .ref (b 0)), (3, .ref o1), (4, .ref o2), (5, .int i)]) (hi1 : vp_in (i + 1) L) (hi2 : vp_in (i + 2) L) (hi3 : vp_in (i + 3) L) {res : Int32 × (Nat → Nat) × XV × (Nat → Int64)} {rr : Int32 × RV} (hf : f_L_endPermit n V out (xs (i + 1).toNatClampNeg) (xs (i + 2).toNatClampNeg) (xs (i + 3).toNatClampNeg) = some res) (hr : f_X4_endPermit T (xs (i + 1).toNatClampNeg) (xs (i + 2).toNatClampNeg) (xs (i + 3).toNatClampNeg) = some rr) (ht0 : rr.2.1 27 = res.1) (hv : res.1 = 0 → res.2.2.2 (0 : Int32).toNatClampNeg = Int32.toInt64 rr.1)
    (hk : ∀ {a1 : XA} (_ : a1.1 = a.1) (H : Heap) (locs : List Loc) (ls : Array Slot), va_P D xcl (lW cy a1 res.2.1 res.2.2.1 b rr.2 o1 res.2.2.2 o2 outD) H → va_D A (lW cy a1 res.2.1 res.2.2.1 b rr.2 o1 res.2.2.2 o2 outD) → va_S A s.heap H locs → lv_has ls 9 [(0, .ref sb), (1, .ref (a1.1 0)), (2, .ref (b 0)), (3, .ref o1), (4, .ref o2), (5, .int i)] → W p l e room_1 s m args below meth c H locs (cells_ + 16) (slots_ + 130) Q (F0 m 2861 ls [])) : W p l e room_1 s m args below meth c H locs cells_ slots_ Q (F0 m 416 ls []) := by
  obtain ⟨hl0, hx, hb, hml, hown, hts, hK, hA, hC, hZ, hX, hsb, hsA⟩ := hC0
  refine lv_aload_n hx hb dL_law_416 rfl (lv_at hl 1 rfl) ?_
  refine lv_aload_n hx hb dL_law_417 rfl (lv_at hl 0 rfl) ?_
  refine lv_iload hx hb dL_law_418 (lv_at hl 5 rfl) ?_
  refine lv_iconst (v := 1) hx hb dL_law_420 (by decide) ?_
  refine lv_iadd hx hb dL_law_421 ?_
  refine va_sld hx hb hX hsb hsA hS hi1 dL_law_422 ?_
  refine lv_aload_n hx hb dL_law_423 rfl (lv_at hl 0 rfl) ?_
  refine lv_iload hx hb dL_law_424 (lv_at hl 5 rfl) ?_
  refine lv_iconst (v := 2) hx hb dL_law_426 (by decide) ?_
  refine lv_iadd hx hb dL_law_427 ?_
  refine va_sld hx hb hX hsb hsA hS hi2 dL_law_428 ?_
  refine lv_aload_n hx hb dL_law_429 rfl (lv_at hl 0 rfl) ?_
  refine lv_iload hx hb dL_law_430 (lv_at hl 5 rfl) ?_
  refine lv_iconst (v := 3) hx hb dL_law_432 (by decide) ?_
  refine lv_iadd hx hb dL_law_433 ?_
  refine va_sld hx hb hX hsb hsA hS hi3 dL_law_434 ?_
  refine lv_aload_n hx hb dL_law_435 rfl (lv_at hl 3 rfl) ?_
  have hPc := lP_app hP
  have hDc := lD_app hD
  have hfr := z_free hDc hS hA
  refine va_calli (vx_runSW (As := [.ref (a.1 0), .int (xs (i + 1).toNatClampNeg), .int (xs (i + 2).toNatClampNeg), .int (xs (i + 3).toNatClampNeg), .ref o1]) (rest := []) ⟨hx, hb, hml, hown, hts⟩ (c_L_endPermit l hl0 D cy a n V o1 out H.size (xs (i + 1).toNatClampNeg) (xs (i + 2).toNatClampNeg) (xs (i + 3).toNatClampNeg) hf) (vx_cwSW 5 hts gL_law_L_endPermit rfl rfl rfl hd_L_endPermit ⟨Nat.le_of_ble_eq_true rfl, Nat.le_of_ble_eq_true rfl⟩) ⟨lX_blind, lX_at hC hZ hS hfr hPc hK hDc⟩ rfl rfl hl.1 rfl (lv_room (Nat.le_of_ble_eq_true rfl)) dL_law_436 ⟨by omega, by omega⟩) hS (fun q _ h => hfr q h) hfr (fun r9 a1 t H1 locs1 ht hvm hw hB hz hk hS => ?_)
  obtain ⟨ha1, hP1, hD1⟩ := hB
  rw [ht] at hP1
  subst hw
  obtain ⟨hP2, hD2⟩ := z_join (ws := lOutD cy o2 outD :: rW cy b T) (wc := lOut cy o1 out :: xW cy a n V) (w1 := (o1, .inl (cy 1, 1, .inr (.inl res.2.2.2))) :: xW cy a1 res.2.1 res.2.2.1) hP hD hk hfr hP1 hD1
  replace hP : va_P D xcl (lW cy a1 res.2.1 res.2.2.1 b T o1 res.2.2.2 o2 outD) H1 := hP2
  replace hD : va_D A (lW cy a1 res.2.1 res.2.2.1 b T o1 res.2.2.2 o2 outD) := hD2
  clear hP2 hD2 hP1 hD1 hk hz hPc hDc hfr hvm ht
  generalize H1 = H at hP hS ⊢
  rw [← ha1] at hl
  refine lv_istore (lv' := [(6, .int res.1), (0, .ref sb), (1, .ref (a1.1 0)), (2, .ref (b 0)), (3, .ref o1), (4, .ref o2), (5, .int i)]) hx hb dL_law_439 hl (by decide) rfl (fun ls hl => ?_)
  refine lv_aload_n hx hb dL_law_441 rfl (lv_at hl 3 rfl) ?_
  refine lv_aload_n hx hb dL_law_442 rfl (lv_at hl 1 rfl) ?_
  refine lv_iload hx hb dL_law_443 (lv_at hl 6 rfl) ?_
  refine lv_iconst (v := 1) hx hb dL_law_445 (by decide) ?_
  refine lv_iadd hx hb dL_law_446 ?_
  refine va_sld hx hb hX hsb hsA hS hi1 dL_law_447 ?_
  refine lv_aload_n hx hb dL_law_448 rfl (lv_at hl 1 rfl) ?_
  refine lv_iload hx hb dL_law_449 (lv_at hl 6 rfl) ?_
  refine lv_iconst (v := 2) hx hb dL_law_451 (by decide) ?_
  refine lv_iadd hx hb dL_law_452 ?_
  refine va_sld hx hb hX hsb hsA hS hi2 dL_law_453 ?_
  refine lv_aload_n hx hb dL_law_454 rfl (lv_at hl 1 rfl) ?_
  refine lv_iload hx hb dL_law_455 (lv_at hl 6 rfl) ?_
  refine lv_iconst (v := 3) hx hb dL_law_457 (by decide) ?_
  refine lv_iadd hx hb dL_law_458 ?_
  refine va_sld hx hb hX hsb hsA hS hi3 dL_law_459 ?_
  replace hP := zP_perm l_perm1 hP
  replace hD := zD_perm l_perm1 hD
  have hPc := lP_app hP
  have hDc := lD_app hD
  have hfr := z_free hDc hS hA
  refine va_calli (va_runV (As := [.int (xs (i + 1).toNatClampNeg), .int (xs (i + 2).toNatClampNeg), .int (xs (i + 3).toNatClampNeg)]) (rest := []) ⟨hx, hb, hml, hown, hts⟩ (c_X4_endPermit l D cy b T H.size (xs (i + 1).toNatClampNeg) (xs (i + 2).toNatClampNeg) (xs (i + 3).toNatClampNeg) hr) (cwV 3 hts gL_law_X4_endPermit rfl rfl rfl hd_X4_endPermit ⟨Nat.le_of_ble_eq_true rfl, Nat.le_of_ble_eq_true rfl⟩) ⟨zJ_blind rI_blind, va_recv hK hPc (ci := 4) (q0 := 0) rfl rfl, zJ_at (rI_at hPc hK hDc)⟩ rfl rfl hl.1 rfl (lv_room (Nat.le_of_ble_eq_true rfl)) dL_law_460 ⟨by omega, by omega⟩) hS (fun q _ h => hfr q h) hfr (fun r9 u9 t H1 locs1 ht hvm hw hB hz hk hS => ?_)
  obtain ⟨hP1, hD1⟩ := hB
  rw [ht] at hP1
  subst hw
  obtain ⟨hP2, hD2⟩ := z_join (ws := (lOutD cy o2 outD) :: (lOut cy o1 res.2.2.2) :: xW cy a1 res.2.1 res.2.2.1) (wc := rW cy b T) (w1 := rW cy b rr.2) hP hD hk hfr hP1 hD1
  replace hP2 := zP_perm l_perm1.symm hP2
  replace hD2 := zD_perm l_perm1.symm hD2
  replace hP : va_P D xcl (lW cy a1 res.2.1 res.2.2.1 b rr.2 o1 res.2.2.2 o2 outD) H1 := hP2
  replace hD : va_D A (lW cy a1 res.2.1 res.2.2.1 b rr.2 o1 res.2.2.2 o2 outD) := hD2
  clear hP2 hD2 hP1 hD1 hk hz hPc hDc hfr hvm ht
  generalize H1 = H at hP hS ⊢
  refine lv_istore (lv' := [(7, .int rr.1), (6, .int res.1), (0, .ref sb), (1, .ref (a1.1 0)), (2, .ref (b 0)), (3, .ref o1), (4, .ref o2), (5, .int i)]) hx hb dL_law_463 hl (by decide) rfl (fun ls hl => ?_)
  refine lv_aload_n hx hb dL_law_465 rfl (lv_at hl 4 rfl) ?_
  have hPc := lP_app (zP_perm l_perm1 hP)
  have hDc := lD_app (zD_perm l_perm1 hD)
  refine zcSi (W.runV (As := []) (rest := []) ⟨hx, hb, hml, hown, hts⟩ (c_X4_thrown l D cy b rr.2 (res := rr.2.1 27) rfl) (cwV 0 hts gL_law_X4_thrown rfl rfl rfl hd_X4_thrown ⟨Nat.le_of_ble_eq_true rfl, Nat.le_of_ble_eq_true rfl⟩) ⟨rI_blind, va_recv hK hPc (ci := 4) (q0 := 0) rfl rfl, rI_at hPc hK hDc⟩ rfl rfl hl.1 rfl (lv_room (Nat.le_of_ble_eq_true rfl)) dL_law_466 ⟨by omega, by omega⟩) ?_
  refine lv_iload hx hb dL_law_469 (lv_at hl 1 rfl) ?_
  refine lv_icmp_eq (tgt := 476) hx hb dL_law_471 (by decide) (fun c0 => ?_) (fun c0 => absurd ht0 c0)
  refine lv_iload hx hb dL_law_476 (lv_at hl 1 rfl) ?_
  refine lv_if_ne (tgt := 493) hx hb dL_law_478 (by decide) (fun c0 => ?_) (fun c0 => ?_)
  · refine lv_goto (tgt := 2861) hx hb dL_law_493 (by decide) ?_
    refine W.widen (k := cells_ + 16) (n := slots_ + 130) (by omega) (by omega) ?_
    exact hk ha1 _ _ _ hP hD hS (lv_sub hl [2, 3, 4, 5, 6, 7] rfl)
  · refine lv_aload_n hx hb dL_law_481 rfl (lv_at hl 5 rfl) ?_
    refine lv_iconst (v := 0) hx hb dL_law_482 (by decide) ?_
    refine va_lald hx hb hK (zP_perm l_perm4 hP) 0 1 rfl rfl (show vp_in 0 1 from by unfold vp_in; decide) dL_law_483 ?_
    refine lv_iload hx hb dL_law_484 (lv_at hl 0 rfl) ?_
    refine lv_i2l (v := Int32.toInt64 rr.1) hx hb dL_law_486 rfl ?_
    refine W.lcmp hx hb dL_law_487 ?_
    refine lv_if_eq (tgt := 493) hx hb dL_law_488 (by decide) (fun c2 => ?_) (fun c2 => absurd (l_cmp (hv c0)) c2)
    refine lv_goto (tgt := 2861) hx hb dL_law_493 (by decide) ?_
    refine W.widen (k := cells_ + 16) (n := slots_ + 130) (by omega) (by omega) ?_
    exact hk ha1 _ _ _ hP hD hS (lv_sub hl [2, 3, 4, 5, 6, 7] rfl)
set_option maxHeartbeats 4000000 in
set_option maxRecDepth 100000 in
theorem l_case_3 (hC0 : lC p l s m args meth c D cy A sb L xs) {a : XA} {n : Nat → Nat} {V : XV} {b : Nat → Nat} {T : RV} {o1 o2 : Nat} {out : Nat → Int64} {outD : Nat → UInt64} {i : Int32} {H : Heap} {locs : List Loc} {ls : Array Slot} {cells_ slots_ : Nat} (hc1 : cells_ + 16 ≤ room_1.cells) (hc2 : slots_ + 130 ≤ room_1.slots) (hP : va_P D xcl (lW cy a n V b T o1 out o2 outD) H) (hD : va_D A (lW cy a n V b T o1 out o2 outD)) (hS : va_S A s.heap H locs) (hl : lv_has ls 9 [(0, .ref sb), (1, .ref (a.1 0)), (2, .ref (b 0)), (3, .ref o1), (4, .ref o2), (5, .int i)]) (hi1 : vp_in (i + 1) L) {res : Int32 × (Nat → Nat) × XV × (Nat → Int64)} {rr : Int32 × RV} (hf : f_L_setWind n V out (xs (i + 1).toNatClampNeg) = some res) (hr : f_X4_setWind T (xs (i + 1).toNatClampNeg) = some rr) (ht0 : rr.2.1 27 = res.1) (hv : res.1 = 0 → res.2.2.2 (0 : Int32).toNatClampNeg = Int32.toInt64 rr.1)
    (hk : ∀ {a1 : XA} (_ : a1.1 = a.1) (H : Heap) (locs : List Loc) (ls : Array Slot), va_P D xcl (lW cy a1 res.2.1 res.2.2.1 b rr.2 o1 res.2.2.2 o2 outD) H → va_D A (lW cy a1 res.2.1 res.2.2.1 b rr.2 o1 res.2.2.2 o2 outD) → va_S A s.heap H locs → lv_has ls 9 [(0, .ref sb), (1, .ref (a1.1 0)), (2, .ref (b 0)), (3, .ref o1), (4, .ref o2), (5, .int i)] → W p l e room_1 s m args below meth c H locs (cells_ + 16) (slots_ + 130) Q (F0 m 2861 ls [])) : W p l e room_1 s m args below meth c H locs cells_ slots_ Q (F0 m 496 ls []) := by
  obtain ⟨hl0, hx, hb, hml, hown, hts, hK, hA, hC, hZ, hX, hsb, hsA⟩ := hC0
  refine lv_aload_n hx hb dL_law_496 rfl (lv_at hl 1 rfl) ?_
  refine lv_aload_n hx hb dL_law_497 rfl (lv_at hl 0 rfl) ?_
  refine lv_iload hx hb dL_law_498 (lv_at hl 5 rfl) ?_
  refine lv_iconst (v := 1) hx hb dL_law_500 (by decide) ?_
  refine lv_iadd hx hb dL_law_501 ?_
  refine va_sld hx hb hX hsb hsA hS hi1 dL_law_502 ?_
  refine lv_aload_n hx hb dL_law_503 rfl (lv_at hl 3 rfl) ?_
  have hPc := lP_app hP
  have hDc := lD_app hD
  have hfr := z_free hDc hS hA
  refine va_calli (vx_runSW (As := [.ref (a.1 0), .int (xs (i + 1).toNatClampNeg), .ref o1]) (rest := []) ⟨hx, hb, hml, hown, hts⟩ (c_L_setWind l hl0 D cy a n V o1 out H.size (xs (i + 1).toNatClampNeg) hf) (vx_cwSW 3 hts gL_law_L_setWind rfl rfl rfl hd_L_setWind ⟨Nat.le_of_ble_eq_true rfl, Nat.le_of_ble_eq_true rfl⟩) ⟨lX_blind, lX_at hC hZ hS hfr hPc hK hDc⟩ rfl rfl hl.1 rfl (lv_room (Nat.le_of_ble_eq_true rfl)) dL_law_504 ⟨by omega, by omega⟩) hS (fun q _ h => hfr q h) hfr (fun r9 a1 t H1 locs1 ht hvm hw hB hz hk hS => ?_)
  obtain ⟨ha1, hP1, hD1⟩ := hB
  rw [ht] at hP1
  subst hw
  obtain ⟨hP2, hD2⟩ := z_join (ws := lOutD cy o2 outD :: rW cy b T) (wc := lOut cy o1 out :: xW cy a n V) (w1 := (o1, .inl (cy 1, 1, .inr (.inl res.2.2.2))) :: xW cy a1 res.2.1 res.2.2.1) hP hD hk hfr hP1 hD1
  replace hP : va_P D xcl (lW cy a1 res.2.1 res.2.2.1 b T o1 res.2.2.2 o2 outD) H1 := hP2
  replace hD : va_D A (lW cy a1 res.2.1 res.2.2.1 b T o1 res.2.2.2 o2 outD) := hD2
  clear hP2 hD2 hP1 hD1 hk hz hPc hDc hfr hvm ht
  generalize H1 = H at hP hS ⊢
  rw [← ha1] at hl
  refine lv_istore (lv' := [(6, .int res.1), (0, .ref sb), (1, .ref (a1.1 0)), (2, .ref (b 0)), (3, .ref o1), (4, .ref o2), (5, .int i)]) hx hb dL_law_507 hl (by decide) rfl (fun ls hl => ?_)
  refine lv_aload_n hx hb dL_law_509 rfl (lv_at hl 3 rfl) ?_
  refine lv_aload_n hx hb dL_law_510 rfl (lv_at hl 1 rfl) ?_
  refine lv_iload hx hb dL_law_511 (lv_at hl 6 rfl) ?_
  refine lv_iconst (v := 1) hx hb dL_law_513 (by decide) ?_
  refine lv_iadd hx hb dL_law_514 ?_
  refine va_sld hx hb hX hsb hsA hS hi1 dL_law_515 ?_
  replace hP := zP_perm l_perm1 hP
  replace hD := zD_perm l_perm1 hD
  have hPc := lP_app hP
  have hDc := lD_app hD
  have hfr := z_free hDc hS hA
  refine va_calli (va_runV (As := [.int (xs (i + 1).toNatClampNeg)]) (rest := []) ⟨hx, hb, hml, hown, hts⟩ (c_X4_setWind l D cy b T H.size (xs (i + 1).toNatClampNeg) hr) (cwV 1 hts gL_law_X4_setWind rfl rfl rfl hd_X4_setWind ⟨Nat.le_of_ble_eq_true rfl, Nat.le_of_ble_eq_true rfl⟩) ⟨zJ_blind rI_blind, va_recv hK hPc (ci := 4) (q0 := 0) rfl rfl, zJ_at (rI_at hPc hK hDc)⟩ rfl rfl hl.1 rfl (lv_room (Nat.le_of_ble_eq_true rfl)) dL_law_516 ⟨by omega, by omega⟩) hS (fun q _ h => hfr q h) hfr (fun r9 u9 t H1 locs1 ht hvm hw hB hz hk hS => ?_)
  obtain ⟨hP1, hD1⟩ := hB
  rw [ht] at hP1
  subst hw
  obtain ⟨hP2, hD2⟩ := z_join (ws := (lOutD cy o2 outD) :: (lOut cy o1 res.2.2.2) :: xW cy a1 res.2.1 res.2.2.1) (wc := rW cy b T) (w1 := rW cy b rr.2) hP hD hk hfr hP1 hD1
  replace hP2 := zP_perm l_perm1.symm hP2
  replace hD2 := zD_perm l_perm1.symm hD2
  replace hP : va_P D xcl (lW cy a1 res.2.1 res.2.2.1 b rr.2 o1 res.2.2.2 o2 outD) H1 := hP2
  replace hD : va_D A (lW cy a1 res.2.1 res.2.2.1 b rr.2 o1 res.2.2.2 o2 outD) := hD2
  clear hP2 hD2 hP1 hD1 hk hz hPc hDc hfr hvm ht
  generalize H1 = H at hP hS ⊢
  refine lv_istore (lv' := [(7, .int rr.1), (6, .int res.1), (0, .ref sb), (1, .ref (a1.1 0)), (2, .ref (b 0)), (3, .ref o1), (4, .ref o2), (5, .int i)]) hx hb dL_law_519 hl (by decide) rfl (fun ls hl => ?_)
  refine lv_aload_n hx hb dL_law_521 rfl (lv_at hl 4 rfl) ?_
  have hPc := lP_app (zP_perm l_perm1 hP)
  have hDc := lD_app (zD_perm l_perm1 hD)
  refine zcSi (W.runV (As := []) (rest := []) ⟨hx, hb, hml, hown, hts⟩ (c_X4_thrown l D cy b rr.2 (res := rr.2.1 27) rfl) (cwV 0 hts gL_law_X4_thrown rfl rfl rfl hd_X4_thrown ⟨Nat.le_of_ble_eq_true rfl, Nat.le_of_ble_eq_true rfl⟩) ⟨rI_blind, va_recv hK hPc (ci := 4) (q0 := 0) rfl rfl, rI_at hPc hK hDc⟩ rfl rfl hl.1 rfl (lv_room (Nat.le_of_ble_eq_true rfl)) dL_law_522 ⟨by omega, by omega⟩) ?_
  refine lv_iload hx hb dL_law_525 (lv_at hl 1 rfl) ?_
  refine lv_icmp_eq (tgt := 532) hx hb dL_law_527 (by decide) (fun c0 => ?_) (fun c0 => absurd ht0 c0)
  refine lv_iload hx hb dL_law_532 (lv_at hl 1 rfl) ?_
  refine lv_if_ne (tgt := 549) hx hb dL_law_534 (by decide) (fun c0 => ?_) (fun c0 => ?_)
  · refine lv_goto (tgt := 2861) hx hb dL_law_549 (by decide) ?_
    refine W.widen (k := cells_ + 16) (n := slots_ + 130) (by omega) (by omega) ?_
    exact hk ha1 _ _ _ hP hD hS (lv_sub hl [2, 3, 4, 5, 6, 7] rfl)
  · refine lv_aload_n hx hb dL_law_537 rfl (lv_at hl 5 rfl) ?_
    refine lv_iconst (v := 0) hx hb dL_law_538 (by decide) ?_
    refine va_lald hx hb hK (zP_perm l_perm4 hP) 0 1 rfl rfl (show vp_in 0 1 from by unfold vp_in; decide) dL_law_539 ?_
    refine lv_iload hx hb dL_law_540 (lv_at hl 0 rfl) ?_
    refine lv_i2l (v := Int32.toInt64 rr.1) hx hb dL_law_542 rfl ?_
    refine W.lcmp hx hb dL_law_543 ?_
    refine lv_if_eq (tgt := 549) hx hb dL_law_544 (by decide) (fun c2 => ?_) (fun c2 => absurd (l_cmp (hv c0)) c2)
    refine lv_goto (tgt := 2861) hx hb dL_law_549 (by decide) ?_
    refine W.widen (k := cells_ + 16) (n := slots_ + 130) (by omega) (by omega) ?_
    exact hk ha1 _ _ _ hP hD hS (lv_sub hl [2, 3, 4, 5, 6, 7] rfl)
set_option maxHeartbeats 4000000 in
set_option maxRecDepth 100000 in
theorem l_case_4 (hC0 : lC p l s m args meth c D cy A sb L xs) {a : XA} {n : Nat → Nat} {V : XV} {b : Nat → Nat} {T : RV} {o1 o2 : Nat} {out : Nat → Int64} {outD : Nat → UInt64} {i : Int32} {H : Heap} {locs : List Loc} {ls : Array Slot} {cells_ slots_ : Nat} (hc1 : cells_ + 16 ≤ room_1.cells) (hc2 : slots_ + 130 ≤ room_1.slots) (hP : va_P D xcl (lW cy a n V b T o1 out o2 outD) H) (hD : va_D A (lW cy a n V b T o1 out o2 outD)) (hS : va_S A s.heap H locs) (hl : lv_has ls 9 [(0, .ref sb), (1, .ref (a.1 0)), (2, .ref (b 0)), (3, .ref o1), (4, .ref o2), (5, .int i)]) (hi1 : vp_in (i + 1) L) (hi2 : vp_in (i + 2) L) (hi3 : vp_in (i + 3) L) (hi4 : vp_in (i + 4) L) (hi5 : vp_in (i + 5) L) (hi6 : vp_in (i + 6) L) {res : Int32 × (Nat → Nat) × XV × (Nat → Int64)} {rr : Int32 × RV} (hf : f_L_addLift n V out (xs (i + 1).toNatClampNeg) (xs (i + 2).toNatClampNeg) (xs (i + 3).toNatClampNeg) (xs (i + 4).toNatClampNeg) (xs (i + 5).toNatClampNeg) (xs (i + 6).toNatClampNeg) = some res) (hr : f_X4_addLift T (xs (i + 1).toNatClampNeg) (xs (i + 2).toNatClampNeg) (xs (i + 3).toNatClampNeg) (xs (i + 4).toNatClampNeg) (xs (i + 5).toNatClampNeg) (xs (i + 6).toNatClampNeg) = some rr) (ht0 : rr.2.1 27 = res.1) (hv : res.1 = 0 → res.2.2.2 (0 : Int32).toNatClampNeg = Int32.toInt64 rr.1)
    (hk : ∀ {a1 : XA} (_ : a1.1 = a.1) (H : Heap) (locs : List Loc) (ls : Array Slot), va_P D xcl (lW cy a1 res.2.1 res.2.2.1 b rr.2 o1 res.2.2.2 o2 outD) H → va_D A (lW cy a1 res.2.1 res.2.2.1 b rr.2 o1 res.2.2.2 o2 outD) → va_S A s.heap H locs → lv_has ls 9 [(0, .ref sb), (1, .ref (a1.1 0)), (2, .ref (b 0)), (3, .ref o1), (4, .ref o2), (5, .int i)] → W p l e room_1 s m args below meth c H locs (cells_ + 16) (slots_ + 130) Q (F0 m 2861 ls [])) : W p l e room_1 s m args below meth c H locs cells_ slots_ Q (F0 m 552 ls []) := by
  obtain ⟨hl0, hx, hb, hml, hown, hts, hK, hA, hC, hZ, hX, hsb, hsA⟩ := hC0
  refine lv_aload_n hx hb dL_law_552 rfl (lv_at hl 1 rfl) ?_
  refine lv_aload_n hx hb dL_law_553 rfl (lv_at hl 0 rfl) ?_
  refine lv_iload hx hb dL_law_554 (lv_at hl 5 rfl) ?_
  refine lv_iconst (v := 1) hx hb dL_law_556 (by decide) ?_
  refine lv_iadd hx hb dL_law_557 ?_
  refine va_sld hx hb hX hsb hsA hS hi1 dL_law_558 ?_
  refine lv_aload_n hx hb dL_law_559 rfl (lv_at hl 0 rfl) ?_
  refine lv_iload hx hb dL_law_560 (lv_at hl 5 rfl) ?_
  refine lv_iconst (v := 2) hx hb dL_law_562 (by decide) ?_
  refine lv_iadd hx hb dL_law_563 ?_
  refine va_sld hx hb hX hsb hsA hS hi2 dL_law_564 ?_
  refine lv_aload_n hx hb dL_law_565 rfl (lv_at hl 0 rfl) ?_
  refine lv_iload hx hb dL_law_566 (lv_at hl 5 rfl) ?_
  refine lv_iconst (v := 3) hx hb dL_law_568 (by decide) ?_
  refine lv_iadd hx hb dL_law_569 ?_
  refine va_sld hx hb hX hsb hsA hS hi3 dL_law_570 ?_
  refine lv_aload_n hx hb dL_law_571 rfl (lv_at hl 0 rfl) ?_
  refine lv_iload hx hb dL_law_572 (lv_at hl 5 rfl) ?_
  refine lv_iconst (v := 4) hx hb dL_law_574 (by decide) ?_
  refine lv_iadd hx hb dL_law_575 ?_
  refine va_sld hx hb hX hsb hsA hS hi4 dL_law_576 ?_
  refine lv_aload_n hx hb dL_law_577 rfl (lv_at hl 0 rfl) ?_
  refine lv_iload hx hb dL_law_578 (lv_at hl 5 rfl) ?_
  refine lv_iconst (v := 5) hx hb dL_law_580 (by decide) ?_
  refine lv_iadd hx hb dL_law_581 ?_
  refine va_sld hx hb hX hsb hsA hS hi5 dL_law_582 ?_
  refine lv_aload_n hx hb dL_law_583 rfl (lv_at hl 0 rfl) ?_
  refine lv_iload hx hb dL_law_584 (lv_at hl 5 rfl) ?_
  refine lv_bipush (v := 6) hx hb dL_law_586 (by decide) ?_
  refine lv_iadd hx hb dL_law_588 ?_
  refine va_sld hx hb hX hsb hsA hS hi6 dL_law_589 ?_
  refine lv_aload_n hx hb dL_law_590 rfl (lv_at hl 3 rfl) ?_
  have hPc := lP_app hP
  have hDc := lD_app hD
  have hfr := z_free hDc hS hA
  refine va_calli (vx_runSW (As := [.ref (a.1 0), .int (xs (i + 1).toNatClampNeg), .int (xs (i + 2).toNatClampNeg), .int (xs (i + 3).toNatClampNeg), .int (xs (i + 4).toNatClampNeg), .int (xs (i + 5).toNatClampNeg), .int (xs (i + 6).toNatClampNeg), .ref o1]) (rest := []) ⟨hx, hb, hml, hown, hts⟩ (c_L_addLift l hl0 D cy a n V o1 out H.size (xs (i + 1).toNatClampNeg) (xs (i + 2).toNatClampNeg) (xs (i + 3).toNatClampNeg) (xs (i + 4).toNatClampNeg) (xs (i + 5).toNatClampNeg) (xs (i + 6).toNatClampNeg) hf) (vx_cwSW 8 hts gL_law_L_addLift rfl rfl rfl hd_L_addLift ⟨Nat.le_of_ble_eq_true rfl, Nat.le_of_ble_eq_true rfl⟩) ⟨lX_blind, lX_at hC hZ hS hfr hPc hK hDc⟩ rfl rfl hl.1 rfl (lv_room (Nat.le_of_ble_eq_true rfl)) dL_law_591 ⟨by omega, by omega⟩) hS (fun q _ h => hfr q h) hfr (fun r9 a1 t H1 locs1 ht hvm hw hB hz hk hS => ?_)
  obtain ⟨ha1, hP1, hD1⟩ := hB
  rw [ht] at hP1
  subst hw
  obtain ⟨hP2, hD2⟩ := z_join (ws := lOutD cy o2 outD :: rW cy b T) (wc := lOut cy o1 out :: xW cy a n V) (w1 := (o1, .inl (cy 1, 1, .inr (.inl res.2.2.2))) :: xW cy a1 res.2.1 res.2.2.1) hP hD hk hfr hP1 hD1
  replace hP : va_P D xcl (lW cy a1 res.2.1 res.2.2.1 b T o1 res.2.2.2 o2 outD) H1 := hP2
  replace hD : va_D A (lW cy a1 res.2.1 res.2.2.1 b T o1 res.2.2.2 o2 outD) := hD2
  clear hP2 hD2 hP1 hD1 hk hz hPc hDc hfr hvm ht
  generalize H1 = H at hP hS ⊢
  rw [← ha1] at hl
  refine lv_istore (lv' := [(6, .int res.1), (0, .ref sb), (1, .ref (a1.1 0)), (2, .ref (b 0)), (3, .ref o1), (4, .ref o2), (5, .int i)]) hx hb dL_law_594 hl (by decide) rfl (fun ls hl => ?_)
  refine lv_aload_n hx hb dL_law_596 rfl (lv_at hl 3 rfl) ?_
  refine lv_aload_n hx hb dL_law_597 rfl (lv_at hl 1 rfl) ?_
  refine lv_iload hx hb dL_law_598 (lv_at hl 6 rfl) ?_
  refine lv_iconst (v := 1) hx hb dL_law_600 (by decide) ?_
  refine lv_iadd hx hb dL_law_601 ?_
  refine va_sld hx hb hX hsb hsA hS hi1 dL_law_602 ?_
  refine lv_aload_n hx hb dL_law_603 rfl (lv_at hl 1 rfl) ?_
  refine lv_iload hx hb dL_law_604 (lv_at hl 6 rfl) ?_
  refine lv_iconst (v := 2) hx hb dL_law_606 (by decide) ?_
  refine lv_iadd hx hb dL_law_607 ?_
  refine va_sld hx hb hX hsb hsA hS hi2 dL_law_608 ?_
  refine lv_aload_n hx hb dL_law_609 rfl (lv_at hl 1 rfl) ?_
  refine lv_iload hx hb dL_law_610 (lv_at hl 6 rfl) ?_
  refine lv_iconst (v := 3) hx hb dL_law_612 (by decide) ?_
  refine lv_iadd hx hb dL_law_613 ?_
  refine va_sld hx hb hX hsb hsA hS hi3 dL_law_614 ?_
  refine lv_aload_n hx hb dL_law_615 rfl (lv_at hl 1 rfl) ?_
  refine lv_iload hx hb dL_law_616 (lv_at hl 6 rfl) ?_
  refine lv_iconst (v := 4) hx hb dL_law_618 (by decide) ?_
  refine lv_iadd hx hb dL_law_619 ?_
  refine va_sld hx hb hX hsb hsA hS hi4 dL_law_620 ?_
  refine lv_aload_n hx hb dL_law_621 rfl (lv_at hl 1 rfl) ?_
  refine lv_iload hx hb dL_law_622 (lv_at hl 6 rfl) ?_
  refine lv_iconst (v := 5) hx hb dL_law_624 (by decide) ?_
  refine lv_iadd hx hb dL_law_625 ?_
  refine va_sld hx hb hX hsb hsA hS hi5 dL_law_626 ?_
  refine lv_aload_n hx hb dL_law_627 rfl (lv_at hl 1 rfl) ?_
  refine lv_iload hx hb dL_law_628 (lv_at hl 6 rfl) ?_
  refine lv_bipush (v := 6) hx hb dL_law_630 (by decide) ?_
  refine lv_iadd hx hb dL_law_632 ?_
  refine va_sld hx hb hX hsb hsA hS hi6 dL_law_633 ?_
  replace hP := zP_perm l_perm1 hP
  replace hD := zD_perm l_perm1 hD
  have hPc := lP_app hP
  have hDc := lD_app hD
  have hfr := z_free hDc hS hA
  refine va_calli (va_runV (As := [.int (xs (i + 1).toNatClampNeg), .int (xs (i + 2).toNatClampNeg), .int (xs (i + 3).toNatClampNeg), .int (xs (i + 4).toNatClampNeg), .int (xs (i + 5).toNatClampNeg), .int (xs (i + 6).toNatClampNeg)]) (rest := []) ⟨hx, hb, hml, hown, hts⟩ (c_X4_addLift l D cy b T H.size (xs (i + 1).toNatClampNeg) (xs (i + 2).toNatClampNeg) (xs (i + 3).toNatClampNeg) (xs (i + 4).toNatClampNeg) (xs (i + 5).toNatClampNeg) (xs (i + 6).toNatClampNeg) hr) (cwV 6 hts gL_law_X4_addLift rfl rfl rfl hd_X4_addLift ⟨Nat.le_of_ble_eq_true rfl, Nat.le_of_ble_eq_true rfl⟩) ⟨zJ_blind rI_blind, va_recv hK hPc (ci := 4) (q0 := 0) rfl rfl, zJ_at (rI_at hPc hK hDc)⟩ rfl rfl hl.1 rfl (lv_room (Nat.le_of_ble_eq_true rfl)) dL_law_634 ⟨by omega, by omega⟩) hS (fun q _ h => hfr q h) hfr (fun r9 u9 t H1 locs1 ht hvm hw hB hz hk hS => ?_)
  obtain ⟨hP1, hD1⟩ := hB
  rw [ht] at hP1
  subst hw
  obtain ⟨hP2, hD2⟩ := z_join (ws := (lOutD cy o2 outD) :: (lOut cy o1 res.2.2.2) :: xW cy a1 res.2.1 res.2.2.1) (wc := rW cy b T) (w1 := rW cy b rr.2) hP hD hk hfr hP1 hD1
  replace hP2 := zP_perm l_perm1.symm hP2
  replace hD2 := zD_perm l_perm1.symm hD2
  replace hP : va_P D xcl (lW cy a1 res.2.1 res.2.2.1 b rr.2 o1 res.2.2.2 o2 outD) H1 := hP2
  replace hD : va_D A (lW cy a1 res.2.1 res.2.2.1 b rr.2 o1 res.2.2.2 o2 outD) := hD2
  clear hP2 hD2 hP1 hD1 hk hz hPc hDc hfr hvm ht
  generalize H1 = H at hP hS ⊢
  refine lv_istore (lv' := [(7, .int rr.1), (6, .int res.1), (0, .ref sb), (1, .ref (a1.1 0)), (2, .ref (b 0)), (3, .ref o1), (4, .ref o2), (5, .int i)]) hx hb dL_law_637 hl (by decide) rfl (fun ls hl => ?_)
  refine lv_aload_n hx hb dL_law_639 rfl (lv_at hl 4 rfl) ?_
  have hPc := lP_app (zP_perm l_perm1 hP)
  have hDc := lD_app (zD_perm l_perm1 hD)
  refine zcSi (W.runV (As := []) (rest := []) ⟨hx, hb, hml, hown, hts⟩ (c_X4_thrown l D cy b rr.2 (res := rr.2.1 27) rfl) (cwV 0 hts gL_law_X4_thrown rfl rfl rfl hd_X4_thrown ⟨Nat.le_of_ble_eq_true rfl, Nat.le_of_ble_eq_true rfl⟩) ⟨rI_blind, va_recv hK hPc (ci := 4) (q0 := 0) rfl rfl, rI_at hPc hK hDc⟩ rfl rfl hl.1 rfl (lv_room (Nat.le_of_ble_eq_true rfl)) dL_law_640 ⟨by omega, by omega⟩) ?_
  refine lv_iload hx hb dL_law_643 (lv_at hl 1 rfl) ?_
  refine lv_icmp_eq (tgt := 650) hx hb dL_law_645 (by decide) (fun c0 => ?_) (fun c0 => absurd ht0 c0)
  refine lv_iload hx hb dL_law_650 (lv_at hl 1 rfl) ?_
  refine lv_if_ne (tgt := 667) hx hb dL_law_652 (by decide) (fun c0 => ?_) (fun c0 => ?_)
  · refine lv_goto (tgt := 2861) hx hb dL_law_667 (by decide) ?_
    refine W.widen (k := cells_ + 16) (n := slots_ + 130) (by omega) (by omega) ?_
    exact hk ha1 _ _ _ hP hD hS (lv_sub hl [2, 3, 4, 5, 6, 7] rfl)
  · refine lv_aload_n hx hb dL_law_655 rfl (lv_at hl 5 rfl) ?_
    refine lv_iconst (v := 0) hx hb dL_law_656 (by decide) ?_
    refine va_lald hx hb hK (zP_perm l_perm4 hP) 0 1 rfl rfl (show vp_in 0 1 from by unfold vp_in; decide) dL_law_657 ?_
    refine lv_iload hx hb dL_law_658 (lv_at hl 0 rfl) ?_
    refine lv_i2l (v := Int32.toInt64 rr.1) hx hb dL_law_660 rfl ?_
    refine W.lcmp hx hb dL_law_661 ?_
    refine lv_if_eq (tgt := 667) hx hb dL_law_662 (by decide) (fun c2 => ?_) (fun c2 => absurd (l_cmp (hv c0)) c2)
    refine lv_goto (tgt := 2861) hx hb dL_law_667 (by decide) ?_
    refine W.widen (k := cells_ + 16) (n := slots_ + 130) (by omega) (by omega) ?_
    exact hk ha1 _ _ _ hP hD hS (lv_sub hl [2, 3, 4, 5, 6, 7] rfl)
set_option maxHeartbeats 4000000 in
set_option maxRecDepth 100000 in
theorem l_case_5 (hC0 : lC p l s m args meth c D cy A sb L xs) {a : XA} {n : Nat → Nat} {V : XV} {b : Nat → Nat} {T : RV} {o1 o2 : Nat} {out : Nat → Int64} {outD : Nat → UInt64} {i : Int32} {H : Heap} {locs : List Loc} {ls : Array Slot} {cells_ slots_ : Nat} (hc1 : cells_ + 16 ≤ room_1.cells) (hc2 : slots_ + 130 ≤ room_1.slots) (hP : va_P D xcl (lW cy a n V b T o1 out o2 outD) H) (hD : va_D A (lW cy a n V b T o1 out o2 outD)) (hS : va_S A s.heap H locs) (hl : lv_has ls 9 [(0, .ref sb), (1, .ref (a.1 0)), (2, .ref (b 0)), (3, .ref o1), (4, .ref o2), (5, .int i)]) (hi1 : vp_in (i + 1) L) (hi2 : vp_in (i + 2) L) (hi3 : vp_in (i + 3) L) (hi4 : vp_in (i + 4) L) (hi5 : vp_in (i + 5) L) (hi6 : vp_in (i + 6) L) (hi7 : vp_in (i + 7) L) (hi8 : vp_in (i + 8) L) {res : Int32 × (Nat → Nat) × XV × (Nat → Int64)} {rr : Int32 × RV} (hf : f_L_addPour n V out (xs (i + 1).toNatClampNeg) (xs (i + 2).toNatClampNeg) (xs (i + 3).toNatClampNeg) (xs (i + 4).toNatClampNeg) (xs (i + 5).toNatClampNeg) (xs (i + 6).toNatClampNeg) (xs (i + 7).toNatClampNeg) (xs (i + 8).toNatClampNeg) = some res) (hr : f_X4_addPour T (xs (i + 1).toNatClampNeg) (xs (i + 2).toNatClampNeg) (xs (i + 3).toNatClampNeg) (xs (i + 4).toNatClampNeg) (xs (i + 5).toNatClampNeg) (xs (i + 6).toNatClampNeg) (xs (i + 7).toNatClampNeg) (xs (i + 8).toNatClampNeg) = some rr) (ht0 : rr.2.1 27 = res.1) (hv : res.1 = 0 → res.2.2.2 (0 : Int32).toNatClampNeg = Int32.toInt64 rr.1)
    (hk : ∀ {a1 : XA} (_ : a1.1 = a.1) (H : Heap) (locs : List Loc) (ls : Array Slot), va_P D xcl (lW cy a1 res.2.1 res.2.2.1 b rr.2 o1 res.2.2.2 o2 outD) H → va_D A (lW cy a1 res.2.1 res.2.2.1 b rr.2 o1 res.2.2.2 o2 outD) → va_S A s.heap H locs → lv_has ls 9 [(0, .ref sb), (1, .ref (a1.1 0)), (2, .ref (b 0)), (3, .ref o1), (4, .ref o2), (5, .int i)] → W p l e room_1 s m args below meth c H locs (cells_ + 16) (slots_ + 130) Q (F0 m 2861 ls [])) : W p l e room_1 s m args below meth c H locs cells_ slots_ Q (F0 m 670 ls []) := by
  obtain ⟨hl0, hx, hb, hml, hown, hts, hK, hA, hC, hZ, hX, hsb, hsA⟩ := hC0
  refine lv_aload_n hx hb dL_law_670 rfl (lv_at hl 1 rfl) ?_
  refine lv_aload_n hx hb dL_law_671 rfl (lv_at hl 0 rfl) ?_
  refine lv_iload hx hb dL_law_672 (lv_at hl 5 rfl) ?_
  refine lv_iconst (v := 1) hx hb dL_law_674 (by decide) ?_
  refine lv_iadd hx hb dL_law_675 ?_
  refine va_sld hx hb hX hsb hsA hS hi1 dL_law_676 ?_
  refine lv_aload_n hx hb dL_law_677 rfl (lv_at hl 0 rfl) ?_
  refine lv_iload hx hb dL_law_678 (lv_at hl 5 rfl) ?_
  refine lv_iconst (v := 2) hx hb dL_law_680 (by decide) ?_
  refine lv_iadd hx hb dL_law_681 ?_
  refine va_sld hx hb hX hsb hsA hS hi2 dL_law_682 ?_
  refine lv_aload_n hx hb dL_law_683 rfl (lv_at hl 0 rfl) ?_
  refine lv_iload hx hb dL_law_684 (lv_at hl 5 rfl) ?_
  refine lv_iconst (v := 3) hx hb dL_law_686 (by decide) ?_
  refine lv_iadd hx hb dL_law_687 ?_
  refine va_sld hx hb hX hsb hsA hS hi3 dL_law_688 ?_
  refine lv_aload_n hx hb dL_law_689 rfl (lv_at hl 0 rfl) ?_
  refine lv_iload hx hb dL_law_690 (lv_at hl 5 rfl) ?_
  refine lv_iconst (v := 4) hx hb dL_law_692 (by decide) ?_
  refine lv_iadd hx hb dL_law_693 ?_
  refine va_sld hx hb hX hsb hsA hS hi4 dL_law_694 ?_
  refine lv_aload_n hx hb dL_law_695 rfl (lv_at hl 0 rfl) ?_
  refine lv_iload hx hb dL_law_696 (lv_at hl 5 rfl) ?_
  refine lv_iconst (v := 5) hx hb dL_law_698 (by decide) ?_
  refine lv_iadd hx hb dL_law_699 ?_
  refine va_sld hx hb hX hsb hsA hS hi5 dL_law_700 ?_
  refine lv_aload_n hx hb dL_law_701 rfl (lv_at hl 0 rfl) ?_
  refine lv_iload hx hb dL_law_702 (lv_at hl 5 rfl) ?_
  refine lv_bipush (v := 6) hx hb dL_law_704 (by decide) ?_
  refine lv_iadd hx hb dL_law_706 ?_
  refine va_sld hx hb hX hsb hsA hS hi6 dL_law_707 ?_
  refine lv_aload_n hx hb dL_law_708 rfl (lv_at hl 0 rfl) ?_
  refine lv_iload hx hb dL_law_709 (lv_at hl 5 rfl) ?_
  refine lv_bipush (v := 7) hx hb dL_law_711 (by decide) ?_
  refine lv_iadd hx hb dL_law_713 ?_
  refine va_sld hx hb hX hsb hsA hS hi7 dL_law_714 ?_
  refine lv_aload_n hx hb dL_law_715 rfl (lv_at hl 0 rfl) ?_
  refine lv_iload hx hb dL_law_716 (lv_at hl 5 rfl) ?_
  refine lv_bipush (v := 8) hx hb dL_law_718 (by decide) ?_
  refine lv_iadd hx hb dL_law_720 ?_
  refine va_sld hx hb hX hsb hsA hS hi8 dL_law_721 ?_
  refine lv_aload_n hx hb dL_law_722 rfl (lv_at hl 3 rfl) ?_
  have hPc := lP_app hP
  have hDc := lD_app hD
  have hfr := z_free hDc hS hA
  refine va_calli (vx_runSW (As := [.ref (a.1 0), .int (xs (i + 1).toNatClampNeg), .int (xs (i + 2).toNatClampNeg), .int (xs (i + 3).toNatClampNeg), .int (xs (i + 4).toNatClampNeg), .int (xs (i + 5).toNatClampNeg), .int (xs (i + 6).toNatClampNeg), .int (xs (i + 7).toNatClampNeg), .int (xs (i + 8).toNatClampNeg), .ref o1]) (rest := []) ⟨hx, hb, hml, hown, hts⟩ (c_L_addPour l hl0 D cy a n V o1 out H.size (xs (i + 1).toNatClampNeg) (xs (i + 2).toNatClampNeg) (xs (i + 3).toNatClampNeg) (xs (i + 4).toNatClampNeg) (xs (i + 5).toNatClampNeg) (xs (i + 6).toNatClampNeg) (xs (i + 7).toNatClampNeg) (xs (i + 8).toNatClampNeg) hf) (vx_cwSW 10 hts gL_law_L_addPour rfl rfl rfl hd_L_addPour ⟨Nat.le_of_ble_eq_true rfl, Nat.le_of_ble_eq_true rfl⟩) ⟨lX_blind, lX_at hC hZ hS hfr hPc hK hDc⟩ rfl rfl hl.1 rfl (lv_room (Nat.le_of_ble_eq_true rfl)) dL_law_723 ⟨by omega, by omega⟩) hS (fun q _ h => hfr q h) hfr (fun r9 a1 t H1 locs1 ht hvm hw hB hz hk hS => ?_)
  obtain ⟨ha1, hP1, hD1⟩ := hB
  rw [ht] at hP1
  subst hw
  obtain ⟨hP2, hD2⟩ := z_join (ws := lOutD cy o2 outD :: rW cy b T) (wc := lOut cy o1 out :: xW cy a n V) (w1 := (o1, .inl (cy 1, 1, .inr (.inl res.2.2.2))) :: xW cy a1 res.2.1 res.2.2.1) hP hD hk hfr hP1 hD1
  replace hP : va_P D xcl (lW cy a1 res.2.1 res.2.2.1 b T o1 res.2.2.2 o2 outD) H1 := hP2
  replace hD : va_D A (lW cy a1 res.2.1 res.2.2.1 b T o1 res.2.2.2 o2 outD) := hD2
  clear hP2 hD2 hP1 hD1 hk hz hPc hDc hfr hvm ht
  generalize H1 = H at hP hS ⊢
  rw [← ha1] at hl
  refine lv_istore (lv' := [(6, .int res.1), (0, .ref sb), (1, .ref (a1.1 0)), (2, .ref (b 0)), (3, .ref o1), (4, .ref o2), (5, .int i)]) hx hb dL_law_726 hl (by decide) rfl (fun ls hl => ?_)
  refine lv_aload_n hx hb dL_law_728 rfl (lv_at hl 3 rfl) ?_
  refine lv_aload_n hx hb dL_law_729 rfl (lv_at hl 1 rfl) ?_
  refine lv_iload hx hb dL_law_730 (lv_at hl 6 rfl) ?_
  refine lv_iconst (v := 1) hx hb dL_law_732 (by decide) ?_
  refine lv_iadd hx hb dL_law_733 ?_
  refine va_sld hx hb hX hsb hsA hS hi1 dL_law_734 ?_
  refine lv_aload_n hx hb dL_law_735 rfl (lv_at hl 1 rfl) ?_
  refine lv_iload hx hb dL_law_736 (lv_at hl 6 rfl) ?_
  refine lv_iconst (v := 2) hx hb dL_law_738 (by decide) ?_
  refine lv_iadd hx hb dL_law_739 ?_
  refine va_sld hx hb hX hsb hsA hS hi2 dL_law_740 ?_
  refine lv_aload_n hx hb dL_law_741 rfl (lv_at hl 1 rfl) ?_
  refine lv_iload hx hb dL_law_742 (lv_at hl 6 rfl) ?_
  refine lv_iconst (v := 3) hx hb dL_law_744 (by decide) ?_
  refine lv_iadd hx hb dL_law_745 ?_
  refine va_sld hx hb hX hsb hsA hS hi3 dL_law_746 ?_
  refine lv_aload_n hx hb dL_law_747 rfl (lv_at hl 1 rfl) ?_
  refine lv_iload hx hb dL_law_748 (lv_at hl 6 rfl) ?_
  refine lv_iconst (v := 4) hx hb dL_law_750 (by decide) ?_
  refine lv_iadd hx hb dL_law_751 ?_
  refine va_sld hx hb hX hsb hsA hS hi4 dL_law_752 ?_
  refine lv_aload_n hx hb dL_law_753 rfl (lv_at hl 1 rfl) ?_
  refine lv_iload hx hb dL_law_754 (lv_at hl 6 rfl) ?_
  refine lv_iconst (v := 5) hx hb dL_law_756 (by decide) ?_
  refine lv_iadd hx hb dL_law_757 ?_
  refine va_sld hx hb hX hsb hsA hS hi5 dL_law_758 ?_
  refine lv_aload_n hx hb dL_law_759 rfl (lv_at hl 1 rfl) ?_
  refine lv_iload hx hb dL_law_760 (lv_at hl 6 rfl) ?_
  refine lv_bipush (v := 6) hx hb dL_law_762 (by decide) ?_
  refine lv_iadd hx hb dL_law_764 ?_
  refine va_sld hx hb hX hsb hsA hS hi6 dL_law_765 ?_
  refine lv_aload_n hx hb dL_law_766 rfl (lv_at hl 1 rfl) ?_
  refine lv_iload hx hb dL_law_767 (lv_at hl 6 rfl) ?_
  refine lv_bipush (v := 7) hx hb dL_law_769 (by decide) ?_
  refine lv_iadd hx hb dL_law_771 ?_
  refine va_sld hx hb hX hsb hsA hS hi7 dL_law_772 ?_
  refine lv_aload_n hx hb dL_law_773 rfl (lv_at hl 1 rfl) ?_
  refine lv_iload hx hb dL_law_774 (lv_at hl 6 rfl) ?_
  refine lv_bipush (v := 8) hx hb dL_law_776 (by decide) ?_
  refine lv_iadd hx hb dL_law_778 ?_
  refine va_sld hx hb hX hsb hsA hS hi8 dL_law_779 ?_
  replace hP := zP_perm l_perm1 hP
  replace hD := zD_perm l_perm1 hD
  have hPc := lP_app hP
  have hDc := lD_app hD
  have hfr := z_free hDc hS hA
  refine va_calli (va_runV (As := [.int (xs (i + 1).toNatClampNeg), .int (xs (i + 2).toNatClampNeg), .int (xs (i + 3).toNatClampNeg), .int (xs (i + 4).toNatClampNeg), .int (xs (i + 5).toNatClampNeg), .int (xs (i + 6).toNatClampNeg), .int (xs (i + 7).toNatClampNeg), .int (xs (i + 8).toNatClampNeg)]) (rest := []) ⟨hx, hb, hml, hown, hts⟩ (c_X4_addPour l D cy b T H.size (xs (i + 1).toNatClampNeg) (xs (i + 2).toNatClampNeg) (xs (i + 3).toNatClampNeg) (xs (i + 4).toNatClampNeg) (xs (i + 5).toNatClampNeg) (xs (i + 6).toNatClampNeg) (xs (i + 7).toNatClampNeg) (xs (i + 8).toNatClampNeg) hr) (cwV 8 hts gL_law_X4_addPour rfl rfl rfl hd_X4_addPour ⟨Nat.le_of_ble_eq_true rfl, Nat.le_of_ble_eq_true rfl⟩) ⟨zJ_blind rI_blind, va_recv hK hPc (ci := 4) (q0 := 0) rfl rfl, zJ_at (rI_at hPc hK hDc)⟩ rfl rfl hl.1 rfl (lv_room (Nat.le_of_ble_eq_true rfl)) dL_law_780 ⟨by omega, by omega⟩) hS (fun q _ h => hfr q h) hfr (fun r9 u9 t H1 locs1 ht hvm hw hB hz hk hS => ?_)
  obtain ⟨hP1, hD1⟩ := hB
  rw [ht] at hP1
  subst hw
  obtain ⟨hP2, hD2⟩ := z_join (ws := (lOutD cy o2 outD) :: (lOut cy o1 res.2.2.2) :: xW cy a1 res.2.1 res.2.2.1) (wc := rW cy b T) (w1 := rW cy b rr.2) hP hD hk hfr hP1 hD1
  replace hP2 := zP_perm l_perm1.symm hP2
  replace hD2 := zD_perm l_perm1.symm hD2
  replace hP : va_P D xcl (lW cy a1 res.2.1 res.2.2.1 b rr.2 o1 res.2.2.2 o2 outD) H1 := hP2
  replace hD : va_D A (lW cy a1 res.2.1 res.2.2.1 b rr.2 o1 res.2.2.2 o2 outD) := hD2
  clear hP2 hD2 hP1 hD1 hk hz hPc hDc hfr hvm ht
  generalize H1 = H at hP hS ⊢
  refine lv_istore (lv' := [(7, .int rr.1), (6, .int res.1), (0, .ref sb), (1, .ref (a1.1 0)), (2, .ref (b 0)), (3, .ref o1), (4, .ref o2), (5, .int i)]) hx hb dL_law_783 hl (by decide) rfl (fun ls hl => ?_)
  refine lv_aload_n hx hb dL_law_785 rfl (lv_at hl 4 rfl) ?_
  have hPc := lP_app (zP_perm l_perm1 hP)
  have hDc := lD_app (zD_perm l_perm1 hD)
  refine zcSi (W.runV (As := []) (rest := []) ⟨hx, hb, hml, hown, hts⟩ (c_X4_thrown l D cy b rr.2 (res := rr.2.1 27) rfl) (cwV 0 hts gL_law_X4_thrown rfl rfl rfl hd_X4_thrown ⟨Nat.le_of_ble_eq_true rfl, Nat.le_of_ble_eq_true rfl⟩) ⟨rI_blind, va_recv hK hPc (ci := 4) (q0 := 0) rfl rfl, rI_at hPc hK hDc⟩ rfl rfl hl.1 rfl (lv_room (Nat.le_of_ble_eq_true rfl)) dL_law_786 ⟨by omega, by omega⟩) ?_
  refine lv_iload hx hb dL_law_789 (lv_at hl 1 rfl) ?_
  refine lv_icmp_eq (tgt := 796) hx hb dL_law_791 (by decide) (fun c0 => ?_) (fun c0 => absurd ht0 c0)
  refine lv_iload hx hb dL_law_796 (lv_at hl 1 rfl) ?_
  refine lv_if_ne (tgt := 813) hx hb dL_law_798 (by decide) (fun c0 => ?_) (fun c0 => ?_)
  · refine lv_goto (tgt := 2861) hx hb dL_law_813 (by decide) ?_
    refine W.widen (k := cells_ + 16) (n := slots_ + 130) (by omega) (by omega) ?_
    exact hk ha1 _ _ _ hP hD hS (lv_sub hl [2, 3, 4, 5, 6, 7] rfl)
  · refine lv_aload_n hx hb dL_law_801 rfl (lv_at hl 5 rfl) ?_
    refine lv_iconst (v := 0) hx hb dL_law_802 (by decide) ?_
    refine va_lald hx hb hK (zP_perm l_perm4 hP) 0 1 rfl rfl (show vp_in 0 1 from by unfold vp_in; decide) dL_law_803 ?_
    refine lv_iload hx hb dL_law_804 (lv_at hl 0 rfl) ?_
    refine lv_i2l (v := Int32.toInt64 rr.1) hx hb dL_law_806 rfl ?_
    refine W.lcmp hx hb dL_law_807 ?_
    refine lv_if_eq (tgt := 813) hx hb dL_law_808 (by decide) (fun c2 => ?_) (fun c2 => absurd (l_cmp (hv c0)) c2)
    refine lv_goto (tgt := 2861) hx hb dL_law_813 (by decide) ?_
    refine W.widen (k := cells_ + 16) (n := slots_ + 130) (by omega) (by omega) ?_
    exact hk ha1 _ _ _ hP hD hS (lv_sub hl [2, 3, 4, 5, 6, 7] rfl)
set_option maxHeartbeats 4000000 in
set_option maxRecDepth 100000 in
theorem l_case_6 (hC0 : lC p l s m args meth c D cy A sb L xs) {a : XA} {n : Nat → Nat} {V : XV} {b : Nat → Nat} {T : RV} {o1 o2 : Nat} {out : Nat → Int64} {outD : Nat → UInt64} {i : Int32} {H : Heap} {locs : List Loc} {ls : Array Slot} {cells_ slots_ : Nat} (hc1 : cells_ + 16 ≤ room_1.cells) (hc2 : slots_ + 130 ≤ room_1.slots) (hP : va_P D xcl (lW cy a n V b T o1 out o2 outD) H) (hD : va_D A (lW cy a n V b T o1 out o2 outD)) (hS : va_S A s.heap H locs) (hl : lv_has ls 9 [(0, .ref sb), (1, .ref (a.1 0)), (2, .ref (b 0)), (3, .ref o1), (4, .ref o2), (5, .int i)]) (hi1 : vp_in (i + 1) L) (hi2 : vp_in (i + 2) L) {res : Int32 × (Nat → Nat) × XV × (Nat → Int64)} {rr : Int32 × RV} (hf : f_L_plan n V out (xs (i + 1).toNatClampNeg) (xs (i + 2).toNatClampNeg) = some res) (hr : f_X4_plan T (xs (i + 1).toNatClampNeg) (xs (i + 2).toNatClampNeg) = some rr) (ht0 : rr.2.1 27 = res.1) (hv : res.1 = 0 → res.2.2.2 (0 : Int32).toNatClampNeg = Int32.toInt64 rr.1)
    (hk : ∀ {a1 : XA} (_ : a1.1 = a.1) (H : Heap) (locs : List Loc) (ls : Array Slot), va_P D xcl (lW cy a1 res.2.1 res.2.2.1 b rr.2 o1 res.2.2.2 o2 outD) H → va_D A (lW cy a1 res.2.1 res.2.2.1 b rr.2 o1 res.2.2.2 o2 outD) → va_S A s.heap H locs → lv_has ls 9 [(0, .ref sb), (1, .ref (a1.1 0)), (2, .ref (b 0)), (3, .ref o1), (4, .ref o2), (5, .int i)] → W p l e room_1 s m args below meth c H locs (cells_ + 16) (slots_ + 130) Q (F0 m 2861 ls [])) : W p l e room_1 s m args below meth c H locs cells_ slots_ Q (F0 m 816 ls []) := by
  obtain ⟨hl0, hx, hb, hml, hown, hts, hK, hA, hC, hZ, hX, hsb, hsA⟩ := hC0
  refine lv_aload_n hx hb dL_law_816 rfl (lv_at hl 1 rfl) ?_
  refine lv_aload_n hx hb dL_law_817 rfl (lv_at hl 0 rfl) ?_
  refine lv_iload hx hb dL_law_818 (lv_at hl 5 rfl) ?_
  refine lv_iconst (v := 1) hx hb dL_law_820 (by decide) ?_
  refine lv_iadd hx hb dL_law_821 ?_
  refine va_sld hx hb hX hsb hsA hS hi1 dL_law_822 ?_
  refine lv_aload_n hx hb dL_law_823 rfl (lv_at hl 0 rfl) ?_
  refine lv_iload hx hb dL_law_824 (lv_at hl 5 rfl) ?_
  refine lv_iconst (v := 2) hx hb dL_law_826 (by decide) ?_
  refine lv_iadd hx hb dL_law_827 ?_
  refine va_sld hx hb hX hsb hsA hS hi2 dL_law_828 ?_
  refine lv_aload_n hx hb dL_law_829 rfl (lv_at hl 3 rfl) ?_
  have hPc := lP_app hP
  have hDc := lD_app hD
  have hfr := z_free hDc hS hA
  refine va_calli (vx_runSW (As := [.ref (a.1 0), .int (xs (i + 1).toNatClampNeg), .int (xs (i + 2).toNatClampNeg), .ref o1]) (rest := []) ⟨hx, hb, hml, hown, hts⟩ (c_L_plan l hl0 D cy a n V o1 out H.size (xs (i + 1).toNatClampNeg) (xs (i + 2).toNatClampNeg) hf) (vx_cwSW 4 hts gL_law_L_plan rfl rfl rfl hd_L_plan ⟨Nat.le_of_ble_eq_true rfl, Nat.le_of_ble_eq_true rfl⟩) ⟨lX_blind, lX_at hC hZ hS hfr hPc hK hDc⟩ rfl rfl hl.1 rfl (lv_room (Nat.le_of_ble_eq_true rfl)) dL_law_830 ⟨by omega, by omega⟩) hS (fun q _ h => hfr q h) hfr (fun r9 a1 t H1 locs1 ht hvm hw hB hz hk hS => ?_)
  obtain ⟨ha1, hP1, hD1⟩ := hB
  rw [ht] at hP1
  subst hw
  obtain ⟨hP2, hD2⟩ := z_join (ws := lOutD cy o2 outD :: rW cy b T) (wc := lOut cy o1 out :: xW cy a n V) (w1 := (o1, .inl (cy 1, 1, .inr (.inl res.2.2.2))) :: xW cy a1 res.2.1 res.2.2.1) hP hD hk hfr hP1 hD1
  replace hP : va_P D xcl (lW cy a1 res.2.1 res.2.2.1 b T o1 res.2.2.2 o2 outD) H1 := hP2
  replace hD : va_D A (lW cy a1 res.2.1 res.2.2.1 b T o1 res.2.2.2 o2 outD) := hD2
  clear hP2 hD2 hP1 hD1 hk hz hPc hDc hfr hvm ht
  generalize H1 = H at hP hS ⊢
  rw [← ha1] at hl
  refine lv_istore (lv' := [(6, .int res.1), (0, .ref sb), (1, .ref (a1.1 0)), (2, .ref (b 0)), (3, .ref o1), (4, .ref o2), (5, .int i)]) hx hb dL_law_833 hl (by decide) rfl (fun ls hl => ?_)
  refine lv_aload_n hx hb dL_law_835 rfl (lv_at hl 3 rfl) ?_
  refine lv_aload_n hx hb dL_law_836 rfl (lv_at hl 1 rfl) ?_
  refine lv_iload hx hb dL_law_837 (lv_at hl 6 rfl) ?_
  refine lv_iconst (v := 1) hx hb dL_law_839 (by decide) ?_
  refine lv_iadd hx hb dL_law_840 ?_
  refine va_sld hx hb hX hsb hsA hS hi1 dL_law_841 ?_
  refine lv_aload_n hx hb dL_law_842 rfl (lv_at hl 1 rfl) ?_
  refine lv_iload hx hb dL_law_843 (lv_at hl 6 rfl) ?_
  refine lv_iconst (v := 2) hx hb dL_law_845 (by decide) ?_
  refine lv_iadd hx hb dL_law_846 ?_
  refine va_sld hx hb hX hsb hsA hS hi2 dL_law_847 ?_
  replace hP := zP_perm l_perm1 hP
  replace hD := zD_perm l_perm1 hD
  have hPc := lP_app hP
  have hDc := lD_app hD
  have hfr := z_free hDc hS hA
  refine va_calli (va_runV (As := [.int (xs (i + 1).toNatClampNeg), .int (xs (i + 2).toNatClampNeg)]) (rest := []) ⟨hx, hb, hml, hown, hts⟩ (c_X4_plan l D cy b T H.size (xs (i + 1).toNatClampNeg) (xs (i + 2).toNatClampNeg) hr) (cwV 2 hts gL_law_X4_plan rfl rfl rfl hd_X4_plan ⟨Nat.le_of_ble_eq_true rfl, Nat.le_of_ble_eq_true rfl⟩) ⟨zJ_blind rI_blind, va_recv hK hPc (ci := 4) (q0 := 0) rfl rfl, zJ_at (rI_at hPc hK hDc)⟩ rfl rfl hl.1 rfl (lv_room (Nat.le_of_ble_eq_true rfl)) dL_law_848 ⟨by omega, by omega⟩) hS (fun q _ h => hfr q h) hfr (fun r9 u9 t H1 locs1 ht hvm hw hB hz hk hS => ?_)
  obtain ⟨hP1, hD1⟩ := hB
  rw [ht] at hP1
  subst hw
  obtain ⟨hP2, hD2⟩ := z_join (ws := (lOutD cy o2 outD) :: (lOut cy o1 res.2.2.2) :: xW cy a1 res.2.1 res.2.2.1) (wc := rW cy b T) (w1 := rW cy b rr.2) hP hD hk hfr hP1 hD1
  replace hP2 := zP_perm l_perm1.symm hP2
  replace hD2 := zD_perm l_perm1.symm hD2
  replace hP : va_P D xcl (lW cy a1 res.2.1 res.2.2.1 b rr.2 o1 res.2.2.2 o2 outD) H1 := hP2
  replace hD : va_D A (lW cy a1 res.2.1 res.2.2.1 b rr.2 o1 res.2.2.2 o2 outD) := hD2
  clear hP2 hD2 hP1 hD1 hk hz hPc hDc hfr hvm ht
  generalize H1 = H at hP hS ⊢
  refine lv_istore (lv' := [(7, .int rr.1), (6, .int res.1), (0, .ref sb), (1, .ref (a1.1 0)), (2, .ref (b 0)), (3, .ref o1), (4, .ref o2), (5, .int i)]) hx hb dL_law_851 hl (by decide) rfl (fun ls hl => ?_)
  refine lv_aload_n hx hb dL_law_853 rfl (lv_at hl 4 rfl) ?_
  have hPc := lP_app (zP_perm l_perm1 hP)
  have hDc := lD_app (zD_perm l_perm1 hD)
  refine zcSi (W.runV (As := []) (rest := []) ⟨hx, hb, hml, hown, hts⟩ (c_X4_thrown l D cy b rr.2 (res := rr.2.1 27) rfl) (cwV 0 hts gL_law_X4_thrown rfl rfl rfl hd_X4_thrown ⟨Nat.le_of_ble_eq_true rfl, Nat.le_of_ble_eq_true rfl⟩) ⟨rI_blind, va_recv hK hPc (ci := 4) (q0 := 0) rfl rfl, rI_at hPc hK hDc⟩ rfl rfl hl.1 rfl (lv_room (Nat.le_of_ble_eq_true rfl)) dL_law_854 ⟨by omega, by omega⟩) ?_
  refine lv_iload hx hb dL_law_857 (lv_at hl 1 rfl) ?_
  refine lv_icmp_eq (tgt := 864) hx hb dL_law_859 (by decide) (fun c0 => ?_) (fun c0 => absurd ht0 c0)
  refine lv_iload hx hb dL_law_864 (lv_at hl 1 rfl) ?_
  refine lv_if_ne (tgt := 881) hx hb dL_law_866 (by decide) (fun c0 => ?_) (fun c0 => ?_)
  · refine lv_goto (tgt := 2861) hx hb dL_law_881 (by decide) ?_
    refine W.widen (k := cells_ + 16) (n := slots_ + 130) (by omega) (by omega) ?_
    exact hk ha1 _ _ _ hP hD hS (lv_sub hl [2, 3, 4, 5, 6, 7] rfl)
  · refine lv_aload_n hx hb dL_law_869 rfl (lv_at hl 5 rfl) ?_
    refine lv_iconst (v := 0) hx hb dL_law_870 (by decide) ?_
    refine va_lald hx hb hK (zP_perm l_perm4 hP) 0 1 rfl rfl (show vp_in 0 1 from by unfold vp_in; decide) dL_law_871 ?_
    refine lv_iload hx hb dL_law_872 (lv_at hl 0 rfl) ?_
    refine lv_i2l (v := Int32.toInt64 rr.1) hx hb dL_law_874 rfl ?_
    refine W.lcmp hx hb dL_law_875 ?_
    refine lv_if_eq (tgt := 881) hx hb dL_law_876 (by decide) (fun c2 => ?_) (fun c2 => absurd (l_cmp (hv c0)) c2)
    refine lv_goto (tgt := 2861) hx hb dL_law_881 (by decide) ?_
    refine W.widen (k := cells_ + 16) (n := slots_ + 130) (by omega) (by omega) ?_
    exact hk ha1 _ _ _ hP hD hS (lv_sub hl [2, 3, 4, 5, 6, 7] rfl)
set_option maxHeartbeats 4000000 in
set_option maxRecDepth 100000 in
theorem l_case_7 (hC0 : lC p l s m args meth c D cy A sb L xs) {a : XA} {n : Nat → Nat} {V : XV} {b : Nat → Nat} {T : RV} {o1 o2 : Nat} {out : Nat → Int64} {outD : Nat → UInt64} {i : Int32} {H : Heap} {locs : List Loc} {ls : Array Slot} {cells_ slots_ : Nat} (hc1 : cells_ + 16 ≤ room_1.cells) (hc2 : slots_ + 130 ≤ room_1.slots) (hP : va_P D xcl (lW cy a n V b T o1 out o2 outD) H) (hD : va_D A (lW cy a n V b T o1 out o2 outD)) (hS : va_S A s.heap H locs) (hl : lv_has ls 9 [(0, .ref sb), (1, .ref (a.1 0)), (2, .ref (b 0)), (3, .ref o1), (4, .ref o2), (5, .int i)]) (hi1 : vp_in (i + 1) L) (hi2 : vp_in (i + 2) L) (hi3 : vp_in (i + 3) L) {res : Int32 × (Nat → Nat) × XV × (Nat → Int64)} {rr : Int32 × RV} (hf : f_L_planAt n V out (xs (i + 1).toNatClampNeg) (xs (i + 2).toNatClampNeg) (xs (i + 3).toNatClampNeg) = some res) (hr : f_X4_planAt T (xs (i + 1).toNatClampNeg) (xs (i + 2).toNatClampNeg) (xs (i + 3).toNatClampNeg) = some rr) (ht0 : rr.2.1 27 = res.1) (hv : res.1 = 0 → res.2.2.2 (0 : Int32).toNatClampNeg = Int32.toInt64 rr.1)
    (hk : ∀ {a1 : XA} (_ : a1.1 = a.1) (H : Heap) (locs : List Loc) (ls : Array Slot), va_P D xcl (lW cy a1 res.2.1 res.2.2.1 b rr.2 o1 res.2.2.2 o2 outD) H → va_D A (lW cy a1 res.2.1 res.2.2.1 b rr.2 o1 res.2.2.2 o2 outD) → va_S A s.heap H locs → lv_has ls 9 [(0, .ref sb), (1, .ref (a1.1 0)), (2, .ref (b 0)), (3, .ref o1), (4, .ref o2), (5, .int i)] → W p l e room_1 s m args below meth c H locs (cells_ + 16) (slots_ + 130) Q (F0 m 2861 ls [])) : W p l e room_1 s m args below meth c H locs cells_ slots_ Q (F0 m 884 ls []) := by
  obtain ⟨hl0, hx, hb, hml, hown, hts, hK, hA, hC, hZ, hX, hsb, hsA⟩ := hC0
  refine lv_aload_n hx hb dL_law_884 rfl (lv_at hl 1 rfl) ?_
  refine lv_aload_n hx hb dL_law_885 rfl (lv_at hl 0 rfl) ?_
  refine lv_iload hx hb dL_law_886 (lv_at hl 5 rfl) ?_
  refine lv_iconst (v := 1) hx hb dL_law_888 (by decide) ?_
  refine lv_iadd hx hb dL_law_889 ?_
  refine va_sld hx hb hX hsb hsA hS hi1 dL_law_890 ?_
  refine lv_aload_n hx hb dL_law_891 rfl (lv_at hl 0 rfl) ?_
  refine lv_iload hx hb dL_law_892 (lv_at hl 5 rfl) ?_
  refine lv_iconst (v := 2) hx hb dL_law_894 (by decide) ?_
  refine lv_iadd hx hb dL_law_895 ?_
  refine va_sld hx hb hX hsb hsA hS hi2 dL_law_896 ?_
  refine lv_aload_n hx hb dL_law_897 rfl (lv_at hl 0 rfl) ?_
  refine lv_iload hx hb dL_law_898 (lv_at hl 5 rfl) ?_
  refine lv_iconst (v := 3) hx hb dL_law_900 (by decide) ?_
  refine lv_iadd hx hb dL_law_901 ?_
  refine va_sld hx hb hX hsb hsA hS hi3 dL_law_902 ?_
  refine lv_aload_n hx hb dL_law_903 rfl (lv_at hl 3 rfl) ?_
  have hPc := lP_app hP
  have hDc := lD_app hD
  have hfr := z_free hDc hS hA
  refine va_calli (vx_runSW (As := [.ref (a.1 0), .int (xs (i + 1).toNatClampNeg), .int (xs (i + 2).toNatClampNeg), .int (xs (i + 3).toNatClampNeg), .ref o1]) (rest := []) ⟨hx, hb, hml, hown, hts⟩ (c_L_planAt l hl0 D cy a n V o1 out H.size (xs (i + 1).toNatClampNeg) (xs (i + 2).toNatClampNeg) (xs (i + 3).toNatClampNeg) hf) (vx_cwSW 5 hts gL_law_L_planAt rfl rfl rfl hd_L_planAt ⟨Nat.le_of_ble_eq_true rfl, Nat.le_of_ble_eq_true rfl⟩) ⟨lX_blind, lX_at hC hZ hS hfr hPc hK hDc⟩ rfl rfl hl.1 rfl (lv_room (Nat.le_of_ble_eq_true rfl)) dL_law_904 ⟨by omega, by omega⟩) hS (fun q _ h => hfr q h) hfr (fun r9 a1 t H1 locs1 ht hvm hw hB hz hk hS => ?_)
  obtain ⟨ha1, hP1, hD1⟩ := hB
  rw [ht] at hP1
  subst hw
  obtain ⟨hP2, hD2⟩ := z_join (ws := lOutD cy o2 outD :: rW cy b T) (wc := lOut cy o1 out :: xW cy a n V) (w1 := (o1, .inl (cy 1, 1, .inr (.inl res.2.2.2))) :: xW cy a1 res.2.1 res.2.2.1) hP hD hk hfr hP1 hD1
  replace hP : va_P D xcl (lW cy a1 res.2.1 res.2.2.1 b T o1 res.2.2.2 o2 outD) H1 := hP2
  replace hD : va_D A (lW cy a1 res.2.1 res.2.2.1 b T o1 res.2.2.2 o2 outD) := hD2
  clear hP2 hD2 hP1 hD1 hk hz hPc hDc hfr hvm ht
  generalize H1 = H at hP hS ⊢
  rw [← ha1] at hl
  refine lv_istore (lv' := [(6, .int res.1), (0, .ref sb), (1, .ref (a1.1 0)), (2, .ref (b 0)), (3, .ref o1), (4, .ref o2), (5, .int i)]) hx hb dL_law_907 hl (by decide) rfl (fun ls hl => ?_)
  refine lv_aload_n hx hb dL_law_909 rfl (lv_at hl 3 rfl) ?_
  refine lv_aload_n hx hb dL_law_910 rfl (lv_at hl 1 rfl) ?_
  refine lv_iload hx hb dL_law_911 (lv_at hl 6 rfl) ?_
  refine lv_iconst (v := 1) hx hb dL_law_913 (by decide) ?_
  refine lv_iadd hx hb dL_law_914 ?_
  refine va_sld hx hb hX hsb hsA hS hi1 dL_law_915 ?_
  refine lv_aload_n hx hb dL_law_916 rfl (lv_at hl 1 rfl) ?_
  refine lv_iload hx hb dL_law_917 (lv_at hl 6 rfl) ?_
  refine lv_iconst (v := 2) hx hb dL_law_919 (by decide) ?_
  refine lv_iadd hx hb dL_law_920 ?_
  refine va_sld hx hb hX hsb hsA hS hi2 dL_law_921 ?_
  refine lv_aload_n hx hb dL_law_922 rfl (lv_at hl 1 rfl) ?_
  refine lv_iload hx hb dL_law_923 (lv_at hl 6 rfl) ?_
  refine lv_iconst (v := 3) hx hb dL_law_925 (by decide) ?_
  refine lv_iadd hx hb dL_law_926 ?_
  refine va_sld hx hb hX hsb hsA hS hi3 dL_law_927 ?_
  replace hP := zP_perm l_perm1 hP
  replace hD := zD_perm l_perm1 hD
  have hPc := lP_app hP
  have hDc := lD_app hD
  have hfr := z_free hDc hS hA
  refine va_calli (va_runV (As := [.int (xs (i + 1).toNatClampNeg), .int (xs (i + 2).toNatClampNeg), .int (xs (i + 3).toNatClampNeg)]) (rest := []) ⟨hx, hb, hml, hown, hts⟩ (c_X4_planAt l D cy b T H.size (xs (i + 1).toNatClampNeg) (xs (i + 2).toNatClampNeg) (xs (i + 3).toNatClampNeg) hr) (cwV 3 hts gL_law_X4_planAt rfl rfl rfl hd_X4_planAt ⟨Nat.le_of_ble_eq_true rfl, Nat.le_of_ble_eq_true rfl⟩) ⟨zJ_blind rI_blind, va_recv hK hPc (ci := 4) (q0 := 0) rfl rfl, zJ_at (rI_at hPc hK hDc)⟩ rfl rfl hl.1 rfl (lv_room (Nat.le_of_ble_eq_true rfl)) dL_law_928 ⟨by omega, by omega⟩) hS (fun q _ h => hfr q h) hfr (fun r9 u9 t H1 locs1 ht hvm hw hB hz hk hS => ?_)
  obtain ⟨hP1, hD1⟩ := hB
  rw [ht] at hP1
  subst hw
  obtain ⟨hP2, hD2⟩ := z_join (ws := (lOutD cy o2 outD) :: (lOut cy o1 res.2.2.2) :: xW cy a1 res.2.1 res.2.2.1) (wc := rW cy b T) (w1 := rW cy b rr.2) hP hD hk hfr hP1 hD1
  replace hP2 := zP_perm l_perm1.symm hP2
  replace hD2 := zD_perm l_perm1.symm hD2
  replace hP : va_P D xcl (lW cy a1 res.2.1 res.2.2.1 b rr.2 o1 res.2.2.2 o2 outD) H1 := hP2
  replace hD : va_D A (lW cy a1 res.2.1 res.2.2.1 b rr.2 o1 res.2.2.2 o2 outD) := hD2
  clear hP2 hD2 hP1 hD1 hk hz hPc hDc hfr hvm ht
  generalize H1 = H at hP hS ⊢
  refine lv_istore (lv' := [(7, .int rr.1), (6, .int res.1), (0, .ref sb), (1, .ref (a1.1 0)), (2, .ref (b 0)), (3, .ref o1), (4, .ref o2), (5, .int i)]) hx hb dL_law_931 hl (by decide) rfl (fun ls hl => ?_)
  refine lv_aload_n hx hb dL_law_933 rfl (lv_at hl 4 rfl) ?_
  have hPc := lP_app (zP_perm l_perm1 hP)
  have hDc := lD_app (zD_perm l_perm1 hD)
  refine zcSi (W.runV (As := []) (rest := []) ⟨hx, hb, hml, hown, hts⟩ (c_X4_thrown l D cy b rr.2 (res := rr.2.1 27) rfl) (cwV 0 hts gL_law_X4_thrown rfl rfl rfl hd_X4_thrown ⟨Nat.le_of_ble_eq_true rfl, Nat.le_of_ble_eq_true rfl⟩) ⟨rI_blind, va_recv hK hPc (ci := 4) (q0 := 0) rfl rfl, rI_at hPc hK hDc⟩ rfl rfl hl.1 rfl (lv_room (Nat.le_of_ble_eq_true rfl)) dL_law_934 ⟨by omega, by omega⟩) ?_
  refine lv_iload hx hb dL_law_937 (lv_at hl 1 rfl) ?_
  refine lv_icmp_eq (tgt := 944) hx hb dL_law_939 (by decide) (fun c0 => ?_) (fun c0 => absurd ht0 c0)
  refine lv_iload hx hb dL_law_944 (lv_at hl 1 rfl) ?_
  refine lv_if_ne (tgt := 961) hx hb dL_law_946 (by decide) (fun c0 => ?_) (fun c0 => ?_)
  · refine lv_goto (tgt := 2861) hx hb dL_law_961 (by decide) ?_
    refine W.widen (k := cells_ + 16) (n := slots_ + 130) (by omega) (by omega) ?_
    exact hk ha1 _ _ _ hP hD hS (lv_sub hl [2, 3, 4, 5, 6, 7] rfl)
  · refine lv_aload_n hx hb dL_law_949 rfl (lv_at hl 5 rfl) ?_
    refine lv_iconst (v := 0) hx hb dL_law_950 (by decide) ?_
    refine va_lald hx hb hK (zP_perm l_perm4 hP) 0 1 rfl rfl (show vp_in 0 1 from by unfold vp_in; decide) dL_law_951 ?_
    refine lv_iload hx hb dL_law_952 (lv_at hl 0 rfl) ?_
    refine lv_i2l (v := Int32.toInt64 rr.1) hx hb dL_law_954 rfl ?_
    refine W.lcmp hx hb dL_law_955 ?_
    refine lv_if_eq (tgt := 961) hx hb dL_law_956 (by decide) (fun c2 => ?_) (fun c2 => absurd (l_cmp (hv c0)) c2)
    refine lv_goto (tgt := 2861) hx hb dL_law_961 (by decide) ?_
    refine W.widen (k := cells_ + 16) (n := slots_ + 130) (by omega) (by omega) ?_
    exact hk ha1 _ _ _ hP hD hS (lv_sub hl [2, 3, 4, 5, 6, 7] rfl)
set_option maxHeartbeats 4000000 in
set_option maxRecDepth 100000 in
theorem l_case_8 (hC0 : lC p l s m args meth c D cy A sb L xs) {a : XA} {n : Nat → Nat} {V : XV} {b : Nat → Nat} {T : RV} {o1 o2 : Nat} {out : Nat → Int64} {outD : Nat → UInt64} {i : Int32} {H : Heap} {locs : List Loc} {ls : Array Slot} {cells_ slots_ : Nat} (hc1 : cells_ + 16 ≤ room_1.cells) (hc2 : slots_ + 130 ≤ room_1.slots) (hP : va_P D xcl (lW cy a n V b T o1 out o2 outD) H) (hD : va_D A (lW cy a n V b T o1 out o2 outD)) (hS : va_S A s.heap H locs) (hl : lv_has ls 9 [(0, .ref sb), (1, .ref (a.1 0)), (2, .ref (b 0)), (3, .ref o1), (4, .ref o2), (5, .int i)]) (hi1 : vp_in (i + 1) L) (hi2 : vp_in (i + 2) L) {res : Int32 × (Nat → Nat) × XV × (Nat → Int64)} {rr : Int32 × RV} (hf : f_L_planPour n V out (xs (i + 1).toNatClampNeg) (xs (i + 2).toNatClampNeg) = some res) (hr : f_X4_planPour T (xs (i + 1).toNatClampNeg) (xs (i + 2).toNatClampNeg) = some rr) (ht0 : rr.2.1 27 = res.1) (hv : res.1 = 0 → res.2.2.2 (0 : Int32).toNatClampNeg = Int32.toInt64 rr.1)
    (hk : ∀ {a1 : XA} (_ : a1.1 = a.1) (H : Heap) (locs : List Loc) (ls : Array Slot), va_P D xcl (lW cy a1 res.2.1 res.2.2.1 b rr.2 o1 res.2.2.2 o2 outD) H → va_D A (lW cy a1 res.2.1 res.2.2.1 b rr.2 o1 res.2.2.2 o2 outD) → va_S A s.heap H locs → lv_has ls 9 [(0, .ref sb), (1, .ref (a1.1 0)), (2, .ref (b 0)), (3, .ref o1), (4, .ref o2), (5, .int i)] → W p l e room_1 s m args below meth c H locs (cells_ + 16) (slots_ + 130) Q (F0 m 2861 ls [])) : W p l e room_1 s m args below meth c H locs cells_ slots_ Q (F0 m 964 ls []) := by
  obtain ⟨hl0, hx, hb, hml, hown, hts, hK, hA, hC, hZ, hX, hsb, hsA⟩ := hC0
  refine lv_aload_n hx hb dL_law_964 rfl (lv_at hl 1 rfl) ?_
  refine lv_aload_n hx hb dL_law_965 rfl (lv_at hl 0 rfl) ?_
  refine lv_iload hx hb dL_law_966 (lv_at hl 5 rfl) ?_
  refine lv_iconst (v := 1) hx hb dL_law_968 (by decide) ?_
  refine lv_iadd hx hb dL_law_969 ?_
  refine va_sld hx hb hX hsb hsA hS hi1 dL_law_970 ?_
  refine lv_aload_n hx hb dL_law_971 rfl (lv_at hl 0 rfl) ?_
  refine lv_iload hx hb dL_law_972 (lv_at hl 5 rfl) ?_
  refine lv_iconst (v := 2) hx hb dL_law_974 (by decide) ?_
  refine lv_iadd hx hb dL_law_975 ?_
  refine va_sld hx hb hX hsb hsA hS hi2 dL_law_976 ?_
  refine lv_aload_n hx hb dL_law_977 rfl (lv_at hl 3 rfl) ?_
  have hPc := lP_app hP
  have hDc := lD_app hD
  have hfr := z_free hDc hS hA
  refine va_calli (vx_runSW (As := [.ref (a.1 0), .int (xs (i + 1).toNatClampNeg), .int (xs (i + 2).toNatClampNeg), .ref o1]) (rest := []) ⟨hx, hb, hml, hown, hts⟩ (c_L_planPour l hl0 D cy a n V o1 out H.size (xs (i + 1).toNatClampNeg) (xs (i + 2).toNatClampNeg) hf) (vx_cwSW 4 hts gL_law_L_planPour rfl rfl rfl hd_L_planPour ⟨Nat.le_of_ble_eq_true rfl, Nat.le_of_ble_eq_true rfl⟩) ⟨lX_blind, lX_at hC hZ hS hfr hPc hK hDc⟩ rfl rfl hl.1 rfl (lv_room (Nat.le_of_ble_eq_true rfl)) dL_law_978 ⟨by omega, by omega⟩) hS (fun q _ h => hfr q h) hfr (fun r9 a1 t H1 locs1 ht hvm hw hB hz hk hS => ?_)
  obtain ⟨ha1, hP1, hD1⟩ := hB
  rw [ht] at hP1
  subst hw
  obtain ⟨hP2, hD2⟩ := z_join (ws := lOutD cy o2 outD :: rW cy b T) (wc := lOut cy o1 out :: xW cy a n V) (w1 := (o1, .inl (cy 1, 1, .inr (.inl res.2.2.2))) :: xW cy a1 res.2.1 res.2.2.1) hP hD hk hfr hP1 hD1
  replace hP : va_P D xcl (lW cy a1 res.2.1 res.2.2.1 b T o1 res.2.2.2 o2 outD) H1 := hP2
  replace hD : va_D A (lW cy a1 res.2.1 res.2.2.1 b T o1 res.2.2.2 o2 outD) := hD2
  clear hP2 hD2 hP1 hD1 hk hz hPc hDc hfr hvm ht
  generalize H1 = H at hP hS ⊢
  rw [← ha1] at hl
  refine lv_istore (lv' := [(6, .int res.1), (0, .ref sb), (1, .ref (a1.1 0)), (2, .ref (b 0)), (3, .ref o1), (4, .ref o2), (5, .int i)]) hx hb dL_law_981 hl (by decide) rfl (fun ls hl => ?_)
  refine lv_aload_n hx hb dL_law_983 rfl (lv_at hl 3 rfl) ?_
  refine lv_aload_n hx hb dL_law_984 rfl (lv_at hl 1 rfl) ?_
  refine lv_iload hx hb dL_law_985 (lv_at hl 6 rfl) ?_
  refine lv_iconst (v := 1) hx hb dL_law_987 (by decide) ?_
  refine lv_iadd hx hb dL_law_988 ?_
  refine va_sld hx hb hX hsb hsA hS hi1 dL_law_989 ?_
  refine lv_aload_n hx hb dL_law_990 rfl (lv_at hl 1 rfl) ?_
  refine lv_iload hx hb dL_law_991 (lv_at hl 6 rfl) ?_
  refine lv_iconst (v := 2) hx hb dL_law_993 (by decide) ?_
  refine lv_iadd hx hb dL_law_994 ?_
  refine va_sld hx hb hX hsb hsA hS hi2 dL_law_995 ?_
  replace hP := zP_perm l_perm1 hP
  replace hD := zD_perm l_perm1 hD
  have hPc := lP_app hP
  have hDc := lD_app hD
  have hfr := z_free hDc hS hA
  refine va_calli (va_runV (As := [.int (xs (i + 1).toNatClampNeg), .int (xs (i + 2).toNatClampNeg)]) (rest := []) ⟨hx, hb, hml, hown, hts⟩ (c_X4_planPour l D cy b T H.size (xs (i + 1).toNatClampNeg) (xs (i + 2).toNatClampNeg) hr) (cwV 2 hts gL_law_X4_planPour rfl rfl rfl hd_X4_planPour ⟨Nat.le_of_ble_eq_true rfl, Nat.le_of_ble_eq_true rfl⟩) ⟨zJ_blind rI_blind, va_recv hK hPc (ci := 4) (q0 := 0) rfl rfl, zJ_at (rI_at hPc hK hDc)⟩ rfl rfl hl.1 rfl (lv_room (Nat.le_of_ble_eq_true rfl)) dL_law_996 ⟨by omega, by omega⟩) hS (fun q _ h => hfr q h) hfr (fun r9 u9 t H1 locs1 ht hvm hw hB hz hk hS => ?_)
  obtain ⟨hP1, hD1⟩ := hB
  rw [ht] at hP1
  subst hw
  obtain ⟨hP2, hD2⟩ := z_join (ws := (lOutD cy o2 outD) :: (lOut cy o1 res.2.2.2) :: xW cy a1 res.2.1 res.2.2.1) (wc := rW cy b T) (w1 := rW cy b rr.2) hP hD hk hfr hP1 hD1
  replace hP2 := zP_perm l_perm1.symm hP2
  replace hD2 := zD_perm l_perm1.symm hD2
  replace hP : va_P D xcl (lW cy a1 res.2.1 res.2.2.1 b rr.2 o1 res.2.2.2 o2 outD) H1 := hP2
  replace hD : va_D A (lW cy a1 res.2.1 res.2.2.1 b rr.2 o1 res.2.2.2 o2 outD) := hD2
  clear hP2 hD2 hP1 hD1 hk hz hPc hDc hfr hvm ht
  generalize H1 = H at hP hS ⊢
  refine lv_istore (lv' := [(7, .int rr.1), (6, .int res.1), (0, .ref sb), (1, .ref (a1.1 0)), (2, .ref (b 0)), (3, .ref o1), (4, .ref o2), (5, .int i)]) hx hb dL_law_999 hl (by decide) rfl (fun ls hl => ?_)
  refine lv_aload_n hx hb dL_law_1001 rfl (lv_at hl 4 rfl) ?_
  have hPc := lP_app (zP_perm l_perm1 hP)
  have hDc := lD_app (zD_perm l_perm1 hD)
  refine zcSi (W.runV (As := []) (rest := []) ⟨hx, hb, hml, hown, hts⟩ (c_X4_thrown l D cy b rr.2 (res := rr.2.1 27) rfl) (cwV 0 hts gL_law_X4_thrown rfl rfl rfl hd_X4_thrown ⟨Nat.le_of_ble_eq_true rfl, Nat.le_of_ble_eq_true rfl⟩) ⟨rI_blind, va_recv hK hPc (ci := 4) (q0 := 0) rfl rfl, rI_at hPc hK hDc⟩ rfl rfl hl.1 rfl (lv_room (Nat.le_of_ble_eq_true rfl)) dL_law_1002 ⟨by omega, by omega⟩) ?_
  refine lv_iload hx hb dL_law_1005 (lv_at hl 1 rfl) ?_
  refine lv_icmp_eq (tgt := 1012) hx hb dL_law_1007 (by decide) (fun c0 => ?_) (fun c0 => absurd ht0 c0)
  refine lv_iload hx hb dL_law_1012 (lv_at hl 1 rfl) ?_
  refine lv_if_ne (tgt := 1029) hx hb dL_law_1014 (by decide) (fun c0 => ?_) (fun c0 => ?_)
  · refine lv_goto (tgt := 2861) hx hb dL_law_1029 (by decide) ?_
    refine W.widen (k := cells_ + 16) (n := slots_ + 130) (by omega) (by omega) ?_
    exact hk ha1 _ _ _ hP hD hS (lv_sub hl [2, 3, 4, 5, 6, 7] rfl)
  · refine lv_aload_n hx hb dL_law_1017 rfl (lv_at hl 5 rfl) ?_
    refine lv_iconst (v := 0) hx hb dL_law_1018 (by decide) ?_
    refine va_lald hx hb hK (zP_perm l_perm4 hP) 0 1 rfl rfl (show vp_in 0 1 from by unfold vp_in; decide) dL_law_1019 ?_
    refine lv_iload hx hb dL_law_1020 (lv_at hl 0 rfl) ?_
    refine lv_i2l (v := Int32.toInt64 rr.1) hx hb dL_law_1022 rfl ?_
    refine W.lcmp hx hb dL_law_1023 ?_
    refine lv_if_eq (tgt := 1029) hx hb dL_law_1024 (by decide) (fun c2 => ?_) (fun c2 => absurd (l_cmp (hv c0)) c2)
    refine lv_goto (tgt := 2861) hx hb dL_law_1029 (by decide) ?_
    refine W.widen (k := cells_ + 16) (n := slots_ + 130) (by omega) (by omega) ?_
    exact hk ha1 _ _ _ hP hD hS (lv_sub hl [2, 3, 4, 5, 6, 7] rfl)
set_option maxHeartbeats 4000000 in
set_option maxRecDepth 100000 in
theorem l_case_9 (hC0 : lC p l s m args meth c D cy A sb L xs) {a : XA} {n : Nat → Nat} {V : XV} {b : Nat → Nat} {T : RV} {o1 o2 : Nat} {out : Nat → Int64} {outD : Nat → UInt64} {i : Int32} {H : Heap} {locs : List Loc} {ls : Array Slot} {cells_ slots_ : Nat} (hc1 : cells_ + 16 ≤ room_1.cells) (hc2 : slots_ + 130 ≤ room_1.slots) (hP : va_P D xcl (lW cy a n V b T o1 out o2 outD) H) (hD : va_D A (lW cy a n V b T o1 out o2 outD)) (hS : va_S A s.heap H locs) (hl : lv_has ls 9 [(0, .ref sb), (1, .ref (a.1 0)), (2, .ref (b 0)), (3, .ref o1), (4, .ref o2), (5, .int i)]) (hi1 : vp_in (i + 1) L) {res : Int32 × (Nat → Nat) × XV × (Nat → Int64)} {rr : Int32 × RV} (hf : f_L_unplan n V out (xs (i + 1).toNatClampNeg) = some res) (hr : f_X4_unplan T (xs (i + 1).toNatClampNeg) = some rr) (ht0 : rr.2.1 27 = res.1) (hv : res.1 = 0 → res.2.2.2 (0 : Int32).toNatClampNeg = Int32.toInt64 rr.1)
    (hk : ∀ {a1 : XA} (_ : a1.1 = a.1) (H : Heap) (locs : List Loc) (ls : Array Slot), va_P D xcl (lW cy a1 res.2.1 res.2.2.1 b rr.2 o1 res.2.2.2 o2 outD) H → va_D A (lW cy a1 res.2.1 res.2.2.1 b rr.2 o1 res.2.2.2 o2 outD) → va_S A s.heap H locs → lv_has ls 9 [(0, .ref sb), (1, .ref (a1.1 0)), (2, .ref (b 0)), (3, .ref o1), (4, .ref o2), (5, .int i)] → W p l e room_1 s m args below meth c H locs (cells_ + 16) (slots_ + 130) Q (F0 m 2861 ls [])) : W p l e room_1 s m args below meth c H locs cells_ slots_ Q (F0 m 1032 ls []) := by
  obtain ⟨hl0, hx, hb, hml, hown, hts, hK, hA, hC, hZ, hX, hsb, hsA⟩ := hC0
  refine lv_aload_n hx hb dL_law_1032 rfl (lv_at hl 1 rfl) ?_
  refine lv_aload_n hx hb dL_law_1033 rfl (lv_at hl 0 rfl) ?_
  refine lv_iload hx hb dL_law_1034 (lv_at hl 5 rfl) ?_
  refine lv_iconst (v := 1) hx hb dL_law_1036 (by decide) ?_
  refine lv_iadd hx hb dL_law_1037 ?_
  refine va_sld hx hb hX hsb hsA hS hi1 dL_law_1038 ?_
  refine lv_aload_n hx hb dL_law_1039 rfl (lv_at hl 3 rfl) ?_
  have hPc := lP_app hP
  have hDc := lD_app hD
  have hfr := z_free hDc hS hA
  refine va_calli (vx_runSW (As := [.ref (a.1 0), .int (xs (i + 1).toNatClampNeg), .ref o1]) (rest := []) ⟨hx, hb, hml, hown, hts⟩ (c_L_unplan l hl0 D cy a n V o1 out H.size (xs (i + 1).toNatClampNeg) hf) (vx_cwSW 3 hts gL_law_L_unplan rfl rfl rfl hd_L_unplan ⟨Nat.le_of_ble_eq_true rfl, Nat.le_of_ble_eq_true rfl⟩) ⟨lX_blind, lX_at hC hZ hS hfr hPc hK hDc⟩ rfl rfl hl.1 rfl (lv_room (Nat.le_of_ble_eq_true rfl)) dL_law_1040 ⟨by omega, by omega⟩) hS (fun q _ h => hfr q h) hfr (fun r9 a1 t H1 locs1 ht hvm hw hB hz hk hS => ?_)
  obtain ⟨ha1, hP1, hD1⟩ := hB
  rw [ht] at hP1
  subst hw
  obtain ⟨hP2, hD2⟩ := z_join (ws := lOutD cy o2 outD :: rW cy b T) (wc := lOut cy o1 out :: xW cy a n V) (w1 := (o1, .inl (cy 1, 1, .inr (.inl res.2.2.2))) :: xW cy a1 res.2.1 res.2.2.1) hP hD hk hfr hP1 hD1
  replace hP : va_P D xcl (lW cy a1 res.2.1 res.2.2.1 b T o1 res.2.2.2 o2 outD) H1 := hP2
  replace hD : va_D A (lW cy a1 res.2.1 res.2.2.1 b T o1 res.2.2.2 o2 outD) := hD2
  clear hP2 hD2 hP1 hD1 hk hz hPc hDc hfr hvm ht
  generalize H1 = H at hP hS ⊢
  rw [← ha1] at hl
  refine lv_istore (lv' := [(6, .int res.1), (0, .ref sb), (1, .ref (a1.1 0)), (2, .ref (b 0)), (3, .ref o1), (4, .ref o2), (5, .int i)]) hx hb dL_law_1043 hl (by decide) rfl (fun ls hl => ?_)
  refine lv_aload_n hx hb dL_law_1045 rfl (lv_at hl 3 rfl) ?_
  refine lv_aload_n hx hb dL_law_1046 rfl (lv_at hl 1 rfl) ?_
  refine lv_iload hx hb dL_law_1047 (lv_at hl 6 rfl) ?_
  refine lv_iconst (v := 1) hx hb dL_law_1049 (by decide) ?_
  refine lv_iadd hx hb dL_law_1050 ?_
  refine va_sld hx hb hX hsb hsA hS hi1 dL_law_1051 ?_
  replace hP := zP_perm l_perm1 hP
  replace hD := zD_perm l_perm1 hD
  have hPc := lP_app hP
  have hDc := lD_app hD
  have hfr := z_free hDc hS hA
  refine va_calli (va_runV (As := [.int (xs (i + 1).toNatClampNeg)]) (rest := []) ⟨hx, hb, hml, hown, hts⟩ (c_X4_unplan l D cy b T H.size (xs (i + 1).toNatClampNeg) hr) (cwV 1 hts gL_law_X4_unplan rfl rfl rfl hd_X4_unplan ⟨Nat.le_of_ble_eq_true rfl, Nat.le_of_ble_eq_true rfl⟩) ⟨zJ_blind rI_blind, va_recv hK hPc (ci := 4) (q0 := 0) rfl rfl, zJ_at (rI_at hPc hK hDc)⟩ rfl rfl hl.1 rfl (lv_room (Nat.le_of_ble_eq_true rfl)) dL_law_1052 ⟨by omega, by omega⟩) hS (fun q _ h => hfr q h) hfr (fun r9 u9 t H1 locs1 ht hvm hw hB hz hk hS => ?_)
  obtain ⟨hP1, hD1⟩ := hB
  rw [ht] at hP1
  subst hw
  obtain ⟨hP2, hD2⟩ := z_join (ws := (lOutD cy o2 outD) :: (lOut cy o1 res.2.2.2) :: xW cy a1 res.2.1 res.2.2.1) (wc := rW cy b T) (w1 := rW cy b rr.2) hP hD hk hfr hP1 hD1
  replace hP2 := zP_perm l_perm1.symm hP2
  replace hD2 := zD_perm l_perm1.symm hD2
  replace hP : va_P D xcl (lW cy a1 res.2.1 res.2.2.1 b rr.2 o1 res.2.2.2 o2 outD) H1 := hP2
  replace hD : va_D A (lW cy a1 res.2.1 res.2.2.1 b rr.2 o1 res.2.2.2 o2 outD) := hD2
  clear hP2 hD2 hP1 hD1 hk hz hPc hDc hfr hvm ht
  generalize H1 = H at hP hS ⊢
  refine lv_istore (lv' := [(7, .int rr.1), (6, .int res.1), (0, .ref sb), (1, .ref (a1.1 0)), (2, .ref (b 0)), (3, .ref o1), (4, .ref o2), (5, .int i)]) hx hb dL_law_1055 hl (by decide) rfl (fun ls hl => ?_)
  refine lv_aload_n hx hb dL_law_1057 rfl (lv_at hl 4 rfl) ?_
  have hPc := lP_app (zP_perm l_perm1 hP)
  have hDc := lD_app (zD_perm l_perm1 hD)
  refine zcSi (W.runV (As := []) (rest := []) ⟨hx, hb, hml, hown, hts⟩ (c_X4_thrown l D cy b rr.2 (res := rr.2.1 27) rfl) (cwV 0 hts gL_law_X4_thrown rfl rfl rfl hd_X4_thrown ⟨Nat.le_of_ble_eq_true rfl, Nat.le_of_ble_eq_true rfl⟩) ⟨rI_blind, va_recv hK hPc (ci := 4) (q0 := 0) rfl rfl, rI_at hPc hK hDc⟩ rfl rfl hl.1 rfl (lv_room (Nat.le_of_ble_eq_true rfl)) dL_law_1058 ⟨by omega, by omega⟩) ?_
  refine lv_iload hx hb dL_law_1061 (lv_at hl 1 rfl) ?_
  refine lv_icmp_eq (tgt := 1068) hx hb dL_law_1063 (by decide) (fun c0 => ?_) (fun c0 => absurd ht0 c0)
  refine lv_iload hx hb dL_law_1068 (lv_at hl 1 rfl) ?_
  refine lv_if_ne (tgt := 1085) hx hb dL_law_1070 (by decide) (fun c0 => ?_) (fun c0 => ?_)
  · refine lv_goto (tgt := 2861) hx hb dL_law_1085 (by decide) ?_
    refine W.widen (k := cells_ + 16) (n := slots_ + 130) (by omega) (by omega) ?_
    exact hk ha1 _ _ _ hP hD hS (lv_sub hl [2, 3, 4, 5, 6, 7] rfl)
  · refine lv_aload_n hx hb dL_law_1073 rfl (lv_at hl 5 rfl) ?_
    refine lv_iconst (v := 0) hx hb dL_law_1074 (by decide) ?_
    refine va_lald hx hb hK (zP_perm l_perm4 hP) 0 1 rfl rfl (show vp_in 0 1 from by unfold vp_in; decide) dL_law_1075 ?_
    refine lv_iload hx hb dL_law_1076 (lv_at hl 0 rfl) ?_
    refine lv_i2l (v := Int32.toInt64 rr.1) hx hb dL_law_1078 rfl ?_
    refine W.lcmp hx hb dL_law_1079 ?_
    refine lv_if_eq (tgt := 1085) hx hb dL_law_1080 (by decide) (fun c2 => ?_) (fun c2 => absurd (l_cmp (hv c0)) c2)
    refine lv_goto (tgt := 2861) hx hb dL_law_1085 (by decide) ?_
    refine W.widen (k := cells_ + 16) (n := slots_ + 130) (by omega) (by omega) ?_
    exact hk ha1 _ _ _ hP hD hS (lv_sub hl [2, 3, 4, 5, 6, 7] rfl)
set_option maxHeartbeats 4000000 in
set_option maxRecDepth 100000 in
theorem l_case_10 (hC0 : lC p l s m args meth c D cy A sb L xs) {a : XA} {n : Nat → Nat} {V : XV} {b : Nat → Nat} {T : RV} {o1 o2 : Nat} {out : Nat → Int64} {outD : Nat → UInt64} {i : Int32} {H : Heap} {locs : List Loc} {ls : Array Slot} {cells_ slots_ : Nat} (hc1 : cells_ + 16 ≤ room_1.cells) (hc2 : slots_ + 130 ≤ room_1.slots) (hP : va_P D xcl (lW cy a n V b T o1 out o2 outD) H) (hD : va_D A (lW cy a n V b T o1 out o2 outD)) (hS : va_S A s.heap H locs) (hl : lv_has ls 9 [(0, .ref sb), (1, .ref (a.1 0)), (2, .ref (b 0)), (3, .ref o1), (4, .ref o2), (5, .int i)]) (hi1 : vp_in (i + 1) L) {res : Int32 × (Nat → Nat) × XV × (Nat → Int64)} {rr : Int32 × RV} (hf : f_L_pass n V out (xs (i + 1).toNatClampNeg) = some res) (hr : f_X4_pass T (xs (i + 1).toNatClampNeg) = some rr) (ht0 : rr.2.1 27 = res.1) (hv : res.1 = 0 → res.2.2.2 (0 : Int32).toNatClampNeg = Int32.toInt64 rr.1)
    (hk : ∀ {a1 : XA} (_ : a1.1 = a.1) (H : Heap) (locs : List Loc) (ls : Array Slot), va_P D xcl (lW cy a1 res.2.1 res.2.2.1 b rr.2 o1 res.2.2.2 o2 outD) H → va_D A (lW cy a1 res.2.1 res.2.2.1 b rr.2 o1 res.2.2.2 o2 outD) → va_S A s.heap H locs → lv_has ls 9 [(0, .ref sb), (1, .ref (a1.1 0)), (2, .ref (b 0)), (3, .ref o1), (4, .ref o2), (5, .int i)] → W p l e room_1 s m args below meth c H locs (cells_ + 16) (slots_ + 130) Q (F0 m 2861 ls [])) : W p l e room_1 s m args below meth c H locs cells_ slots_ Q (F0 m 1088 ls []) := by
  obtain ⟨hl0, hx, hb, hml, hown, hts, hK, hA, hC, hZ, hX, hsb, hsA⟩ := hC0
  refine lv_aload_n hx hb dL_law_1088 rfl (lv_at hl 1 rfl) ?_
  refine lv_aload_n hx hb dL_law_1089 rfl (lv_at hl 0 rfl) ?_
  refine lv_iload hx hb dL_law_1090 (lv_at hl 5 rfl) ?_
  refine lv_iconst (v := 1) hx hb dL_law_1092 (by decide) ?_
  refine lv_iadd hx hb dL_law_1093 ?_
  refine va_sld hx hb hX hsb hsA hS hi1 dL_law_1094 ?_
  refine lv_aload_n hx hb dL_law_1095 rfl (lv_at hl 3 rfl) ?_
  have hPc := lP_app hP
  have hDc := lD_app hD
  have hfr := z_free hDc hS hA
  refine va_calli (vx_runSW (As := [.ref (a.1 0), .int (xs (i + 1).toNatClampNeg), .ref o1]) (rest := []) ⟨hx, hb, hml, hown, hts⟩ (c_L_pass l hl0 D cy a n V o1 out H.size (xs (i + 1).toNatClampNeg) hf) (vx_cwSW 3 hts gL_law_L_pass rfl rfl rfl hd_L_pass ⟨Nat.le_of_ble_eq_true rfl, Nat.le_of_ble_eq_true rfl⟩) ⟨lX_blind, lX_at hC hZ hS hfr hPc hK hDc⟩ rfl rfl hl.1 rfl (lv_room (Nat.le_of_ble_eq_true rfl)) dL_law_1096 ⟨by omega, by omega⟩) hS (fun q _ h => hfr q h) hfr (fun r9 a1 t H1 locs1 ht hvm hw hB hz hk hS => ?_)
  obtain ⟨ha1, hP1, hD1⟩ := hB
  rw [ht] at hP1
  subst hw
  obtain ⟨hP2, hD2⟩ := z_join (ws := lOutD cy o2 outD :: rW cy b T) (wc := lOut cy o1 out :: xW cy a n V) (w1 := (o1, .inl (cy 1, 1, .inr (.inl res.2.2.2))) :: xW cy a1 res.2.1 res.2.2.1) hP hD hk hfr hP1 hD1
  replace hP : va_P D xcl (lW cy a1 res.2.1 res.2.2.1 b T o1 res.2.2.2 o2 outD) H1 := hP2
  replace hD : va_D A (lW cy a1 res.2.1 res.2.2.1 b T o1 res.2.2.2 o2 outD) := hD2
  clear hP2 hD2 hP1 hD1 hk hz hPc hDc hfr hvm ht
  generalize H1 = H at hP hS ⊢
  rw [← ha1] at hl
  refine lv_istore (lv' := [(6, .int res.1), (0, .ref sb), (1, .ref (a1.1 0)), (2, .ref (b 0)), (3, .ref o1), (4, .ref o2), (5, .int i)]) hx hb dL_law_1099 hl (by decide) rfl (fun ls hl => ?_)
  refine lv_aload_n hx hb dL_law_1101 rfl (lv_at hl 3 rfl) ?_
  refine lv_aload_n hx hb dL_law_1102 rfl (lv_at hl 1 rfl) ?_
  refine lv_iload hx hb dL_law_1103 (lv_at hl 6 rfl) ?_
  refine lv_iconst (v := 1) hx hb dL_law_1105 (by decide) ?_
  refine lv_iadd hx hb dL_law_1106 ?_
  refine va_sld hx hb hX hsb hsA hS hi1 dL_law_1107 ?_
  replace hP := zP_perm l_perm1 hP
  replace hD := zD_perm l_perm1 hD
  have hPc := lP_app hP
  have hDc := lD_app hD
  have hfr := z_free hDc hS hA
  refine va_calli (va_runV (As := [.int (xs (i + 1).toNatClampNeg)]) (rest := []) ⟨hx, hb, hml, hown, hts⟩ (c_X4_pass l D cy b T H.size (xs (i + 1).toNatClampNeg) hr) (cwV 1 hts gL_law_X4_pass rfl rfl rfl hd_X4_pass ⟨Nat.le_of_ble_eq_true rfl, Nat.le_of_ble_eq_true rfl⟩) ⟨zJ_blind rI_blind, va_recv hK hPc (ci := 4) (q0 := 0) rfl rfl, zJ_at (rI_at hPc hK hDc)⟩ rfl rfl hl.1 rfl (lv_room (Nat.le_of_ble_eq_true rfl)) dL_law_1108 ⟨by omega, by omega⟩) hS (fun q _ h => hfr q h) hfr (fun r9 u9 t H1 locs1 ht hvm hw hB hz hk hS => ?_)
  obtain ⟨hP1, hD1⟩ := hB
  rw [ht] at hP1
  subst hw
  obtain ⟨hP2, hD2⟩ := z_join (ws := (lOutD cy o2 outD) :: (lOut cy o1 res.2.2.2) :: xW cy a1 res.2.1 res.2.2.1) (wc := rW cy b T) (w1 := rW cy b rr.2) hP hD hk hfr hP1 hD1
  replace hP2 := zP_perm l_perm1.symm hP2
  replace hD2 := zD_perm l_perm1.symm hD2
  replace hP : va_P D xcl (lW cy a1 res.2.1 res.2.2.1 b rr.2 o1 res.2.2.2 o2 outD) H1 := hP2
  replace hD : va_D A (lW cy a1 res.2.1 res.2.2.1 b rr.2 o1 res.2.2.2 o2 outD) := hD2
  clear hP2 hD2 hP1 hD1 hk hz hPc hDc hfr hvm ht
  generalize H1 = H at hP hS ⊢
  refine lv_istore (lv' := [(7, .int rr.1), (6, .int res.1), (0, .ref sb), (1, .ref (a1.1 0)), (2, .ref (b 0)), (3, .ref o1), (4, .ref o2), (5, .int i)]) hx hb dL_law_1111 hl (by decide) rfl (fun ls hl => ?_)
  refine lv_aload_n hx hb dL_law_1113 rfl (lv_at hl 4 rfl) ?_
  have hPc := lP_app (zP_perm l_perm1 hP)
  have hDc := lD_app (zD_perm l_perm1 hD)
  refine zcSi (W.runV (As := []) (rest := []) ⟨hx, hb, hml, hown, hts⟩ (c_X4_thrown l D cy b rr.2 (res := rr.2.1 27) rfl) (cwV 0 hts gL_law_X4_thrown rfl rfl rfl hd_X4_thrown ⟨Nat.le_of_ble_eq_true rfl, Nat.le_of_ble_eq_true rfl⟩) ⟨rI_blind, va_recv hK hPc (ci := 4) (q0 := 0) rfl rfl, rI_at hPc hK hDc⟩ rfl rfl hl.1 rfl (lv_room (Nat.le_of_ble_eq_true rfl)) dL_law_1114 ⟨by omega, by omega⟩) ?_
  refine lv_iload hx hb dL_law_1117 (lv_at hl 1 rfl) ?_
  refine lv_icmp_eq (tgt := 1124) hx hb dL_law_1119 (by decide) (fun c0 => ?_) (fun c0 => absurd ht0 c0)
  refine lv_iload hx hb dL_law_1124 (lv_at hl 1 rfl) ?_
  refine lv_if_ne (tgt := 1141) hx hb dL_law_1126 (by decide) (fun c0 => ?_) (fun c0 => ?_)
  · refine lv_goto (tgt := 2861) hx hb dL_law_1141 (by decide) ?_
    refine W.widen (k := cells_ + 16) (n := slots_ + 130) (by omega) (by omega) ?_
    exact hk ha1 _ _ _ hP hD hS (lv_sub hl [2, 3, 4, 5, 6, 7] rfl)
  · refine lv_aload_n hx hb dL_law_1129 rfl (lv_at hl 5 rfl) ?_
    refine lv_iconst (v := 0) hx hb dL_law_1130 (by decide) ?_
    refine va_lald hx hb hK (zP_perm l_perm4 hP) 0 1 rfl rfl (show vp_in 0 1 from by unfold vp_in; decide) dL_law_1131 ?_
    refine lv_iload hx hb dL_law_1132 (lv_at hl 0 rfl) ?_
    refine lv_i2l (v := Int32.toInt64 rr.1) hx hb dL_law_1134 rfl ?_
    refine W.lcmp hx hb dL_law_1135 ?_
    refine lv_if_eq (tgt := 1141) hx hb dL_law_1136 (by decide) (fun c2 => ?_) (fun c2 => absurd (l_cmp (hv c0)) c2)
    refine lv_goto (tgt := 2861) hx hb dL_law_1141 (by decide) ?_
    refine W.widen (k := cells_ + 16) (n := slots_ + 130) (by omega) (by omega) ?_
    exact hk ha1 _ _ _ hP hD hS (lv_sub hl [2, 3, 4, 5, 6, 7] rfl)
set_option maxHeartbeats 4000000 in
set_option maxRecDepth 100000 in
theorem l_case_11 (hC0 : lC p l s m args meth c D cy A sb L xs) {a : XA} {n : Nat → Nat} {V : XV} {b : Nat → Nat} {T : RV} {o1 o2 : Nat} {out : Nat → Int64} {outD : Nat → UInt64} {i : Int32} {H : Heap} {locs : List Loc} {ls : Array Slot} {cells_ slots_ : Nat} (hc1 : cells_ + 16 ≤ room_1.cells) (hc2 : slots_ + 130 ≤ room_1.slots) (hP : va_P D xcl (lW cy a n V b T o1 out o2 outD) H) (hD : va_D A (lW cy a n V b T o1 out o2 outD)) (hS : va_S A s.heap H locs) (hl : lv_has ls 9 [(0, .ref sb), (1, .ref (a.1 0)), (2, .ref (b 0)), (3, .ref o1), (4, .ref o2), (5, .int i)])  {xr : Int32} {rr : Int32 × RV} (hf : f_X3_now n V = some xr) (hr : f_X4_now T  = some rr) (hv : xr = rr.1)
    (hk : ∀ {a1 : XA} (_ : a1.1 = a.1) (H : Heap) (locs : List Loc) (ls : Array Slot), va_P D xcl (lW cy a1 n V b rr.2 o1 out o2 outD) H → va_D A (lW cy a1 n V b rr.2 o1 out o2 outD) → va_S A s.heap H locs → lv_has ls 9 [(0, .ref sb), (1, .ref (a1.1 0)), (2, .ref (b 0)), (3, .ref o1), (4, .ref o2), (5, .int i)] → W p l e room_1 s m args below meth c H locs (cells_ + 16) (slots_ + 130) Q (F0 m 2861 ls [])) : W p l e room_1 s m args below meth c H locs cells_ slots_ Q (F0 m 1144 ls []) := by
  obtain ⟨hl0, hx, hb, hml, hown, hts, hK, hA, hC, hZ, hX, hsb, hsA⟩ := hC0
  refine lv_aload_n hx hb dL_law_1144 rfl (lv_at hl 1 rfl) ?_
  have hPc := lP_app (zP_perm l_perm3 hP)
  have hDc := lD_app (zD_perm l_perm3 hD)
  refine zcSi (W.runV (As := []) (rest := []) ⟨hx, hb, hml, hown, hts⟩ (c_X3_now l D cy a n V hf) (cwV 0 hts gL_law_X3_now rfl rfl rfl hd_X3_now ⟨Nat.le_of_ble_eq_true rfl, Nat.le_of_ble_eq_true rfl⟩) ⟨xI_blind, va_recv hK hPc (ci := 3) (q0 := 0) rfl rfl, xI_at hPc hK hDc⟩ rfl rfl hl.1 rfl (lv_room (Nat.le_of_ble_eq_true rfl)) dL_law_1145 ⟨by omega, by omega⟩) ?_
  refine lv_aload_n hx hb dL_law_1148 rfl (lv_at hl 2 rfl) ?_
  replace hP := zP_perm l_perm1 hP
  replace hD := zD_perm l_perm1 hD
  have hPc := lP_app hP
  have hDc := lD_app hD
  have hfr := z_free hDc hS hA
  refine va_calli (va_runV (As := []) (rest := [.int xr]) ⟨hx, hb, hml, hown, hts⟩ (c_X4_now l D cy b T H.size  hr) (cwV 0 hts gL_law_X4_now rfl rfl rfl hd_X4_now ⟨Nat.le_of_ble_eq_true rfl, Nat.le_of_ble_eq_true rfl⟩) ⟨zJ_blind rI_blind, va_recv hK hPc (ci := 4) (q0 := 0) rfl rfl, zJ_at (rI_at hPc hK hDc)⟩ rfl rfl hl.1 rfl (lv_room (Nat.le_of_ble_eq_true rfl)) dL_law_1149 ⟨by omega, by omega⟩) hS (fun q _ h => hfr q h) hfr (fun r9 u9 t H1 locs1 ht hvm hw hB hz hk hS => ?_)
  obtain ⟨hP1, hD1⟩ := hB
  rw [ht] at hP1
  subst hw
  obtain ⟨hP2, hD2⟩ := z_join (ws := (lOutD cy o2 outD) :: (lOut cy o1 out) :: xW cy a n V) (wc := rW cy b T) (w1 := rW cy b rr.2) hP hD hk hfr hP1 hD1
  replace hP2 := zP_perm l_perm1.symm hP2
  replace hD2 := zD_perm l_perm1.symm hD2
  replace hP : va_P D xcl (lW cy a n V b rr.2 o1 out o2 outD) H1 := hP2
  replace hD : va_D A (lW cy a n V b rr.2 o1 out o2 outD) := hD2
  clear hP2 hD2 hP1 hD1 hk hz hPc hDc hfr hvm ht
  generalize H1 = H at hP hS ⊢
  refine lv_icmp_eq (tgt := 2861) hx hb dL_law_1152 (by decide) (fun c0 => ?_) (fun c0 => absurd hv c0)
  refine W.widen (k := cells_ + 16) (n := slots_ + 130) (by omega) (by omega) ?_
  exact hk rfl _ _ _ hP hD hS (lv_sub hl [0, 1, 2, 3, 4, 5] rfl)
set_option maxHeartbeats 4000000 in
set_option maxRecDepth 100000 in
theorem l_case_12 (hC0 : lC p l s m args meth c D cy A sb L xs) {a : XA} {n : Nat → Nat} {V : XV} {b : Nat → Nat} {T : RV} {o1 o2 : Nat} {out : Nat → Int64} {outD : Nat → UInt64} {i : Int32} {H : Heap} {locs : List Loc} {ls : Array Slot} {cells_ slots_ : Nat} (hc1 : cells_ + 16 ≤ room_1.cells) (hc2 : slots_ + 130 ≤ room_1.slots) (hP : va_P D xcl (lW cy a n V b T o1 out o2 outD) H) (hD : va_D A (lW cy a n V b T o1 out o2 outD)) (hS : va_S A s.heap H locs) (hl : lv_has ls 9 [(0, .ref sb), (1, .ref (a.1 0)), (2, .ref (b 0)), (3, .ref o1), (4, .ref o2), (5, .int i)])  {xr : Int32} {rr : Int32 × RV} (hf : f_X3_cranes n V = some xr) (hr : f_X4_cranes T  = some rr) (hv : xr = rr.1)
    (hk : ∀ {a1 : XA} (_ : a1.1 = a.1) (H : Heap) (locs : List Loc) (ls : Array Slot), va_P D xcl (lW cy a1 n V b rr.2 o1 out o2 outD) H → va_D A (lW cy a1 n V b rr.2 o1 out o2 outD) → va_S A s.heap H locs → lv_has ls 9 [(0, .ref sb), (1, .ref (a1.1 0)), (2, .ref (b 0)), (3, .ref o1), (4, .ref o2), (5, .int i)] → W p l e room_1 s m args below meth c H locs (cells_ + 16) (slots_ + 130) Q (F0 m 2861 ls [])) : W p l e room_1 s m args below meth c H locs cells_ slots_ Q (F0 m 1157 ls []) := by
  obtain ⟨hl0, hx, hb, hml, hown, hts, hK, hA, hC, hZ, hX, hsb, hsA⟩ := hC0
  refine lv_aload_n hx hb dL_law_1157 rfl (lv_at hl 1 rfl) ?_
  have hPc := lP_app (zP_perm l_perm3 hP)
  have hDc := lD_app (zD_perm l_perm3 hD)
  refine zcSi (W.runV (As := []) (rest := []) ⟨hx, hb, hml, hown, hts⟩ (c_X3_cranes l D cy a n V hf) (cwV 0 hts gL_law_X3_cranes rfl rfl rfl hd_X3_cranes ⟨Nat.le_of_ble_eq_true rfl, Nat.le_of_ble_eq_true rfl⟩) ⟨xI_blind, va_recv hK hPc (ci := 3) (q0 := 0) rfl rfl, xI_at hPc hK hDc⟩ rfl rfl hl.1 rfl (lv_room (Nat.le_of_ble_eq_true rfl)) dL_law_1158 ⟨by omega, by omega⟩) ?_
  refine lv_aload_n hx hb dL_law_1161 rfl (lv_at hl 2 rfl) ?_
  replace hP := zP_perm l_perm1 hP
  replace hD := zD_perm l_perm1 hD
  have hPc := lP_app hP
  have hDc := lD_app hD
  have hfr := z_free hDc hS hA
  refine va_calli (va_runV (As := []) (rest := [.int xr]) ⟨hx, hb, hml, hown, hts⟩ (c_X4_cranes l D cy b T H.size  hr) (cwV 0 hts gL_law_X4_cranes rfl rfl rfl hd_X4_cranes ⟨Nat.le_of_ble_eq_true rfl, Nat.le_of_ble_eq_true rfl⟩) ⟨zJ_blind rI_blind, va_recv hK hPc (ci := 4) (q0 := 0) rfl rfl, zJ_at (rI_at hPc hK hDc)⟩ rfl rfl hl.1 rfl (lv_room (Nat.le_of_ble_eq_true rfl)) dL_law_1162 ⟨by omega, by omega⟩) hS (fun q _ h => hfr q h) hfr (fun r9 u9 t H1 locs1 ht hvm hw hB hz hk hS => ?_)
  obtain ⟨hP1, hD1⟩ := hB
  rw [ht] at hP1
  subst hw
  obtain ⟨hP2, hD2⟩ := z_join (ws := (lOutD cy o2 outD) :: (lOut cy o1 out) :: xW cy a n V) (wc := rW cy b T) (w1 := rW cy b rr.2) hP hD hk hfr hP1 hD1
  replace hP2 := zP_perm l_perm1.symm hP2
  replace hD2 := zD_perm l_perm1.symm hD2
  replace hP : va_P D xcl (lW cy a n V b rr.2 o1 out o2 outD) H1 := hP2
  replace hD : va_D A (lW cy a n V b rr.2 o1 out o2 outD) := hD2
  clear hP2 hD2 hP1 hD1 hk hz hPc hDc hfr hvm ht
  generalize H1 = H at hP hS ⊢
  refine lv_icmp_eq (tgt := 2861) hx hb dL_law_1165 (by decide) (fun c0 => ?_) (fun c0 => absurd hv c0)
  refine W.widen (k := cells_ + 16) (n := slots_ + 130) (by omega) (by omega) ?_
  exact hk rfl _ _ _ hP hD hS (lv_sub hl [0, 1, 2, 3, 4, 5] rfl)
set_option maxHeartbeats 4000000 in
set_option maxRecDepth 100000 in
theorem l_case_13 (hC0 : lC p l s m args meth c D cy A sb L xs) {a : XA} {n : Nat → Nat} {V : XV} {b : Nat → Nat} {T : RV} {o1 o2 : Nat} {out : Nat → Int64} {outD : Nat → UInt64} {i : Int32} {H : Heap} {locs : List Loc} {ls : Array Slot} {cells_ slots_ : Nat} (hc1 : cells_ + 16 ≤ room_1.cells) (hc2 : slots_ + 130 ≤ room_1.slots) (hP : va_P D xcl (lW cy a n V b T o1 out o2 outD) H) (hD : va_D A (lW cy a n V b T o1 out o2 outD)) (hS : va_S A s.heap H locs) (hl : lv_has ls 9 [(0, .ref sb), (1, .ref (a.1 0)), (2, .ref (b 0)), (3, .ref o1), (4, .ref o2), (5, .int i)])  {xr : Int32} {rr : Int32 × RV} (hf : f_X3_lifts n V = some xr) (hr : f_X4_lifts T  = some rr) (hv : xr = rr.1)
    (hk : ∀ {a1 : XA} (_ : a1.1 = a.1) (H : Heap) (locs : List Loc) (ls : Array Slot), va_P D xcl (lW cy a1 n V b rr.2 o1 out o2 outD) H → va_D A (lW cy a1 n V b rr.2 o1 out o2 outD) → va_S A s.heap H locs → lv_has ls 9 [(0, .ref sb), (1, .ref (a1.1 0)), (2, .ref (b 0)), (3, .ref o1), (4, .ref o2), (5, .int i)] → W p l e room_1 s m args below meth c H locs (cells_ + 16) (slots_ + 130) Q (F0 m 2861 ls [])) : W p l e room_1 s m args below meth c H locs cells_ slots_ Q (F0 m 1170 ls []) := by
  obtain ⟨hl0, hx, hb, hml, hown, hts, hK, hA, hC, hZ, hX, hsb, hsA⟩ := hC0
  refine lv_aload_n hx hb dL_law_1170 rfl (lv_at hl 1 rfl) ?_
  have hPc := lP_app (zP_perm l_perm3 hP)
  have hDc := lD_app (zD_perm l_perm3 hD)
  refine zcSi (W.runV (As := []) (rest := []) ⟨hx, hb, hml, hown, hts⟩ (c_X3_lifts l D cy a n V hf) (cwV 0 hts gL_law_X3_lifts rfl rfl rfl hd_X3_lifts ⟨Nat.le_of_ble_eq_true rfl, Nat.le_of_ble_eq_true rfl⟩) ⟨xI_blind, va_recv hK hPc (ci := 3) (q0 := 0) rfl rfl, xI_at hPc hK hDc⟩ rfl rfl hl.1 rfl (lv_room (Nat.le_of_ble_eq_true rfl)) dL_law_1171 ⟨by omega, by omega⟩) ?_
  refine lv_aload_n hx hb dL_law_1174 rfl (lv_at hl 2 rfl) ?_
  replace hP := zP_perm l_perm1 hP
  replace hD := zD_perm l_perm1 hD
  have hPc := lP_app hP
  have hDc := lD_app hD
  have hfr := z_free hDc hS hA
  refine va_calli (va_runV (As := []) (rest := [.int xr]) ⟨hx, hb, hml, hown, hts⟩ (c_X4_lifts l D cy b T H.size  hr) (cwV 0 hts gL_law_X4_lifts rfl rfl rfl hd_X4_lifts ⟨Nat.le_of_ble_eq_true rfl, Nat.le_of_ble_eq_true rfl⟩) ⟨zJ_blind rI_blind, va_recv hK hPc (ci := 4) (q0 := 0) rfl rfl, zJ_at (rI_at hPc hK hDc)⟩ rfl rfl hl.1 rfl (lv_room (Nat.le_of_ble_eq_true rfl)) dL_law_1175 ⟨by omega, by omega⟩) hS (fun q _ h => hfr q h) hfr (fun r9 u9 t H1 locs1 ht hvm hw hB hz hk hS => ?_)
  obtain ⟨hP1, hD1⟩ := hB
  rw [ht] at hP1
  subst hw
  obtain ⟨hP2, hD2⟩ := z_join (ws := (lOutD cy o2 outD) :: (lOut cy o1 out) :: xW cy a n V) (wc := rW cy b T) (w1 := rW cy b rr.2) hP hD hk hfr hP1 hD1
  replace hP2 := zP_perm l_perm1.symm hP2
  replace hD2 := zD_perm l_perm1.symm hD2
  replace hP : va_P D xcl (lW cy a n V b rr.2 o1 out o2 outD) H1 := hP2
  replace hD : va_D A (lW cy a n V b rr.2 o1 out o2 outD) := hD2
  clear hP2 hD2 hP1 hD1 hk hz hPc hDc hfr hvm ht
  generalize H1 = H at hP hS ⊢
  refine lv_icmp_eq (tgt := 2861) hx hb dL_law_1178 (by decide) (fun c0 => ?_) (fun c0 => absurd hv c0)
  refine W.widen (k := cells_ + 16) (n := slots_ + 130) (by omega) (by omega) ?_
  exact hk rfl _ _ _ hP hD hS (lv_sub hl [0, 1, 2, 3, 4, 5] rfl)
set_option maxHeartbeats 4000000 in
set_option maxRecDepth 100000 in
theorem l_case_14 (hC0 : lC p l s m args meth c D cy A sb L xs) {a : XA} {n : Nat → Nat} {V : XV} {b : Nat → Nat} {T : RV} {o1 o2 : Nat} {out : Nat → Int64} {outD : Nat → UInt64} {i : Int32} {H : Heap} {locs : List Loc} {ls : Array Slot} {cells_ slots_ : Nat} (hc1 : cells_ + 16 ≤ room_1.cells) (hc2 : slots_ + 130 ≤ room_1.slots) (hP : va_P D xcl (lW cy a n V b T o1 out o2 outD) H) (hD : va_D A (lW cy a n V b T o1 out o2 outD)) (hS : va_S A s.heap H locs) (hl : lv_has ls 9 [(0, .ref sb), (1, .ref (a.1 0)), (2, .ref (b 0)), (3, .ref o1), (4, .ref o2), (5, .int i)]) (hi1 : vp_in (i + 1) L) (hi2 : vp_in (i + 2) L) (hi3 : vp_in (i + 3) L) {res : Int32 × (Nat → Nat) × XV × (Nat → Int64)} {rr : Int32 × RV} (hf : f_L_limit n V out (xs (i + 1).toNatClampNeg) (xs (i + 2).toNatClampNeg) (xs (i + 3).toNatClampNeg) = some res) (hr : f_X4_limit T (xs (i + 1).toNatClampNeg) (xs (i + 2).toNatClampNeg) (xs (i + 3).toNatClampNeg) = some rr) (ht0 : rr.2.1 27 = res.1) (hv : res.1 = 0 → res.2.2.2 (0 : Int32).toNatClampNeg = Int32.toInt64 rr.1)
    (hk : ∀ {a1 : XA} (_ : a1.1 = a.1) (H : Heap) (locs : List Loc) (ls : Array Slot), va_P D xcl (lW cy a1 res.2.1 res.2.2.1 b rr.2 o1 res.2.2.2 o2 outD) H → va_D A (lW cy a1 res.2.1 res.2.2.1 b rr.2 o1 res.2.2.2 o2 outD) → va_S A s.heap H locs → lv_has ls 9 [(0, .ref sb), (1, .ref (a1.1 0)), (2, .ref (b 0)), (3, .ref o1), (4, .ref o2), (5, .int i)] → W p l e room_1 s m args below meth c H locs (cells_ + 16) (slots_ + 130) Q (F0 m 2861 ls [])) : W p l e room_1 s m args below meth c H locs cells_ slots_ Q (F0 m 1183 ls []) := by
  obtain ⟨hl0, hx, hb, hml, hown, hts, hK, hA, hC, hZ, hX, hsb, hsA⟩ := hC0
  refine lv_aload_n hx hb dL_law_1183 rfl (lv_at hl 1 rfl) ?_
  refine lv_aload_n hx hb dL_law_1184 rfl (lv_at hl 0 rfl) ?_
  refine lv_iload hx hb dL_law_1185 (lv_at hl 5 rfl) ?_
  refine lv_iconst (v := 1) hx hb dL_law_1187 (by decide) ?_
  refine lv_iadd hx hb dL_law_1188 ?_
  refine va_sld hx hb hX hsb hsA hS hi1 dL_law_1189 ?_
  refine lv_aload_n hx hb dL_law_1190 rfl (lv_at hl 0 rfl) ?_
  refine lv_iload hx hb dL_law_1191 (lv_at hl 5 rfl) ?_
  refine lv_iconst (v := 2) hx hb dL_law_1193 (by decide) ?_
  refine lv_iadd hx hb dL_law_1194 ?_
  refine va_sld hx hb hX hsb hsA hS hi2 dL_law_1195 ?_
  refine lv_aload_n hx hb dL_law_1196 rfl (lv_at hl 0 rfl) ?_
  refine lv_iload hx hb dL_law_1197 (lv_at hl 5 rfl) ?_
  refine lv_iconst (v := 3) hx hb dL_law_1199 (by decide) ?_
  refine lv_iadd hx hb dL_law_1200 ?_
  refine va_sld hx hb hX hsb hsA hS hi3 dL_law_1201 ?_
  refine lv_aload_n hx hb dL_law_1202 rfl (lv_at hl 3 rfl) ?_
  have hPc := lP_app hP
  have hDc := lD_app hD
  have hfr := z_free hDc hS hA
  refine va_calli (vx_runSW (As := [.ref (a.1 0), .int (xs (i + 1).toNatClampNeg), .int (xs (i + 2).toNatClampNeg), .int (xs (i + 3).toNatClampNeg), .ref o1]) (rest := []) ⟨hx, hb, hml, hown, hts⟩ (c_L_limit l hl0 D cy a n V o1 out H.size (xs (i + 1).toNatClampNeg) (xs (i + 2).toNatClampNeg) (xs (i + 3).toNatClampNeg) hf) (vx_cwSW 5 hts gL_law_L_limit rfl rfl rfl hd_L_limit ⟨Nat.le_of_ble_eq_true rfl, Nat.le_of_ble_eq_true rfl⟩) ⟨lX_blind, lX_at hC hZ hS hfr hPc hK hDc⟩ rfl rfl hl.1 rfl (lv_room (Nat.le_of_ble_eq_true rfl)) dL_law_1203 ⟨by omega, by omega⟩) hS (fun q _ h => hfr q h) hfr (fun r9 a1 t H1 locs1 ht hvm hw hB hz hk hS => ?_)
  obtain ⟨ha1, hP1, hD1⟩ := hB
  rw [ht] at hP1
  subst hw
  obtain ⟨hP2, hD2⟩ := z_join (ws := lOutD cy o2 outD :: rW cy b T) (wc := lOut cy o1 out :: xW cy a n V) (w1 := (o1, .inl (cy 1, 1, .inr (.inl res.2.2.2))) :: xW cy a1 res.2.1 res.2.2.1) hP hD hk hfr hP1 hD1
  replace hP : va_P D xcl (lW cy a1 res.2.1 res.2.2.1 b T o1 res.2.2.2 o2 outD) H1 := hP2
  replace hD : va_D A (lW cy a1 res.2.1 res.2.2.1 b T o1 res.2.2.2 o2 outD) := hD2
  clear hP2 hD2 hP1 hD1 hk hz hPc hDc hfr hvm ht
  generalize H1 = H at hP hS ⊢
  rw [← ha1] at hl
  refine lv_istore (lv' := [(6, .int res.1), (0, .ref sb), (1, .ref (a1.1 0)), (2, .ref (b 0)), (3, .ref o1), (4, .ref o2), (5, .int i)]) hx hb dL_law_1206 hl (by decide) rfl (fun ls hl => ?_)
  refine lv_aload_n hx hb dL_law_1208 rfl (lv_at hl 3 rfl) ?_
  refine lv_aload_n hx hb dL_law_1209 rfl (lv_at hl 1 rfl) ?_
  refine lv_iload hx hb dL_law_1210 (lv_at hl 6 rfl) ?_
  refine lv_iconst (v := 1) hx hb dL_law_1212 (by decide) ?_
  refine lv_iadd hx hb dL_law_1213 ?_
  refine va_sld hx hb hX hsb hsA hS hi1 dL_law_1214 ?_
  refine lv_aload_n hx hb dL_law_1215 rfl (lv_at hl 1 rfl) ?_
  refine lv_iload hx hb dL_law_1216 (lv_at hl 6 rfl) ?_
  refine lv_iconst (v := 2) hx hb dL_law_1218 (by decide) ?_
  refine lv_iadd hx hb dL_law_1219 ?_
  refine va_sld hx hb hX hsb hsA hS hi2 dL_law_1220 ?_
  refine lv_aload_n hx hb dL_law_1221 rfl (lv_at hl 1 rfl) ?_
  refine lv_iload hx hb dL_law_1222 (lv_at hl 6 rfl) ?_
  refine lv_iconst (v := 3) hx hb dL_law_1224 (by decide) ?_
  refine lv_iadd hx hb dL_law_1225 ?_
  refine va_sld hx hb hX hsb hsA hS hi3 dL_law_1226 ?_
  replace hP := zP_perm l_perm1 hP
  replace hD := zD_perm l_perm1 hD
  have hPc := lP_app hP
  have hDc := lD_app hD
  have hfr := z_free hDc hS hA
  refine va_calli (va_runV (As := [.int (xs (i + 1).toNatClampNeg), .int (xs (i + 2).toNatClampNeg), .int (xs (i + 3).toNatClampNeg)]) (rest := []) ⟨hx, hb, hml, hown, hts⟩ (c_X4_limit l D cy b T H.size (xs (i + 1).toNatClampNeg) (xs (i + 2).toNatClampNeg) (xs (i + 3).toNatClampNeg) hr) (cwV 3 hts gL_law_X4_limit rfl rfl rfl hd_X4_limit ⟨Nat.le_of_ble_eq_true rfl, Nat.le_of_ble_eq_true rfl⟩) ⟨zJ_blind rI_blind, va_recv hK hPc (ci := 4) (q0 := 0) rfl rfl, zJ_at (rI_at hPc hK hDc)⟩ rfl rfl hl.1 rfl (lv_room (Nat.le_of_ble_eq_true rfl)) dL_law_1227 ⟨by omega, by omega⟩) hS (fun q _ h => hfr q h) hfr (fun r9 u9 t H1 locs1 ht hvm hw hB hz hk hS => ?_)
  obtain ⟨hP1, hD1⟩ := hB
  rw [ht] at hP1
  subst hw
  obtain ⟨hP2, hD2⟩ := z_join (ws := (lOutD cy o2 outD) :: (lOut cy o1 res.2.2.2) :: xW cy a1 res.2.1 res.2.2.1) (wc := rW cy b T) (w1 := rW cy b rr.2) hP hD hk hfr hP1 hD1
  replace hP2 := zP_perm l_perm1.symm hP2
  replace hD2 := zD_perm l_perm1.symm hD2
  replace hP : va_P D xcl (lW cy a1 res.2.1 res.2.2.1 b rr.2 o1 res.2.2.2 o2 outD) H1 := hP2
  replace hD : va_D A (lW cy a1 res.2.1 res.2.2.1 b rr.2 o1 res.2.2.2 o2 outD) := hD2
  clear hP2 hD2 hP1 hD1 hk hz hPc hDc hfr hvm ht
  generalize H1 = H at hP hS ⊢
  refine lv_istore (lv' := [(7, .int rr.1), (6, .int res.1), (0, .ref sb), (1, .ref (a1.1 0)), (2, .ref (b 0)), (3, .ref o1), (4, .ref o2), (5, .int i)]) hx hb dL_law_1230 hl (by decide) rfl (fun ls hl => ?_)
  refine lv_aload_n hx hb dL_law_1232 rfl (lv_at hl 4 rfl) ?_
  have hPc := lP_app (zP_perm l_perm1 hP)
  have hDc := lD_app (zD_perm l_perm1 hD)
  refine zcSi (W.runV (As := []) (rest := []) ⟨hx, hb, hml, hown, hts⟩ (c_X4_thrown l D cy b rr.2 (res := rr.2.1 27) rfl) (cwV 0 hts gL_law_X4_thrown rfl rfl rfl hd_X4_thrown ⟨Nat.le_of_ble_eq_true rfl, Nat.le_of_ble_eq_true rfl⟩) ⟨rI_blind, va_recv hK hPc (ci := 4) (q0 := 0) rfl rfl, rI_at hPc hK hDc⟩ rfl rfl hl.1 rfl (lv_room (Nat.le_of_ble_eq_true rfl)) dL_law_1233 ⟨by omega, by omega⟩) ?_
  refine lv_iload hx hb dL_law_1236 (lv_at hl 1 rfl) ?_
  refine lv_icmp_eq (tgt := 1243) hx hb dL_law_1238 (by decide) (fun c0 => ?_) (fun c0 => absurd ht0 c0)
  refine lv_iload hx hb dL_law_1243 (lv_at hl 1 rfl) ?_
  refine lv_if_ne (tgt := 1260) hx hb dL_law_1245 (by decide) (fun c0 => ?_) (fun c0 => ?_)
  · refine lv_goto (tgt := 2861) hx hb dL_law_1260 (by decide) ?_
    refine W.widen (k := cells_ + 16) (n := slots_ + 130) (by omega) (by omega) ?_
    exact hk ha1 _ _ _ hP hD hS (lv_sub hl [2, 3, 4, 5, 6, 7] rfl)
  · refine lv_aload_n hx hb dL_law_1248 rfl (lv_at hl 5 rfl) ?_
    refine lv_iconst (v := 0) hx hb dL_law_1249 (by decide) ?_
    refine va_lald hx hb hK (zP_perm l_perm4 hP) 0 1 rfl rfl (show vp_in 0 1 from by unfold vp_in; decide) dL_law_1250 ?_
    refine lv_iload hx hb dL_law_1251 (lv_at hl 0 rfl) ?_
    refine lv_i2l (v := Int32.toInt64 rr.1) hx hb dL_law_1253 rfl ?_
    refine W.lcmp hx hb dL_law_1254 ?_
    refine lv_if_eq (tgt := 1260) hx hb dL_law_1255 (by decide) (fun c2 => ?_) (fun c2 => absurd (l_cmp (hv c0)) c2)
    refine lv_goto (tgt := 2861) hx hb dL_law_1260 (by decide) ?_
    refine W.widen (k := cells_ + 16) (n := slots_ + 130) (by omega) (by omega) ?_
    exact hk ha1 _ _ _ hP hD hS (lv_sub hl [2, 3, 4, 5, 6, 7] rfl)
set_option maxHeartbeats 4000000 in
set_option maxRecDepth 100000 in
theorem l_case_15 (hC0 : lC p l s m args meth c D cy A sb L xs) {a : XA} {n : Nat → Nat} {V : XV} {b : Nat → Nat} {T : RV} {o1 o2 : Nat} {out : Nat → Int64} {outD : Nat → UInt64} {i : Int32} {H : Heap} {locs : List Loc} {ls : Array Slot} {cells_ slots_ : Nat} (hc1 : cells_ + 16 ≤ room_1.cells) (hc2 : slots_ + 130 ≤ room_1.slots) (hP : va_P D xcl (lW cy a n V b T o1 out o2 outD) H) (hD : va_D A (lW cy a n V b T o1 out o2 outD)) (hS : va_S A s.heap H locs) (hl : lv_has ls 9 [(0, .ref sb), (1, .ref (a.1 0)), (2, .ref (b 0)), (3, .ref o1), (4, .ref o2), (5, .int i)]) (hi1 : vp_in (i + 1) L) (hi2 : vp_in (i + 2) L) {res : Int32 × (Nat → Nat) × XV × (Nat → Int64)} {rr : Int32 × RV} (hf : f_L_overlap n V out (xs (i + 1).toNatClampNeg) (xs (i + 2).toNatClampNeg) = some res) (hr : f_X4_overlap T (xs (i + 1).toNatClampNeg) (xs (i + 2).toNatClampNeg) = some rr) (ht0 : rr.2.1 27 = res.1) (hv : res.1 = 0 → res.2.2.2 (0 : Int32).toNatClampNeg = if rr.1 = 0 then 0 else 1)
    (hk : ∀ {a1 : XA} (_ : a1.1 = a.1) (H : Heap) (locs : List Loc) (ls : Array Slot), va_P D xcl (lW cy a1 res.2.1 res.2.2.1 b rr.2 o1 res.2.2.2 o2 outD) H → va_D A (lW cy a1 res.2.1 res.2.2.1 b rr.2 o1 res.2.2.2 o2 outD) → va_S A s.heap H locs → lv_has ls 9 [(0, .ref sb), (1, .ref (a1.1 0)), (2, .ref (b 0)), (3, .ref o1), (4, .ref o2), (5, .int i)] → W p l e room_1 s m args below meth c H locs (cells_ + 16) (slots_ + 130) Q (F0 m 2861 ls [])) : W p l e room_1 s m args below meth c H locs cells_ slots_ Q (F0 m 1263 ls []) := by
  obtain ⟨hl0, hx, hb, hml, hown, hts, hK, hA, hC, hZ, hX, hsb, hsA⟩ := hC0
  refine lv_aload_n hx hb dL_law_1263 rfl (lv_at hl 1 rfl) ?_
  refine lv_aload_n hx hb dL_law_1264 rfl (lv_at hl 0 rfl) ?_
  refine lv_iload hx hb dL_law_1265 (lv_at hl 5 rfl) ?_
  refine lv_iconst (v := 1) hx hb dL_law_1267 (by decide) ?_
  refine lv_iadd hx hb dL_law_1268 ?_
  refine va_sld hx hb hX hsb hsA hS hi1 dL_law_1269 ?_
  refine lv_aload_n hx hb dL_law_1270 rfl (lv_at hl 0 rfl) ?_
  refine lv_iload hx hb dL_law_1271 (lv_at hl 5 rfl) ?_
  refine lv_iconst (v := 2) hx hb dL_law_1273 (by decide) ?_
  refine lv_iadd hx hb dL_law_1274 ?_
  refine va_sld hx hb hX hsb hsA hS hi2 dL_law_1275 ?_
  refine lv_aload_n hx hb dL_law_1276 rfl (lv_at hl 3 rfl) ?_
  have hPc := lP_app hP
  have hDc := lD_app hD
  have hfr := z_free hDc hS hA
  refine va_calli (vx_runSW (As := [.ref (a.1 0), .int (xs (i + 1).toNatClampNeg), .int (xs (i + 2).toNatClampNeg), .ref o1]) (rest := []) ⟨hx, hb, hml, hown, hts⟩ (c_L_overlap l hl0 D cy a n V o1 out H.size (xs (i + 1).toNatClampNeg) (xs (i + 2).toNatClampNeg) hf) (vx_cwSW 4 hts gL_law_L_overlap rfl rfl rfl hd_L_overlap ⟨Nat.le_of_ble_eq_true rfl, Nat.le_of_ble_eq_true rfl⟩) ⟨lX_blind, lX_at hC hZ hS hfr hPc hK hDc⟩ rfl rfl hl.1 rfl (lv_room (Nat.le_of_ble_eq_true rfl)) dL_law_1277 ⟨by omega, by omega⟩) hS (fun q _ h => hfr q h) hfr (fun r9 a1 t H1 locs1 ht hvm hw hB hz hk hS => ?_)
  obtain ⟨ha1, hP1, hD1⟩ := hB
  rw [ht] at hP1
  subst hw
  obtain ⟨hP2, hD2⟩ := z_join (ws := lOutD cy o2 outD :: rW cy b T) (wc := lOut cy o1 out :: xW cy a n V) (w1 := (o1, .inl (cy 1, 1, .inr (.inl res.2.2.2))) :: xW cy a1 res.2.1 res.2.2.1) hP hD hk hfr hP1 hD1
  replace hP : va_P D xcl (lW cy a1 res.2.1 res.2.2.1 b T o1 res.2.2.2 o2 outD) H1 := hP2
  replace hD : va_D A (lW cy a1 res.2.1 res.2.2.1 b T o1 res.2.2.2 o2 outD) := hD2
  clear hP2 hD2 hP1 hD1 hk hz hPc hDc hfr hvm ht
  generalize H1 = H at hP hS ⊢
  rw [← ha1] at hl
  refine lv_istore (lv' := [(6, .int res.1), (0, .ref sb), (1, .ref (a1.1 0)), (2, .ref (b 0)), (3, .ref o1), (4, .ref o2), (5, .int i)]) hx hb dL_law_1280 hl (by decide) rfl (fun ls hl => ?_)
  refine lv_aload_n hx hb dL_law_1282 rfl (lv_at hl 3 rfl) ?_
  refine lv_aload_n hx hb dL_law_1283 rfl (lv_at hl 1 rfl) ?_
  refine lv_iload hx hb dL_law_1284 (lv_at hl 6 rfl) ?_
  refine lv_iconst (v := 1) hx hb dL_law_1286 (by decide) ?_
  refine lv_iadd hx hb dL_law_1287 ?_
  refine va_sld hx hb hX hsb hsA hS hi1 dL_law_1288 ?_
  refine lv_aload_n hx hb dL_law_1289 rfl (lv_at hl 1 rfl) ?_
  refine lv_iload hx hb dL_law_1290 (lv_at hl 6 rfl) ?_
  refine lv_iconst (v := 2) hx hb dL_law_1292 (by decide) ?_
  refine lv_iadd hx hb dL_law_1293 ?_
  refine va_sld hx hb hX hsb hsA hS hi2 dL_law_1294 ?_
  replace hP := zP_perm l_perm1 hP
  replace hD := zD_perm l_perm1 hD
  have hPc := lP_app hP
  have hDc := lD_app hD
  have hfr := z_free hDc hS hA
  refine va_calli (va_runV (As := [.int (xs (i + 1).toNatClampNeg), .int (xs (i + 2).toNatClampNeg)]) (rest := []) ⟨hx, hb, hml, hown, hts⟩ (c_X4_overlap l D cy b T H.size (xs (i + 1).toNatClampNeg) (xs (i + 2).toNatClampNeg) hr) (cwV 2 hts gL_law_X4_overlap rfl rfl rfl hd_X4_overlap ⟨Nat.le_of_ble_eq_true rfl, Nat.le_of_ble_eq_true rfl⟩) ⟨zJ_blind rI_blind, va_recv hK hPc (ci := 4) (q0 := 0) rfl rfl, zJ_at (rI_at hPc hK hDc)⟩ rfl rfl hl.1 rfl (lv_room (Nat.le_of_ble_eq_true rfl)) dL_law_1295 ⟨by omega, by omega⟩) hS (fun q _ h => hfr q h) hfr (fun r9 u9 t H1 locs1 ht hvm hw hB hz hk hS => ?_)
  obtain ⟨hP1, hD1⟩ := hB
  rw [ht] at hP1
  subst hw
  obtain ⟨hP2, hD2⟩ := z_join (ws := (lOutD cy o2 outD) :: (lOut cy o1 res.2.2.2) :: xW cy a1 res.2.1 res.2.2.1) (wc := rW cy b T) (w1 := rW cy b rr.2) hP hD hk hfr hP1 hD1
  replace hP2 := zP_perm l_perm1.symm hP2
  replace hD2 := zD_perm l_perm1.symm hD2
  replace hP : va_P D xcl (lW cy a1 res.2.1 res.2.2.1 b rr.2 o1 res.2.2.2 o2 outD) H1 := hP2
  replace hD : va_D A (lW cy a1 res.2.1 res.2.2.1 b rr.2 o1 res.2.2.2 o2 outD) := hD2
  clear hP2 hD2 hP1 hD1 hk hz hPc hDc hfr hvm ht
  generalize H1 = H at hP hS ⊢
  refine lv_istore (lv' := [(7, .int rr.1), (6, .int res.1), (0, .ref sb), (1, .ref (a1.1 0)), (2, .ref (b 0)), (3, .ref o1), (4, .ref o2), (5, .int i)]) hx hb dL_law_1298 hl (by decide) rfl (fun ls hl => ?_)
  refine lv_aload_n hx hb dL_law_1300 rfl (lv_at hl 4 rfl) ?_
  have hPc := lP_app (zP_perm l_perm1 hP)
  have hDc := lD_app (zD_perm l_perm1 hD)
  refine zcSi (W.runV (As := []) (rest := []) ⟨hx, hb, hml, hown, hts⟩ (c_X4_thrown l D cy b rr.2 (res := rr.2.1 27) rfl) (cwV 0 hts gL_law_X4_thrown rfl rfl rfl hd_X4_thrown ⟨Nat.le_of_ble_eq_true rfl, Nat.le_of_ble_eq_true rfl⟩) ⟨rI_blind, va_recv hK hPc (ci := 4) (q0 := 0) rfl rfl, rI_at hPc hK hDc⟩ rfl rfl hl.1 rfl (lv_room (Nat.le_of_ble_eq_true rfl)) dL_law_1301 ⟨by omega, by omega⟩) ?_
  refine lv_iload hx hb dL_law_1304 (lv_at hl 1 rfl) ?_
  refine lv_icmp_eq (tgt := 1311) hx hb dL_law_1306 (by decide) (fun c0 => ?_) (fun c0 => absurd ht0 c0)
  refine lv_iload hx hb dL_law_1311 (lv_at hl 1 rfl) ?_
  refine lv_if_ne (tgt := 1335) hx hb dL_law_1313 (by decide) (fun c0 => ?_) (fun c0 => ?_)
  · refine lv_goto (tgt := 2861) hx hb dL_law_1335 (by decide) ?_
    refine W.widen (k := cells_ + 16) (n := slots_ + 130) (by omega) (by omega) ?_
    exact hk ha1 _ _ _ hP hD hS (lv_sub hl [2, 3, 4, 5, 6, 7] rfl)
  · refine lv_aload_n hx hb dL_law_1316 rfl (lv_at hl 5 rfl) ?_
    refine lv_iconst (v := 0) hx hb dL_law_1317 (by decide) ?_
    refine va_lald hx hb hK (zP_perm l_perm4 hP) 0 1 rfl rfl (show vp_in 0 1 from by unfold vp_in; decide) dL_law_1318 ?_
    refine lv_iload hx hb dL_law_1319 (lv_at hl 0 rfl) ?_
    refine lv_if_eq (tgt := 1328) hx hb dL_law_1321 (by decide) (fun c1 => ?_) (fun c1 => ?_)
    · refine lv_lconst (v := 0) hx hb dL_law_1328 (by decide) ?_
      refine W.lcmp hx hb dL_law_1329 ?_
      refine lv_if_eq (tgt := 1335) hx hb dL_law_1330 (by decide) (fun c2 => ?_) (fun c2 => absurd (l_cmp ((hv c0).trans (if_pos c1))) c2)
      refine lv_goto (tgt := 2861) hx hb dL_law_1335 (by decide) ?_
      refine W.widen (k := cells_ + 16) (n := slots_ + 130) (by omega) (by omega) ?_
      exact hk ha1 _ _ _ hP hD hS (lv_sub hl [2, 3, 4, 5, 6, 7] rfl)
    · refine lv_lconst (v := 1) hx hb dL_law_1324 (by decide) ?_
      refine lv_goto (tgt := 1329) hx hb dL_law_1325 (by decide) ?_
      refine W.lcmp hx hb dL_law_1329 ?_
      refine lv_if_eq (tgt := 1335) hx hb dL_law_1330 (by decide) (fun c2 => ?_) (fun c2 => absurd (l_cmp ((hv c0).trans (if_neg c1))) c2)
      refine lv_goto (tgt := 2861) hx hb dL_law_1335 (by decide) ?_
      refine W.widen (k := cells_ + 16) (n := slots_ + 130) (by omega) (by omega) ?_
      exact hk ha1 _ _ _ hP hD hS (lv_sub hl [2, 3, 4, 5, 6, 7] rfl)
set_option maxHeartbeats 4000000 in
set_option maxRecDepth 100000 in
theorem l_case_16 (hC0 : lC p l s m args meth c D cy A sb L xs) {a : XA} {n : Nat → Nat} {V : XV} {b : Nat → Nat} {T : RV} {o1 o2 : Nat} {out : Nat → Int64} {outD : Nat → UInt64} {i : Int32} {H : Heap} {locs : List Loc} {ls : Array Slot} {cells_ slots_ : Nat} (hc1 : cells_ + 16 ≤ room_1.cells) (hc2 : slots_ + 130 ≤ room_1.slots) (hP : va_P D xcl (lW cy a n V b T o1 out o2 outD) H) (hD : va_D A (lW cy a n V b T o1 out o2 outD)) (hS : va_S A s.heap H locs) (hl : lv_has ls 9 [(0, .ref sb), (1, .ref (a.1 0)), (2, .ref (b 0)), (3, .ref o1), (4, .ref o2), (5, .int i)]) (hi1 : vp_in (i + 1) L) (hi2 : vp_in (i + 2) L) {res : Int32 × (Nat → Nat) × XV × (Nat → Int64)} {rr : Int32 × RV} (hf : f_L_bothReach n V out (xs (i + 1).toNatClampNeg) (xs (i + 2).toNatClampNeg) = some res) (hr : f_X4_bothReach T (xs (i + 1).toNatClampNeg) (xs (i + 2).toNatClampNeg) = some rr) (ht0 : rr.2.1 27 = res.1) (hv : res.1 = 0 → res.2.2.2 (0 : Int32).toNatClampNeg = Int32.toInt64 rr.1)
    (hk : ∀ {a1 : XA} (_ : a1.1 = a.1) (H : Heap) (locs : List Loc) (ls : Array Slot), va_P D xcl (lW cy a1 res.2.1 res.2.2.1 b rr.2 o1 res.2.2.2 o2 outD) H → va_D A (lW cy a1 res.2.1 res.2.2.1 b rr.2 o1 res.2.2.2 o2 outD) → va_S A s.heap H locs → lv_has ls 9 [(0, .ref sb), (1, .ref (a1.1 0)), (2, .ref (b 0)), (3, .ref o1), (4, .ref o2), (5, .int i)] → W p l e room_1 s m args below meth c H locs (cells_ + 16) (slots_ + 130) Q (F0 m 2861 ls [])) : W p l e room_1 s m args below meth c H locs cells_ slots_ Q (F0 m 1338 ls []) := by
  obtain ⟨hl0, hx, hb, hml, hown, hts, hK, hA, hC, hZ, hX, hsb, hsA⟩ := hC0
  refine lv_aload_n hx hb dL_law_1338 rfl (lv_at hl 1 rfl) ?_
  refine lv_aload_n hx hb dL_law_1339 rfl (lv_at hl 0 rfl) ?_
  refine lv_iload hx hb dL_law_1340 (lv_at hl 5 rfl) ?_
  refine lv_iconst (v := 1) hx hb dL_law_1342 (by decide) ?_
  refine lv_iadd hx hb dL_law_1343 ?_
  refine va_sld hx hb hX hsb hsA hS hi1 dL_law_1344 ?_
  refine lv_aload_n hx hb dL_law_1345 rfl (lv_at hl 0 rfl) ?_
  refine lv_iload hx hb dL_law_1346 (lv_at hl 5 rfl) ?_
  refine lv_iconst (v := 2) hx hb dL_law_1348 (by decide) ?_
  refine lv_iadd hx hb dL_law_1349 ?_
  refine va_sld hx hb hX hsb hsA hS hi2 dL_law_1350 ?_
  refine lv_aload_n hx hb dL_law_1351 rfl (lv_at hl 3 rfl) ?_
  have hPc := lP_app hP
  have hDc := lD_app hD
  have hfr := z_free hDc hS hA
  refine va_calli (vx_runSW (As := [.ref (a.1 0), .int (xs (i + 1).toNatClampNeg), .int (xs (i + 2).toNatClampNeg), .ref o1]) (rest := []) ⟨hx, hb, hml, hown, hts⟩ (c_L_bothReach l hl0 D cy a n V o1 out H.size (xs (i + 1).toNatClampNeg) (xs (i + 2).toNatClampNeg) hf) (vx_cwSW 4 hts gL_law_L_bothReach rfl rfl rfl hd_L_bothReach ⟨Nat.le_of_ble_eq_true rfl, Nat.le_of_ble_eq_true rfl⟩) ⟨lX_blind, lX_at hC hZ hS hfr hPc hK hDc⟩ rfl rfl hl.1 rfl (lv_room (Nat.le_of_ble_eq_true rfl)) dL_law_1352 ⟨by omega, by omega⟩) hS (fun q _ h => hfr q h) hfr (fun r9 a1 t H1 locs1 ht hvm hw hB hz hk hS => ?_)
  obtain ⟨ha1, hP1, hD1⟩ := hB
  rw [ht] at hP1
  subst hw
  obtain ⟨hP2, hD2⟩ := z_join (ws := lOutD cy o2 outD :: rW cy b T) (wc := lOut cy o1 out :: xW cy a n V) (w1 := (o1, .inl (cy 1, 1, .inr (.inl res.2.2.2))) :: xW cy a1 res.2.1 res.2.2.1) hP hD hk hfr hP1 hD1
  replace hP : va_P D xcl (lW cy a1 res.2.1 res.2.2.1 b T o1 res.2.2.2 o2 outD) H1 := hP2
  replace hD : va_D A (lW cy a1 res.2.1 res.2.2.1 b T o1 res.2.2.2 o2 outD) := hD2
  clear hP2 hD2 hP1 hD1 hk hz hPc hDc hfr hvm ht
  generalize H1 = H at hP hS ⊢
  rw [← ha1] at hl
  refine lv_istore (lv' := [(6, .int res.1), (0, .ref sb), (1, .ref (a1.1 0)), (2, .ref (b 0)), (3, .ref o1), (4, .ref o2), (5, .int i)]) hx hb dL_law_1355 hl (by decide) rfl (fun ls hl => ?_)
  refine lv_aload_n hx hb dL_law_1357 rfl (lv_at hl 3 rfl) ?_
  refine lv_aload_n hx hb dL_law_1358 rfl (lv_at hl 1 rfl) ?_
  refine lv_iload hx hb dL_law_1359 (lv_at hl 6 rfl) ?_
  refine lv_iconst (v := 1) hx hb dL_law_1361 (by decide) ?_
  refine lv_iadd hx hb dL_law_1362 ?_
  refine va_sld hx hb hX hsb hsA hS hi1 dL_law_1363 ?_
  refine lv_aload_n hx hb dL_law_1364 rfl (lv_at hl 1 rfl) ?_
  refine lv_iload hx hb dL_law_1365 (lv_at hl 6 rfl) ?_
  refine lv_iconst (v := 2) hx hb dL_law_1367 (by decide) ?_
  refine lv_iadd hx hb dL_law_1368 ?_
  refine va_sld hx hb hX hsb hsA hS hi2 dL_law_1369 ?_
  replace hP := zP_perm l_perm1 hP
  replace hD := zD_perm l_perm1 hD
  have hPc := lP_app hP
  have hDc := lD_app hD
  have hfr := z_free hDc hS hA
  refine va_calli (va_runV (As := [.int (xs (i + 1).toNatClampNeg), .int (xs (i + 2).toNatClampNeg)]) (rest := []) ⟨hx, hb, hml, hown, hts⟩ (c_X4_bothReach l D cy b T H.size (xs (i + 1).toNatClampNeg) (xs (i + 2).toNatClampNeg) hr) (cwV 2 hts gL_law_X4_bothReach rfl rfl rfl hd_X4_bothReach ⟨Nat.le_of_ble_eq_true rfl, Nat.le_of_ble_eq_true rfl⟩) ⟨zJ_blind rI_blind, va_recv hK hPc (ci := 4) (q0 := 0) rfl rfl, zJ_at (rI_at hPc hK hDc)⟩ rfl rfl hl.1 rfl (lv_room (Nat.le_of_ble_eq_true rfl)) dL_law_1370 ⟨by omega, by omega⟩) hS (fun q _ h => hfr q h) hfr (fun r9 u9 t H1 locs1 ht hvm hw hB hz hk hS => ?_)
  obtain ⟨hP1, hD1⟩ := hB
  rw [ht] at hP1
  subst hw
  obtain ⟨hP2, hD2⟩ := z_join (ws := (lOutD cy o2 outD) :: (lOut cy o1 res.2.2.2) :: xW cy a1 res.2.1 res.2.2.1) (wc := rW cy b T) (w1 := rW cy b rr.2) hP hD hk hfr hP1 hD1
  replace hP2 := zP_perm l_perm1.symm hP2
  replace hD2 := zD_perm l_perm1.symm hD2
  replace hP : va_P D xcl (lW cy a1 res.2.1 res.2.2.1 b rr.2 o1 res.2.2.2 o2 outD) H1 := hP2
  replace hD : va_D A (lW cy a1 res.2.1 res.2.2.1 b rr.2 o1 res.2.2.2 o2 outD) := hD2
  clear hP2 hD2 hP1 hD1 hk hz hPc hDc hfr hvm ht
  generalize H1 = H at hP hS ⊢
  refine lv_istore (lv' := [(7, .int rr.1), (6, .int res.1), (0, .ref sb), (1, .ref (a1.1 0)), (2, .ref (b 0)), (3, .ref o1), (4, .ref o2), (5, .int i)]) hx hb dL_law_1373 hl (by decide) rfl (fun ls hl => ?_)
  refine lv_aload_n hx hb dL_law_1375 rfl (lv_at hl 4 rfl) ?_
  have hPc := lP_app (zP_perm l_perm1 hP)
  have hDc := lD_app (zD_perm l_perm1 hD)
  refine zcSi (W.runV (As := []) (rest := []) ⟨hx, hb, hml, hown, hts⟩ (c_X4_thrown l D cy b rr.2 (res := rr.2.1 27) rfl) (cwV 0 hts gL_law_X4_thrown rfl rfl rfl hd_X4_thrown ⟨Nat.le_of_ble_eq_true rfl, Nat.le_of_ble_eq_true rfl⟩) ⟨rI_blind, va_recv hK hPc (ci := 4) (q0 := 0) rfl rfl, rI_at hPc hK hDc⟩ rfl rfl hl.1 rfl (lv_room (Nat.le_of_ble_eq_true rfl)) dL_law_1376 ⟨by omega, by omega⟩) ?_
  refine lv_iload hx hb dL_law_1379 (lv_at hl 1 rfl) ?_
  refine lv_icmp_eq (tgt := 1386) hx hb dL_law_1381 (by decide) (fun c0 => ?_) (fun c0 => absurd ht0 c0)
  refine lv_iload hx hb dL_law_1386 (lv_at hl 1 rfl) ?_
  refine lv_if_ne (tgt := 1403) hx hb dL_law_1388 (by decide) (fun c0 => ?_) (fun c0 => ?_)
  · refine lv_goto (tgt := 2861) hx hb dL_law_1403 (by decide) ?_
    refine W.widen (k := cells_ + 16) (n := slots_ + 130) (by omega) (by omega) ?_
    exact hk ha1 _ _ _ hP hD hS (lv_sub hl [2, 3, 4, 5, 6, 7] rfl)
  · refine lv_aload_n hx hb dL_law_1391 rfl (lv_at hl 5 rfl) ?_
    refine lv_iconst (v := 0) hx hb dL_law_1392 (by decide) ?_
    refine va_lald hx hb hK (zP_perm l_perm4 hP) 0 1 rfl rfl (show vp_in 0 1 from by unfold vp_in; decide) dL_law_1393 ?_
    refine lv_iload hx hb dL_law_1394 (lv_at hl 0 rfl) ?_
    refine lv_i2l (v := Int32.toInt64 rr.1) hx hb dL_law_1396 rfl ?_
    refine W.lcmp hx hb dL_law_1397 ?_
    refine lv_if_eq (tgt := 1403) hx hb dL_law_1398 (by decide) (fun c2 => ?_) (fun c2 => absurd (l_cmp (hv c0)) c2)
    refine lv_goto (tgt := 2861) hx hb dL_law_1403 (by decide) ?_
    refine W.widen (k := cells_ + 16) (n := slots_ + 130) (by omega) (by omega) ?_
    exact hk ha1 _ _ _ hP hD hS (lv_sub hl [2, 3, 4, 5, 6, 7] rfl)
set_option maxHeartbeats 4000000 in
set_option maxRecDepth 100000 in
theorem l_case_17 (hC0 : lC p l s m args meth c D cy A sb L xs) {a : XA} {n : Nat → Nat} {V : XV} {b : Nat → Nat} {T : RV} {o1 o2 : Nat} {out : Nat → Int64} {outD : Nat → UInt64} {i : Int32} {H : Heap} {locs : List Loc} {ls : Array Slot} {cells_ slots_ : Nat} (hc1 : cells_ + 16 ≤ room_1.cells) (hc2 : slots_ + 130 ≤ room_1.slots) (hP : va_P D xcl (lW cy a n V b T o1 out o2 outD) H) (hD : va_D A (lW cy a n V b T o1 out o2 outD)) (hS : va_S A s.heap H locs) (hl : lv_has ls 9 [(0, .ref sb), (1, .ref (a.1 0)), (2, .ref (b 0)), (3, .ref o1), (4, .ref o2), (5, .int i)]) (hi1 : vp_in (i + 1) L) (hi2 : vp_in (i + 2) L) (hi3 : vp_in (i + 3) L) {res : Int32 × (Nat → Nat) × XV × (Nat → Int64)} {rr : Int32 × RV} (hf : f_L_reason n V out (xs (i + 1).toNatClampNeg) (xs (i + 2).toNatClampNeg) (xs (i + 3).toNatClampNeg) = some res) (hr : f_X4_reason T (xs (i + 1).toNatClampNeg) (xs (i + 2).toNatClampNeg) (xs (i + 3).toNatClampNeg) = some rr) (ht0 : rr.2.1 27 = res.1) (hv : res.1 = 0 → res.2.2.2 (0 : Int32).toNatClampNeg = Int32.toInt64 rr.1)
    (hk : ∀ {a1 : XA} (_ : a1.1 = a.1) (H : Heap) (locs : List Loc) (ls : Array Slot), va_P D xcl (lW cy a1 res.2.1 res.2.2.1 b rr.2 o1 res.2.2.2 o2 outD) H → va_D A (lW cy a1 res.2.1 res.2.2.1 b rr.2 o1 res.2.2.2 o2 outD) → va_S A s.heap H locs → lv_has ls 9 [(0, .ref sb), (1, .ref (a1.1 0)), (2, .ref (b 0)), (3, .ref o1), (4, .ref o2), (5, .int i)] → W p l e room_1 s m args below meth c H locs (cells_ + 16) (slots_ + 130) Q (F0 m 2861 ls [])) : W p l e room_1 s m args below meth c H locs cells_ slots_ Q (F0 m 1406 ls []) := by
  obtain ⟨hl0, hx, hb, hml, hown, hts, hK, hA, hC, hZ, hX, hsb, hsA⟩ := hC0
  refine lv_aload_n hx hb dL_law_1406 rfl (lv_at hl 1 rfl) ?_
  refine lv_aload_n hx hb dL_law_1407 rfl (lv_at hl 0 rfl) ?_
  refine lv_iload hx hb dL_law_1408 (lv_at hl 5 rfl) ?_
  refine lv_iconst (v := 1) hx hb dL_law_1410 (by decide) ?_
  refine lv_iadd hx hb dL_law_1411 ?_
  refine va_sld hx hb hX hsb hsA hS hi1 dL_law_1412 ?_
  refine lv_aload_n hx hb dL_law_1413 rfl (lv_at hl 0 rfl) ?_
  refine lv_iload hx hb dL_law_1414 (lv_at hl 5 rfl) ?_
  refine lv_iconst (v := 2) hx hb dL_law_1416 (by decide) ?_
  refine lv_iadd hx hb dL_law_1417 ?_
  refine va_sld hx hb hX hsb hsA hS hi2 dL_law_1418 ?_
  refine lv_aload_n hx hb dL_law_1419 rfl (lv_at hl 0 rfl) ?_
  refine lv_iload hx hb dL_law_1420 (lv_at hl 5 rfl) ?_
  refine lv_iconst (v := 3) hx hb dL_law_1422 (by decide) ?_
  refine lv_iadd hx hb dL_law_1423 ?_
  refine va_sld hx hb hX hsb hsA hS hi3 dL_law_1424 ?_
  refine lv_aload_n hx hb dL_law_1425 rfl (lv_at hl 3 rfl) ?_
  have hPc := lP_app hP
  have hDc := lD_app hD
  have hfr := z_free hDc hS hA
  refine va_calli (vx_runSW (As := [.ref (a.1 0), .int (xs (i + 1).toNatClampNeg), .int (xs (i + 2).toNatClampNeg), .int (xs (i + 3).toNatClampNeg), .ref o1]) (rest := []) ⟨hx, hb, hml, hown, hts⟩ (c_L_reason l hl0 D cy a n V o1 out H.size (xs (i + 1).toNatClampNeg) (xs (i + 2).toNatClampNeg) (xs (i + 3).toNatClampNeg) hf) (vx_cwSW 5 hts gL_law_L_reason rfl rfl rfl hd_L_reason ⟨Nat.le_of_ble_eq_true rfl, Nat.le_of_ble_eq_true rfl⟩) ⟨lX_blind, lX_at hC hZ hS hfr hPc hK hDc⟩ rfl rfl hl.1 rfl (lv_room (Nat.le_of_ble_eq_true rfl)) dL_law_1426 ⟨by omega, by omega⟩) hS (fun q _ h => hfr q h) hfr (fun r9 a1 t H1 locs1 ht hvm hw hB hz hk hS => ?_)
  obtain ⟨ha1, hP1, hD1⟩ := hB
  rw [ht] at hP1
  subst hw
  obtain ⟨hP2, hD2⟩ := z_join (ws := lOutD cy o2 outD :: rW cy b T) (wc := lOut cy o1 out :: xW cy a n V) (w1 := (o1, .inl (cy 1, 1, .inr (.inl res.2.2.2))) :: xW cy a1 res.2.1 res.2.2.1) hP hD hk hfr hP1 hD1
  replace hP : va_P D xcl (lW cy a1 res.2.1 res.2.2.1 b T o1 res.2.2.2 o2 outD) H1 := hP2
  replace hD : va_D A (lW cy a1 res.2.1 res.2.2.1 b T o1 res.2.2.2 o2 outD) := hD2
  clear hP2 hD2 hP1 hD1 hk hz hPc hDc hfr hvm ht
  generalize H1 = H at hP hS ⊢
  rw [← ha1] at hl
  refine lv_istore (lv' := [(6, .int res.1), (0, .ref sb), (1, .ref (a1.1 0)), (2, .ref (b 0)), (3, .ref o1), (4, .ref o2), (5, .int i)]) hx hb dL_law_1429 hl (by decide) rfl (fun ls hl => ?_)
  refine lv_aload_n hx hb dL_law_1431 rfl (lv_at hl 3 rfl) ?_
  refine lv_aload_n hx hb dL_law_1432 rfl (lv_at hl 1 rfl) ?_
  refine lv_iload hx hb dL_law_1433 (lv_at hl 6 rfl) ?_
  refine lv_iconst (v := 1) hx hb dL_law_1435 (by decide) ?_
  refine lv_iadd hx hb dL_law_1436 ?_
  refine va_sld hx hb hX hsb hsA hS hi1 dL_law_1437 ?_
  refine lv_aload_n hx hb dL_law_1438 rfl (lv_at hl 1 rfl) ?_
  refine lv_iload hx hb dL_law_1439 (lv_at hl 6 rfl) ?_
  refine lv_iconst (v := 2) hx hb dL_law_1441 (by decide) ?_
  refine lv_iadd hx hb dL_law_1442 ?_
  refine va_sld hx hb hX hsb hsA hS hi2 dL_law_1443 ?_
  refine lv_aload_n hx hb dL_law_1444 rfl (lv_at hl 1 rfl) ?_
  refine lv_iload hx hb dL_law_1445 (lv_at hl 6 rfl) ?_
  refine lv_iconst (v := 3) hx hb dL_law_1447 (by decide) ?_
  refine lv_iadd hx hb dL_law_1448 ?_
  refine va_sld hx hb hX hsb hsA hS hi3 dL_law_1449 ?_
  replace hP := zP_perm l_perm1 hP
  replace hD := zD_perm l_perm1 hD
  have hPc := lP_app hP
  have hDc := lD_app hD
  have hfr := z_free hDc hS hA
  refine va_calli (va_runV (As := [.int (xs (i + 1).toNatClampNeg), .int (xs (i + 2).toNatClampNeg), .int (xs (i + 3).toNatClampNeg)]) (rest := []) ⟨hx, hb, hml, hown, hts⟩ (c_X4_reason l D cy b T H.size (xs (i + 1).toNatClampNeg) (xs (i + 2).toNatClampNeg) (xs (i + 3).toNatClampNeg) hr) (cwV 3 hts gL_law_X4_reason rfl rfl rfl hd_X4_reason ⟨Nat.le_of_ble_eq_true rfl, Nat.le_of_ble_eq_true rfl⟩) ⟨zJ_blind rI_blind, va_recv hK hPc (ci := 4) (q0 := 0) rfl rfl, zJ_at (rI_at hPc hK hDc)⟩ rfl rfl hl.1 rfl (lv_room (Nat.le_of_ble_eq_true rfl)) dL_law_1450 ⟨by omega, by omega⟩) hS (fun q _ h => hfr q h) hfr (fun r9 u9 t H1 locs1 ht hvm hw hB hz hk hS => ?_)
  obtain ⟨hP1, hD1⟩ := hB
  rw [ht] at hP1
  subst hw
  obtain ⟨hP2, hD2⟩ := z_join (ws := (lOutD cy o2 outD) :: (lOut cy o1 res.2.2.2) :: xW cy a1 res.2.1 res.2.2.1) (wc := rW cy b T) (w1 := rW cy b rr.2) hP hD hk hfr hP1 hD1
  replace hP2 := zP_perm l_perm1.symm hP2
  replace hD2 := zD_perm l_perm1.symm hD2
  replace hP : va_P D xcl (lW cy a1 res.2.1 res.2.2.1 b rr.2 o1 res.2.2.2 o2 outD) H1 := hP2
  replace hD : va_D A (lW cy a1 res.2.1 res.2.2.1 b rr.2 o1 res.2.2.2 o2 outD) := hD2
  clear hP2 hD2 hP1 hD1 hk hz hPc hDc hfr hvm ht
  generalize H1 = H at hP hS ⊢
  refine lv_istore (lv' := [(7, .int rr.1), (6, .int res.1), (0, .ref sb), (1, .ref (a1.1 0)), (2, .ref (b 0)), (3, .ref o1), (4, .ref o2), (5, .int i)]) hx hb dL_law_1453 hl (by decide) rfl (fun ls hl => ?_)
  refine lv_aload_n hx hb dL_law_1455 rfl (lv_at hl 4 rfl) ?_
  have hPc := lP_app (zP_perm l_perm1 hP)
  have hDc := lD_app (zD_perm l_perm1 hD)
  refine zcSi (W.runV (As := []) (rest := []) ⟨hx, hb, hml, hown, hts⟩ (c_X4_thrown l D cy b rr.2 (res := rr.2.1 27) rfl) (cwV 0 hts gL_law_X4_thrown rfl rfl rfl hd_X4_thrown ⟨Nat.le_of_ble_eq_true rfl, Nat.le_of_ble_eq_true rfl⟩) ⟨rI_blind, va_recv hK hPc (ci := 4) (q0 := 0) rfl rfl, rI_at hPc hK hDc⟩ rfl rfl hl.1 rfl (lv_room (Nat.le_of_ble_eq_true rfl)) dL_law_1456 ⟨by omega, by omega⟩) ?_
  refine lv_iload hx hb dL_law_1459 (lv_at hl 1 rfl) ?_
  refine lv_icmp_eq (tgt := 1466) hx hb dL_law_1461 (by decide) (fun c0 => ?_) (fun c0 => absurd ht0 c0)
  refine lv_iload hx hb dL_law_1466 (lv_at hl 1 rfl) ?_
  refine lv_if_ne (tgt := 1483) hx hb dL_law_1468 (by decide) (fun c0 => ?_) (fun c0 => ?_)
  · refine lv_goto (tgt := 2861) hx hb dL_law_1483 (by decide) ?_
    refine W.widen (k := cells_ + 16) (n := slots_ + 130) (by omega) (by omega) ?_
    exact hk ha1 _ _ _ hP hD hS (lv_sub hl [2, 3, 4, 5, 6, 7] rfl)
  · refine lv_aload_n hx hb dL_law_1471 rfl (lv_at hl 5 rfl) ?_
    refine lv_iconst (v := 0) hx hb dL_law_1472 (by decide) ?_
    refine va_lald hx hb hK (zP_perm l_perm4 hP) 0 1 rfl rfl (show vp_in 0 1 from by unfold vp_in; decide) dL_law_1473 ?_
    refine lv_iload hx hb dL_law_1474 (lv_at hl 0 rfl) ?_
    refine lv_i2l (v := Int32.toInt64 rr.1) hx hb dL_law_1476 rfl ?_
    refine W.lcmp hx hb dL_law_1477 ?_
    refine lv_if_eq (tgt := 1483) hx hb dL_law_1478 (by decide) (fun c2 => ?_) (fun c2 => absurd (l_cmp (hv c0)) c2)
    refine lv_goto (tgt := 2861) hx hb dL_law_1483 (by decide) ?_
    refine W.widen (k := cells_ + 16) (n := slots_ + 130) (by omega) (by omega) ?_
    exact hk ha1 _ _ _ hP hD hS (lv_sub hl [2, 3, 4, 5, 6, 7] rfl)
set_option maxHeartbeats 4000000 in
set_option maxRecDepth 100000 in
theorem l_case_18 (hC0 : lC p l s m args meth c D cy A sb L xs) {a : XA} {n : Nat → Nat} {V : XV} {b : Nat → Nat} {T : RV} {o1 o2 : Nat} {out : Nat → Int64} {outD : Nat → UInt64} {i : Int32} {H : Heap} {locs : List Loc} {ls : Array Slot} {cells_ slots_ : Nat} (hc1 : cells_ + 16 ≤ room_1.cells) (hc2 : slots_ + 130 ≤ room_1.slots) (hP : va_P D xcl (lW cy a n V b T o1 out o2 outD) H) (hD : va_D A (lW cy a n V b T o1 out o2 outD)) (hS : va_S A s.heap H locs) (hl : lv_has ls 9 [(0, .ref sb), (1, .ref (a.1 0)), (2, .ref (b 0)), (3, .ref o1), (4, .ref o2), (5, .int i)]) (hi1 : vp_in (i + 1) L) (hi2 : vp_in (i + 2) L) {res : Int32 × (Nat → Nat) × XV × (Nat → Int64)} {rr : Int32 × RV} (hf : f_L_earliest n V out (xs (i + 1).toNatClampNeg) (xs (i + 2).toNatClampNeg) = some res) (hr : f_X4_earliest T (xs (i + 1).toNatClampNeg) (xs (i + 2).toNatClampNeg) = some rr) (ht0 : rr.2.1 27 = res.1) (hv : res.1 = 0 → res.2.2.2 (0 : Int32).toNatClampNeg = Int32.toInt64 rr.1)
    (hk : ∀ {a1 : XA} (_ : a1.1 = a.1) (H : Heap) (locs : List Loc) (ls : Array Slot), va_P D xcl (lW cy a1 res.2.1 res.2.2.1 b rr.2 o1 res.2.2.2 o2 outD) H → va_D A (lW cy a1 res.2.1 res.2.2.1 b rr.2 o1 res.2.2.2 o2 outD) → va_S A s.heap H locs → lv_has ls 9 [(0, .ref sb), (1, .ref (a1.1 0)), (2, .ref (b 0)), (3, .ref o1), (4, .ref o2), (5, .int i)] → W p l e room_1 s m args below meth c H locs (cells_ + 16) (slots_ + 130) Q (F0 m 2861 ls [])) : W p l e room_1 s m args below meth c H locs cells_ slots_ Q (F0 m 1486 ls []) := by
  obtain ⟨hl0, hx, hb, hml, hown, hts, hK, hA, hC, hZ, hX, hsb, hsA⟩ := hC0
  refine lv_aload_n hx hb dL_law_1486 rfl (lv_at hl 1 rfl) ?_
  refine lv_aload_n hx hb dL_law_1487 rfl (lv_at hl 0 rfl) ?_
  refine lv_iload hx hb dL_law_1488 (lv_at hl 5 rfl) ?_
  refine lv_iconst (v := 1) hx hb dL_law_1490 (by decide) ?_
  refine lv_iadd hx hb dL_law_1491 ?_
  refine va_sld hx hb hX hsb hsA hS hi1 dL_law_1492 ?_
  refine lv_aload_n hx hb dL_law_1493 rfl (lv_at hl 0 rfl) ?_
  refine lv_iload hx hb dL_law_1494 (lv_at hl 5 rfl) ?_
  refine lv_iconst (v := 2) hx hb dL_law_1496 (by decide) ?_
  refine lv_iadd hx hb dL_law_1497 ?_
  refine va_sld hx hb hX hsb hsA hS hi2 dL_law_1498 ?_
  refine lv_aload_n hx hb dL_law_1499 rfl (lv_at hl 3 rfl) ?_
  have hPc := lP_app hP
  have hDc := lD_app hD
  have hfr := z_free hDc hS hA
  refine va_calli (vx_runSW (As := [.ref (a.1 0), .int (xs (i + 1).toNatClampNeg), .int (xs (i + 2).toNatClampNeg), .ref o1]) (rest := []) ⟨hx, hb, hml, hown, hts⟩ (c_L_earliest l hl0 D cy a n V o1 out H.size (xs (i + 1).toNatClampNeg) (xs (i + 2).toNatClampNeg) hf) (vx_cwSW 4 hts gL_law_L_earliest rfl rfl rfl hd_L_earliest ⟨Nat.le_of_ble_eq_true rfl, Nat.le_of_ble_eq_true rfl⟩) ⟨lX_blind, lX_at hC hZ hS hfr hPc hK hDc⟩ rfl rfl hl.1 rfl (lv_room (Nat.le_of_ble_eq_true rfl)) dL_law_1500 ⟨by omega, by omega⟩) hS (fun q _ h => hfr q h) hfr (fun r9 a1 t H1 locs1 ht hvm hw hB hz hk hS => ?_)
  obtain ⟨ha1, hP1, hD1⟩ := hB
  rw [ht] at hP1
  subst hw
  obtain ⟨hP2, hD2⟩ := z_join (ws := lOutD cy o2 outD :: rW cy b T) (wc := lOut cy o1 out :: xW cy a n V) (w1 := (o1, .inl (cy 1, 1, .inr (.inl res.2.2.2))) :: xW cy a1 res.2.1 res.2.2.1) hP hD hk hfr hP1 hD1
  replace hP : va_P D xcl (lW cy a1 res.2.1 res.2.2.1 b T o1 res.2.2.2 o2 outD) H1 := hP2
  replace hD : va_D A (lW cy a1 res.2.1 res.2.2.1 b T o1 res.2.2.2 o2 outD) := hD2
  clear hP2 hD2 hP1 hD1 hk hz hPc hDc hfr hvm ht
  generalize H1 = H at hP hS ⊢
  rw [← ha1] at hl
  refine lv_istore (lv' := [(6, .int res.1), (0, .ref sb), (1, .ref (a1.1 0)), (2, .ref (b 0)), (3, .ref o1), (4, .ref o2), (5, .int i)]) hx hb dL_law_1503 hl (by decide) rfl (fun ls hl => ?_)
  refine lv_aload_n hx hb dL_law_1505 rfl (lv_at hl 3 rfl) ?_
  refine lv_aload_n hx hb dL_law_1506 rfl (lv_at hl 1 rfl) ?_
  refine lv_iload hx hb dL_law_1507 (lv_at hl 6 rfl) ?_
  refine lv_iconst (v := 1) hx hb dL_law_1509 (by decide) ?_
  refine lv_iadd hx hb dL_law_1510 ?_
  refine va_sld hx hb hX hsb hsA hS hi1 dL_law_1511 ?_
  refine lv_aload_n hx hb dL_law_1512 rfl (lv_at hl 1 rfl) ?_
  refine lv_iload hx hb dL_law_1513 (lv_at hl 6 rfl) ?_
  refine lv_iconst (v := 2) hx hb dL_law_1515 (by decide) ?_
  refine lv_iadd hx hb dL_law_1516 ?_
  refine va_sld hx hb hX hsb hsA hS hi2 dL_law_1517 ?_
  replace hP := zP_perm l_perm1 hP
  replace hD := zD_perm l_perm1 hD
  have hPc := lP_app hP
  have hDc := lD_app hD
  have hfr := z_free hDc hS hA
  refine va_calli (va_runV (As := [.int (xs (i + 1).toNatClampNeg), .int (xs (i + 2).toNatClampNeg)]) (rest := []) ⟨hx, hb, hml, hown, hts⟩ (c_X4_earliest l D cy b T H.size (xs (i + 1).toNatClampNeg) (xs (i + 2).toNatClampNeg) hr) (cwV 2 hts gL_law_X4_earliest rfl rfl rfl hd_X4_earliest ⟨Nat.le_of_ble_eq_true rfl, Nat.le_of_ble_eq_true rfl⟩) ⟨zJ_blind rI_blind, va_recv hK hPc (ci := 4) (q0 := 0) rfl rfl, zJ_at (rI_at hPc hK hDc)⟩ rfl rfl hl.1 rfl (lv_room (Nat.le_of_ble_eq_true rfl)) dL_law_1518 ⟨by omega, by omega⟩) hS (fun q _ h => hfr q h) hfr (fun r9 u9 t H1 locs1 ht hvm hw hB hz hk hS => ?_)
  obtain ⟨hP1, hD1⟩ := hB
  rw [ht] at hP1
  subst hw
  obtain ⟨hP2, hD2⟩ := z_join (ws := (lOutD cy o2 outD) :: (lOut cy o1 res.2.2.2) :: xW cy a1 res.2.1 res.2.2.1) (wc := rW cy b T) (w1 := rW cy b rr.2) hP hD hk hfr hP1 hD1
  replace hP2 := zP_perm l_perm1.symm hP2
  replace hD2 := zD_perm l_perm1.symm hD2
  replace hP : va_P D xcl (lW cy a1 res.2.1 res.2.2.1 b rr.2 o1 res.2.2.2 o2 outD) H1 := hP2
  replace hD : va_D A (lW cy a1 res.2.1 res.2.2.1 b rr.2 o1 res.2.2.2 o2 outD) := hD2
  clear hP2 hD2 hP1 hD1 hk hz hPc hDc hfr hvm ht
  generalize H1 = H at hP hS ⊢
  refine lv_istore (lv' := [(7, .int rr.1), (6, .int res.1), (0, .ref sb), (1, .ref (a1.1 0)), (2, .ref (b 0)), (3, .ref o1), (4, .ref o2), (5, .int i)]) hx hb dL_law_1521 hl (by decide) rfl (fun ls hl => ?_)
  refine lv_aload_n hx hb dL_law_1523 rfl (lv_at hl 4 rfl) ?_
  have hPc := lP_app (zP_perm l_perm1 hP)
  have hDc := lD_app (zD_perm l_perm1 hD)
  refine zcSi (W.runV (As := []) (rest := []) ⟨hx, hb, hml, hown, hts⟩ (c_X4_thrown l D cy b rr.2 (res := rr.2.1 27) rfl) (cwV 0 hts gL_law_X4_thrown rfl rfl rfl hd_X4_thrown ⟨Nat.le_of_ble_eq_true rfl, Nat.le_of_ble_eq_true rfl⟩) ⟨rI_blind, va_recv hK hPc (ci := 4) (q0 := 0) rfl rfl, rI_at hPc hK hDc⟩ rfl rfl hl.1 rfl (lv_room (Nat.le_of_ble_eq_true rfl)) dL_law_1524 ⟨by omega, by omega⟩) ?_
  refine lv_iload hx hb dL_law_1527 (lv_at hl 1 rfl) ?_
  refine lv_icmp_eq (tgt := 1534) hx hb dL_law_1529 (by decide) (fun c0 => ?_) (fun c0 => absurd ht0 c0)
  refine lv_iload hx hb dL_law_1534 (lv_at hl 1 rfl) ?_
  refine lv_if_ne (tgt := 1551) hx hb dL_law_1536 (by decide) (fun c0 => ?_) (fun c0 => ?_)
  · refine lv_goto (tgt := 2861) hx hb dL_law_1551 (by decide) ?_
    refine W.widen (k := cells_ + 16) (n := slots_ + 130) (by omega) (by omega) ?_
    exact hk ha1 _ _ _ hP hD hS (lv_sub hl [2, 3, 4, 5, 6, 7] rfl)
  · refine lv_aload_n hx hb dL_law_1539 rfl (lv_at hl 5 rfl) ?_
    refine lv_iconst (v := 0) hx hb dL_law_1540 (by decide) ?_
    refine va_lald hx hb hK (zP_perm l_perm4 hP) 0 1 rfl rfl (show vp_in 0 1 from by unfold vp_in; decide) dL_law_1541 ?_
    refine lv_iload hx hb dL_law_1542 (lv_at hl 0 rfl) ?_
    refine lv_i2l (v := Int32.toInt64 rr.1) hx hb dL_law_1544 rfl ?_
    refine W.lcmp hx hb dL_law_1545 ?_
    refine lv_if_eq (tgt := 1551) hx hb dL_law_1546 (by decide) (fun c2 => ?_) (fun c2 => absurd (l_cmp (hv c0)) c2)
    refine lv_goto (tgt := 2861) hx hb dL_law_1551 (by decide) ?_
    refine W.widen (k := cells_ + 16) (n := slots_ + 130) (by omega) (by omega) ?_
    exact hk ha1 _ _ _ hP hD hS (lv_sub hl [2, 3, 4, 5, 6, 7] rfl)
set_option maxHeartbeats 4000000 in
set_option maxRecDepth 100000 in
theorem l_case_19 (hC0 : lC p l s m args meth c D cy A sb L xs) {a : XA} {n : Nat → Nat} {V : XV} {b : Nat → Nat} {T : RV} {o1 o2 : Nat} {out : Nat → Int64} {outD : Nat → UInt64} {i : Int32} {H : Heap} {locs : List Loc} {ls : Array Slot} {cells_ slots_ : Nat} (hc1 : cells_ + 16 ≤ room_1.cells) (hc2 : slots_ + 130 ≤ room_1.slots) (hP : va_P D xcl (lW cy a n V b T o1 out o2 outD) H) (hD : va_D A (lW cy a n V b T o1 out o2 outD)) (hS : va_S A s.heap H locs) (hl : lv_has ls 9 [(0, .ref sb), (1, .ref (a.1 0)), (2, .ref (b 0)), (3, .ref o1), (4, .ref o2), (5, .int i)]) (hi1 : vp_in (i + 1) L) (hi2 : vp_in (i + 2) L) {res : Int32 × (Nat → Nat) × XV × (Nat → Int64)} {rr : Int32 × RV} (hf : f_L_earliestByMinutes n V out (xs (i + 1).toNatClampNeg) (xs (i + 2).toNatClampNeg) = some res) (hr : f_X4_earliestByMinutes T (xs (i + 1).toNatClampNeg) (xs (i + 2).toNatClampNeg) = some rr) (ht0 : rr.2.1 27 = res.1) (hv : res.1 = 0 → res.2.2.2 (0 : Int32).toNatClampNeg = Int32.toInt64 rr.1)
    (hk : ∀ {a1 : XA} (_ : a1.1 = a.1) (H : Heap) (locs : List Loc) (ls : Array Slot), va_P D xcl (lW cy a1 res.2.1 res.2.2.1 b rr.2 o1 res.2.2.2 o2 outD) H → va_D A (lW cy a1 res.2.1 res.2.2.1 b rr.2 o1 res.2.2.2 o2 outD) → va_S A s.heap H locs → lv_has ls 9 [(0, .ref sb), (1, .ref (a1.1 0)), (2, .ref (b 0)), (3, .ref o1), (4, .ref o2), (5, .int i)] → W p l e room_1 s m args below meth c H locs (cells_ + 16) (slots_ + 130) Q (F0 m 2861 ls [])) : W p l e room_1 s m args below meth c H locs cells_ slots_ Q (F0 m 1554 ls []) := by
  obtain ⟨hl0, hx, hb, hml, hown, hts, hK, hA, hC, hZ, hX, hsb, hsA⟩ := hC0
  refine lv_aload_n hx hb dL_law_1554 rfl (lv_at hl 1 rfl) ?_
  refine lv_aload_n hx hb dL_law_1555 rfl (lv_at hl 0 rfl) ?_
  refine lv_iload hx hb dL_law_1556 (lv_at hl 5 rfl) ?_
  refine lv_iconst (v := 1) hx hb dL_law_1558 (by decide) ?_
  refine lv_iadd hx hb dL_law_1559 ?_
  refine va_sld hx hb hX hsb hsA hS hi1 dL_law_1560 ?_
  refine lv_aload_n hx hb dL_law_1561 rfl (lv_at hl 0 rfl) ?_
  refine lv_iload hx hb dL_law_1562 (lv_at hl 5 rfl) ?_
  refine lv_iconst (v := 2) hx hb dL_law_1564 (by decide) ?_
  refine lv_iadd hx hb dL_law_1565 ?_
  refine va_sld hx hb hX hsb hsA hS hi2 dL_law_1566 ?_
  refine lv_aload_n hx hb dL_law_1567 rfl (lv_at hl 3 rfl) ?_
  have hPc := lP_app hP
  have hDc := lD_app hD
  have hfr := z_free hDc hS hA
  refine va_calli (vx_runSW (As := [.ref (a.1 0), .int (xs (i + 1).toNatClampNeg), .int (xs (i + 2).toNatClampNeg), .ref o1]) (rest := []) ⟨hx, hb, hml, hown, hts⟩ (c_L_earliestByMinutes l hl0 D cy a n V o1 out H.size (xs (i + 1).toNatClampNeg) (xs (i + 2).toNatClampNeg) hf) (vx_cwSW 4 hts gL_law_L_earliestByMinutes rfl rfl rfl hd_L_earliestByMinutes ⟨Nat.le_of_ble_eq_true rfl, Nat.le_of_ble_eq_true rfl⟩) ⟨lX_blind, lX_at hC hZ hS hfr hPc hK hDc⟩ rfl rfl hl.1 rfl (lv_room (Nat.le_of_ble_eq_true rfl)) dL_law_1568 ⟨by omega, by omega⟩) hS (fun q _ h => hfr q h) hfr (fun r9 a1 t H1 locs1 ht hvm hw hB hz hk hS => ?_)
  obtain ⟨ha1, hP1, hD1⟩ := hB
  rw [ht] at hP1
  subst hw
  obtain ⟨hP2, hD2⟩ := z_join (ws := lOutD cy o2 outD :: rW cy b T) (wc := lOut cy o1 out :: xW cy a n V) (w1 := (o1, .inl (cy 1, 1, .inr (.inl res.2.2.2))) :: xW cy a1 res.2.1 res.2.2.1) hP hD hk hfr hP1 hD1
  replace hP : va_P D xcl (lW cy a1 res.2.1 res.2.2.1 b T o1 res.2.2.2 o2 outD) H1 := hP2
  replace hD : va_D A (lW cy a1 res.2.1 res.2.2.1 b T o1 res.2.2.2 o2 outD) := hD2
  clear hP2 hD2 hP1 hD1 hk hz hPc hDc hfr hvm ht
  generalize H1 = H at hP hS ⊢
  rw [← ha1] at hl
  refine lv_istore (lv' := [(6, .int res.1), (0, .ref sb), (1, .ref (a1.1 0)), (2, .ref (b 0)), (3, .ref o1), (4, .ref o2), (5, .int i)]) hx hb dL_law_1571 hl (by decide) rfl (fun ls hl => ?_)
  refine lv_aload_n hx hb dL_law_1573 rfl (lv_at hl 3 rfl) ?_
  refine lv_aload_n hx hb dL_law_1574 rfl (lv_at hl 1 rfl) ?_
  refine lv_iload hx hb dL_law_1575 (lv_at hl 6 rfl) ?_
  refine lv_iconst (v := 1) hx hb dL_law_1577 (by decide) ?_
  refine lv_iadd hx hb dL_law_1578 ?_
  refine va_sld hx hb hX hsb hsA hS hi1 dL_law_1579 ?_
  refine lv_aload_n hx hb dL_law_1580 rfl (lv_at hl 1 rfl) ?_
  refine lv_iload hx hb dL_law_1581 (lv_at hl 6 rfl) ?_
  refine lv_iconst (v := 2) hx hb dL_law_1583 (by decide) ?_
  refine lv_iadd hx hb dL_law_1584 ?_
  refine va_sld hx hb hX hsb hsA hS hi2 dL_law_1585 ?_
  replace hP := zP_perm l_perm1 hP
  replace hD := zD_perm l_perm1 hD
  have hPc := lP_app hP
  have hDc := lD_app hD
  have hfr := z_free hDc hS hA
  refine va_calli (va_runV (As := [.int (xs (i + 1).toNatClampNeg), .int (xs (i + 2).toNatClampNeg)]) (rest := []) ⟨hx, hb, hml, hown, hts⟩ (c_X4_earliestByMinutes l D cy b T H.size (xs (i + 1).toNatClampNeg) (xs (i + 2).toNatClampNeg) hr) (cwV 2 hts gL_law_X4_earliestByMinutes rfl rfl rfl hd_X4_earliestByMinutes ⟨Nat.le_of_ble_eq_true rfl, Nat.le_of_ble_eq_true rfl⟩) ⟨zJ_blind rI_blind, va_recv hK hPc (ci := 4) (q0 := 0) rfl rfl, zJ_at (rI_at hPc hK hDc)⟩ rfl rfl hl.1 rfl (lv_room (Nat.le_of_ble_eq_true rfl)) dL_law_1586 ⟨by omega, by omega⟩) hS (fun q _ h => hfr q h) hfr (fun r9 u9 t H1 locs1 ht hvm hw hB hz hk hS => ?_)
  obtain ⟨hP1, hD1⟩ := hB
  rw [ht] at hP1
  subst hw
  obtain ⟨hP2, hD2⟩ := z_join (ws := (lOutD cy o2 outD) :: (lOut cy o1 res.2.2.2) :: xW cy a1 res.2.1 res.2.2.1) (wc := rW cy b T) (w1 := rW cy b rr.2) hP hD hk hfr hP1 hD1
  replace hP2 := zP_perm l_perm1.symm hP2
  replace hD2 := zD_perm l_perm1.symm hD2
  replace hP : va_P D xcl (lW cy a1 res.2.1 res.2.2.1 b rr.2 o1 res.2.2.2 o2 outD) H1 := hP2
  replace hD : va_D A (lW cy a1 res.2.1 res.2.2.1 b rr.2 o1 res.2.2.2 o2 outD) := hD2
  clear hP2 hD2 hP1 hD1 hk hz hPc hDc hfr hvm ht
  generalize H1 = H at hP hS ⊢
  refine lv_istore (lv' := [(7, .int rr.1), (6, .int res.1), (0, .ref sb), (1, .ref (a1.1 0)), (2, .ref (b 0)), (3, .ref o1), (4, .ref o2), (5, .int i)]) hx hb dL_law_1589 hl (by decide) rfl (fun ls hl => ?_)
  refine lv_aload_n hx hb dL_law_1591 rfl (lv_at hl 4 rfl) ?_
  have hPc := lP_app (zP_perm l_perm1 hP)
  have hDc := lD_app (zD_perm l_perm1 hD)
  refine zcSi (W.runV (As := []) (rest := []) ⟨hx, hb, hml, hown, hts⟩ (c_X4_thrown l D cy b rr.2 (res := rr.2.1 27) rfl) (cwV 0 hts gL_law_X4_thrown rfl rfl rfl hd_X4_thrown ⟨Nat.le_of_ble_eq_true rfl, Nat.le_of_ble_eq_true rfl⟩) ⟨rI_blind, va_recv hK hPc (ci := 4) (q0 := 0) rfl rfl, rI_at hPc hK hDc⟩ rfl rfl hl.1 rfl (lv_room (Nat.le_of_ble_eq_true rfl)) dL_law_1592 ⟨by omega, by omega⟩) ?_
  refine lv_iload hx hb dL_law_1595 (lv_at hl 1 rfl) ?_
  refine lv_icmp_eq (tgt := 1602) hx hb dL_law_1597 (by decide) (fun c0 => ?_) (fun c0 => absurd ht0 c0)
  refine lv_iload hx hb dL_law_1602 (lv_at hl 1 rfl) ?_
  refine lv_if_ne (tgt := 1619) hx hb dL_law_1604 (by decide) (fun c0 => ?_) (fun c0 => ?_)
  · refine lv_goto (tgt := 2861) hx hb dL_law_1619 (by decide) ?_
    refine W.widen (k := cells_ + 16) (n := slots_ + 130) (by omega) (by omega) ?_
    exact hk ha1 _ _ _ hP hD hS (lv_sub hl [2, 3, 4, 5, 6, 7] rfl)
  · refine lv_aload_n hx hb dL_law_1607 rfl (lv_at hl 5 rfl) ?_
    refine lv_iconst (v := 0) hx hb dL_law_1608 (by decide) ?_
    refine va_lald hx hb hK (zP_perm l_perm4 hP) 0 1 rfl rfl (show vp_in 0 1 from by unfold vp_in; decide) dL_law_1609 ?_
    refine lv_iload hx hb dL_law_1610 (lv_at hl 0 rfl) ?_
    refine lv_i2l (v := Int32.toInt64 rr.1) hx hb dL_law_1612 rfl ?_
    refine W.lcmp hx hb dL_law_1613 ?_
    refine lv_if_eq (tgt := 1619) hx hb dL_law_1614 (by decide) (fun c2 => ?_) (fun c2 => absurd (l_cmp (hv c0)) c2)
    refine lv_goto (tgt := 2861) hx hb dL_law_1619 (by decide) ?_
    refine W.widen (k := cells_ + 16) (n := slots_ + 130) (by omega) (by omega) ?_
    exact hk ha1 _ _ _ hP hD hS (lv_sub hl [2, 3, 4, 5, 6, 7] rfl)
set_option maxHeartbeats 4000000 in
set_option maxRecDepth 100000 in
theorem l_case_20 (hC0 : lC p l s m args meth c D cy A sb L xs) {a : XA} {n : Nat → Nat} {V : XV} {b : Nat → Nat} {T : RV} {o1 o2 : Nat} {out : Nat → Int64} {outD : Nat → UInt64} {i : Int32} {H : Heap} {locs : List Loc} {ls : Array Slot} {cells_ slots_ : Nat} (hc1 : cells_ + 16 ≤ room_1.cells) (hc2 : slots_ + 130 ≤ room_1.slots) (hP : va_P D xcl (lW cy a n V b T o1 out o2 outD) H) (hD : va_D A (lW cy a n V b T o1 out o2 outD)) (hS : va_S A s.heap H locs) (hl : lv_has ls 9 [(0, .ref sb), (1, .ref (a.1 0)), (2, .ref (b 0)), (3, .ref o1), (4, .ref o2), (5, .int i)]) (hi1 : vp_in (i + 1) L) {res : Int32 × (Nat → Nat) × XV × (Nat → Int64)} {rr : Int32 × RV} (hf : f_L_stateOf n V out (xs (i + 1).toNatClampNeg) = some res) (hr : f_X4_stateOf T (xs (i + 1).toNatClampNeg) = some rr) (ht0 : rr.2.1 27 = res.1) (hv : res.1 = 0 → res.2.2.2 (0 : Int32).toNatClampNeg = Int32.toInt64 rr.1)
    (hk : ∀ {a1 : XA} (_ : a1.1 = a.1) (H : Heap) (locs : List Loc) (ls : Array Slot), va_P D xcl (lW cy a1 res.2.1 res.2.2.1 b rr.2 o1 res.2.2.2 o2 outD) H → va_D A (lW cy a1 res.2.1 res.2.2.1 b rr.2 o1 res.2.2.2 o2 outD) → va_S A s.heap H locs → lv_has ls 9 [(0, .ref sb), (1, .ref (a1.1 0)), (2, .ref (b 0)), (3, .ref o1), (4, .ref o2), (5, .int i)] → W p l e room_1 s m args below meth c H locs (cells_ + 16) (slots_ + 130) Q (F0 m 2861 ls [])) : W p l e room_1 s m args below meth c H locs cells_ slots_ Q (F0 m 1622 ls []) := by
  obtain ⟨hl0, hx, hb, hml, hown, hts, hK, hA, hC, hZ, hX, hsb, hsA⟩ := hC0
  refine lv_aload_n hx hb dL_law_1622 rfl (lv_at hl 1 rfl) ?_
  refine lv_aload_n hx hb dL_law_1623 rfl (lv_at hl 0 rfl) ?_
  refine lv_iload hx hb dL_law_1624 (lv_at hl 5 rfl) ?_
  refine lv_iconst (v := 1) hx hb dL_law_1626 (by decide) ?_
  refine lv_iadd hx hb dL_law_1627 ?_
  refine va_sld hx hb hX hsb hsA hS hi1 dL_law_1628 ?_
  refine lv_aload_n hx hb dL_law_1629 rfl (lv_at hl 3 rfl) ?_
  have hPc := lP_app hP
  have hDc := lD_app hD
  have hfr := z_free hDc hS hA
  refine va_calli (vx_runSW (As := [.ref (a.1 0), .int (xs (i + 1).toNatClampNeg), .ref o1]) (rest := []) ⟨hx, hb, hml, hown, hts⟩ (c_L_stateOf l hl0 D cy a n V o1 out H.size (xs (i + 1).toNatClampNeg) hf) (vx_cwSW 3 hts gL_law_L_stateOf rfl rfl rfl hd_L_stateOf ⟨Nat.le_of_ble_eq_true rfl, Nat.le_of_ble_eq_true rfl⟩) ⟨lX_blind, lX_at hC hZ hS hfr hPc hK hDc⟩ rfl rfl hl.1 rfl (lv_room (Nat.le_of_ble_eq_true rfl)) dL_law_1630 ⟨by omega, by omega⟩) hS (fun q _ h => hfr q h) hfr (fun r9 a1 t H1 locs1 ht hvm hw hB hz hk hS => ?_)
  obtain ⟨ha1, hP1, hD1⟩ := hB
  rw [ht] at hP1
  subst hw
  obtain ⟨hP2, hD2⟩ := z_join (ws := lOutD cy o2 outD :: rW cy b T) (wc := lOut cy o1 out :: xW cy a n V) (w1 := (o1, .inl (cy 1, 1, .inr (.inl res.2.2.2))) :: xW cy a1 res.2.1 res.2.2.1) hP hD hk hfr hP1 hD1
  replace hP : va_P D xcl (lW cy a1 res.2.1 res.2.2.1 b T o1 res.2.2.2 o2 outD) H1 := hP2
  replace hD : va_D A (lW cy a1 res.2.1 res.2.2.1 b T o1 res.2.2.2 o2 outD) := hD2
  clear hP2 hD2 hP1 hD1 hk hz hPc hDc hfr hvm ht
  generalize H1 = H at hP hS ⊢
  rw [← ha1] at hl
  refine lv_istore (lv' := [(6, .int res.1), (0, .ref sb), (1, .ref (a1.1 0)), (2, .ref (b 0)), (3, .ref o1), (4, .ref o2), (5, .int i)]) hx hb dL_law_1633 hl (by decide) rfl (fun ls hl => ?_)
  refine lv_aload_n hx hb dL_law_1635 rfl (lv_at hl 3 rfl) ?_
  refine lv_aload_n hx hb dL_law_1636 rfl (lv_at hl 1 rfl) ?_
  refine lv_iload hx hb dL_law_1637 (lv_at hl 6 rfl) ?_
  refine lv_iconst (v := 1) hx hb dL_law_1639 (by decide) ?_
  refine lv_iadd hx hb dL_law_1640 ?_
  refine va_sld hx hb hX hsb hsA hS hi1 dL_law_1641 ?_
  replace hP := zP_perm l_perm1 hP
  replace hD := zD_perm l_perm1 hD
  have hPc := lP_app hP
  have hDc := lD_app hD
  have hfr := z_free hDc hS hA
  refine va_calli (va_runV (As := [.int (xs (i + 1).toNatClampNeg)]) (rest := []) ⟨hx, hb, hml, hown, hts⟩ (c_X4_stateOf l D cy b T H.size (xs (i + 1).toNatClampNeg) hr) (cwV 1 hts gL_law_X4_stateOf rfl rfl rfl hd_X4_stateOf ⟨Nat.le_of_ble_eq_true rfl, Nat.le_of_ble_eq_true rfl⟩) ⟨zJ_blind rI_blind, va_recv hK hPc (ci := 4) (q0 := 0) rfl rfl, zJ_at (rI_at hPc hK hDc)⟩ rfl rfl hl.1 rfl (lv_room (Nat.le_of_ble_eq_true rfl)) dL_law_1642 ⟨by omega, by omega⟩) hS (fun q _ h => hfr q h) hfr (fun r9 u9 t H1 locs1 ht hvm hw hB hz hk hS => ?_)
  obtain ⟨hP1, hD1⟩ := hB
  rw [ht] at hP1
  subst hw
  obtain ⟨hP2, hD2⟩ := z_join (ws := (lOutD cy o2 outD) :: (lOut cy o1 res.2.2.2) :: xW cy a1 res.2.1 res.2.2.1) (wc := rW cy b T) (w1 := rW cy b rr.2) hP hD hk hfr hP1 hD1
  replace hP2 := zP_perm l_perm1.symm hP2
  replace hD2 := zD_perm l_perm1.symm hD2
  replace hP : va_P D xcl (lW cy a1 res.2.1 res.2.2.1 b rr.2 o1 res.2.2.2 o2 outD) H1 := hP2
  replace hD : va_D A (lW cy a1 res.2.1 res.2.2.1 b rr.2 o1 res.2.2.2 o2 outD) := hD2
  clear hP2 hD2 hP1 hD1 hk hz hPc hDc hfr hvm ht
  generalize H1 = H at hP hS ⊢
  refine lv_istore (lv' := [(7, .int rr.1), (6, .int res.1), (0, .ref sb), (1, .ref (a1.1 0)), (2, .ref (b 0)), (3, .ref o1), (4, .ref o2), (5, .int i)]) hx hb dL_law_1645 hl (by decide) rfl (fun ls hl => ?_)
  refine lv_aload_n hx hb dL_law_1647 rfl (lv_at hl 4 rfl) ?_
  have hPc := lP_app (zP_perm l_perm1 hP)
  have hDc := lD_app (zD_perm l_perm1 hD)
  refine zcSi (W.runV (As := []) (rest := []) ⟨hx, hb, hml, hown, hts⟩ (c_X4_thrown l D cy b rr.2 (res := rr.2.1 27) rfl) (cwV 0 hts gL_law_X4_thrown rfl rfl rfl hd_X4_thrown ⟨Nat.le_of_ble_eq_true rfl, Nat.le_of_ble_eq_true rfl⟩) ⟨rI_blind, va_recv hK hPc (ci := 4) (q0 := 0) rfl rfl, rI_at hPc hK hDc⟩ rfl rfl hl.1 rfl (lv_room (Nat.le_of_ble_eq_true rfl)) dL_law_1648 ⟨by omega, by omega⟩) ?_
  refine lv_iload hx hb dL_law_1651 (lv_at hl 1 rfl) ?_
  refine lv_icmp_eq (tgt := 1658) hx hb dL_law_1653 (by decide) (fun c0 => ?_) (fun c0 => absurd ht0 c0)
  refine lv_iload hx hb dL_law_1658 (lv_at hl 1 rfl) ?_
  refine lv_if_ne (tgt := 1675) hx hb dL_law_1660 (by decide) (fun c0 => ?_) (fun c0 => ?_)
  · refine lv_goto (tgt := 2861) hx hb dL_law_1675 (by decide) ?_
    refine W.widen (k := cells_ + 16) (n := slots_ + 130) (by omega) (by omega) ?_
    exact hk ha1 _ _ _ hP hD hS (lv_sub hl [2, 3, 4, 5, 6, 7] rfl)
  · refine lv_aload_n hx hb dL_law_1663 rfl (lv_at hl 5 rfl) ?_
    refine lv_iconst (v := 0) hx hb dL_law_1664 (by decide) ?_
    refine va_lald hx hb hK (zP_perm l_perm4 hP) 0 1 rfl rfl (show vp_in 0 1 from by unfold vp_in; decide) dL_law_1665 ?_
    refine lv_iload hx hb dL_law_1666 (lv_at hl 0 rfl) ?_
    refine lv_i2l (v := Int32.toInt64 rr.1) hx hb dL_law_1668 rfl ?_
    refine W.lcmp hx hb dL_law_1669 ?_
    refine lv_if_eq (tgt := 1675) hx hb dL_law_1670 (by decide) (fun c2 => ?_) (fun c2 => absurd (l_cmp (hv c0)) c2)
    refine lv_goto (tgt := 2861) hx hb dL_law_1675 (by decide) ?_
    refine W.widen (k := cells_ + 16) (n := slots_ + 130) (by omega) (by omega) ?_
    exact hk ha1 _ _ _ hP hD hS (lv_sub hl [2, 3, 4, 5, 6, 7] rfl)
set_option maxHeartbeats 4000000 in
set_option maxRecDepth 100000 in
theorem l_case_21 (hC0 : lC p l s m args meth c D cy A sb L xs) {a : XA} {n : Nat → Nat} {V : XV} {b : Nat → Nat} {T : RV} {o1 o2 : Nat} {out : Nat → Int64} {outD : Nat → UInt64} {i : Int32} {H : Heap} {locs : List Loc} {ls : Array Slot} {cells_ slots_ : Nat} (hc1 : cells_ + 16 ≤ room_1.cells) (hc2 : slots_ + 130 ≤ room_1.slots) (hP : va_P D xcl (lW cy a n V b T o1 out o2 outD) H) (hD : va_D A (lW cy a n V b T o1 out o2 outD)) (hS : va_S A s.heap H locs) (hl : lv_has ls 9 [(0, .ref sb), (1, .ref (a.1 0)), (2, .ref (b 0)), (3, .ref o1), (4, .ref o2), (5, .int i)]) (hi1 : vp_in (i + 1) L) {res : Int32 × (Nat → Nat) × XV × (Nat → Int64)} {rr : Int32 × RV} (hf : f_L_startOf n V out (xs (i + 1).toNatClampNeg) = some res) (hr : f_X4_startOf T (xs (i + 1).toNatClampNeg) = some rr) (ht0 : rr.2.1 27 = res.1) (hv : res.1 = 0 → res.2.2.2 (0 : Int32).toNatClampNeg = Int32.toInt64 rr.1)
    (hk : ∀ {a1 : XA} (_ : a1.1 = a.1) (H : Heap) (locs : List Loc) (ls : Array Slot), va_P D xcl (lW cy a1 res.2.1 res.2.2.1 b rr.2 o1 res.2.2.2 o2 outD) H → va_D A (lW cy a1 res.2.1 res.2.2.1 b rr.2 o1 res.2.2.2 o2 outD) → va_S A s.heap H locs → lv_has ls 9 [(0, .ref sb), (1, .ref (a1.1 0)), (2, .ref (b 0)), (3, .ref o1), (4, .ref o2), (5, .int i)] → W p l e room_1 s m args below meth c H locs (cells_ + 16) (slots_ + 130) Q (F0 m 2861 ls [])) : W p l e room_1 s m args below meth c H locs cells_ slots_ Q (F0 m 1678 ls []) := by
  obtain ⟨hl0, hx, hb, hml, hown, hts, hK, hA, hC, hZ, hX, hsb, hsA⟩ := hC0
  refine lv_aload_n hx hb dL_law_1678 rfl (lv_at hl 1 rfl) ?_
  refine lv_aload_n hx hb dL_law_1679 rfl (lv_at hl 0 rfl) ?_
  refine lv_iload hx hb dL_law_1680 (lv_at hl 5 rfl) ?_
  refine lv_iconst (v := 1) hx hb dL_law_1682 (by decide) ?_
  refine lv_iadd hx hb dL_law_1683 ?_
  refine va_sld hx hb hX hsb hsA hS hi1 dL_law_1684 ?_
  refine lv_aload_n hx hb dL_law_1685 rfl (lv_at hl 3 rfl) ?_
  have hPc := lP_app hP
  have hDc := lD_app hD
  have hfr := z_free hDc hS hA
  refine va_calli (vx_runSW (As := [.ref (a.1 0), .int (xs (i + 1).toNatClampNeg), .ref o1]) (rest := []) ⟨hx, hb, hml, hown, hts⟩ (c_L_startOf l hl0 D cy a n V o1 out H.size (xs (i + 1).toNatClampNeg) hf) (vx_cwSW 3 hts gL_law_L_startOf rfl rfl rfl hd_L_startOf ⟨Nat.le_of_ble_eq_true rfl, Nat.le_of_ble_eq_true rfl⟩) ⟨lX_blind, lX_at hC hZ hS hfr hPc hK hDc⟩ rfl rfl hl.1 rfl (lv_room (Nat.le_of_ble_eq_true rfl)) dL_law_1686 ⟨by omega, by omega⟩) hS (fun q _ h => hfr q h) hfr (fun r9 a1 t H1 locs1 ht hvm hw hB hz hk hS => ?_)
  obtain ⟨ha1, hP1, hD1⟩ := hB
  rw [ht] at hP1
  subst hw
  obtain ⟨hP2, hD2⟩ := z_join (ws := lOutD cy o2 outD :: rW cy b T) (wc := lOut cy o1 out :: xW cy a n V) (w1 := (o1, .inl (cy 1, 1, .inr (.inl res.2.2.2))) :: xW cy a1 res.2.1 res.2.2.1) hP hD hk hfr hP1 hD1
  replace hP : va_P D xcl (lW cy a1 res.2.1 res.2.2.1 b T o1 res.2.2.2 o2 outD) H1 := hP2
  replace hD : va_D A (lW cy a1 res.2.1 res.2.2.1 b T o1 res.2.2.2 o2 outD) := hD2
  clear hP2 hD2 hP1 hD1 hk hz hPc hDc hfr hvm ht
  generalize H1 = H at hP hS ⊢
  rw [← ha1] at hl
  refine lv_istore (lv' := [(6, .int res.1), (0, .ref sb), (1, .ref (a1.1 0)), (2, .ref (b 0)), (3, .ref o1), (4, .ref o2), (5, .int i)]) hx hb dL_law_1689 hl (by decide) rfl (fun ls hl => ?_)
  refine lv_aload_n hx hb dL_law_1691 rfl (lv_at hl 3 rfl) ?_
  refine lv_aload_n hx hb dL_law_1692 rfl (lv_at hl 1 rfl) ?_
  refine lv_iload hx hb dL_law_1693 (lv_at hl 6 rfl) ?_
  refine lv_iconst (v := 1) hx hb dL_law_1695 (by decide) ?_
  refine lv_iadd hx hb dL_law_1696 ?_
  refine va_sld hx hb hX hsb hsA hS hi1 dL_law_1697 ?_
  replace hP := zP_perm l_perm1 hP
  replace hD := zD_perm l_perm1 hD
  have hPc := lP_app hP
  have hDc := lD_app hD
  have hfr := z_free hDc hS hA
  refine va_calli (va_runV (As := [.int (xs (i + 1).toNatClampNeg)]) (rest := []) ⟨hx, hb, hml, hown, hts⟩ (c_X4_startOf l D cy b T H.size (xs (i + 1).toNatClampNeg) hr) (cwV 1 hts gL_law_X4_startOf rfl rfl rfl hd_X4_startOf ⟨Nat.le_of_ble_eq_true rfl, Nat.le_of_ble_eq_true rfl⟩) ⟨zJ_blind rI_blind, va_recv hK hPc (ci := 4) (q0 := 0) rfl rfl, zJ_at (rI_at hPc hK hDc)⟩ rfl rfl hl.1 rfl (lv_room (Nat.le_of_ble_eq_true rfl)) dL_law_1698 ⟨by omega, by omega⟩) hS (fun q _ h => hfr q h) hfr (fun r9 u9 t H1 locs1 ht hvm hw hB hz hk hS => ?_)
  obtain ⟨hP1, hD1⟩ := hB
  rw [ht] at hP1
  subst hw
  obtain ⟨hP2, hD2⟩ := z_join (ws := (lOutD cy o2 outD) :: (lOut cy o1 res.2.2.2) :: xW cy a1 res.2.1 res.2.2.1) (wc := rW cy b T) (w1 := rW cy b rr.2) hP hD hk hfr hP1 hD1
  replace hP2 := zP_perm l_perm1.symm hP2
  replace hD2 := zD_perm l_perm1.symm hD2
  replace hP : va_P D xcl (lW cy a1 res.2.1 res.2.2.1 b rr.2 o1 res.2.2.2 o2 outD) H1 := hP2
  replace hD : va_D A (lW cy a1 res.2.1 res.2.2.1 b rr.2 o1 res.2.2.2 o2 outD) := hD2
  clear hP2 hD2 hP1 hD1 hk hz hPc hDc hfr hvm ht
  generalize H1 = H at hP hS ⊢
  refine lv_istore (lv' := [(7, .int rr.1), (6, .int res.1), (0, .ref sb), (1, .ref (a1.1 0)), (2, .ref (b 0)), (3, .ref o1), (4, .ref o2), (5, .int i)]) hx hb dL_law_1701 hl (by decide) rfl (fun ls hl => ?_)
  refine lv_aload_n hx hb dL_law_1703 rfl (lv_at hl 4 rfl) ?_
  have hPc := lP_app (zP_perm l_perm1 hP)
  have hDc := lD_app (zD_perm l_perm1 hD)
  refine zcSi (W.runV (As := []) (rest := []) ⟨hx, hb, hml, hown, hts⟩ (c_X4_thrown l D cy b rr.2 (res := rr.2.1 27) rfl) (cwV 0 hts gL_law_X4_thrown rfl rfl rfl hd_X4_thrown ⟨Nat.le_of_ble_eq_true rfl, Nat.le_of_ble_eq_true rfl⟩) ⟨rI_blind, va_recv hK hPc (ci := 4) (q0 := 0) rfl rfl, rI_at hPc hK hDc⟩ rfl rfl hl.1 rfl (lv_room (Nat.le_of_ble_eq_true rfl)) dL_law_1704 ⟨by omega, by omega⟩) ?_
  refine lv_iload hx hb dL_law_1707 (lv_at hl 1 rfl) ?_
  refine lv_icmp_eq (tgt := 1714) hx hb dL_law_1709 (by decide) (fun c0 => ?_) (fun c0 => absurd ht0 c0)
  refine lv_iload hx hb dL_law_1714 (lv_at hl 1 rfl) ?_
  refine lv_if_ne (tgt := 1731) hx hb dL_law_1716 (by decide) (fun c0 => ?_) (fun c0 => ?_)
  · refine lv_goto (tgt := 2861) hx hb dL_law_1731 (by decide) ?_
    refine W.widen (k := cells_ + 16) (n := slots_ + 130) (by omega) (by omega) ?_
    exact hk ha1 _ _ _ hP hD hS (lv_sub hl [2, 3, 4, 5, 6, 7] rfl)
  · refine lv_aload_n hx hb dL_law_1719 rfl (lv_at hl 5 rfl) ?_
    refine lv_iconst (v := 0) hx hb dL_law_1720 (by decide) ?_
    refine va_lald hx hb hK (zP_perm l_perm4 hP) 0 1 rfl rfl (show vp_in 0 1 from by unfold vp_in; decide) dL_law_1721 ?_
    refine lv_iload hx hb dL_law_1722 (lv_at hl 0 rfl) ?_
    refine lv_i2l (v := Int32.toInt64 rr.1) hx hb dL_law_1724 rfl ?_
    refine W.lcmp hx hb dL_law_1725 ?_
    refine lv_if_eq (tgt := 1731) hx hb dL_law_1726 (by decide) (fun c2 => ?_) (fun c2 => absurd (l_cmp (hv c0)) c2)
    refine lv_goto (tgt := 2861) hx hb dL_law_1731 (by decide) ?_
    refine W.widen (k := cells_ + 16) (n := slots_ + 130) (by omega) (by omega) ?_
    exact hk ha1 _ _ _ hP hD hS (lv_sub hl [2, 3, 4, 5, 6, 7] rfl)
set_option maxHeartbeats 4000000 in
set_option maxRecDepth 100000 in
theorem l_case_22 (hC0 : lC p l s m args meth c D cy A sb L xs) {a : XA} {n : Nat → Nat} {V : XV} {b : Nat → Nat} {T : RV} {o1 o2 : Nat} {out : Nat → Int64} {outD : Nat → UInt64} {i : Int32} {H : Heap} {locs : List Loc} {ls : Array Slot} {cells_ slots_ : Nat} (hc1 : cells_ + 16 ≤ room_1.cells) (hc2 : slots_ + 130 ≤ room_1.slots) (hP : va_P D xcl (lW cy a n V b T o1 out o2 outD) H) (hD : va_D A (lW cy a n V b T o1 out o2 outD)) (hS : va_S A s.heap H locs) (hl : lv_has ls 9 [(0, .ref sb), (1, .ref (a.1 0)), (2, .ref (b 0)), (3, .ref o1), (4, .ref o2), (5, .int i)]) (hi1 : vp_in (i + 1) L) {res : Int32 × (Nat → Nat) × XV × (Nat → Int64)} {rr : Int32 × RV} (hf : f_L_craneOf n V out (xs (i + 1).toNatClampNeg) = some res) (hr : f_X4_craneOf T (xs (i + 1).toNatClampNeg) = some rr) (ht0 : rr.2.1 27 = res.1) (hv : res.1 = 0 → res.2.2.2 (0 : Int32).toNatClampNeg = Int32.toInt64 rr.1)
    (hk : ∀ {a1 : XA} (_ : a1.1 = a.1) (H : Heap) (locs : List Loc) (ls : Array Slot), va_P D xcl (lW cy a1 res.2.1 res.2.2.1 b rr.2 o1 res.2.2.2 o2 outD) H → va_D A (lW cy a1 res.2.1 res.2.2.1 b rr.2 o1 res.2.2.2 o2 outD) → va_S A s.heap H locs → lv_has ls 9 [(0, .ref sb), (1, .ref (a1.1 0)), (2, .ref (b 0)), (3, .ref o1), (4, .ref o2), (5, .int i)] → W p l e room_1 s m args below meth c H locs (cells_ + 16) (slots_ + 130) Q (F0 m 2861 ls [])) : W p l e room_1 s m args below meth c H locs cells_ slots_ Q (F0 m 1734 ls []) := by
  obtain ⟨hl0, hx, hb, hml, hown, hts, hK, hA, hC, hZ, hX, hsb, hsA⟩ := hC0
  refine lv_aload_n hx hb dL_law_1734 rfl (lv_at hl 1 rfl) ?_
  refine lv_aload_n hx hb dL_law_1735 rfl (lv_at hl 0 rfl) ?_
  refine lv_iload hx hb dL_law_1736 (lv_at hl 5 rfl) ?_
  refine lv_iconst (v := 1) hx hb dL_law_1738 (by decide) ?_
  refine lv_iadd hx hb dL_law_1739 ?_
  refine va_sld hx hb hX hsb hsA hS hi1 dL_law_1740 ?_
  refine lv_aload_n hx hb dL_law_1741 rfl (lv_at hl 3 rfl) ?_
  have hPc := lP_app hP
  have hDc := lD_app hD
  have hfr := z_free hDc hS hA
  refine va_calli (vx_runSW (As := [.ref (a.1 0), .int (xs (i + 1).toNatClampNeg), .ref o1]) (rest := []) ⟨hx, hb, hml, hown, hts⟩ (c_L_craneOf l hl0 D cy a n V o1 out H.size (xs (i + 1).toNatClampNeg) hf) (vx_cwSW 3 hts gL_law_L_craneOf rfl rfl rfl hd_L_craneOf ⟨Nat.le_of_ble_eq_true rfl, Nat.le_of_ble_eq_true rfl⟩) ⟨lX_blind, lX_at hC hZ hS hfr hPc hK hDc⟩ rfl rfl hl.1 rfl (lv_room (Nat.le_of_ble_eq_true rfl)) dL_law_1742 ⟨by omega, by omega⟩) hS (fun q _ h => hfr q h) hfr (fun r9 a1 t H1 locs1 ht hvm hw hB hz hk hS => ?_)
  obtain ⟨ha1, hP1, hD1⟩ := hB
  rw [ht] at hP1
  subst hw
  obtain ⟨hP2, hD2⟩ := z_join (ws := lOutD cy o2 outD :: rW cy b T) (wc := lOut cy o1 out :: xW cy a n V) (w1 := (o1, .inl (cy 1, 1, .inr (.inl res.2.2.2))) :: xW cy a1 res.2.1 res.2.2.1) hP hD hk hfr hP1 hD1
  replace hP : va_P D xcl (lW cy a1 res.2.1 res.2.2.1 b T o1 res.2.2.2 o2 outD) H1 := hP2
  replace hD : va_D A (lW cy a1 res.2.1 res.2.2.1 b T o1 res.2.2.2 o2 outD) := hD2
  clear hP2 hD2 hP1 hD1 hk hz hPc hDc hfr hvm ht
  generalize H1 = H at hP hS ⊢
  rw [← ha1] at hl
  refine lv_istore (lv' := [(6, .int res.1), (0, .ref sb), (1, .ref (a1.1 0)), (2, .ref (b 0)), (3, .ref o1), (4, .ref o2), (5, .int i)]) hx hb dL_law_1745 hl (by decide) rfl (fun ls hl => ?_)
  refine lv_aload_n hx hb dL_law_1747 rfl (lv_at hl 3 rfl) ?_
  refine lv_aload_n hx hb dL_law_1748 rfl (lv_at hl 1 rfl) ?_
  refine lv_iload hx hb dL_law_1749 (lv_at hl 6 rfl) ?_
  refine lv_iconst (v := 1) hx hb dL_law_1751 (by decide) ?_
  refine lv_iadd hx hb dL_law_1752 ?_
  refine va_sld hx hb hX hsb hsA hS hi1 dL_law_1753 ?_
  replace hP := zP_perm l_perm1 hP
  replace hD := zD_perm l_perm1 hD
  have hPc := lP_app hP
  have hDc := lD_app hD
  have hfr := z_free hDc hS hA
  refine va_calli (va_runV (As := [.int (xs (i + 1).toNatClampNeg)]) (rest := []) ⟨hx, hb, hml, hown, hts⟩ (c_X4_craneOf l D cy b T H.size (xs (i + 1).toNatClampNeg) hr) (cwV 1 hts gL_law_X4_craneOf rfl rfl rfl hd_X4_craneOf ⟨Nat.le_of_ble_eq_true rfl, Nat.le_of_ble_eq_true rfl⟩) ⟨zJ_blind rI_blind, va_recv hK hPc (ci := 4) (q0 := 0) rfl rfl, zJ_at (rI_at hPc hK hDc)⟩ rfl rfl hl.1 rfl (lv_room (Nat.le_of_ble_eq_true rfl)) dL_law_1754 ⟨by omega, by omega⟩) hS (fun q _ h => hfr q h) hfr (fun r9 u9 t H1 locs1 ht hvm hw hB hz hk hS => ?_)
  obtain ⟨hP1, hD1⟩ := hB
  rw [ht] at hP1
  subst hw
  obtain ⟨hP2, hD2⟩ := z_join (ws := (lOutD cy o2 outD) :: (lOut cy o1 res.2.2.2) :: xW cy a1 res.2.1 res.2.2.1) (wc := rW cy b T) (w1 := rW cy b rr.2) hP hD hk hfr hP1 hD1
  replace hP2 := zP_perm l_perm1.symm hP2
  replace hD2 := zD_perm l_perm1.symm hD2
  replace hP : va_P D xcl (lW cy a1 res.2.1 res.2.2.1 b rr.2 o1 res.2.2.2 o2 outD) H1 := hP2
  replace hD : va_D A (lW cy a1 res.2.1 res.2.2.1 b rr.2 o1 res.2.2.2 o2 outD) := hD2
  clear hP2 hD2 hP1 hD1 hk hz hPc hDc hfr hvm ht
  generalize H1 = H at hP hS ⊢
  refine lv_istore (lv' := [(7, .int rr.1), (6, .int res.1), (0, .ref sb), (1, .ref (a1.1 0)), (2, .ref (b 0)), (3, .ref o1), (4, .ref o2), (5, .int i)]) hx hb dL_law_1757 hl (by decide) rfl (fun ls hl => ?_)
  refine lv_aload_n hx hb dL_law_1759 rfl (lv_at hl 4 rfl) ?_
  have hPc := lP_app (zP_perm l_perm1 hP)
  have hDc := lD_app (zD_perm l_perm1 hD)
  refine zcSi (W.runV (As := []) (rest := []) ⟨hx, hb, hml, hown, hts⟩ (c_X4_thrown l D cy b rr.2 (res := rr.2.1 27) rfl) (cwV 0 hts gL_law_X4_thrown rfl rfl rfl hd_X4_thrown ⟨Nat.le_of_ble_eq_true rfl, Nat.le_of_ble_eq_true rfl⟩) ⟨rI_blind, va_recv hK hPc (ci := 4) (q0 := 0) rfl rfl, rI_at hPc hK hDc⟩ rfl rfl hl.1 rfl (lv_room (Nat.le_of_ble_eq_true rfl)) dL_law_1760 ⟨by omega, by omega⟩) ?_
  refine lv_iload hx hb dL_law_1763 (lv_at hl 1 rfl) ?_
  refine lv_icmp_eq (tgt := 1770) hx hb dL_law_1765 (by decide) (fun c0 => ?_) (fun c0 => absurd ht0 c0)
  refine lv_iload hx hb dL_law_1770 (lv_at hl 1 rfl) ?_
  refine lv_if_ne (tgt := 1787) hx hb dL_law_1772 (by decide) (fun c0 => ?_) (fun c0 => ?_)
  · refine lv_goto (tgt := 2861) hx hb dL_law_1787 (by decide) ?_
    refine W.widen (k := cells_ + 16) (n := slots_ + 130) (by omega) (by omega) ?_
    exact hk ha1 _ _ _ hP hD hS (lv_sub hl [2, 3, 4, 5, 6, 7] rfl)
  · refine lv_aload_n hx hb dL_law_1775 rfl (lv_at hl 5 rfl) ?_
    refine lv_iconst (v := 0) hx hb dL_law_1776 (by decide) ?_
    refine va_lald hx hb hK (zP_perm l_perm4 hP) 0 1 rfl rfl (show vp_in 0 1 from by unfold vp_in; decide) dL_law_1777 ?_
    refine lv_iload hx hb dL_law_1778 (lv_at hl 0 rfl) ?_
    refine lv_i2l (v := Int32.toInt64 rr.1) hx hb dL_law_1780 rfl ?_
    refine W.lcmp hx hb dL_law_1781 ?_
    refine lv_if_eq (tgt := 1787) hx hb dL_law_1782 (by decide) (fun c2 => ?_) (fun c2 => absurd (l_cmp (hv c0)) c2)
    refine lv_goto (tgt := 2861) hx hb dL_law_1787 (by decide) ?_
    refine W.widen (k := cells_ + 16) (n := slots_ + 130) (by omega) (by omega) ?_
    exact hk ha1 _ _ _ hP hD hS (lv_sub hl [2, 3, 4, 5, 6, 7] rfl)
set_option maxHeartbeats 4000000 in
set_option maxRecDepth 100000 in
theorem l_case_23 (hC0 : lC p l s m args meth c D cy A sb L xs) {a : XA} {n : Nat → Nat} {V : XV} {b : Nat → Nat} {T : RV} {o1 o2 : Nat} {out : Nat → Int64} {outD : Nat → UInt64} {i : Int32} {H : Heap} {locs : List Loc} {ls : Array Slot} {cells_ slots_ : Nat} (hc1 : cells_ + 16 ≤ room_1.cells) (hc2 : slots_ + 130 ≤ room_1.slots) (hP : va_P D xcl (lW cy a n V b T o1 out o2 outD) H) (hD : va_D A (lW cy a n V b T o1 out o2 outD)) (hS : va_S A s.heap H locs) (hl : lv_has ls 9 [(0, .ref sb), (1, .ref (a.1 0)), (2, .ref (b 0)), (3, .ref o1), (4, .ref o2), (5, .int i)]) (hi1 : vp_in (i + 1) L) {res : Int32 × (Nat → Nat) × XV × (Nat → Int64)} {rr : Int32 × RV} (hf : f_L_pourOf n V out (xs (i + 1).toNatClampNeg) = some res) (hr : f_X4_pourOf T (xs (i + 1).toNatClampNeg) = some rr) (ht0 : rr.2.1 27 = res.1) (hv : res.1 = 0 → res.2.2.2 (0 : Int32).toNatClampNeg = Int32.toInt64 rr.1)
    (hk : ∀ {a1 : XA} (_ : a1.1 = a.1) (H : Heap) (locs : List Loc) (ls : Array Slot), va_P D xcl (lW cy a1 res.2.1 res.2.2.1 b rr.2 o1 res.2.2.2 o2 outD) H → va_D A (lW cy a1 res.2.1 res.2.2.1 b rr.2 o1 res.2.2.2 o2 outD) → va_S A s.heap H locs → lv_has ls 9 [(0, .ref sb), (1, .ref (a1.1 0)), (2, .ref (b 0)), (3, .ref o1), (4, .ref o2), (5, .int i)] → W p l e room_1 s m args below meth c H locs (cells_ + 16) (slots_ + 130) Q (F0 m 2861 ls [])) : W p l e room_1 s m args below meth c H locs cells_ slots_ Q (F0 m 1790 ls []) := by
  obtain ⟨hl0, hx, hb, hml, hown, hts, hK, hA, hC, hZ, hX, hsb, hsA⟩ := hC0
  refine lv_aload_n hx hb dL_law_1790 rfl (lv_at hl 1 rfl) ?_
  refine lv_aload_n hx hb dL_law_1791 rfl (lv_at hl 0 rfl) ?_
  refine lv_iload hx hb dL_law_1792 (lv_at hl 5 rfl) ?_
  refine lv_iconst (v := 1) hx hb dL_law_1794 (by decide) ?_
  refine lv_iadd hx hb dL_law_1795 ?_
  refine va_sld hx hb hX hsb hsA hS hi1 dL_law_1796 ?_
  refine lv_aload_n hx hb dL_law_1797 rfl (lv_at hl 3 rfl) ?_
  have hPc := lP_app hP
  have hDc := lD_app hD
  have hfr := z_free hDc hS hA
  refine va_calli (vx_runSW (As := [.ref (a.1 0), .int (xs (i + 1).toNatClampNeg), .ref o1]) (rest := []) ⟨hx, hb, hml, hown, hts⟩ (c_L_pourOf l hl0 D cy a n V o1 out H.size (xs (i + 1).toNatClampNeg) hf) (vx_cwSW 3 hts gL_law_L_pourOf rfl rfl rfl hd_L_pourOf ⟨Nat.le_of_ble_eq_true rfl, Nat.le_of_ble_eq_true rfl⟩) ⟨lX_blind, lX_at hC hZ hS hfr hPc hK hDc⟩ rfl rfl hl.1 rfl (lv_room (Nat.le_of_ble_eq_true rfl)) dL_law_1798 ⟨by omega, by omega⟩) hS (fun q _ h => hfr q h) hfr (fun r9 a1 t H1 locs1 ht hvm hw hB hz hk hS => ?_)
  obtain ⟨ha1, hP1, hD1⟩ := hB
  rw [ht] at hP1
  subst hw
  obtain ⟨hP2, hD2⟩ := z_join (ws := lOutD cy o2 outD :: rW cy b T) (wc := lOut cy o1 out :: xW cy a n V) (w1 := (o1, .inl (cy 1, 1, .inr (.inl res.2.2.2))) :: xW cy a1 res.2.1 res.2.2.1) hP hD hk hfr hP1 hD1
  replace hP : va_P D xcl (lW cy a1 res.2.1 res.2.2.1 b T o1 res.2.2.2 o2 outD) H1 := hP2
  replace hD : va_D A (lW cy a1 res.2.1 res.2.2.1 b T o1 res.2.2.2 o2 outD) := hD2
  clear hP2 hD2 hP1 hD1 hk hz hPc hDc hfr hvm ht
  generalize H1 = H at hP hS ⊢
  rw [← ha1] at hl
  refine lv_istore (lv' := [(6, .int res.1), (0, .ref sb), (1, .ref (a1.1 0)), (2, .ref (b 0)), (3, .ref o1), (4, .ref o2), (5, .int i)]) hx hb dL_law_1801 hl (by decide) rfl (fun ls hl => ?_)
  refine lv_aload_n hx hb dL_law_1803 rfl (lv_at hl 3 rfl) ?_
  refine lv_aload_n hx hb dL_law_1804 rfl (lv_at hl 1 rfl) ?_
  refine lv_iload hx hb dL_law_1805 (lv_at hl 6 rfl) ?_
  refine lv_iconst (v := 1) hx hb dL_law_1807 (by decide) ?_
  refine lv_iadd hx hb dL_law_1808 ?_
  refine va_sld hx hb hX hsb hsA hS hi1 dL_law_1809 ?_
  replace hP := zP_perm l_perm1 hP
  replace hD := zD_perm l_perm1 hD
  have hPc := lP_app hP
  have hDc := lD_app hD
  have hfr := z_free hDc hS hA
  refine va_calli (va_runV (As := [.int (xs (i + 1).toNatClampNeg)]) (rest := []) ⟨hx, hb, hml, hown, hts⟩ (c_X4_pourOf l D cy b T H.size (xs (i + 1).toNatClampNeg) hr) (cwV 1 hts gL_law_X4_pourOf rfl rfl rfl hd_X4_pourOf ⟨Nat.le_of_ble_eq_true rfl, Nat.le_of_ble_eq_true rfl⟩) ⟨zJ_blind rI_blind, va_recv hK hPc (ci := 4) (q0 := 0) rfl rfl, zJ_at (rI_at hPc hK hDc)⟩ rfl rfl hl.1 rfl (lv_room (Nat.le_of_ble_eq_true rfl)) dL_law_1810 ⟨by omega, by omega⟩) hS (fun q _ h => hfr q h) hfr (fun r9 u9 t H1 locs1 ht hvm hw hB hz hk hS => ?_)
  obtain ⟨hP1, hD1⟩ := hB
  rw [ht] at hP1
  subst hw
  obtain ⟨hP2, hD2⟩ := z_join (ws := (lOutD cy o2 outD) :: (lOut cy o1 res.2.2.2) :: xW cy a1 res.2.1 res.2.2.1) (wc := rW cy b T) (w1 := rW cy b rr.2) hP hD hk hfr hP1 hD1
  replace hP2 := zP_perm l_perm1.symm hP2
  replace hD2 := zD_perm l_perm1.symm hD2
  replace hP : va_P D xcl (lW cy a1 res.2.1 res.2.2.1 b rr.2 o1 res.2.2.2 o2 outD) H1 := hP2
  replace hD : va_D A (lW cy a1 res.2.1 res.2.2.1 b rr.2 o1 res.2.2.2 o2 outD) := hD2
  clear hP2 hD2 hP1 hD1 hk hz hPc hDc hfr hvm ht
  generalize H1 = H at hP hS ⊢
  refine lv_istore (lv' := [(7, .int rr.1), (6, .int res.1), (0, .ref sb), (1, .ref (a1.1 0)), (2, .ref (b 0)), (3, .ref o1), (4, .ref o2), (5, .int i)]) hx hb dL_law_1813 hl (by decide) rfl (fun ls hl => ?_)
  refine lv_aload_n hx hb dL_law_1815 rfl (lv_at hl 4 rfl) ?_
  have hPc := lP_app (zP_perm l_perm1 hP)
  have hDc := lD_app (zD_perm l_perm1 hD)
  refine zcSi (W.runV (As := []) (rest := []) ⟨hx, hb, hml, hown, hts⟩ (c_X4_thrown l D cy b rr.2 (res := rr.2.1 27) rfl) (cwV 0 hts gL_law_X4_thrown rfl rfl rfl hd_X4_thrown ⟨Nat.le_of_ble_eq_true rfl, Nat.le_of_ble_eq_true rfl⟩) ⟨rI_blind, va_recv hK hPc (ci := 4) (q0 := 0) rfl rfl, rI_at hPc hK hDc⟩ rfl rfl hl.1 rfl (lv_room (Nat.le_of_ble_eq_true rfl)) dL_law_1816 ⟨by omega, by omega⟩) ?_
  refine lv_iload hx hb dL_law_1819 (lv_at hl 1 rfl) ?_
  refine lv_icmp_eq (tgt := 1826) hx hb dL_law_1821 (by decide) (fun c0 => ?_) (fun c0 => absurd ht0 c0)
  refine lv_iload hx hb dL_law_1826 (lv_at hl 1 rfl) ?_
  refine lv_if_ne (tgt := 1843) hx hb dL_law_1828 (by decide) (fun c0 => ?_) (fun c0 => ?_)
  · refine lv_goto (tgt := 2861) hx hb dL_law_1843 (by decide) ?_
    refine W.widen (k := cells_ + 16) (n := slots_ + 130) (by omega) (by omega) ?_
    exact hk ha1 _ _ _ hP hD hS (lv_sub hl [2, 3, 4, 5, 6, 7] rfl)
  · refine lv_aload_n hx hb dL_law_1831 rfl (lv_at hl 5 rfl) ?_
    refine lv_iconst (v := 0) hx hb dL_law_1832 (by decide) ?_
    refine va_lald hx hb hK (zP_perm l_perm4 hP) 0 1 rfl rfl (show vp_in 0 1 from by unfold vp_in; decide) dL_law_1833 ?_
    refine lv_iload hx hb dL_law_1834 (lv_at hl 0 rfl) ?_
    refine lv_i2l (v := Int32.toInt64 rr.1) hx hb dL_law_1836 rfl ?_
    refine W.lcmp hx hb dL_law_1837 ?_
    refine lv_if_eq (tgt := 1843) hx hb dL_law_1838 (by decide) (fun c2 => ?_) (fun c2 => absurd (l_cmp (hv c0)) c2)
    refine lv_goto (tgt := 2861) hx hb dL_law_1843 (by decide) ?_
    refine W.widen (k := cells_ + 16) (n := slots_ + 130) (by omega) (by omega) ?_
    exact hk ha1 _ _ _ hP hD hS (lv_sub hl [2, 3, 4, 5, 6, 7] rfl)
set_option maxHeartbeats 4000000 in
set_option maxRecDepth 100000 in
theorem l_case_24 (hC0 : lC p l s m args meth c D cy A sb L xs) {a : XA} {n : Nat → Nat} {V : XV} {b : Nat → Nat} {T : RV} {o1 o2 : Nat} {out : Nat → Int64} {outD : Nat → UInt64} {i : Int32} {H : Heap} {locs : List Loc} {ls : Array Slot} {cells_ slots_ : Nat} (hc1 : cells_ + 16 ≤ room_1.cells) (hc2 : slots_ + 130 ≤ room_1.slots) (hP : va_P D xcl (lW cy a n V b T o1 out o2 outD) H) (hD : va_D A (lW cy a n V b T o1 out o2 outD)) (hS : va_S A s.heap H locs) (hl : lv_has ls 9 [(0, .ref sb), (1, .ref (a.1 0)), (2, .ref (b 0)), (3, .ref o1), (4, .ref o2), (5, .int i)]) (hi1 : vp_in (i + 1) L) {res : Int32 × (Nat → Nat) × XV × (Nat → Int64)} {rr : Int64 × RV} (hf : f_L_airOf n V out (xs (i + 1).toNatClampNeg) = some res) (hr : f_X4_airOf T (xs (i + 1).toNatClampNeg) = some rr) (ht0 : rr.2.1 27 = res.1) (hv : res.1 = 0 → res.2.2.2 (0 : Int32).toNatClampNeg = rr.1)
    (hk : ∀ {a1 : XA} (_ : a1.1 = a.1) (H : Heap) (locs : List Loc) (ls : Array Slot), va_P D xcl (lW cy a1 res.2.1 res.2.2.1 b rr.2 o1 res.2.2.2 o2 outD) H → va_D A (lW cy a1 res.2.1 res.2.2.1 b rr.2 o1 res.2.2.2 o2 outD) → va_S A s.heap H locs → lv_has ls 9 [(0, .ref sb), (1, .ref (a1.1 0)), (2, .ref (b 0)), (3, .ref o1), (4, .ref o2), (5, .int i)] → W p l e room_1 s m args below meth c H locs (cells_ + 16) (slots_ + 130) Q (F0 m 2861 ls [])) : W p l e room_1 s m args below meth c H locs cells_ slots_ Q (F0 m 1846 ls []) := by
  obtain ⟨hl0, hx, hb, hml, hown, hts, hK, hA, hC, hZ, hX, hsb, hsA⟩ := hC0
  refine lv_aload_n hx hb dL_law_1846 rfl (lv_at hl 1 rfl) ?_
  refine lv_aload_n hx hb dL_law_1847 rfl (lv_at hl 0 rfl) ?_
  refine lv_iload hx hb dL_law_1848 (lv_at hl 5 rfl) ?_
  refine lv_iconst (v := 1) hx hb dL_law_1850 (by decide) ?_
  refine lv_iadd hx hb dL_law_1851 ?_
  refine va_sld hx hb hX hsb hsA hS hi1 dL_law_1852 ?_
  refine lv_aload_n hx hb dL_law_1853 rfl (lv_at hl 3 rfl) ?_
  have hPc := lP_app hP
  have hDc := lD_app hD
  have hfr := z_free hDc hS hA
  refine va_calli (vx_runSW (As := [.ref (a.1 0), .int (xs (i + 1).toNatClampNeg), .ref o1]) (rest := []) ⟨hx, hb, hml, hown, hts⟩ (c_L_airOf l hl0 D cy a n V o1 out H.size (xs (i + 1).toNatClampNeg) hf) (vx_cwSW 3 hts gL_law_L_airOf rfl rfl rfl hd_L_airOf ⟨Nat.le_of_ble_eq_true rfl, Nat.le_of_ble_eq_true rfl⟩) ⟨lX_blind, lX_at hC hZ hS hfr hPc hK hDc⟩ rfl rfl hl.1 rfl (lv_room (Nat.le_of_ble_eq_true rfl)) dL_law_1854 ⟨by omega, by omega⟩) hS (fun q _ h => hfr q h) hfr (fun r9 a1 t H1 locs1 ht hvm hw hB hz hk hS => ?_)
  obtain ⟨ha1, hP1, hD1⟩ := hB
  rw [ht] at hP1
  subst hw
  obtain ⟨hP2, hD2⟩ := z_join (ws := lOutD cy o2 outD :: rW cy b T) (wc := lOut cy o1 out :: xW cy a n V) (w1 := (o1, .inl (cy 1, 1, .inr (.inl res.2.2.2))) :: xW cy a1 res.2.1 res.2.2.1) hP hD hk hfr hP1 hD1
  replace hP : va_P D xcl (lW cy a1 res.2.1 res.2.2.1 b T o1 res.2.2.2 o2 outD) H1 := hP2
  replace hD : va_D A (lW cy a1 res.2.1 res.2.2.1 b T o1 res.2.2.2 o2 outD) := hD2
  clear hP2 hD2 hP1 hD1 hk hz hPc hDc hfr hvm ht
  generalize H1 = H at hP hS ⊢
  rw [← ha1] at hl
  refine lv_istore (lv' := [(6, .int res.1), (0, .ref sb), (1, .ref (a1.1 0)), (2, .ref (b 0)), (3, .ref o1), (4, .ref o2), (5, .int i)]) hx hb dL_law_1857 hl (by decide) rfl (fun ls hl => ?_)
  refine lv_aload_n hx hb dL_law_1859 rfl (lv_at hl 3 rfl) ?_
  refine lv_aload_n hx hb dL_law_1860 rfl (lv_at hl 1 rfl) ?_
  refine lv_iload hx hb dL_law_1861 (lv_at hl 6 rfl) ?_
  refine lv_iconst (v := 1) hx hb dL_law_1863 (by decide) ?_
  refine lv_iadd hx hb dL_law_1864 ?_
  refine va_sld hx hb hX hsb hsA hS hi1 dL_law_1865 ?_
  replace hP := zP_perm l_perm1 hP
  replace hD := zD_perm l_perm1 hD
  have hPc := lP_app hP
  have hDc := lD_app hD
  have hfr := z_free hDc hS hA
  refine va_calll (va_runV (As := [.int (xs (i + 1).toNatClampNeg)]) (rest := []) ⟨hx, hb, hml, hown, hts⟩ (c_X4_airOf l D cy b T H.size (xs (i + 1).toNatClampNeg) hr) (cwV 1 hts gL_law_X4_airOf rfl rfl rfl hd_X4_airOf ⟨Nat.le_of_ble_eq_true rfl, Nat.le_of_ble_eq_true rfl⟩) ⟨zJ_blind rI_blind, va_recv hK hPc (ci := 4) (q0 := 0) rfl rfl, zJ_at (rI_at hPc hK hDc)⟩ rfl rfl hl.1 rfl (lv_room (Nat.le_of_ble_eq_true rfl)) dL_law_1866 ⟨by omega, by omega⟩) hS (fun q _ h => hfr q h) hfr (fun r9 u9 t H1 locs1 ht hvm hw hB hz hk hS => ?_)
  obtain ⟨hP1, hD1⟩ := hB
  rw [ht] at hP1
  subst hw
  obtain ⟨hP2, hD2⟩ := z_join (ws := (lOutD cy o2 outD) :: (lOut cy o1 res.2.2.2) :: xW cy a1 res.2.1 res.2.2.1) (wc := rW cy b T) (w1 := rW cy b rr.2) hP hD hk hfr hP1 hD1
  replace hP2 := zP_perm l_perm1.symm hP2
  replace hD2 := zD_perm l_perm1.symm hD2
  replace hP : va_P D xcl (lW cy a1 res.2.1 res.2.2.1 b rr.2 o1 res.2.2.2 o2 outD) H1 := hP2
  replace hD : va_D A (lW cy a1 res.2.1 res.2.2.1 b rr.2 o1 res.2.2.2 o2 outD) := hD2
  clear hP2 hD2 hP1 hD1 hk hz hPc hDc hfr hvm ht
  generalize H1 = H at hP hS ⊢
  refine lv_lstore (lv' := [(7, .long rr.1), (6, .int res.1), (0, .ref sb), (1, .ref (a1.1 0)), (2, .ref (b 0)), (3, .ref o1), (4, .ref o2), (5, .int i)]) hx hb dL_law_1869 hl (by decide) rfl (fun ls hl => ?_)
  refine lv_aload_n hx hb dL_law_1871 rfl (lv_at hl 4 rfl) ?_
  have hPc := lP_app (zP_perm l_perm1 hP)
  have hDc := lD_app (zD_perm l_perm1 hD)
  refine zcSi (W.runV (As := []) (rest := []) ⟨hx, hb, hml, hown, hts⟩ (c_X4_thrown l D cy b rr.2 (res := rr.2.1 27) rfl) (cwV 0 hts gL_law_X4_thrown rfl rfl rfl hd_X4_thrown ⟨Nat.le_of_ble_eq_true rfl, Nat.le_of_ble_eq_true rfl⟩) ⟨rI_blind, va_recv hK hPc (ci := 4) (q0 := 0) rfl rfl, rI_at hPc hK hDc⟩ rfl rfl hl.1 rfl (lv_room (Nat.le_of_ble_eq_true rfl)) dL_law_1872 ⟨by omega, by omega⟩) ?_
  refine lv_iload hx hb dL_law_1875 (lv_at hl 1 rfl) ?_
  refine lv_icmp_eq (tgt := 1882) hx hb dL_law_1877 (by decide) (fun c0 => ?_) (fun c0 => absurd ht0 c0)
  refine lv_iload hx hb dL_law_1882 (lv_at hl 1 rfl) ?_
  refine lv_if_ne (tgt := 1898) hx hb dL_law_1884 (by decide) (fun c0 => ?_) (fun c0 => ?_)
  · refine lv_goto (tgt := 2861) hx hb dL_law_1898 (by decide) ?_
    refine W.widen (k := cells_ + 16) (n := slots_ + 130) (by omega) (by omega) ?_
    exact hk ha1 _ _ _ hP hD hS (lv_sub hl [2, 3, 4, 5, 6, 7] rfl)
  · refine lv_aload_n hx hb dL_law_1887 rfl (lv_at hl 5 rfl) ?_
    refine lv_iconst (v := 0) hx hb dL_law_1888 (by decide) ?_
    refine va_lald hx hb hK (zP_perm l_perm4 hP) 0 1 rfl rfl (show vp_in 0 1 from by unfold vp_in; decide) dL_law_1889 ?_
    refine lv_lload hx hb dL_law_1890 (lv_at hl 0 rfl) ?_
    refine W.lcmp hx hb dL_law_1892 ?_
    refine lv_if_eq (tgt := 1898) hx hb dL_law_1893 (by decide) (fun c2 => ?_) (fun c2 => absurd (l_cmp (hv c0)) c2)
    refine lv_goto (tgt := 2861) hx hb dL_law_1898 (by decide) ?_
    refine W.widen (k := cells_ + 16) (n := slots_ + 130) (by omega) (by omega) ?_
    exact hk ha1 _ _ _ hP hD hS (lv_sub hl [2, 3, 4, 5, 6, 7] rfl)
set_option maxHeartbeats 4000000 in
set_option maxRecDepth 100000 in
theorem l_case_25 (hC0 : lC p l s m args meth c D cy A sb L xs) {a : XA} {n : Nat → Nat} {V : XV} {b : Nat → Nat} {T : RV} {o1 o2 : Nat} {out : Nat → Int64} {outD : Nat → UInt64} {i : Int32} {H : Heap} {locs : List Loc} {ls : Array Slot} {cells_ slots_ : Nat} (hc1 : cells_ + 16 ≤ room_1.cells) (hc2 : slots_ + 130 ≤ room_1.slots) (hP : va_P D xcl (lW cy a n V b T o1 out o2 outD) H) (hD : va_D A (lW cy a n V b T o1 out o2 outD)) (hS : va_S A s.heap H locs) (hl : lv_has ls 9 [(0, .ref sb), (1, .ref (a.1 0)), (2, .ref (b 0)), (3, .ref o1), (4, .ref o2), (5, .int i)]) (hi1 : vp_in (i + 1) L) (hi2 : vp_in (i + 2) L) {res : Int32 × (Nat → Nat) × XV × (Nat → Int64)} {rr : Int32 × RV} (hf : f_L_shareAir n V out (xs (i + 1).toNatClampNeg) (xs (i + 2).toNatClampNeg) = some res) (hr : f_X4_shareAir T (xs (i + 1).toNatClampNeg) (xs (i + 2).toNatClampNeg) = some rr) (ht0 : rr.2.1 27 = res.1) (hv : res.1 = 0 → res.2.2.2 (0 : Int32).toNatClampNeg = if rr.1 = 0 then 0 else 1)
    (hk : ∀ {a1 : XA} (_ : a1.1 = a.1) (H : Heap) (locs : List Loc) (ls : Array Slot), va_P D xcl (lW cy a1 res.2.1 res.2.2.1 b rr.2 o1 res.2.2.2 o2 outD) H → va_D A (lW cy a1 res.2.1 res.2.2.1 b rr.2 o1 res.2.2.2 o2 outD) → va_S A s.heap H locs → lv_has ls 9 [(0, .ref sb), (1, .ref (a1.1 0)), (2, .ref (b 0)), (3, .ref o1), (4, .ref o2), (5, .int i)] → W p l e room_1 s m args below meth c H locs (cells_ + 16) (slots_ + 130) Q (F0 m 2861 ls [])) : W p l e room_1 s m args below meth c H locs cells_ slots_ Q (F0 m 1901 ls []) := by
  obtain ⟨hl0, hx, hb, hml, hown, hts, hK, hA, hC, hZ, hX, hsb, hsA⟩ := hC0
  refine lv_aload_n hx hb dL_law_1901 rfl (lv_at hl 1 rfl) ?_
  refine lv_aload_n hx hb dL_law_1902 rfl (lv_at hl 0 rfl) ?_
  refine lv_iload hx hb dL_law_1903 (lv_at hl 5 rfl) ?_
  refine lv_iconst (v := 1) hx hb dL_law_1905 (by decide) ?_
  refine lv_iadd hx hb dL_law_1906 ?_
  refine va_sld hx hb hX hsb hsA hS hi1 dL_law_1907 ?_
  refine lv_aload_n hx hb dL_law_1908 rfl (lv_at hl 0 rfl) ?_
  refine lv_iload hx hb dL_law_1909 (lv_at hl 5 rfl) ?_
  refine lv_iconst (v := 2) hx hb dL_law_1911 (by decide) ?_
  refine lv_iadd hx hb dL_law_1912 ?_
  refine va_sld hx hb hX hsb hsA hS hi2 dL_law_1913 ?_
  refine lv_aload_n hx hb dL_law_1914 rfl (lv_at hl 3 rfl) ?_
  have hPc := lP_app hP
  have hDc := lD_app hD
  have hfr := z_free hDc hS hA
  refine va_calli (vx_runSW (As := [.ref (a.1 0), .int (xs (i + 1).toNatClampNeg), .int (xs (i + 2).toNatClampNeg), .ref o1]) (rest := []) ⟨hx, hb, hml, hown, hts⟩ (c_L_shareAir l hl0 D cy a n V o1 out H.size (xs (i + 1).toNatClampNeg) (xs (i + 2).toNatClampNeg) hf) (vx_cwSW 4 hts gL_law_L_shareAir rfl rfl rfl hd_L_shareAir ⟨Nat.le_of_ble_eq_true rfl, Nat.le_of_ble_eq_true rfl⟩) ⟨lX_blind, lX_at hC hZ hS hfr hPc hK hDc⟩ rfl rfl hl.1 rfl (lv_room (Nat.le_of_ble_eq_true rfl)) dL_law_1915 ⟨by omega, by omega⟩) hS (fun q _ h => hfr q h) hfr (fun r9 a1 t H1 locs1 ht hvm hw hB hz hk hS => ?_)
  obtain ⟨ha1, hP1, hD1⟩ := hB
  rw [ht] at hP1
  subst hw
  obtain ⟨hP2, hD2⟩ := z_join (ws := lOutD cy o2 outD :: rW cy b T) (wc := lOut cy o1 out :: xW cy a n V) (w1 := (o1, .inl (cy 1, 1, .inr (.inl res.2.2.2))) :: xW cy a1 res.2.1 res.2.2.1) hP hD hk hfr hP1 hD1
  replace hP : va_P D xcl (lW cy a1 res.2.1 res.2.2.1 b T o1 res.2.2.2 o2 outD) H1 := hP2
  replace hD : va_D A (lW cy a1 res.2.1 res.2.2.1 b T o1 res.2.2.2 o2 outD) := hD2
  clear hP2 hD2 hP1 hD1 hk hz hPc hDc hfr hvm ht
  generalize H1 = H at hP hS ⊢
  rw [← ha1] at hl
  refine lv_istore (lv' := [(6, .int res.1), (0, .ref sb), (1, .ref (a1.1 0)), (2, .ref (b 0)), (3, .ref o1), (4, .ref o2), (5, .int i)]) hx hb dL_law_1918 hl (by decide) rfl (fun ls hl => ?_)
  refine lv_aload_n hx hb dL_law_1920 rfl (lv_at hl 3 rfl) ?_
  refine lv_aload_n hx hb dL_law_1921 rfl (lv_at hl 1 rfl) ?_
  refine lv_iload hx hb dL_law_1922 (lv_at hl 6 rfl) ?_
  refine lv_iconst (v := 1) hx hb dL_law_1924 (by decide) ?_
  refine lv_iadd hx hb dL_law_1925 ?_
  refine va_sld hx hb hX hsb hsA hS hi1 dL_law_1926 ?_
  refine lv_aload_n hx hb dL_law_1927 rfl (lv_at hl 1 rfl) ?_
  refine lv_iload hx hb dL_law_1928 (lv_at hl 6 rfl) ?_
  refine lv_iconst (v := 2) hx hb dL_law_1930 (by decide) ?_
  refine lv_iadd hx hb dL_law_1931 ?_
  refine va_sld hx hb hX hsb hsA hS hi2 dL_law_1932 ?_
  replace hP := zP_perm l_perm1 hP
  replace hD := zD_perm l_perm1 hD
  have hPc := lP_app hP
  have hDc := lD_app hD
  have hfr := z_free hDc hS hA
  refine va_calli (va_runV (As := [.int (xs (i + 1).toNatClampNeg), .int (xs (i + 2).toNatClampNeg)]) (rest := []) ⟨hx, hb, hml, hown, hts⟩ (c_X4_shareAir l D cy b T H.size (xs (i + 1).toNatClampNeg) (xs (i + 2).toNatClampNeg) hr) (cwV 2 hts gL_law_X4_shareAir rfl rfl rfl hd_X4_shareAir ⟨Nat.le_of_ble_eq_true rfl, Nat.le_of_ble_eq_true rfl⟩) ⟨zJ_blind rI_blind, va_recv hK hPc (ci := 4) (q0 := 0) rfl rfl, zJ_at (rI_at hPc hK hDc)⟩ rfl rfl hl.1 rfl (lv_room (Nat.le_of_ble_eq_true rfl)) dL_law_1933 ⟨by omega, by omega⟩) hS (fun q _ h => hfr q h) hfr (fun r9 u9 t H1 locs1 ht hvm hw hB hz hk hS => ?_)
  obtain ⟨hP1, hD1⟩ := hB
  rw [ht] at hP1
  subst hw
  obtain ⟨hP2, hD2⟩ := z_join (ws := (lOutD cy o2 outD) :: (lOut cy o1 res.2.2.2) :: xW cy a1 res.2.1 res.2.2.1) (wc := rW cy b T) (w1 := rW cy b rr.2) hP hD hk hfr hP1 hD1
  replace hP2 := zP_perm l_perm1.symm hP2
  replace hD2 := zD_perm l_perm1.symm hD2
  replace hP : va_P D xcl (lW cy a1 res.2.1 res.2.2.1 b rr.2 o1 res.2.2.2 o2 outD) H1 := hP2
  replace hD : va_D A (lW cy a1 res.2.1 res.2.2.1 b rr.2 o1 res.2.2.2 o2 outD) := hD2
  clear hP2 hD2 hP1 hD1 hk hz hPc hDc hfr hvm ht
  generalize H1 = H at hP hS ⊢
  refine lv_istore (lv' := [(7, .int rr.1), (6, .int res.1), (0, .ref sb), (1, .ref (a1.1 0)), (2, .ref (b 0)), (3, .ref o1), (4, .ref o2), (5, .int i)]) hx hb dL_law_1936 hl (by decide) rfl (fun ls hl => ?_)
  refine lv_aload_n hx hb dL_law_1938 rfl (lv_at hl 4 rfl) ?_
  have hPc := lP_app (zP_perm l_perm1 hP)
  have hDc := lD_app (zD_perm l_perm1 hD)
  refine zcSi (W.runV (As := []) (rest := []) ⟨hx, hb, hml, hown, hts⟩ (c_X4_thrown l D cy b rr.2 (res := rr.2.1 27) rfl) (cwV 0 hts gL_law_X4_thrown rfl rfl rfl hd_X4_thrown ⟨Nat.le_of_ble_eq_true rfl, Nat.le_of_ble_eq_true rfl⟩) ⟨rI_blind, va_recv hK hPc (ci := 4) (q0 := 0) rfl rfl, rI_at hPc hK hDc⟩ rfl rfl hl.1 rfl (lv_room (Nat.le_of_ble_eq_true rfl)) dL_law_1939 ⟨by omega, by omega⟩) ?_
  refine lv_iload hx hb dL_law_1942 (lv_at hl 1 rfl) ?_
  refine lv_icmp_eq (tgt := 1949) hx hb dL_law_1944 (by decide) (fun c0 => ?_) (fun c0 => absurd ht0 c0)
  refine lv_iload hx hb dL_law_1949 (lv_at hl 1 rfl) ?_
  refine lv_if_ne (tgt := 1973) hx hb dL_law_1951 (by decide) (fun c0 => ?_) (fun c0 => ?_)
  · refine lv_goto (tgt := 2861) hx hb dL_law_1973 (by decide) ?_
    refine W.widen (k := cells_ + 16) (n := slots_ + 130) (by omega) (by omega) ?_
    exact hk ha1 _ _ _ hP hD hS (lv_sub hl [2, 3, 4, 5, 6, 7] rfl)
  · refine lv_aload_n hx hb dL_law_1954 rfl (lv_at hl 5 rfl) ?_
    refine lv_iconst (v := 0) hx hb dL_law_1955 (by decide) ?_
    refine va_lald hx hb hK (zP_perm l_perm4 hP) 0 1 rfl rfl (show vp_in 0 1 from by unfold vp_in; decide) dL_law_1956 ?_
    refine lv_iload hx hb dL_law_1957 (lv_at hl 0 rfl) ?_
    refine lv_if_eq (tgt := 1966) hx hb dL_law_1959 (by decide) (fun c1 => ?_) (fun c1 => ?_)
    · refine lv_lconst (v := 0) hx hb dL_law_1966 (by decide) ?_
      refine W.lcmp hx hb dL_law_1967 ?_
      refine lv_if_eq (tgt := 1973) hx hb dL_law_1968 (by decide) (fun c2 => ?_) (fun c2 => absurd (l_cmp ((hv c0).trans (if_pos c1))) c2)
      refine lv_goto (tgt := 2861) hx hb dL_law_1973 (by decide) ?_
      refine W.widen (k := cells_ + 16) (n := slots_ + 130) (by omega) (by omega) ?_
      exact hk ha1 _ _ _ hP hD hS (lv_sub hl [2, 3, 4, 5, 6, 7] rfl)
    · refine lv_lconst (v := 1) hx hb dL_law_1962 (by decide) ?_
      refine lv_goto (tgt := 1967) hx hb dL_law_1963 (by decide) ?_
      refine W.lcmp hx hb dL_law_1967 ?_
      refine lv_if_eq (tgt := 1973) hx hb dL_law_1968 (by decide) (fun c2 => ?_) (fun c2 => absurd (l_cmp ((hv c0).trans (if_neg c1))) c2)
      refine lv_goto (tgt := 2861) hx hb dL_law_1973 (by decide) ?_
      refine W.widen (k := cells_ + 16) (n := slots_ + 130) (by omega) (by omega) ?_
      exact hk ha1 _ _ _ hP hD hS (lv_sub hl [2, 3, 4, 5, 6, 7] rfl)
set_option maxHeartbeats 4000000 in
set_option maxRecDepth 100000 in
theorem l_case_26 (hC0 : lC p l s m args meth c D cy A sb L xs) {a : XA} {n : Nat → Nat} {V : XV} {b : Nat → Nat} {T : RV} {o1 o2 : Nat} {out : Nat → Int64} {outD : Nat → UInt64} {i : Int32} {H : Heap} {locs : List Loc} {ls : Array Slot} {cells_ slots_ : Nat} (hc1 : cells_ + 16 ≤ room_1.cells) (hc2 : slots_ + 130 ≤ room_1.slots) (hP : va_P D xcl (lW cy a n V b T o1 out o2 outD) H) (hD : va_D A (lW cy a n V b T o1 out o2 outD)) (hS : va_S A s.heap H locs) (hl : lv_has ls 9 [(0, .ref sb), (1, .ref (a.1 0)), (2, .ref (b 0)), (3, .ref o1), (4, .ref o2), (5, .int i)]) (hi1 : vp_in (i + 1) L) (hi2 : vp_in (i + 2) L) {res : Int32 × (Nat → Nat) × XV × (Nat → Int64)} {rr : Int32 × RV} (hf : f_L_liftAt n V out (xs (i + 1).toNatClampNeg) (xs (i + 2).toNatClampNeg) = some res) (hr : f_X4_liftAt T (xs (i + 1).toNatClampNeg) (xs (i + 2).toNatClampNeg) = some rr) (ht0 : rr.2.1 27 = res.1) (hv : res.1 = 0 → res.2.2.2 (0 : Int32).toNatClampNeg = Int32.toInt64 rr.1)
    (hk : ∀ {a1 : XA} (_ : a1.1 = a.1) (H : Heap) (locs : List Loc) (ls : Array Slot), va_P D xcl (lW cy a1 res.2.1 res.2.2.1 b rr.2 o1 res.2.2.2 o2 outD) H → va_D A (lW cy a1 res.2.1 res.2.2.1 b rr.2 o1 res.2.2.2 o2 outD) → va_S A s.heap H locs → lv_has ls 9 [(0, .ref sb), (1, .ref (a1.1 0)), (2, .ref (b 0)), (3, .ref o1), (4, .ref o2), (5, .int i)] → W p l e room_1 s m args below meth c H locs (cells_ + 16) (slots_ + 130) Q (F0 m 2861 ls [])) : W p l e room_1 s m args below meth c H locs cells_ slots_ Q (F0 m 1976 ls []) := by
  obtain ⟨hl0, hx, hb, hml, hown, hts, hK, hA, hC, hZ, hX, hsb, hsA⟩ := hC0
  refine lv_aload_n hx hb dL_law_1976 rfl (lv_at hl 1 rfl) ?_
  refine lv_aload_n hx hb dL_law_1977 rfl (lv_at hl 0 rfl) ?_
  refine lv_iload hx hb dL_law_1978 (lv_at hl 5 rfl) ?_
  refine lv_iconst (v := 1) hx hb dL_law_1980 (by decide) ?_
  refine lv_iadd hx hb dL_law_1981 ?_
  refine va_sld hx hb hX hsb hsA hS hi1 dL_law_1982 ?_
  refine lv_aload_n hx hb dL_law_1983 rfl (lv_at hl 0 rfl) ?_
  refine lv_iload hx hb dL_law_1984 (lv_at hl 5 rfl) ?_
  refine lv_iconst (v := 2) hx hb dL_law_1986 (by decide) ?_
  refine lv_iadd hx hb dL_law_1987 ?_
  refine va_sld hx hb hX hsb hsA hS hi2 dL_law_1988 ?_
  refine lv_aload_n hx hb dL_law_1989 rfl (lv_at hl 3 rfl) ?_
  have hPc := lP_app hP
  have hDc := lD_app hD
  have hfr := z_free hDc hS hA
  refine va_calli (vx_runSW (As := [.ref (a.1 0), .int (xs (i + 1).toNatClampNeg), .int (xs (i + 2).toNatClampNeg), .ref o1]) (rest := []) ⟨hx, hb, hml, hown, hts⟩ (c_L_liftAt l hl0 D cy a n V o1 out H.size (xs (i + 1).toNatClampNeg) (xs (i + 2).toNatClampNeg) hf) (vx_cwSW 4 hts gL_law_L_liftAt rfl rfl rfl hd_L_liftAt ⟨Nat.le_of_ble_eq_true rfl, Nat.le_of_ble_eq_true rfl⟩) ⟨lX_blind, lX_at hC hZ hS hfr hPc hK hDc⟩ rfl rfl hl.1 rfl (lv_room (Nat.le_of_ble_eq_true rfl)) dL_law_1990 ⟨by omega, by omega⟩) hS (fun q _ h => hfr q h) hfr (fun r9 a1 t H1 locs1 ht hvm hw hB hz hk hS => ?_)
  obtain ⟨ha1, hP1, hD1⟩ := hB
  rw [ht] at hP1
  subst hw
  obtain ⟨hP2, hD2⟩ := z_join (ws := lOutD cy o2 outD :: rW cy b T) (wc := lOut cy o1 out :: xW cy a n V) (w1 := (o1, .inl (cy 1, 1, .inr (.inl res.2.2.2))) :: xW cy a1 res.2.1 res.2.2.1) hP hD hk hfr hP1 hD1
  replace hP : va_P D xcl (lW cy a1 res.2.1 res.2.2.1 b T o1 res.2.2.2 o2 outD) H1 := hP2
  replace hD : va_D A (lW cy a1 res.2.1 res.2.2.1 b T o1 res.2.2.2 o2 outD) := hD2
  clear hP2 hD2 hP1 hD1 hk hz hPc hDc hfr hvm ht
  generalize H1 = H at hP hS ⊢
  rw [← ha1] at hl
  refine lv_istore (lv' := [(6, .int res.1), (0, .ref sb), (1, .ref (a1.1 0)), (2, .ref (b 0)), (3, .ref o1), (4, .ref o2), (5, .int i)]) hx hb dL_law_1993 hl (by decide) rfl (fun ls hl => ?_)
  refine lv_aload_n hx hb dL_law_1995 rfl (lv_at hl 3 rfl) ?_
  refine lv_aload_n hx hb dL_law_1996 rfl (lv_at hl 1 rfl) ?_
  refine lv_iload hx hb dL_law_1997 (lv_at hl 6 rfl) ?_
  refine lv_iconst (v := 1) hx hb dL_law_1999 (by decide) ?_
  refine lv_iadd hx hb dL_law_2000 ?_
  refine va_sld hx hb hX hsb hsA hS hi1 dL_law_2001 ?_
  refine lv_aload_n hx hb dL_law_2002 rfl (lv_at hl 1 rfl) ?_
  refine lv_iload hx hb dL_law_2003 (lv_at hl 6 rfl) ?_
  refine lv_iconst (v := 2) hx hb dL_law_2005 (by decide) ?_
  refine lv_iadd hx hb dL_law_2006 ?_
  refine va_sld hx hb hX hsb hsA hS hi2 dL_law_2007 ?_
  replace hP := zP_perm l_perm1 hP
  replace hD := zD_perm l_perm1 hD
  have hPc := lP_app hP
  have hDc := lD_app hD
  have hfr := z_free hDc hS hA
  refine va_calli (va_runV (As := [.int (xs (i + 1).toNatClampNeg), .int (xs (i + 2).toNatClampNeg)]) (rest := []) ⟨hx, hb, hml, hown, hts⟩ (c_X4_liftAt l D cy b T H.size (xs (i + 1).toNatClampNeg) (xs (i + 2).toNatClampNeg) hr) (cwV 2 hts gL_law_X4_liftAt rfl rfl rfl hd_X4_liftAt ⟨Nat.le_of_ble_eq_true rfl, Nat.le_of_ble_eq_true rfl⟩) ⟨zJ_blind rI_blind, va_recv hK hPc (ci := 4) (q0 := 0) rfl rfl, zJ_at (rI_at hPc hK hDc)⟩ rfl rfl hl.1 rfl (lv_room (Nat.le_of_ble_eq_true rfl)) dL_law_2008 ⟨by omega, by omega⟩) hS (fun q _ h => hfr q h) hfr (fun r9 u9 t H1 locs1 ht hvm hw hB hz hk hS => ?_)
  obtain ⟨hP1, hD1⟩ := hB
  rw [ht] at hP1
  subst hw
  obtain ⟨hP2, hD2⟩ := z_join (ws := (lOutD cy o2 outD) :: (lOut cy o1 res.2.2.2) :: xW cy a1 res.2.1 res.2.2.1) (wc := rW cy b T) (w1 := rW cy b rr.2) hP hD hk hfr hP1 hD1
  replace hP2 := zP_perm l_perm1.symm hP2
  replace hD2 := zD_perm l_perm1.symm hD2
  replace hP : va_P D xcl (lW cy a1 res.2.1 res.2.2.1 b rr.2 o1 res.2.2.2 o2 outD) H1 := hP2
  replace hD : va_D A (lW cy a1 res.2.1 res.2.2.1 b rr.2 o1 res.2.2.2 o2 outD) := hD2
  clear hP2 hD2 hP1 hD1 hk hz hPc hDc hfr hvm ht
  generalize H1 = H at hP hS ⊢
  refine lv_istore (lv' := [(7, .int rr.1), (6, .int res.1), (0, .ref sb), (1, .ref (a1.1 0)), (2, .ref (b 0)), (3, .ref o1), (4, .ref o2), (5, .int i)]) hx hb dL_law_2011 hl (by decide) rfl (fun ls hl => ?_)
  refine lv_aload_n hx hb dL_law_2013 rfl (lv_at hl 4 rfl) ?_
  have hPc := lP_app (zP_perm l_perm1 hP)
  have hDc := lD_app (zD_perm l_perm1 hD)
  refine zcSi (W.runV (As := []) (rest := []) ⟨hx, hb, hml, hown, hts⟩ (c_X4_thrown l D cy b rr.2 (res := rr.2.1 27) rfl) (cwV 0 hts gL_law_X4_thrown rfl rfl rfl hd_X4_thrown ⟨Nat.le_of_ble_eq_true rfl, Nat.le_of_ble_eq_true rfl⟩) ⟨rI_blind, va_recv hK hPc (ci := 4) (q0 := 0) rfl rfl, rI_at hPc hK hDc⟩ rfl rfl hl.1 rfl (lv_room (Nat.le_of_ble_eq_true rfl)) dL_law_2014 ⟨by omega, by omega⟩) ?_
  refine lv_iload hx hb dL_law_2017 (lv_at hl 1 rfl) ?_
  refine lv_icmp_eq (tgt := 2024) hx hb dL_law_2019 (by decide) (fun c0 => ?_) (fun c0 => absurd ht0 c0)
  refine lv_iload hx hb dL_law_2024 (lv_at hl 1 rfl) ?_
  refine lv_if_ne (tgt := 2041) hx hb dL_law_2026 (by decide) (fun c0 => ?_) (fun c0 => ?_)
  · refine lv_goto (tgt := 2861) hx hb dL_law_2041 (by decide) ?_
    refine W.widen (k := cells_ + 16) (n := slots_ + 130) (by omega) (by omega) ?_
    exact hk ha1 _ _ _ hP hD hS (lv_sub hl [2, 3, 4, 5, 6, 7] rfl)
  · refine lv_aload_n hx hb dL_law_2029 rfl (lv_at hl 5 rfl) ?_
    refine lv_iconst (v := 0) hx hb dL_law_2030 (by decide) ?_
    refine va_lald hx hb hK (zP_perm l_perm4 hP) 0 1 rfl rfl (show vp_in 0 1 from by unfold vp_in; decide) dL_law_2031 ?_
    refine lv_iload hx hb dL_law_2032 (lv_at hl 0 rfl) ?_
    refine lv_i2l (v := Int32.toInt64 rr.1) hx hb dL_law_2034 rfl ?_
    refine W.lcmp hx hb dL_law_2035 ?_
    refine lv_if_eq (tgt := 2041) hx hb dL_law_2036 (by decide) (fun c2 => ?_) (fun c2 => absurd (l_cmp (hv c0)) c2)
    refine lv_goto (tgt := 2861) hx hb dL_law_2041 (by decide) ?_
    refine W.widen (k := cells_ + 16) (n := slots_ + 130) (by omega) (by omega) ?_
    exact hk ha1 _ _ _ hP hD hS (lv_sub hl [2, 3, 4, 5, 6, 7] rfl)
set_option maxHeartbeats 4000000 in
set_option maxRecDepth 100000 in
theorem l_case_27 (hC0 : lC p l s m args meth c D cy A sb L xs) {a : XA} {n : Nat → Nat} {V : XV} {b : Nat → Nat} {T : RV} {o1 o2 : Nat} {out : Nat → Int64} {outD : Nat → UInt64} {i : Int32} {H : Heap} {locs : List Loc} {ls : Array Slot} {cells_ slots_ : Nat} (hc1 : cells_ + 16 ≤ room_1.cells) (hc2 : slots_ + 130 ≤ room_1.slots) (hP : va_P D xcl (lW cy a n V b T o1 out o2 outD) H) (hD : va_D A (lW cy a n V b T o1 out o2 outD)) (hS : va_S A s.heap H locs) (hl : lv_has ls 9 [(0, .ref sb), (1, .ref (a.1 0)), (2, .ref (b 0)), (3, .ref o1), (4, .ref o2), (5, .int i)]) (hi1 : vp_in (i + 1) L) (hi2 : vp_in (i + 2) L) {res : Int32 × (Nat → Nat) × XV × (Nat → Int64)} {rr : Int32 × RV} (hf : f_L_liftByMinutes n V out (xs (i + 1).toNatClampNeg) (xs (i + 2).toNatClampNeg) = some res) (hr : f_X4_liftByMinutes T (xs (i + 1).toNatClampNeg) (xs (i + 2).toNatClampNeg) = some rr) (ht0 : rr.2.1 27 = res.1) (hv : res.1 = 0 → res.2.2.2 (0 : Int32).toNatClampNeg = Int32.toInt64 rr.1)
    (hk : ∀ {a1 : XA} (_ : a1.1 = a.1) (H : Heap) (locs : List Loc) (ls : Array Slot), va_P D xcl (lW cy a1 res.2.1 res.2.2.1 b rr.2 o1 res.2.2.2 o2 outD) H → va_D A (lW cy a1 res.2.1 res.2.2.1 b rr.2 o1 res.2.2.2 o2 outD) → va_S A s.heap H locs → lv_has ls 9 [(0, .ref sb), (1, .ref (a1.1 0)), (2, .ref (b 0)), (3, .ref o1), (4, .ref o2), (5, .int i)] → W p l e room_1 s m args below meth c H locs (cells_ + 16) (slots_ + 130) Q (F0 m 2861 ls [])) : W p l e room_1 s m args below meth c H locs cells_ slots_ Q (F0 m 2044 ls []) := by
  obtain ⟨hl0, hx, hb, hml, hown, hts, hK, hA, hC, hZ, hX, hsb, hsA⟩ := hC0
  refine lv_aload_n hx hb dL_law_2044 rfl (lv_at hl 1 rfl) ?_
  refine lv_aload_n hx hb dL_law_2045 rfl (lv_at hl 0 rfl) ?_
  refine lv_iload hx hb dL_law_2046 (lv_at hl 5 rfl) ?_
  refine lv_iconst (v := 1) hx hb dL_law_2048 (by decide) ?_
  refine lv_iadd hx hb dL_law_2049 ?_
  refine va_sld hx hb hX hsb hsA hS hi1 dL_law_2050 ?_
  refine lv_aload_n hx hb dL_law_2051 rfl (lv_at hl 0 rfl) ?_
  refine lv_iload hx hb dL_law_2052 (lv_at hl 5 rfl) ?_
  refine lv_iconst (v := 2) hx hb dL_law_2054 (by decide) ?_
  refine lv_iadd hx hb dL_law_2055 ?_
  refine va_sld hx hb hX hsb hsA hS hi2 dL_law_2056 ?_
  refine lv_aload_n hx hb dL_law_2057 rfl (lv_at hl 3 rfl) ?_
  have hPc := lP_app hP
  have hDc := lD_app hD
  have hfr := z_free hDc hS hA
  refine va_calli (vx_runSW (As := [.ref (a.1 0), .int (xs (i + 1).toNatClampNeg), .int (xs (i + 2).toNatClampNeg), .ref o1]) (rest := []) ⟨hx, hb, hml, hown, hts⟩ (c_L_liftByMinutes l hl0 D cy a n V o1 out H.size (xs (i + 1).toNatClampNeg) (xs (i + 2).toNatClampNeg) hf) (vx_cwSW 4 hts gL_law_L_liftByMinutes rfl rfl rfl hd_L_liftByMinutes ⟨Nat.le_of_ble_eq_true rfl, Nat.le_of_ble_eq_true rfl⟩) ⟨lX_blind, lX_at hC hZ hS hfr hPc hK hDc⟩ rfl rfl hl.1 rfl (lv_room (Nat.le_of_ble_eq_true rfl)) dL_law_2058 ⟨by omega, by omega⟩) hS (fun q _ h => hfr q h) hfr (fun r9 a1 t H1 locs1 ht hvm hw hB hz hk hS => ?_)
  obtain ⟨ha1, hP1, hD1⟩ := hB
  rw [ht] at hP1
  subst hw
  obtain ⟨hP2, hD2⟩ := z_join (ws := lOutD cy o2 outD :: rW cy b T) (wc := lOut cy o1 out :: xW cy a n V) (w1 := (o1, .inl (cy 1, 1, .inr (.inl res.2.2.2))) :: xW cy a1 res.2.1 res.2.2.1) hP hD hk hfr hP1 hD1
  replace hP : va_P D xcl (lW cy a1 res.2.1 res.2.2.1 b T o1 res.2.2.2 o2 outD) H1 := hP2
  replace hD : va_D A (lW cy a1 res.2.1 res.2.2.1 b T o1 res.2.2.2 o2 outD) := hD2
  clear hP2 hD2 hP1 hD1 hk hz hPc hDc hfr hvm ht
  generalize H1 = H at hP hS ⊢
  rw [← ha1] at hl
  refine lv_istore (lv' := [(6, .int res.1), (0, .ref sb), (1, .ref (a1.1 0)), (2, .ref (b 0)), (3, .ref o1), (4, .ref o2), (5, .int i)]) hx hb dL_law_2061 hl (by decide) rfl (fun ls hl => ?_)
  refine lv_aload_n hx hb dL_law_2063 rfl (lv_at hl 3 rfl) ?_
  refine lv_aload_n hx hb dL_law_2064 rfl (lv_at hl 1 rfl) ?_
  refine lv_iload hx hb dL_law_2065 (lv_at hl 6 rfl) ?_
  refine lv_iconst (v := 1) hx hb dL_law_2067 (by decide) ?_
  refine lv_iadd hx hb dL_law_2068 ?_
  refine va_sld hx hb hX hsb hsA hS hi1 dL_law_2069 ?_
  refine lv_aload_n hx hb dL_law_2070 rfl (lv_at hl 1 rfl) ?_
  refine lv_iload hx hb dL_law_2071 (lv_at hl 6 rfl) ?_
  refine lv_iconst (v := 2) hx hb dL_law_2073 (by decide) ?_
  refine lv_iadd hx hb dL_law_2074 ?_
  refine va_sld hx hb hX hsb hsA hS hi2 dL_law_2075 ?_
  replace hP := zP_perm l_perm1 hP
  replace hD := zD_perm l_perm1 hD
  have hPc := lP_app hP
  have hDc := lD_app hD
  have hfr := z_free hDc hS hA
  refine va_calli (va_runV (As := [.int (xs (i + 1).toNatClampNeg), .int (xs (i + 2).toNatClampNeg)]) (rest := []) ⟨hx, hb, hml, hown, hts⟩ (c_X4_liftByMinutes l D cy b T H.size (xs (i + 1).toNatClampNeg) (xs (i + 2).toNatClampNeg) hr) (cwV 2 hts gL_law_X4_liftByMinutes rfl rfl rfl hd_X4_liftByMinutes ⟨Nat.le_of_ble_eq_true rfl, Nat.le_of_ble_eq_true rfl⟩) ⟨zJ_blind rI_blind, va_recv hK hPc (ci := 4) (q0 := 0) rfl rfl, zJ_at (rI_at hPc hK hDc)⟩ rfl rfl hl.1 rfl (lv_room (Nat.le_of_ble_eq_true rfl)) dL_law_2076 ⟨by omega, by omega⟩) hS (fun q _ h => hfr q h) hfr (fun r9 u9 t H1 locs1 ht hvm hw hB hz hk hS => ?_)
  obtain ⟨hP1, hD1⟩ := hB
  rw [ht] at hP1
  subst hw
  obtain ⟨hP2, hD2⟩ := z_join (ws := (lOutD cy o2 outD) :: (lOut cy o1 res.2.2.2) :: xW cy a1 res.2.1 res.2.2.1) (wc := rW cy b T) (w1 := rW cy b rr.2) hP hD hk hfr hP1 hD1
  replace hP2 := zP_perm l_perm1.symm hP2
  replace hD2 := zD_perm l_perm1.symm hD2
  replace hP : va_P D xcl (lW cy a1 res.2.1 res.2.2.1 b rr.2 o1 res.2.2.2 o2 outD) H1 := hP2
  replace hD : va_D A (lW cy a1 res.2.1 res.2.2.1 b rr.2 o1 res.2.2.2 o2 outD) := hD2
  clear hP2 hD2 hP1 hD1 hk hz hPc hDc hfr hvm ht
  generalize H1 = H at hP hS ⊢
  refine lv_istore (lv' := [(7, .int rr.1), (6, .int res.1), (0, .ref sb), (1, .ref (a1.1 0)), (2, .ref (b 0)), (3, .ref o1), (4, .ref o2), (5, .int i)]) hx hb dL_law_2079 hl (by decide) rfl (fun ls hl => ?_)
  refine lv_aload_n hx hb dL_law_2081 rfl (lv_at hl 4 rfl) ?_
  have hPc := lP_app (zP_perm l_perm1 hP)
  have hDc := lD_app (zD_perm l_perm1 hD)
  refine zcSi (W.runV (As := []) (rest := []) ⟨hx, hb, hml, hown, hts⟩ (c_X4_thrown l D cy b rr.2 (res := rr.2.1 27) rfl) (cwV 0 hts gL_law_X4_thrown rfl rfl rfl hd_X4_thrown ⟨Nat.le_of_ble_eq_true rfl, Nat.le_of_ble_eq_true rfl⟩) ⟨rI_blind, va_recv hK hPc (ci := 4) (q0 := 0) rfl rfl, rI_at hPc hK hDc⟩ rfl rfl hl.1 rfl (lv_room (Nat.le_of_ble_eq_true rfl)) dL_law_2082 ⟨by omega, by omega⟩) ?_
  refine lv_iload hx hb dL_law_2085 (lv_at hl 1 rfl) ?_
  refine lv_icmp_eq (tgt := 2092) hx hb dL_law_2087 (by decide) (fun c0 => ?_) (fun c0 => absurd ht0 c0)
  refine lv_iload hx hb dL_law_2092 (lv_at hl 1 rfl) ?_
  refine lv_if_ne (tgt := 2109) hx hb dL_law_2094 (by decide) (fun c0 => ?_) (fun c0 => ?_)
  · refine lv_goto (tgt := 2861) hx hb dL_law_2109 (by decide) ?_
    refine W.widen (k := cells_ + 16) (n := slots_ + 130) (by omega) (by omega) ?_
    exact hk ha1 _ _ _ hP hD hS (lv_sub hl [2, 3, 4, 5, 6, 7] rfl)
  · refine lv_aload_n hx hb dL_law_2097 rfl (lv_at hl 5 rfl) ?_
    refine lv_iconst (v := 0) hx hb dL_law_2098 (by decide) ?_
    refine va_lald hx hb hK (zP_perm l_perm4 hP) 0 1 rfl rfl (show vp_in 0 1 from by unfold vp_in; decide) dL_law_2099 ?_
    refine lv_iload hx hb dL_law_2100 (lv_at hl 0 rfl) ?_
    refine lv_i2l (v := Int32.toInt64 rr.1) hx hb dL_law_2102 rfl ?_
    refine W.lcmp hx hb dL_law_2103 ?_
    refine lv_if_eq (tgt := 2109) hx hb dL_law_2104 (by decide) (fun c2 => ?_) (fun c2 => absurd (l_cmp (hv c0)) c2)
    refine lv_goto (tgt := 2861) hx hb dL_law_2109 (by decide) ?_
    refine W.widen (k := cells_ + 16) (n := slots_ + 130) (by omega) (by omega) ?_
    exact hk ha1 _ _ _ hP hD hS (lv_sub hl [2, 3, 4, 5, 6, 7] rfl)
set_option maxHeartbeats 4000000 in
set_option maxRecDepth 100000 in
theorem l_case_28 (hC0 : lC p l s m args meth c D cy A sb L xs) {a : XA} {n : Nat → Nat} {V : XV} {b : Nat → Nat} {T : RV} {o1 o2 : Nat} {out : Nat → Int64} {outD : Nat → UInt64} {i : Int32} {H : Heap} {locs : List Loc} {ls : Array Slot} {cells_ slots_ : Nat} (hc1 : cells_ + 16 ≤ room_1.cells) (hc2 : slots_ + 130 ≤ room_1.slots) (hP : va_P D xcl (lW cy a n V b T o1 out o2 outD) H) (hD : va_D A (lW cy a n V b T o1 out o2 outD)) (hS : va_S A s.heap H locs) (hl : lv_has ls 9 [(0, .ref sb), (1, .ref (a.1 0)), (2, .ref (b 0)), (3, .ref o1), (4, .ref o2), (5, .int i)]) (hi1 : vp_in (i + 1) L) {res : Int32 × (Nat → Nat) × XV × (Nat → Int64)} {rr : Int32 × RV} (hf : f_L_freeMinutes n V out (xs (i + 1).toNatClampNeg) = some res) (hr : f_X4_freeMinutes T (xs (i + 1).toNatClampNeg) = some rr) (ht0 : rr.2.1 27 = res.1) (hv : res.1 = 0 → res.2.2.2 (0 : Int32).toNatClampNeg = Int32.toInt64 rr.1)
    (hk : ∀ {a1 : XA} (_ : a1.1 = a.1) (H : Heap) (locs : List Loc) (ls : Array Slot), va_P D xcl (lW cy a1 res.2.1 res.2.2.1 b rr.2 o1 res.2.2.2 o2 outD) H → va_D A (lW cy a1 res.2.1 res.2.2.1 b rr.2 o1 res.2.2.2 o2 outD) → va_S A s.heap H locs → lv_has ls 9 [(0, .ref sb), (1, .ref (a1.1 0)), (2, .ref (b 0)), (3, .ref o1), (4, .ref o2), (5, .int i)] → W p l e room_1 s m args below meth c H locs (cells_ + 16) (slots_ + 130) Q (F0 m 2861 ls [])) : W p l e room_1 s m args below meth c H locs cells_ slots_ Q (F0 m 2112 ls []) := by
  obtain ⟨hl0, hx, hb, hml, hown, hts, hK, hA, hC, hZ, hX, hsb, hsA⟩ := hC0
  refine lv_aload_n hx hb dL_law_2112 rfl (lv_at hl 1 rfl) ?_
  refine lv_aload_n hx hb dL_law_2113 rfl (lv_at hl 0 rfl) ?_
  refine lv_iload hx hb dL_law_2114 (lv_at hl 5 rfl) ?_
  refine lv_iconst (v := 1) hx hb dL_law_2116 (by decide) ?_
  refine lv_iadd hx hb dL_law_2117 ?_
  refine va_sld hx hb hX hsb hsA hS hi1 dL_law_2118 ?_
  refine lv_aload_n hx hb dL_law_2119 rfl (lv_at hl 3 rfl) ?_
  have hPc := lP_app hP
  have hDc := lD_app hD
  have hfr := z_free hDc hS hA
  refine va_calli (vx_runSW (As := [.ref (a.1 0), .int (xs (i + 1).toNatClampNeg), .ref o1]) (rest := []) ⟨hx, hb, hml, hown, hts⟩ (c_L_freeMinutes l hl0 D cy a n V o1 out H.size (xs (i + 1).toNatClampNeg) hf) (vx_cwSW 3 hts gL_law_L_freeMinutes rfl rfl rfl hd_L_freeMinutes ⟨Nat.le_of_ble_eq_true rfl, Nat.le_of_ble_eq_true rfl⟩) ⟨lX_blind, lX_at hC hZ hS hfr hPc hK hDc⟩ rfl rfl hl.1 rfl (lv_room (Nat.le_of_ble_eq_true rfl)) dL_law_2120 ⟨by omega, by omega⟩) hS (fun q _ h => hfr q h) hfr (fun r9 a1 t H1 locs1 ht hvm hw hB hz hk hS => ?_)
  obtain ⟨ha1, hP1, hD1⟩ := hB
  rw [ht] at hP1
  subst hw
  obtain ⟨hP2, hD2⟩ := z_join (ws := lOutD cy o2 outD :: rW cy b T) (wc := lOut cy o1 out :: xW cy a n V) (w1 := (o1, .inl (cy 1, 1, .inr (.inl res.2.2.2))) :: xW cy a1 res.2.1 res.2.2.1) hP hD hk hfr hP1 hD1
  replace hP : va_P D xcl (lW cy a1 res.2.1 res.2.2.1 b T o1 res.2.2.2 o2 outD) H1 := hP2
  replace hD : va_D A (lW cy a1 res.2.1 res.2.2.1 b T o1 res.2.2.2 o2 outD) := hD2
  clear hP2 hD2 hP1 hD1 hk hz hPc hDc hfr hvm ht
  generalize H1 = H at hP hS ⊢
  rw [← ha1] at hl
  refine lv_istore (lv' := [(6, .int res.1), (0, .ref sb), (1, .ref (a1.1 0)), (2, .ref (b 0)), (3, .ref o1), (4, .ref o2), (5, .int i)]) hx hb dL_law_2123 hl (by decide) rfl (fun ls hl => ?_)
  refine lv_aload_n hx hb dL_law_2125 rfl (lv_at hl 3 rfl) ?_
  refine lv_aload_n hx hb dL_law_2126 rfl (lv_at hl 1 rfl) ?_
  refine lv_iload hx hb dL_law_2127 (lv_at hl 6 rfl) ?_
  refine lv_iconst (v := 1) hx hb dL_law_2129 (by decide) ?_
  refine lv_iadd hx hb dL_law_2130 ?_
  refine va_sld hx hb hX hsb hsA hS hi1 dL_law_2131 ?_
  replace hP := zP_perm l_perm1 hP
  replace hD := zD_perm l_perm1 hD
  have hPc := lP_app hP
  have hDc := lD_app hD
  have hfr := z_free hDc hS hA
  refine va_calli (va_runV (As := [.int (xs (i + 1).toNatClampNeg)]) (rest := []) ⟨hx, hb, hml, hown, hts⟩ (c_X4_freeMinutes l D cy b T H.size (xs (i + 1).toNatClampNeg) hr) (cwV 1 hts gL_law_X4_freeMinutes rfl rfl rfl hd_X4_freeMinutes ⟨Nat.le_of_ble_eq_true rfl, Nat.le_of_ble_eq_true rfl⟩) ⟨zJ_blind rI_blind, va_recv hK hPc (ci := 4) (q0 := 0) rfl rfl, zJ_at (rI_at hPc hK hDc)⟩ rfl rfl hl.1 rfl (lv_room (Nat.le_of_ble_eq_true rfl)) dL_law_2132 ⟨by omega, by omega⟩) hS (fun q _ h => hfr q h) hfr (fun r9 u9 t H1 locs1 ht hvm hw hB hz hk hS => ?_)
  obtain ⟨hP1, hD1⟩ := hB
  rw [ht] at hP1
  subst hw
  obtain ⟨hP2, hD2⟩ := z_join (ws := (lOutD cy o2 outD) :: (lOut cy o1 res.2.2.2) :: xW cy a1 res.2.1 res.2.2.1) (wc := rW cy b T) (w1 := rW cy b rr.2) hP hD hk hfr hP1 hD1
  replace hP2 := zP_perm l_perm1.symm hP2
  replace hD2 := zD_perm l_perm1.symm hD2
  replace hP : va_P D xcl (lW cy a1 res.2.1 res.2.2.1 b rr.2 o1 res.2.2.2 o2 outD) H1 := hP2
  replace hD : va_D A (lW cy a1 res.2.1 res.2.2.1 b rr.2 o1 res.2.2.2 o2 outD) := hD2
  clear hP2 hD2 hP1 hD1 hk hz hPc hDc hfr hvm ht
  generalize H1 = H at hP hS ⊢
  refine lv_istore (lv' := [(7, .int rr.1), (6, .int res.1), (0, .ref sb), (1, .ref (a1.1 0)), (2, .ref (b 0)), (3, .ref o1), (4, .ref o2), (5, .int i)]) hx hb dL_law_2135 hl (by decide) rfl (fun ls hl => ?_)
  refine lv_aload_n hx hb dL_law_2137 rfl (lv_at hl 4 rfl) ?_
  have hPc := lP_app (zP_perm l_perm1 hP)
  have hDc := lD_app (zD_perm l_perm1 hD)
  refine zcSi (W.runV (As := []) (rest := []) ⟨hx, hb, hml, hown, hts⟩ (c_X4_thrown l D cy b rr.2 (res := rr.2.1 27) rfl) (cwV 0 hts gL_law_X4_thrown rfl rfl rfl hd_X4_thrown ⟨Nat.le_of_ble_eq_true rfl, Nat.le_of_ble_eq_true rfl⟩) ⟨rI_blind, va_recv hK hPc (ci := 4) (q0 := 0) rfl rfl, rI_at hPc hK hDc⟩ rfl rfl hl.1 rfl (lv_room (Nat.le_of_ble_eq_true rfl)) dL_law_2138 ⟨by omega, by omega⟩) ?_
  refine lv_iload hx hb dL_law_2141 (lv_at hl 1 rfl) ?_
  refine lv_icmp_eq (tgt := 2148) hx hb dL_law_2143 (by decide) (fun c0 => ?_) (fun c0 => absurd ht0 c0)
  refine lv_iload hx hb dL_law_2148 (lv_at hl 1 rfl) ?_
  refine lv_if_ne (tgt := 2165) hx hb dL_law_2150 (by decide) (fun c0 => ?_) (fun c0 => ?_)
  · refine lv_goto (tgt := 2861) hx hb dL_law_2165 (by decide) ?_
    refine W.widen (k := cells_ + 16) (n := slots_ + 130) (by omega) (by omega) ?_
    exact hk ha1 _ _ _ hP hD hS (lv_sub hl [2, 3, 4, 5, 6, 7] rfl)
  · refine lv_aload_n hx hb dL_law_2153 rfl (lv_at hl 5 rfl) ?_
    refine lv_iconst (v := 0) hx hb dL_law_2154 (by decide) ?_
    refine va_lald hx hb hK (zP_perm l_perm4 hP) 0 1 rfl rfl (show vp_in 0 1 from by unfold vp_in; decide) dL_law_2155 ?_
    refine lv_iload hx hb dL_law_2156 (lv_at hl 0 rfl) ?_
    refine lv_i2l (v := Int32.toInt64 rr.1) hx hb dL_law_2158 rfl ?_
    refine W.lcmp hx hb dL_law_2159 ?_
    refine lv_if_eq (tgt := 2165) hx hb dL_law_2160 (by decide) (fun c2 => ?_) (fun c2 => absurd (l_cmp (hv c0)) c2)
    refine lv_goto (tgt := 2861) hx hb dL_law_2165 (by decide) ?_
    refine W.widen (k := cells_ + 16) (n := slots_ + 130) (by omega) (by omega) ?_
    exact hk ha1 _ _ _ hP hD hS (lv_sub hl [2, 3, 4, 5, 6, 7] rfl)
set_option maxHeartbeats 4000000 in
set_option maxRecDepth 100000 in
theorem l_case_29 (hC0 : lC p l s m args meth c D cy A sb L xs) {a : XA} {n : Nat → Nat} {V : XV} {b : Nat → Nat} {T : RV} {o1 o2 : Nat} {out : Nat → Int64} {outD : Nat → UInt64} {i : Int32} {H : Heap} {locs : List Loc} {ls : Array Slot} {cells_ slots_ : Nat} (hc1 : cells_ + 16 ≤ room_1.cells) (hc2 : slots_ + 130 ≤ room_1.slots) (hP : va_P D xcl (lW cy a n V b T o1 out o2 outD) H) (hD : va_D A (lW cy a n V b T o1 out o2 outD)) (hS : va_S A s.heap H locs) (hl : lv_has ls 9 [(0, .ref sb), (1, .ref (a.1 0)), (2, .ref (b 0)), (3, .ref o1), (4, .ref o2), (5, .int i)]) (hi1 : vp_in (i + 1) L) {res : Int32 × (Nat → Nat) × XV × (Nat → Int64)} {rr : Int32 × RV} (hf : f_L_atWork n V out (xs (i + 1).toNatClampNeg) = some res) (hr : f_X4_atWork T (xs (i + 1).toNatClampNeg) = some rr) (ht0 : rr.2.1 27 = res.1) (hv : res.1 = 0 → res.2.2.2 (0 : Int32).toNatClampNeg = Int32.toInt64 rr.1)
    (hk : ∀ {a1 : XA} (_ : a1.1 = a.1) (H : Heap) (locs : List Loc) (ls : Array Slot), va_P D xcl (lW cy a1 res.2.1 res.2.2.1 b rr.2 o1 res.2.2.2 o2 outD) H → va_D A (lW cy a1 res.2.1 res.2.2.1 b rr.2 o1 res.2.2.2 o2 outD) → va_S A s.heap H locs → lv_has ls 9 [(0, .ref sb), (1, .ref (a1.1 0)), (2, .ref (b 0)), (3, .ref o1), (4, .ref o2), (5, .int i)] → W p l e room_1 s m args below meth c H locs (cells_ + 16) (slots_ + 130) Q (F0 m 2861 ls [])) : W p l e room_1 s m args below meth c H locs cells_ slots_ Q (F0 m 2168 ls []) := by
  obtain ⟨hl0, hx, hb, hml, hown, hts, hK, hA, hC, hZ, hX, hsb, hsA⟩ := hC0
  refine lv_aload_n hx hb dL_law_2168 rfl (lv_at hl 1 rfl) ?_
  refine lv_aload_n hx hb dL_law_2169 rfl (lv_at hl 0 rfl) ?_
  refine lv_iload hx hb dL_law_2170 (lv_at hl 5 rfl) ?_
  refine lv_iconst (v := 1) hx hb dL_law_2172 (by decide) ?_
  refine lv_iadd hx hb dL_law_2173 ?_
  refine va_sld hx hb hX hsb hsA hS hi1 dL_law_2174 ?_
  refine lv_aload_n hx hb dL_law_2175 rfl (lv_at hl 3 rfl) ?_
  have hPc := lP_app hP
  have hDc := lD_app hD
  have hfr := z_free hDc hS hA
  refine va_calli (vx_runSW (As := [.ref (a.1 0), .int (xs (i + 1).toNatClampNeg), .ref o1]) (rest := []) ⟨hx, hb, hml, hown, hts⟩ (c_L_atWork l hl0 D cy a n V o1 out H.size (xs (i + 1).toNatClampNeg) hf) (vx_cwSW 3 hts gL_law_L_atWork rfl rfl rfl hd_L_atWork ⟨Nat.le_of_ble_eq_true rfl, Nat.le_of_ble_eq_true rfl⟩) ⟨lX_blind, lX_at hC hZ hS hfr hPc hK hDc⟩ rfl rfl hl.1 rfl (lv_room (Nat.le_of_ble_eq_true rfl)) dL_law_2176 ⟨by omega, by omega⟩) hS (fun q _ h => hfr q h) hfr (fun r9 a1 t H1 locs1 ht hvm hw hB hz hk hS => ?_)
  obtain ⟨ha1, hP1, hD1⟩ := hB
  rw [ht] at hP1
  subst hw
  obtain ⟨hP2, hD2⟩ := z_join (ws := lOutD cy o2 outD :: rW cy b T) (wc := lOut cy o1 out :: xW cy a n V) (w1 := (o1, .inl (cy 1, 1, .inr (.inl res.2.2.2))) :: xW cy a1 res.2.1 res.2.2.1) hP hD hk hfr hP1 hD1
  replace hP : va_P D xcl (lW cy a1 res.2.1 res.2.2.1 b T o1 res.2.2.2 o2 outD) H1 := hP2
  replace hD : va_D A (lW cy a1 res.2.1 res.2.2.1 b T o1 res.2.2.2 o2 outD) := hD2
  clear hP2 hD2 hP1 hD1 hk hz hPc hDc hfr hvm ht
  generalize H1 = H at hP hS ⊢
  rw [← ha1] at hl
  refine lv_istore (lv' := [(6, .int res.1), (0, .ref sb), (1, .ref (a1.1 0)), (2, .ref (b 0)), (3, .ref o1), (4, .ref o2), (5, .int i)]) hx hb dL_law_2179 hl (by decide) rfl (fun ls hl => ?_)
  refine lv_aload_n hx hb dL_law_2181 rfl (lv_at hl 3 rfl) ?_
  refine lv_aload_n hx hb dL_law_2182 rfl (lv_at hl 1 rfl) ?_
  refine lv_iload hx hb dL_law_2183 (lv_at hl 6 rfl) ?_
  refine lv_iconst (v := 1) hx hb dL_law_2185 (by decide) ?_
  refine lv_iadd hx hb dL_law_2186 ?_
  refine va_sld hx hb hX hsb hsA hS hi1 dL_law_2187 ?_
  replace hP := zP_perm l_perm1 hP
  replace hD := zD_perm l_perm1 hD
  have hPc := lP_app hP
  have hDc := lD_app hD
  have hfr := z_free hDc hS hA
  refine va_calli (va_runV (As := [.int (xs (i + 1).toNatClampNeg)]) (rest := []) ⟨hx, hb, hml, hown, hts⟩ (c_X4_atWork l D cy b T H.size (xs (i + 1).toNatClampNeg) hr) (cwV 1 hts gL_law_X4_atWork rfl rfl rfl hd_X4_atWork ⟨Nat.le_of_ble_eq_true rfl, Nat.le_of_ble_eq_true rfl⟩) ⟨zJ_blind rI_blind, va_recv hK hPc (ci := 4) (q0 := 0) rfl rfl, zJ_at (rI_at hPc hK hDc)⟩ rfl rfl hl.1 rfl (lv_room (Nat.le_of_ble_eq_true rfl)) dL_law_2188 ⟨by omega, by omega⟩) hS (fun q _ h => hfr q h) hfr (fun r9 u9 t H1 locs1 ht hvm hw hB hz hk hS => ?_)
  obtain ⟨hP1, hD1⟩ := hB
  rw [ht] at hP1
  subst hw
  obtain ⟨hP2, hD2⟩ := z_join (ws := (lOutD cy o2 outD) :: (lOut cy o1 res.2.2.2) :: xW cy a1 res.2.1 res.2.2.1) (wc := rW cy b T) (w1 := rW cy b rr.2) hP hD hk hfr hP1 hD1
  replace hP2 := zP_perm l_perm1.symm hP2
  replace hD2 := zD_perm l_perm1.symm hD2
  replace hP : va_P D xcl (lW cy a1 res.2.1 res.2.2.1 b rr.2 o1 res.2.2.2 o2 outD) H1 := hP2
  replace hD : va_D A (lW cy a1 res.2.1 res.2.2.1 b rr.2 o1 res.2.2.2 o2 outD) := hD2
  clear hP2 hD2 hP1 hD1 hk hz hPc hDc hfr hvm ht
  generalize H1 = H at hP hS ⊢
  refine lv_istore (lv' := [(7, .int rr.1), (6, .int res.1), (0, .ref sb), (1, .ref (a1.1 0)), (2, .ref (b 0)), (3, .ref o1), (4, .ref o2), (5, .int i)]) hx hb dL_law_2191 hl (by decide) rfl (fun ls hl => ?_)
  refine lv_aload_n hx hb dL_law_2193 rfl (lv_at hl 4 rfl) ?_
  have hPc := lP_app (zP_perm l_perm1 hP)
  have hDc := lD_app (zD_perm l_perm1 hD)
  refine zcSi (W.runV (As := []) (rest := []) ⟨hx, hb, hml, hown, hts⟩ (c_X4_thrown l D cy b rr.2 (res := rr.2.1 27) rfl) (cwV 0 hts gL_law_X4_thrown rfl rfl rfl hd_X4_thrown ⟨Nat.le_of_ble_eq_true rfl, Nat.le_of_ble_eq_true rfl⟩) ⟨rI_blind, va_recv hK hPc (ci := 4) (q0 := 0) rfl rfl, rI_at hPc hK hDc⟩ rfl rfl hl.1 rfl (lv_room (Nat.le_of_ble_eq_true rfl)) dL_law_2194 ⟨by omega, by omega⟩) ?_
  refine lv_iload hx hb dL_law_2197 (lv_at hl 1 rfl) ?_
  refine lv_icmp_eq (tgt := 2204) hx hb dL_law_2199 (by decide) (fun c0 => ?_) (fun c0 => absurd ht0 c0)
  refine lv_iload hx hb dL_law_2204 (lv_at hl 1 rfl) ?_
  refine lv_if_ne (tgt := 2221) hx hb dL_law_2206 (by decide) (fun c0 => ?_) (fun c0 => ?_)
  · refine lv_goto (tgt := 2861) hx hb dL_law_2221 (by decide) ?_
    refine W.widen (k := cells_ + 16) (n := slots_ + 130) (by omega) (by omega) ?_
    exact hk ha1 _ _ _ hP hD hS (lv_sub hl [2, 3, 4, 5, 6, 7] rfl)
  · refine lv_aload_n hx hb dL_law_2209 rfl (lv_at hl 5 rfl) ?_
    refine lv_iconst (v := 0) hx hb dL_law_2210 (by decide) ?_
    refine va_lald hx hb hK (zP_perm l_perm4 hP) 0 1 rfl rfl (show vp_in 0 1 from by unfold vp_in; decide) dL_law_2211 ?_
    refine lv_iload hx hb dL_law_2212 (lv_at hl 0 rfl) ?_
    refine lv_i2l (v := Int32.toInt64 rr.1) hx hb dL_law_2214 rfl ?_
    refine W.lcmp hx hb dL_law_2215 ?_
    refine lv_if_eq (tgt := 2221) hx hb dL_law_2216 (by decide) (fun c2 => ?_) (fun c2 => absurd (l_cmp (hv c0)) c2)
    refine lv_goto (tgt := 2861) hx hb dL_law_2221 (by decide) ?_
    refine W.widen (k := cells_ + 16) (n := slots_ + 130) (by omega) (by omega) ?_
    exact hk ha1 _ _ _ hP hD hS (lv_sub hl [2, 3, 4, 5, 6, 7] rfl)
set_option maxHeartbeats 4000000 in
set_option maxRecDepth 100000 in
theorem l_case_30 (hC0 : lC p l s m args meth c D cy A sb L xs) {a : XA} {n : Nat → Nat} {V : XV} {b : Nat → Nat} {T : RV} {o1 o2 : Nat} {out : Nat → Int64} {outD : Nat → UInt64} {i : Int32} {H : Heap} {locs : List Loc} {ls : Array Slot} {cells_ slots_ : Nat} (hc1 : cells_ + 16 ≤ room_1.cells) (hc2 : slots_ + 130 ≤ room_1.slots) (hP : va_P D xcl (lW cy a n V b T o1 out o2 outD) H) (hD : va_D A (lW cy a n V b T o1 out o2 outD)) (hS : va_S A s.heap H locs) (hl : lv_has ls 9 [(0, .ref sb), (1, .ref (a.1 0)), (2, .ref (b 0)), (3, .ref o1), (4, .ref o2), (5, .int i)]) (hi1 : vp_in (i + 1) L) {res : Int32 × (Nat → Nat) × XV × (Nat → Int64)} {rr : Int64 × RV} (hf : f_L_airAt n V out (xs (i + 1).toNatClampNeg) = some res) (hr : f_X4_airAt T (xs (i + 1).toNatClampNeg) = some rr) (ht0 : rr.2.1 27 = res.1) (hv : res.1 = 0 → res.2.2.2 (0 : Int32).toNatClampNeg = rr.1)
    (hk : ∀ {a1 : XA} (_ : a1.1 = a.1) (H : Heap) (locs : List Loc) (ls : Array Slot), va_P D xcl (lW cy a1 res.2.1 res.2.2.1 b rr.2 o1 res.2.2.2 o2 outD) H → va_D A (lW cy a1 res.2.1 res.2.2.1 b rr.2 o1 res.2.2.2 o2 outD) → va_S A s.heap H locs → lv_has ls 9 [(0, .ref sb), (1, .ref (a1.1 0)), (2, .ref (b 0)), (3, .ref o1), (4, .ref o2), (5, .int i)] → W p l e room_1 s m args below meth c H locs (cells_ + 16) (slots_ + 130) Q (F0 m 2861 ls [])) : W p l e room_1 s m args below meth c H locs cells_ slots_ Q (F0 m 2224 ls []) := by
  obtain ⟨hl0, hx, hb, hml, hown, hts, hK, hA, hC, hZ, hX, hsb, hsA⟩ := hC0
  refine lv_aload_n hx hb dL_law_2224 rfl (lv_at hl 1 rfl) ?_
  refine lv_aload_n hx hb dL_law_2225 rfl (lv_at hl 0 rfl) ?_
  refine lv_iload hx hb dL_law_2226 (lv_at hl 5 rfl) ?_
  refine lv_iconst (v := 1) hx hb dL_law_2228 (by decide) ?_
  refine lv_iadd hx hb dL_law_2229 ?_
  refine va_sld hx hb hX hsb hsA hS hi1 dL_law_2230 ?_
  refine lv_aload_n hx hb dL_law_2231 rfl (lv_at hl 3 rfl) ?_
  have hPc := lP_app hP
  have hDc := lD_app hD
  have hfr := z_free hDc hS hA
  refine va_calli (vx_runSW (As := [.ref (a.1 0), .int (xs (i + 1).toNatClampNeg), .ref o1]) (rest := []) ⟨hx, hb, hml, hown, hts⟩ (c_L_airAt l hl0 D cy a n V o1 out H.size (xs (i + 1).toNatClampNeg) hf) (vx_cwSW 3 hts gL_law_L_airAt rfl rfl rfl hd_L_airAt ⟨Nat.le_of_ble_eq_true rfl, Nat.le_of_ble_eq_true rfl⟩) ⟨lX_blind, lX_at hC hZ hS hfr hPc hK hDc⟩ rfl rfl hl.1 rfl (lv_room (Nat.le_of_ble_eq_true rfl)) dL_law_2232 ⟨by omega, by omega⟩) hS (fun q _ h => hfr q h) hfr (fun r9 a1 t H1 locs1 ht hvm hw hB hz hk hS => ?_)
  obtain ⟨ha1, hP1, hD1⟩ := hB
  rw [ht] at hP1
  subst hw
  obtain ⟨hP2, hD2⟩ := z_join (ws := lOutD cy o2 outD :: rW cy b T) (wc := lOut cy o1 out :: xW cy a n V) (w1 := (o1, .inl (cy 1, 1, .inr (.inl res.2.2.2))) :: xW cy a1 res.2.1 res.2.2.1) hP hD hk hfr hP1 hD1
  replace hP : va_P D xcl (lW cy a1 res.2.1 res.2.2.1 b T o1 res.2.2.2 o2 outD) H1 := hP2
  replace hD : va_D A (lW cy a1 res.2.1 res.2.2.1 b T o1 res.2.2.2 o2 outD) := hD2
  clear hP2 hD2 hP1 hD1 hk hz hPc hDc hfr hvm ht
  generalize H1 = H at hP hS ⊢
  rw [← ha1] at hl
  refine lv_istore (lv' := [(6, .int res.1), (0, .ref sb), (1, .ref (a1.1 0)), (2, .ref (b 0)), (3, .ref o1), (4, .ref o2), (5, .int i)]) hx hb dL_law_2235 hl (by decide) rfl (fun ls hl => ?_)
  refine lv_aload_n hx hb dL_law_2237 rfl (lv_at hl 3 rfl) ?_
  refine lv_aload_n hx hb dL_law_2238 rfl (lv_at hl 1 rfl) ?_
  refine lv_iload hx hb dL_law_2239 (lv_at hl 6 rfl) ?_
  refine lv_iconst (v := 1) hx hb dL_law_2241 (by decide) ?_
  refine lv_iadd hx hb dL_law_2242 ?_
  refine va_sld hx hb hX hsb hsA hS hi1 dL_law_2243 ?_
  replace hP := zP_perm l_perm1 hP
  replace hD := zD_perm l_perm1 hD
  have hPc := lP_app hP
  have hDc := lD_app hD
  have hfr := z_free hDc hS hA
  refine va_calll (va_runV (As := [.int (xs (i + 1).toNatClampNeg)]) (rest := []) ⟨hx, hb, hml, hown, hts⟩ (c_X4_airAt l D cy b T H.size (xs (i + 1).toNatClampNeg) hr) (cwV 1 hts gL_law_X4_airAt rfl rfl rfl hd_X4_airAt ⟨Nat.le_of_ble_eq_true rfl, Nat.le_of_ble_eq_true rfl⟩) ⟨zJ_blind rI_blind, va_recv hK hPc (ci := 4) (q0 := 0) rfl rfl, zJ_at (rI_at hPc hK hDc)⟩ rfl rfl hl.1 rfl (lv_room (Nat.le_of_ble_eq_true rfl)) dL_law_2244 ⟨by omega, by omega⟩) hS (fun q _ h => hfr q h) hfr (fun r9 u9 t H1 locs1 ht hvm hw hB hz hk hS => ?_)
  obtain ⟨hP1, hD1⟩ := hB
  rw [ht] at hP1
  subst hw
  obtain ⟨hP2, hD2⟩ := z_join (ws := (lOutD cy o2 outD) :: (lOut cy o1 res.2.2.2) :: xW cy a1 res.2.1 res.2.2.1) (wc := rW cy b T) (w1 := rW cy b rr.2) hP hD hk hfr hP1 hD1
  replace hP2 := zP_perm l_perm1.symm hP2
  replace hD2 := zD_perm l_perm1.symm hD2
  replace hP : va_P D xcl (lW cy a1 res.2.1 res.2.2.1 b rr.2 o1 res.2.2.2 o2 outD) H1 := hP2
  replace hD : va_D A (lW cy a1 res.2.1 res.2.2.1 b rr.2 o1 res.2.2.2 o2 outD) := hD2
  clear hP2 hD2 hP1 hD1 hk hz hPc hDc hfr hvm ht
  generalize H1 = H at hP hS ⊢
  refine lv_lstore (lv' := [(7, .long rr.1), (6, .int res.1), (0, .ref sb), (1, .ref (a1.1 0)), (2, .ref (b 0)), (3, .ref o1), (4, .ref o2), (5, .int i)]) hx hb dL_law_2247 hl (by decide) rfl (fun ls hl => ?_)
  refine lv_aload_n hx hb dL_law_2249 rfl (lv_at hl 4 rfl) ?_
  have hPc := lP_app (zP_perm l_perm1 hP)
  have hDc := lD_app (zD_perm l_perm1 hD)
  refine zcSi (W.runV (As := []) (rest := []) ⟨hx, hb, hml, hown, hts⟩ (c_X4_thrown l D cy b rr.2 (res := rr.2.1 27) rfl) (cwV 0 hts gL_law_X4_thrown rfl rfl rfl hd_X4_thrown ⟨Nat.le_of_ble_eq_true rfl, Nat.le_of_ble_eq_true rfl⟩) ⟨rI_blind, va_recv hK hPc (ci := 4) (q0 := 0) rfl rfl, rI_at hPc hK hDc⟩ rfl rfl hl.1 rfl (lv_room (Nat.le_of_ble_eq_true rfl)) dL_law_2250 ⟨by omega, by omega⟩) ?_
  refine lv_iload hx hb dL_law_2253 (lv_at hl 1 rfl) ?_
  refine lv_icmp_eq (tgt := 2260) hx hb dL_law_2255 (by decide) (fun c0 => ?_) (fun c0 => absurd ht0 c0)
  refine lv_iload hx hb dL_law_2260 (lv_at hl 1 rfl) ?_
  refine lv_if_ne (tgt := 2276) hx hb dL_law_2262 (by decide) (fun c0 => ?_) (fun c0 => ?_)
  · refine lv_goto (tgt := 2861) hx hb dL_law_2276 (by decide) ?_
    refine W.widen (k := cells_ + 16) (n := slots_ + 130) (by omega) (by omega) ?_
    exact hk ha1 _ _ _ hP hD hS (lv_sub hl [2, 3, 4, 5, 6, 7] rfl)
  · refine lv_aload_n hx hb dL_law_2265 rfl (lv_at hl 5 rfl) ?_
    refine lv_iconst (v := 0) hx hb dL_law_2266 (by decide) ?_
    refine va_lald hx hb hK (zP_perm l_perm4 hP) 0 1 rfl rfl (show vp_in 0 1 from by unfold vp_in; decide) dL_law_2267 ?_
    refine lv_lload hx hb dL_law_2268 (lv_at hl 0 rfl) ?_
    refine W.lcmp hx hb dL_law_2270 ?_
    refine lv_if_eq (tgt := 2276) hx hb dL_law_2271 (by decide) (fun c2 => ?_) (fun c2 => absurd (l_cmp (hv c0)) c2)
    refine lv_goto (tgt := 2861) hx hb dL_law_2276 (by decide) ?_
    refine W.widen (k := cells_ + 16) (n := slots_ + 130) (by omega) (by omega) ?_
    exact hk ha1 _ _ _ hP hD hS (lv_sub hl [2, 3, 4, 5, 6, 7] rfl)
set_option maxHeartbeats 4000000 in
set_option maxRecDepth 100000 in
theorem l_case_31 (hC0 : lC p l s m args meth c D cy A sb L xs) {a : XA} {n : Nat → Nat} {V : XV} {b : Nat → Nat} {T : RV} {o1 o2 : Nat} {out : Nat → Int64} {outD : Nat → UInt64} {i : Int32} {H : Heap} {locs : List Loc} {ls : Array Slot} {cells_ slots_ : Nat} (hc1 : cells_ + 16 ≤ room_1.cells) (hc2 : slots_ + 130 ≤ room_1.slots) (hP : va_P D xcl (lW cy a n V b T o1 out o2 outD) H) (hD : va_D A (lW cy a n V b T o1 out o2 outD)) (hS : va_S A s.heap H locs) (hl : lv_has ls 9 [(0, .ref sb), (1, .ref (a.1 0)), (2, .ref (b 0)), (3, .ref o1), (4, .ref o2), (5, .int i)]) (hi1 : vp_in (i + 1) L) {res : Int32 × (Nat → Nat) × XV × (Nat → Int64)} {rr : Int32 × RV} (hf : f_L_squaresAt n V out (xs (i + 1).toNatClampNeg) = some res) (hr : f_X4_squaresAt T (xs (i + 1).toNatClampNeg) = some rr) (ht0 : rr.2.1 27 = res.1) (hv : res.1 = 0 → res.2.2.2 (0 : Int32).toNatClampNeg = Int32.toInt64 rr.1)
    (hk : ∀ {a1 : XA} (_ : a1.1 = a.1) (H : Heap) (locs : List Loc) (ls : Array Slot), va_P D xcl (lW cy a1 res.2.1 res.2.2.1 b rr.2 o1 res.2.2.2 o2 outD) H → va_D A (lW cy a1 res.2.1 res.2.2.1 b rr.2 o1 res.2.2.2 o2 outD) → va_S A s.heap H locs → lv_has ls 9 [(0, .ref sb), (1, .ref (a1.1 0)), (2, .ref (b 0)), (3, .ref o1), (4, .ref o2), (5, .int i)] → W p l e room_1 s m args below meth c H locs (cells_ + 16) (slots_ + 130) Q (F0 m 2861 ls [])) : W p l e room_1 s m args below meth c H locs cells_ slots_ Q (F0 m 2279 ls []) := by
  obtain ⟨hl0, hx, hb, hml, hown, hts, hK, hA, hC, hZ, hX, hsb, hsA⟩ := hC0
  refine lv_aload_n hx hb dL_law_2279 rfl (lv_at hl 1 rfl) ?_
  refine lv_aload_n hx hb dL_law_2280 rfl (lv_at hl 0 rfl) ?_
  refine lv_iload hx hb dL_law_2281 (lv_at hl 5 rfl) ?_
  refine lv_iconst (v := 1) hx hb dL_law_2283 (by decide) ?_
  refine lv_iadd hx hb dL_law_2284 ?_
  refine va_sld hx hb hX hsb hsA hS hi1 dL_law_2285 ?_
  refine lv_aload_n hx hb dL_law_2286 rfl (lv_at hl 3 rfl) ?_
  have hPc := lP_app hP
  have hDc := lD_app hD
  have hfr := z_free hDc hS hA
  refine va_calli (vx_runSW (As := [.ref (a.1 0), .int (xs (i + 1).toNatClampNeg), .ref o1]) (rest := []) ⟨hx, hb, hml, hown, hts⟩ (c_L_squaresAt l hl0 D cy a n V o1 out H.size (xs (i + 1).toNatClampNeg) hf) (vx_cwSW 3 hts gL_law_L_squaresAt rfl rfl rfl hd_L_squaresAt ⟨Nat.le_of_ble_eq_true rfl, Nat.le_of_ble_eq_true rfl⟩) ⟨lX_blind, lX_at hC hZ hS hfr hPc hK hDc⟩ rfl rfl hl.1 rfl (lv_room (Nat.le_of_ble_eq_true rfl)) dL_law_2287 ⟨by omega, by omega⟩) hS (fun q _ h => hfr q h) hfr (fun r9 a1 t H1 locs1 ht hvm hw hB hz hk hS => ?_)
  obtain ⟨ha1, hP1, hD1⟩ := hB
  rw [ht] at hP1
  subst hw
  obtain ⟨hP2, hD2⟩ := z_join (ws := lOutD cy o2 outD :: rW cy b T) (wc := lOut cy o1 out :: xW cy a n V) (w1 := (o1, .inl (cy 1, 1, .inr (.inl res.2.2.2))) :: xW cy a1 res.2.1 res.2.2.1) hP hD hk hfr hP1 hD1
  replace hP : va_P D xcl (lW cy a1 res.2.1 res.2.2.1 b T o1 res.2.2.2 o2 outD) H1 := hP2
  replace hD : va_D A (lW cy a1 res.2.1 res.2.2.1 b T o1 res.2.2.2 o2 outD) := hD2
  clear hP2 hD2 hP1 hD1 hk hz hPc hDc hfr hvm ht
  generalize H1 = H at hP hS ⊢
  rw [← ha1] at hl
  refine lv_istore (lv' := [(6, .int res.1), (0, .ref sb), (1, .ref (a1.1 0)), (2, .ref (b 0)), (3, .ref o1), (4, .ref o2), (5, .int i)]) hx hb dL_law_2290 hl (by decide) rfl (fun ls hl => ?_)
  refine lv_aload_n hx hb dL_law_2292 rfl (lv_at hl 3 rfl) ?_
  refine lv_aload_n hx hb dL_law_2293 rfl (lv_at hl 1 rfl) ?_
  refine lv_iload hx hb dL_law_2294 (lv_at hl 6 rfl) ?_
  refine lv_iconst (v := 1) hx hb dL_law_2296 (by decide) ?_
  refine lv_iadd hx hb dL_law_2297 ?_
  refine va_sld hx hb hX hsb hsA hS hi1 dL_law_2298 ?_
  replace hP := zP_perm l_perm1 hP
  replace hD := zD_perm l_perm1 hD
  have hPc := lP_app hP
  have hDc := lD_app hD
  have hfr := z_free hDc hS hA
  refine va_calli (va_runV (As := [.int (xs (i + 1).toNatClampNeg)]) (rest := []) ⟨hx, hb, hml, hown, hts⟩ (c_X4_squaresAt l D cy b T H.size (xs (i + 1).toNatClampNeg) hr) (cwV 1 hts gL_law_X4_squaresAt rfl rfl rfl hd_X4_squaresAt ⟨Nat.le_of_ble_eq_true rfl, Nat.le_of_ble_eq_true rfl⟩) ⟨zJ_blind rI_blind, va_recv hK hPc (ci := 4) (q0 := 0) rfl rfl, zJ_at (rI_at hPc hK hDc)⟩ rfl rfl hl.1 rfl (lv_room (Nat.le_of_ble_eq_true rfl)) dL_law_2299 ⟨by omega, by omega⟩) hS (fun q _ h => hfr q h) hfr (fun r9 u9 t H1 locs1 ht hvm hw hB hz hk hS => ?_)
  obtain ⟨hP1, hD1⟩ := hB
  rw [ht] at hP1
  subst hw
  obtain ⟨hP2, hD2⟩ := z_join (ws := (lOutD cy o2 outD) :: (lOut cy o1 res.2.2.2) :: xW cy a1 res.2.1 res.2.2.1) (wc := rW cy b T) (w1 := rW cy b rr.2) hP hD hk hfr hP1 hD1
  replace hP2 := zP_perm l_perm1.symm hP2
  replace hD2 := zD_perm l_perm1.symm hD2
  replace hP : va_P D xcl (lW cy a1 res.2.1 res.2.2.1 b rr.2 o1 res.2.2.2 o2 outD) H1 := hP2
  replace hD : va_D A (lW cy a1 res.2.1 res.2.2.1 b rr.2 o1 res.2.2.2 o2 outD) := hD2
  clear hP2 hD2 hP1 hD1 hk hz hPc hDc hfr hvm ht
  generalize H1 = H at hP hS ⊢
  refine lv_istore (lv' := [(7, .int rr.1), (6, .int res.1), (0, .ref sb), (1, .ref (a1.1 0)), (2, .ref (b 0)), (3, .ref o1), (4, .ref o2), (5, .int i)]) hx hb dL_law_2302 hl (by decide) rfl (fun ls hl => ?_)
  refine lv_aload_n hx hb dL_law_2304 rfl (lv_at hl 4 rfl) ?_
  have hPc := lP_app (zP_perm l_perm1 hP)
  have hDc := lD_app (zD_perm l_perm1 hD)
  refine zcSi (W.runV (As := []) (rest := []) ⟨hx, hb, hml, hown, hts⟩ (c_X4_thrown l D cy b rr.2 (res := rr.2.1 27) rfl) (cwV 0 hts gL_law_X4_thrown rfl rfl rfl hd_X4_thrown ⟨Nat.le_of_ble_eq_true rfl, Nat.le_of_ble_eq_true rfl⟩) ⟨rI_blind, va_recv hK hPc (ci := 4) (q0 := 0) rfl rfl, rI_at hPc hK hDc⟩ rfl rfl hl.1 rfl (lv_room (Nat.le_of_ble_eq_true rfl)) dL_law_2305 ⟨by omega, by omega⟩) ?_
  refine lv_iload hx hb dL_law_2308 (lv_at hl 1 rfl) ?_
  refine lv_icmp_eq (tgt := 2315) hx hb dL_law_2310 (by decide) (fun c0 => ?_) (fun c0 => absurd ht0 c0)
  refine lv_iload hx hb dL_law_2315 (lv_at hl 1 rfl) ?_
  refine lv_if_ne (tgt := 2332) hx hb dL_law_2317 (by decide) (fun c0 => ?_) (fun c0 => ?_)
  · refine lv_goto (tgt := 2861) hx hb dL_law_2332 (by decide) ?_
    refine W.widen (k := cells_ + 16) (n := slots_ + 130) (by omega) (by omega) ?_
    exact hk ha1 _ _ _ hP hD hS (lv_sub hl [2, 3, 4, 5, 6, 7] rfl)
  · refine lv_aload_n hx hb dL_law_2320 rfl (lv_at hl 5 rfl) ?_
    refine lv_iconst (v := 0) hx hb dL_law_2321 (by decide) ?_
    refine va_lald hx hb hK (zP_perm l_perm4 hP) 0 1 rfl rfl (show vp_in 0 1 from by unfold vp_in; decide) dL_law_2322 ?_
    refine lv_iload hx hb dL_law_2323 (lv_at hl 0 rfl) ?_
    refine lv_i2l (v := Int32.toInt64 rr.1) hx hb dL_law_2325 rfl ?_
    refine W.lcmp hx hb dL_law_2326 ?_
    refine lv_if_eq (tgt := 2332) hx hb dL_law_2327 (by decide) (fun c2 => ?_) (fun c2 => absurd (l_cmp (hv c0)) c2)
    refine lv_goto (tgt := 2861) hx hb dL_law_2332 (by decide) ?_
    refine W.widen (k := cells_ + 16) (n := slots_ + 130) (by omega) (by omega) ?_
    exact hk ha1 _ _ _ hP hD hS (lv_sub hl [2, 3, 4, 5, 6, 7] rfl)
set_option maxHeartbeats 4000000 in
set_option maxRecDepth 100000 in
theorem l_case_32 (hC0 : lC p l s m args meth c D cy A sb L xs) {a : XA} {n : Nat → Nat} {V : XV} {b : Nat → Nat} {T : RV} {o1 o2 : Nat} {out : Nat → Int64} {outD : Nat → UInt64} {i : Int32} {H : Heap} {locs : List Loc} {ls : Array Slot} {cells_ slots_ : Nat} (hc1 : cells_ + 16 ≤ room_1.cells) (hc2 : slots_ + 130 ≤ room_1.slots) (hP : va_P D xcl (lW cy a n V b T o1 out o2 outD) H) (hD : va_D A (lW cy a n V b T o1 out o2 outD)) (hS : va_S A s.heap H locs) (hl : lv_has ls 9 [(0, .ref sb), (1, .ref (a.1 0)), (2, .ref (b 0)), (3, .ref o1), (4, .ref o2), (5, .int i)])  {xr : Int32} {rr : Int32 × RV} (hf : f_X3_pours n V = some xr) (hr : f_X4_pours T  = some rr) (hv : xr = rr.1)
    (hk : ∀ {a1 : XA} (_ : a1.1 = a.1) (H : Heap) (locs : List Loc) (ls : Array Slot), va_P D xcl (lW cy a1 n V b rr.2 o1 out o2 outD) H → va_D A (lW cy a1 n V b rr.2 o1 out o2 outD) → va_S A s.heap H locs → lv_has ls 9 [(0, .ref sb), (1, .ref (a1.1 0)), (2, .ref (b 0)), (3, .ref o1), (4, .ref o2), (5, .int i)] → W p l e room_1 s m args below meth c H locs (cells_ + 16) (slots_ + 130) Q (F0 m 2861 ls [])) : W p l e room_1 s m args below meth c H locs cells_ slots_ Q (F0 m 2335 ls []) := by
  obtain ⟨hl0, hx, hb, hml, hown, hts, hK, hA, hC, hZ, hX, hsb, hsA⟩ := hC0
  refine lv_aload_n hx hb dL_law_2335 rfl (lv_at hl 1 rfl) ?_
  have hPc := lP_app (zP_perm l_perm3 hP)
  have hDc := lD_app (zD_perm l_perm3 hD)
  refine zcSi (W.runV (As := []) (rest := []) ⟨hx, hb, hml, hown, hts⟩ (c_X3_pours l D cy a n V hf) (cwV 0 hts gL_law_X3_pours rfl rfl rfl hd_X3_pours ⟨Nat.le_of_ble_eq_true rfl, Nat.le_of_ble_eq_true rfl⟩) ⟨xI_blind, va_recv hK hPc (ci := 3) (q0 := 0) rfl rfl, xI_at hPc hK hDc⟩ rfl rfl hl.1 rfl (lv_room (Nat.le_of_ble_eq_true rfl)) dL_law_2336 ⟨by omega, by omega⟩) ?_
  refine lv_aload_n hx hb dL_law_2339 rfl (lv_at hl 2 rfl) ?_
  replace hP := zP_perm l_perm1 hP
  replace hD := zD_perm l_perm1 hD
  have hPc := lP_app hP
  have hDc := lD_app hD
  have hfr := z_free hDc hS hA
  refine va_calli (va_runV (As := []) (rest := [.int xr]) ⟨hx, hb, hml, hown, hts⟩ (c_X4_pours l D cy b T H.size  hr) (cwV 0 hts gL_law_X4_pours rfl rfl rfl hd_X4_pours ⟨Nat.le_of_ble_eq_true rfl, Nat.le_of_ble_eq_true rfl⟩) ⟨zJ_blind rI_blind, va_recv hK hPc (ci := 4) (q0 := 0) rfl rfl, zJ_at (rI_at hPc hK hDc)⟩ rfl rfl hl.1 rfl (lv_room (Nat.le_of_ble_eq_true rfl)) dL_law_2340 ⟨by omega, by omega⟩) hS (fun q _ h => hfr q h) hfr (fun r9 u9 t H1 locs1 ht hvm hw hB hz hk hS => ?_)
  obtain ⟨hP1, hD1⟩ := hB
  rw [ht] at hP1
  subst hw
  obtain ⟨hP2, hD2⟩ := z_join (ws := (lOutD cy o2 outD) :: (lOut cy o1 out) :: xW cy a n V) (wc := rW cy b T) (w1 := rW cy b rr.2) hP hD hk hfr hP1 hD1
  replace hP2 := zP_perm l_perm1.symm hP2
  replace hD2 := zD_perm l_perm1.symm hD2
  replace hP : va_P D xcl (lW cy a n V b rr.2 o1 out o2 outD) H1 := hP2
  replace hD : va_D A (lW cy a n V b rr.2 o1 out o2 outD) := hD2
  clear hP2 hD2 hP1 hD1 hk hz hPc hDc hfr hvm ht
  generalize H1 = H at hP hS ⊢
  refine lv_icmp_eq (tgt := 2861) hx hb dL_law_2343 (by decide) (fun c0 => ?_) (fun c0 => absurd hv c0)
  refine W.widen (k := cells_ + 16) (n := slots_ + 130) (by omega) (by omega) ?_
  exact hk rfl _ _ _ hP hD hS (lv_sub hl [0, 1, 2, 3, 4, 5] rfl)
set_option maxHeartbeats 4000000 in
set_option maxRecDepth 100000 in
theorem l_case_33 (hC0 : lC p l s m args meth c D cy A sb L xs) {a : XA} {n : Nat → Nat} {V : XV} {b : Nat → Nat} {T : RV} {o1 o2 : Nat} {out : Nat → Int64} {outD : Nat → UInt64} {i : Int32} {H : Heap} {locs : List Loc} {ls : Array Slot} {cells_ slots_ : Nat} (hc1 : cells_ + 16 ≤ room_1.cells) (hc2 : slots_ + 130 ≤ room_1.slots) (hP : va_P D xcl (lW cy a n V b T o1 out o2 outD) H) (hD : va_D A (lW cy a n V b T o1 out o2 outD)) (hS : va_S A s.heap H locs) (hl : lv_has ls 9 [(0, .ref sb), (1, .ref (a.1 0)), (2, .ref (b 0)), (3, .ref o1), (4, .ref o2), (5, .int i)]) (hi1 : vp_in (i + 1) L) {res : Int32 × (Nat → Nat) × XV × (Nat → Int64)} {rr : Int32 × RV} (hf : f_L_firstOf n V out (xs (i + 1).toNatClampNeg) = some res) (hr : f_X4_firstOf T (xs (i + 1).toNatClampNeg) = some rr) (ht0 : rr.2.1 27 = res.1) (hv : res.1 = 0 → res.2.2.2 (0 : Int32).toNatClampNeg = Int32.toInt64 rr.1)
    (hk : ∀ {a1 : XA} (_ : a1.1 = a.1) (H : Heap) (locs : List Loc) (ls : Array Slot), va_P D xcl (lW cy a1 res.2.1 res.2.2.1 b rr.2 o1 res.2.2.2 o2 outD) H → va_D A (lW cy a1 res.2.1 res.2.2.1 b rr.2 o1 res.2.2.2 o2 outD) → va_S A s.heap H locs → lv_has ls 9 [(0, .ref sb), (1, .ref (a1.1 0)), (2, .ref (b 0)), (3, .ref o1), (4, .ref o2), (5, .int i)] → W p l e room_1 s m args below meth c H locs (cells_ + 16) (slots_ + 130) Q (F0 m 2861 ls [])) : W p l e room_1 s m args below meth c H locs cells_ slots_ Q (F0 m 2348 ls []) := by
  obtain ⟨hl0, hx, hb, hml, hown, hts, hK, hA, hC, hZ, hX, hsb, hsA⟩ := hC0
  refine lv_aload_n hx hb dL_law_2348 rfl (lv_at hl 1 rfl) ?_
  refine lv_aload_n hx hb dL_law_2349 rfl (lv_at hl 0 rfl) ?_
  refine lv_iload hx hb dL_law_2350 (lv_at hl 5 rfl) ?_
  refine lv_iconst (v := 1) hx hb dL_law_2352 (by decide) ?_
  refine lv_iadd hx hb dL_law_2353 ?_
  refine va_sld hx hb hX hsb hsA hS hi1 dL_law_2354 ?_
  refine lv_aload_n hx hb dL_law_2355 rfl (lv_at hl 3 rfl) ?_
  have hPc := lP_app hP
  have hDc := lD_app hD
  have hfr := z_free hDc hS hA
  refine va_calli (vx_runSW (As := [.ref (a.1 0), .int (xs (i + 1).toNatClampNeg), .ref o1]) (rest := []) ⟨hx, hb, hml, hown, hts⟩ (c_L_firstOf l hl0 D cy a n V o1 out H.size (xs (i + 1).toNatClampNeg) hf) (vx_cwSW 3 hts gL_law_L_firstOf rfl rfl rfl hd_L_firstOf ⟨Nat.le_of_ble_eq_true rfl, Nat.le_of_ble_eq_true rfl⟩) ⟨lX_blind, lX_at hC hZ hS hfr hPc hK hDc⟩ rfl rfl hl.1 rfl (lv_room (Nat.le_of_ble_eq_true rfl)) dL_law_2356 ⟨by omega, by omega⟩) hS (fun q _ h => hfr q h) hfr (fun r9 a1 t H1 locs1 ht hvm hw hB hz hk hS => ?_)
  obtain ⟨ha1, hP1, hD1⟩ := hB
  rw [ht] at hP1
  subst hw
  obtain ⟨hP2, hD2⟩ := z_join (ws := lOutD cy o2 outD :: rW cy b T) (wc := lOut cy o1 out :: xW cy a n V) (w1 := (o1, .inl (cy 1, 1, .inr (.inl res.2.2.2))) :: xW cy a1 res.2.1 res.2.2.1) hP hD hk hfr hP1 hD1
  replace hP : va_P D xcl (lW cy a1 res.2.1 res.2.2.1 b T o1 res.2.2.2 o2 outD) H1 := hP2
  replace hD : va_D A (lW cy a1 res.2.1 res.2.2.1 b T o1 res.2.2.2 o2 outD) := hD2
  clear hP2 hD2 hP1 hD1 hk hz hPc hDc hfr hvm ht
  generalize H1 = H at hP hS ⊢
  rw [← ha1] at hl
  refine lv_istore (lv' := [(6, .int res.1), (0, .ref sb), (1, .ref (a1.1 0)), (2, .ref (b 0)), (3, .ref o1), (4, .ref o2), (5, .int i)]) hx hb dL_law_2359 hl (by decide) rfl (fun ls hl => ?_)
  refine lv_aload_n hx hb dL_law_2361 rfl (lv_at hl 3 rfl) ?_
  refine lv_aload_n hx hb dL_law_2362 rfl (lv_at hl 1 rfl) ?_
  refine lv_iload hx hb dL_law_2363 (lv_at hl 6 rfl) ?_
  refine lv_iconst (v := 1) hx hb dL_law_2365 (by decide) ?_
  refine lv_iadd hx hb dL_law_2366 ?_
  refine va_sld hx hb hX hsb hsA hS hi1 dL_law_2367 ?_
  replace hP := zP_perm l_perm1 hP
  replace hD := zD_perm l_perm1 hD
  have hPc := lP_app hP
  have hDc := lD_app hD
  have hfr := z_free hDc hS hA
  refine va_calli (va_runV (As := [.int (xs (i + 1).toNatClampNeg)]) (rest := []) ⟨hx, hb, hml, hown, hts⟩ (c_X4_firstOf l D cy b T H.size (xs (i + 1).toNatClampNeg) hr) (cwV 1 hts gL_law_X4_firstOf rfl rfl rfl hd_X4_firstOf ⟨Nat.le_of_ble_eq_true rfl, Nat.le_of_ble_eq_true rfl⟩) ⟨zJ_blind rI_blind, va_recv hK hPc (ci := 4) (q0 := 0) rfl rfl, zJ_at (rI_at hPc hK hDc)⟩ rfl rfl hl.1 rfl (lv_room (Nat.le_of_ble_eq_true rfl)) dL_law_2368 ⟨by omega, by omega⟩) hS (fun q _ h => hfr q h) hfr (fun r9 u9 t H1 locs1 ht hvm hw hB hz hk hS => ?_)
  obtain ⟨hP1, hD1⟩ := hB
  rw [ht] at hP1
  subst hw
  obtain ⟨hP2, hD2⟩ := z_join (ws := (lOutD cy o2 outD) :: (lOut cy o1 res.2.2.2) :: xW cy a1 res.2.1 res.2.2.1) (wc := rW cy b T) (w1 := rW cy b rr.2) hP hD hk hfr hP1 hD1
  replace hP2 := zP_perm l_perm1.symm hP2
  replace hD2 := zD_perm l_perm1.symm hD2
  replace hP : va_P D xcl (lW cy a1 res.2.1 res.2.2.1 b rr.2 o1 res.2.2.2 o2 outD) H1 := hP2
  replace hD : va_D A (lW cy a1 res.2.1 res.2.2.1 b rr.2 o1 res.2.2.2 o2 outD) := hD2
  clear hP2 hD2 hP1 hD1 hk hz hPc hDc hfr hvm ht
  generalize H1 = H at hP hS ⊢
  refine lv_istore (lv' := [(7, .int rr.1), (6, .int res.1), (0, .ref sb), (1, .ref (a1.1 0)), (2, .ref (b 0)), (3, .ref o1), (4, .ref o2), (5, .int i)]) hx hb dL_law_2371 hl (by decide) rfl (fun ls hl => ?_)
  refine lv_aload_n hx hb dL_law_2373 rfl (lv_at hl 4 rfl) ?_
  have hPc := lP_app (zP_perm l_perm1 hP)
  have hDc := lD_app (zD_perm l_perm1 hD)
  refine zcSi (W.runV (As := []) (rest := []) ⟨hx, hb, hml, hown, hts⟩ (c_X4_thrown l D cy b rr.2 (res := rr.2.1 27) rfl) (cwV 0 hts gL_law_X4_thrown rfl rfl rfl hd_X4_thrown ⟨Nat.le_of_ble_eq_true rfl, Nat.le_of_ble_eq_true rfl⟩) ⟨rI_blind, va_recv hK hPc (ci := 4) (q0 := 0) rfl rfl, rI_at hPc hK hDc⟩ rfl rfl hl.1 rfl (lv_room (Nat.le_of_ble_eq_true rfl)) dL_law_2374 ⟨by omega, by omega⟩) ?_
  refine lv_iload hx hb dL_law_2377 (lv_at hl 1 rfl) ?_
  refine lv_icmp_eq (tgt := 2384) hx hb dL_law_2379 (by decide) (fun c0 => ?_) (fun c0 => absurd ht0 c0)
  refine lv_iload hx hb dL_law_2384 (lv_at hl 1 rfl) ?_
  refine lv_if_ne (tgt := 2401) hx hb dL_law_2386 (by decide) (fun c0 => ?_) (fun c0 => ?_)
  · refine lv_goto (tgt := 2861) hx hb dL_law_2401 (by decide) ?_
    refine W.widen (k := cells_ + 16) (n := slots_ + 130) (by omega) (by omega) ?_
    exact hk ha1 _ _ _ hP hD hS (lv_sub hl [2, 3, 4, 5, 6, 7] rfl)
  · refine lv_aload_n hx hb dL_law_2389 rfl (lv_at hl 5 rfl) ?_
    refine lv_iconst (v := 0) hx hb dL_law_2390 (by decide) ?_
    refine va_lald hx hb hK (zP_perm l_perm4 hP) 0 1 rfl rfl (show vp_in 0 1 from by unfold vp_in; decide) dL_law_2391 ?_
    refine lv_iload hx hb dL_law_2392 (lv_at hl 0 rfl) ?_
    refine lv_i2l (v := Int32.toInt64 rr.1) hx hb dL_law_2394 rfl ?_
    refine W.lcmp hx hb dL_law_2395 ?_
    refine lv_if_eq (tgt := 2401) hx hb dL_law_2396 (by decide) (fun c2 => ?_) (fun c2 => absurd (l_cmp (hv c0)) c2)
    refine lv_goto (tgt := 2861) hx hb dL_law_2401 (by decide) ?_
    refine W.widen (k := cells_ + 16) (n := slots_ + 130) (by omega) (by omega) ?_
    exact hk ha1 _ _ _ hP hD hS (lv_sub hl [2, 3, 4, 5, 6, 7] rfl)
set_option maxHeartbeats 4000000 in
set_option maxRecDepth 100000 in
theorem l_case_34 (hC0 : lC p l s m args meth c D cy A sb L xs) {a : XA} {n : Nat → Nat} {V : XV} {b : Nat → Nat} {T : RV} {o1 o2 : Nat} {out : Nat → Int64} {outD : Nat → UInt64} {i : Int32} {H : Heap} {locs : List Loc} {ls : Array Slot} {cells_ slots_ : Nat} (hc1 : cells_ + 16 ≤ room_1.cells) (hc2 : slots_ + 130 ≤ room_1.slots) (hP : va_P D xcl (lW cy a n V b T o1 out o2 outD) H) (hD : va_D A (lW cy a n V b T o1 out o2 outD)) (hS : va_S A s.heap H locs) (hl : lv_has ls 9 [(0, .ref sb), (1, .ref (a.1 0)), (2, .ref (b 0)), (3, .ref o1), (4, .ref o2), (5, .int i)]) (hi1 : vp_in (i + 1) L) {res : Int32 × (Nat → Nat) × XV × (Nat → Int64)} {rr : Int32 × RV} (hf : f_L_loadsOf n V out (xs (i + 1).toNatClampNeg) = some res) (hr : f_X4_loadsOf T (xs (i + 1).toNatClampNeg) = some rr) (ht0 : rr.2.1 27 = res.1) (hv : res.1 = 0 → res.2.2.2 (0 : Int32).toNatClampNeg = Int32.toInt64 rr.1)
    (hk : ∀ {a1 : XA} (_ : a1.1 = a.1) (H : Heap) (locs : List Loc) (ls : Array Slot), va_P D xcl (lW cy a1 res.2.1 res.2.2.1 b rr.2 o1 res.2.2.2 o2 outD) H → va_D A (lW cy a1 res.2.1 res.2.2.1 b rr.2 o1 res.2.2.2 o2 outD) → va_S A s.heap H locs → lv_has ls 9 [(0, .ref sb), (1, .ref (a1.1 0)), (2, .ref (b 0)), (3, .ref o1), (4, .ref o2), (5, .int i)] → W p l e room_1 s m args below meth c H locs (cells_ + 16) (slots_ + 130) Q (F0 m 2861 ls [])) : W p l e room_1 s m args below meth c H locs cells_ slots_ Q (F0 m 2404 ls []) := by
  obtain ⟨hl0, hx, hb, hml, hown, hts, hK, hA, hC, hZ, hX, hsb, hsA⟩ := hC0
  refine lv_aload_n hx hb dL_law_2404 rfl (lv_at hl 1 rfl) ?_
  refine lv_aload_n hx hb dL_law_2405 rfl (lv_at hl 0 rfl) ?_
  refine lv_iload hx hb dL_law_2406 (lv_at hl 5 rfl) ?_
  refine lv_iconst (v := 1) hx hb dL_law_2408 (by decide) ?_
  refine lv_iadd hx hb dL_law_2409 ?_
  refine va_sld hx hb hX hsb hsA hS hi1 dL_law_2410 ?_
  refine lv_aload_n hx hb dL_law_2411 rfl (lv_at hl 3 rfl) ?_
  have hPc := lP_app hP
  have hDc := lD_app hD
  have hfr := z_free hDc hS hA
  refine va_calli (vx_runSW (As := [.ref (a.1 0), .int (xs (i + 1).toNatClampNeg), .ref o1]) (rest := []) ⟨hx, hb, hml, hown, hts⟩ (c_L_loadsOf l hl0 D cy a n V o1 out H.size (xs (i + 1).toNatClampNeg) hf) (vx_cwSW 3 hts gL_law_L_loadsOf rfl rfl rfl hd_L_loadsOf ⟨Nat.le_of_ble_eq_true rfl, Nat.le_of_ble_eq_true rfl⟩) ⟨lX_blind, lX_at hC hZ hS hfr hPc hK hDc⟩ rfl rfl hl.1 rfl (lv_room (Nat.le_of_ble_eq_true rfl)) dL_law_2412 ⟨by omega, by omega⟩) hS (fun q _ h => hfr q h) hfr (fun r9 a1 t H1 locs1 ht hvm hw hB hz hk hS => ?_)
  obtain ⟨ha1, hP1, hD1⟩ := hB
  rw [ht] at hP1
  subst hw
  obtain ⟨hP2, hD2⟩ := z_join (ws := lOutD cy o2 outD :: rW cy b T) (wc := lOut cy o1 out :: xW cy a n V) (w1 := (o1, .inl (cy 1, 1, .inr (.inl res.2.2.2))) :: xW cy a1 res.2.1 res.2.2.1) hP hD hk hfr hP1 hD1
  replace hP : va_P D xcl (lW cy a1 res.2.1 res.2.2.1 b T o1 res.2.2.2 o2 outD) H1 := hP2
  replace hD : va_D A (lW cy a1 res.2.1 res.2.2.1 b T o1 res.2.2.2 o2 outD) := hD2
  clear hP2 hD2 hP1 hD1 hk hz hPc hDc hfr hvm ht
  generalize H1 = H at hP hS ⊢
  rw [← ha1] at hl
  refine lv_istore (lv' := [(6, .int res.1), (0, .ref sb), (1, .ref (a1.1 0)), (2, .ref (b 0)), (3, .ref o1), (4, .ref o2), (5, .int i)]) hx hb dL_law_2415 hl (by decide) rfl (fun ls hl => ?_)
  refine lv_aload_n hx hb dL_law_2417 rfl (lv_at hl 3 rfl) ?_
  refine lv_aload_n hx hb dL_law_2418 rfl (lv_at hl 1 rfl) ?_
  refine lv_iload hx hb dL_law_2419 (lv_at hl 6 rfl) ?_
  refine lv_iconst (v := 1) hx hb dL_law_2421 (by decide) ?_
  refine lv_iadd hx hb dL_law_2422 ?_
  refine va_sld hx hb hX hsb hsA hS hi1 dL_law_2423 ?_
  replace hP := zP_perm l_perm1 hP
  replace hD := zD_perm l_perm1 hD
  have hPc := lP_app hP
  have hDc := lD_app hD
  have hfr := z_free hDc hS hA
  refine va_calli (va_runV (As := [.int (xs (i + 1).toNatClampNeg)]) (rest := []) ⟨hx, hb, hml, hown, hts⟩ (c_X4_loadsOf l D cy b T H.size (xs (i + 1).toNatClampNeg) hr) (cwV 1 hts gL_law_X4_loadsOf rfl rfl rfl hd_X4_loadsOf ⟨Nat.le_of_ble_eq_true rfl, Nat.le_of_ble_eq_true rfl⟩) ⟨zJ_blind rI_blind, va_recv hK hPc (ci := 4) (q0 := 0) rfl rfl, zJ_at (rI_at hPc hK hDc)⟩ rfl rfl hl.1 rfl (lv_room (Nat.le_of_ble_eq_true rfl)) dL_law_2424 ⟨by omega, by omega⟩) hS (fun q _ h => hfr q h) hfr (fun r9 u9 t H1 locs1 ht hvm hw hB hz hk hS => ?_)
  obtain ⟨hP1, hD1⟩ := hB
  rw [ht] at hP1
  subst hw
  obtain ⟨hP2, hD2⟩ := z_join (ws := (lOutD cy o2 outD) :: (lOut cy o1 res.2.2.2) :: xW cy a1 res.2.1 res.2.2.1) (wc := rW cy b T) (w1 := rW cy b rr.2) hP hD hk hfr hP1 hD1
  replace hP2 := zP_perm l_perm1.symm hP2
  replace hD2 := zD_perm l_perm1.symm hD2
  replace hP : va_P D xcl (lW cy a1 res.2.1 res.2.2.1 b rr.2 o1 res.2.2.2 o2 outD) H1 := hP2
  replace hD : va_D A (lW cy a1 res.2.1 res.2.2.1 b rr.2 o1 res.2.2.2 o2 outD) := hD2
  clear hP2 hD2 hP1 hD1 hk hz hPc hDc hfr hvm ht
  generalize H1 = H at hP hS ⊢
  refine lv_istore (lv' := [(7, .int rr.1), (6, .int res.1), (0, .ref sb), (1, .ref (a1.1 0)), (2, .ref (b 0)), (3, .ref o1), (4, .ref o2), (5, .int i)]) hx hb dL_law_2427 hl (by decide) rfl (fun ls hl => ?_)
  refine lv_aload_n hx hb dL_law_2429 rfl (lv_at hl 4 rfl) ?_
  have hPc := lP_app (zP_perm l_perm1 hP)
  have hDc := lD_app (zD_perm l_perm1 hD)
  refine zcSi (W.runV (As := []) (rest := []) ⟨hx, hb, hml, hown, hts⟩ (c_X4_thrown l D cy b rr.2 (res := rr.2.1 27) rfl) (cwV 0 hts gL_law_X4_thrown rfl rfl rfl hd_X4_thrown ⟨Nat.le_of_ble_eq_true rfl, Nat.le_of_ble_eq_true rfl⟩) ⟨rI_blind, va_recv hK hPc (ci := 4) (q0 := 0) rfl rfl, rI_at hPc hK hDc⟩ rfl rfl hl.1 rfl (lv_room (Nat.le_of_ble_eq_true rfl)) dL_law_2430 ⟨by omega, by omega⟩) ?_
  refine lv_iload hx hb dL_law_2433 (lv_at hl 1 rfl) ?_
  refine lv_icmp_eq (tgt := 2440) hx hb dL_law_2435 (by decide) (fun c0 => ?_) (fun c0 => absurd ht0 c0)
  refine lv_iload hx hb dL_law_2440 (lv_at hl 1 rfl) ?_
  refine lv_if_ne (tgt := 2457) hx hb dL_law_2442 (by decide) (fun c0 => ?_) (fun c0 => ?_)
  · refine lv_goto (tgt := 2861) hx hb dL_law_2457 (by decide) ?_
    refine W.widen (k := cells_ + 16) (n := slots_ + 130) (by omega) (by omega) ?_
    exact hk ha1 _ _ _ hP hD hS (lv_sub hl [2, 3, 4, 5, 6, 7] rfl)
  · refine lv_aload_n hx hb dL_law_2445 rfl (lv_at hl 5 rfl) ?_
    refine lv_iconst (v := 0) hx hb dL_law_2446 (by decide) ?_
    refine va_lald hx hb hK (zP_perm l_perm4 hP) 0 1 rfl rfl (show vp_in 0 1 from by unfold vp_in; decide) dL_law_2447 ?_
    refine lv_iload hx hb dL_law_2448 (lv_at hl 0 rfl) ?_
    refine lv_i2l (v := Int32.toInt64 rr.1) hx hb dL_law_2450 rfl ?_
    refine W.lcmp hx hb dL_law_2451 ?_
    refine lv_if_eq (tgt := 2457) hx hb dL_law_2452 (by decide) (fun c2 => ?_) (fun c2 => absurd (l_cmp (hv c0)) c2)
    refine lv_goto (tgt := 2861) hx hb dL_law_2457 (by decide) ?_
    refine W.widen (k := cells_ + 16) (n := slots_ + 130) (by omega) (by omega) ?_
    exact hk ha1 _ _ _ hP hD hS (lv_sub hl [2, 3, 4, 5, 6, 7] rfl)
set_option maxHeartbeats 4000000 in
set_option maxRecDepth 100000 in
theorem l_case_35 (hC0 : lC p l s m args meth c D cy A sb L xs) {a : XA} {n : Nat → Nat} {V : XV} {b : Nat → Nat} {T : RV} {o1 o2 : Nat} {out : Nat → Int64} {outD : Nat → UInt64} {i : Int32} {H : Heap} {locs : List Loc} {ls : Array Slot} {cells_ slots_ : Nat} (hc1 : cells_ + 16 ≤ room_1.cells) (hc2 : slots_ + 130 ≤ room_1.slots) (hP : va_P D xcl (lW cy a n V b T o1 out o2 outD) H) (hD : va_D A (lW cy a n V b T o1 out o2 outD)) (hS : va_S A s.heap H locs) (hl : lv_has ls 9 [(0, .ref sb), (1, .ref (a.1 0)), (2, .ref (b 0)), (3, .ref o1), (4, .ref o2), (5, .int i)]) (hi1 : vp_in (i + 1) L) {res : Int32 × (Nat → Nat) × XV × (Nat → Int64)} {rr : Int32 × RV} (hf : f_L_longestWait n V out (xs (i + 1).toNatClampNeg) = some res) (hr : f_X4_longestWait T (xs (i + 1).toNatClampNeg) = some rr) (ht0 : rr.2.1 27 = res.1) (hv : res.1 = 0 → res.2.2.2 (0 : Int32).toNatClampNeg = Int32.toInt64 rr.1)
    (hk : ∀ {a1 : XA} (_ : a1.1 = a.1) (H : Heap) (locs : List Loc) (ls : Array Slot), va_P D xcl (lW cy a1 res.2.1 res.2.2.1 b rr.2 o1 res.2.2.2 o2 outD) H → va_D A (lW cy a1 res.2.1 res.2.2.1 b rr.2 o1 res.2.2.2 o2 outD) → va_S A s.heap H locs → lv_has ls 9 [(0, .ref sb), (1, .ref (a1.1 0)), (2, .ref (b 0)), (3, .ref o1), (4, .ref o2), (5, .int i)] → W p l e room_1 s m args below meth c H locs (cells_ + 16) (slots_ + 130) Q (F0 m 2861 ls [])) : W p l e room_1 s m args below meth c H locs cells_ slots_ Q (F0 m 2460 ls []) := by
  obtain ⟨hl0, hx, hb, hml, hown, hts, hK, hA, hC, hZ, hX, hsb, hsA⟩ := hC0
  refine lv_aload_n hx hb dL_law_2460 rfl (lv_at hl 1 rfl) ?_
  refine lv_aload_n hx hb dL_law_2461 rfl (lv_at hl 0 rfl) ?_
  refine lv_iload hx hb dL_law_2462 (lv_at hl 5 rfl) ?_
  refine lv_iconst (v := 1) hx hb dL_law_2464 (by decide) ?_
  refine lv_iadd hx hb dL_law_2465 ?_
  refine va_sld hx hb hX hsb hsA hS hi1 dL_law_2466 ?_
  refine lv_aload_n hx hb dL_law_2467 rfl (lv_at hl 3 rfl) ?_
  have hPc := lP_app hP
  have hDc := lD_app hD
  have hfr := z_free hDc hS hA
  refine va_calli (vx_runSW (As := [.ref (a.1 0), .int (xs (i + 1).toNatClampNeg), .ref o1]) (rest := []) ⟨hx, hb, hml, hown, hts⟩ (c_L_longestWait l hl0 D cy a n V o1 out H.size (xs (i + 1).toNatClampNeg) hf) (vx_cwSW 3 hts gL_law_L_longestWait rfl rfl rfl hd_L_longestWait ⟨Nat.le_of_ble_eq_true rfl, Nat.le_of_ble_eq_true rfl⟩) ⟨lX_blind, lX_at hC hZ hS hfr hPc hK hDc⟩ rfl rfl hl.1 rfl (lv_room (Nat.le_of_ble_eq_true rfl)) dL_law_2468 ⟨by omega, by omega⟩) hS (fun q _ h => hfr q h) hfr (fun r9 a1 t H1 locs1 ht hvm hw hB hz hk hS => ?_)
  obtain ⟨ha1, hP1, hD1⟩ := hB
  rw [ht] at hP1
  subst hw
  obtain ⟨hP2, hD2⟩ := z_join (ws := lOutD cy o2 outD :: rW cy b T) (wc := lOut cy o1 out :: xW cy a n V) (w1 := (o1, .inl (cy 1, 1, .inr (.inl res.2.2.2))) :: xW cy a1 res.2.1 res.2.2.1) hP hD hk hfr hP1 hD1
  replace hP : va_P D xcl (lW cy a1 res.2.1 res.2.2.1 b T o1 res.2.2.2 o2 outD) H1 := hP2
  replace hD : va_D A (lW cy a1 res.2.1 res.2.2.1 b T o1 res.2.2.2 o2 outD) := hD2
  clear hP2 hD2 hP1 hD1 hk hz hPc hDc hfr hvm ht
  generalize H1 = H at hP hS ⊢
  rw [← ha1] at hl
  refine lv_istore (lv' := [(6, .int res.1), (0, .ref sb), (1, .ref (a1.1 0)), (2, .ref (b 0)), (3, .ref o1), (4, .ref o2), (5, .int i)]) hx hb dL_law_2471 hl (by decide) rfl (fun ls hl => ?_)
  refine lv_aload_n hx hb dL_law_2473 rfl (lv_at hl 3 rfl) ?_
  refine lv_aload_n hx hb dL_law_2474 rfl (lv_at hl 1 rfl) ?_
  refine lv_iload hx hb dL_law_2475 (lv_at hl 6 rfl) ?_
  refine lv_iconst (v := 1) hx hb dL_law_2477 (by decide) ?_
  refine lv_iadd hx hb dL_law_2478 ?_
  refine va_sld hx hb hX hsb hsA hS hi1 dL_law_2479 ?_
  replace hP := zP_perm l_perm1 hP
  replace hD := zD_perm l_perm1 hD
  have hPc := lP_app hP
  have hDc := lD_app hD
  have hfr := z_free hDc hS hA
  refine va_calli (va_runV (As := [.int (xs (i + 1).toNatClampNeg)]) (rest := []) ⟨hx, hb, hml, hown, hts⟩ (c_X4_longestWait l D cy b T H.size (xs (i + 1).toNatClampNeg) hr) (cwV 1 hts gL_law_X4_longestWait rfl rfl rfl hd_X4_longestWait ⟨Nat.le_of_ble_eq_true rfl, Nat.le_of_ble_eq_true rfl⟩) ⟨zJ_blind rI_blind, va_recv hK hPc (ci := 4) (q0 := 0) rfl rfl, zJ_at (rI_at hPc hK hDc)⟩ rfl rfl hl.1 rfl (lv_room (Nat.le_of_ble_eq_true rfl)) dL_law_2480 ⟨by omega, by omega⟩) hS (fun q _ h => hfr q h) hfr (fun r9 u9 t H1 locs1 ht hvm hw hB hz hk hS => ?_)
  obtain ⟨hP1, hD1⟩ := hB
  rw [ht] at hP1
  subst hw
  obtain ⟨hP2, hD2⟩ := z_join (ws := (lOutD cy o2 outD) :: (lOut cy o1 res.2.2.2) :: xW cy a1 res.2.1 res.2.2.1) (wc := rW cy b T) (w1 := rW cy b rr.2) hP hD hk hfr hP1 hD1
  replace hP2 := zP_perm l_perm1.symm hP2
  replace hD2 := zD_perm l_perm1.symm hD2
  replace hP : va_P D xcl (lW cy a1 res.2.1 res.2.2.1 b rr.2 o1 res.2.2.2 o2 outD) H1 := hP2
  replace hD : va_D A (lW cy a1 res.2.1 res.2.2.1 b rr.2 o1 res.2.2.2 o2 outD) := hD2
  clear hP2 hD2 hP1 hD1 hk hz hPc hDc hfr hvm ht
  generalize H1 = H at hP hS ⊢
  refine lv_istore (lv' := [(7, .int rr.1), (6, .int res.1), (0, .ref sb), (1, .ref (a1.1 0)), (2, .ref (b 0)), (3, .ref o1), (4, .ref o2), (5, .int i)]) hx hb dL_law_2483 hl (by decide) rfl (fun ls hl => ?_)
  refine lv_aload_n hx hb dL_law_2485 rfl (lv_at hl 4 rfl) ?_
  have hPc := lP_app (zP_perm l_perm1 hP)
  have hDc := lD_app (zD_perm l_perm1 hD)
  refine zcSi (W.runV (As := []) (rest := []) ⟨hx, hb, hml, hown, hts⟩ (c_X4_thrown l D cy b rr.2 (res := rr.2.1 27) rfl) (cwV 0 hts gL_law_X4_thrown rfl rfl rfl hd_X4_thrown ⟨Nat.le_of_ble_eq_true rfl, Nat.le_of_ble_eq_true rfl⟩) ⟨rI_blind, va_recv hK hPc (ci := 4) (q0 := 0) rfl rfl, rI_at hPc hK hDc⟩ rfl rfl hl.1 rfl (lv_room (Nat.le_of_ble_eq_true rfl)) dL_law_2486 ⟨by omega, by omega⟩) ?_
  refine lv_iload hx hb dL_law_2489 (lv_at hl 1 rfl) ?_
  refine lv_icmp_eq (tgt := 2496) hx hb dL_law_2491 (by decide) (fun c0 => ?_) (fun c0 => absurd ht0 c0)
  refine lv_iload hx hb dL_law_2496 (lv_at hl 1 rfl) ?_
  refine lv_if_ne (tgt := 2513) hx hb dL_law_2498 (by decide) (fun c0 => ?_) (fun c0 => ?_)
  · refine lv_goto (tgt := 2861) hx hb dL_law_2513 (by decide) ?_
    refine W.widen (k := cells_ + 16) (n := slots_ + 130) (by omega) (by omega) ?_
    exact hk ha1 _ _ _ hP hD hS (lv_sub hl [2, 3, 4, 5, 6, 7] rfl)
  · refine lv_aload_n hx hb dL_law_2501 rfl (lv_at hl 5 rfl) ?_
    refine lv_iconst (v := 0) hx hb dL_law_2502 (by decide) ?_
    refine va_lald hx hb hK (zP_perm l_perm4 hP) 0 1 rfl rfl (show vp_in 0 1 from by unfold vp_in; decide) dL_law_2503 ?_
    refine lv_iload hx hb dL_law_2504 (lv_at hl 0 rfl) ?_
    refine lv_i2l (v := Int32.toInt64 rr.1) hx hb dL_law_2506 rfl ?_
    refine W.lcmp hx hb dL_law_2507 ?_
    refine lv_if_eq (tgt := 2513) hx hb dL_law_2508 (by decide) (fun c2 => ?_) (fun c2 => absurd (l_cmp (hv c0)) c2)
    refine lv_goto (tgt := 2861) hx hb dL_law_2513 (by decide) ?_
    refine W.widen (k := cells_ + 16) (n := slots_ + 130) (by omega) (by omega) ?_
    exact hk ha1 _ _ _ hP hD hS (lv_sub hl [2, 3, 4, 5, 6, 7] rfl)
set_option maxHeartbeats 4000000 in
set_option maxRecDepth 100000 in
theorem l_case_36 (hC0 : lC p l s m args meth c D cy A sb L xs) {a : XA} {n : Nat → Nat} {V : XV} {b : Nat → Nat} {T : RV} {o1 o2 : Nat} {out : Nat → Int64} {outD : Nat → UInt64} {i : Int32} {H : Heap} {locs : List Loc} {ls : Array Slot} {cells_ slots_ : Nat} (hc1 : cells_ + 16 ≤ room_1.cells) (hc2 : slots_ + 130 ≤ room_1.slots) (hP : va_P D xcl (lW cy a n V b T o1 out o2 outD) H) (hD : va_D A (lW cy a n V b T o1 out o2 outD)) (hS : va_S A s.heap H locs) (hl : lv_has ls 9 [(0, .ref sb), (1, .ref (a.1 0)), (2, .ref (b 0)), (3, .ref o1), (4, .ref o2), (5, .int i)]) (hi1 : vp_in (i + 1) L) {res : Int32 × (Nat → Nat) × XV × (Nat → Int64)} {rr : Int32 × RV} (hf : f_L_isBroken n V out (xs (i + 1).toNatClampNeg) = some res) (hr : f_X4_isBroken T (xs (i + 1).toNatClampNeg) = some rr) (ht0 : rr.2.1 27 = res.1) (hv : res.1 = 0 → res.2.2.2 (0 : Int32).toNatClampNeg = if rr.1 = 0 then 0 else 1)
    (hk : ∀ {a1 : XA} (_ : a1.1 = a.1) (H : Heap) (locs : List Loc) (ls : Array Slot), va_P D xcl (lW cy a1 res.2.1 res.2.2.1 b rr.2 o1 res.2.2.2 o2 outD) H → va_D A (lW cy a1 res.2.1 res.2.2.1 b rr.2 o1 res.2.2.2 o2 outD) → va_S A s.heap H locs → lv_has ls 9 [(0, .ref sb), (1, .ref (a1.1 0)), (2, .ref (b 0)), (3, .ref o1), (4, .ref o2), (5, .int i)] → W p l e room_1 s m args below meth c H locs (cells_ + 16) (slots_ + 130) Q (F0 m 2861 ls [])) : W p l e room_1 s m args below meth c H locs cells_ slots_ Q (F0 m 2516 ls []) := by
  obtain ⟨hl0, hx, hb, hml, hown, hts, hK, hA, hC, hZ, hX, hsb, hsA⟩ := hC0
  refine lv_aload_n hx hb dL_law_2516 rfl (lv_at hl 1 rfl) ?_
  refine lv_aload_n hx hb dL_law_2517 rfl (lv_at hl 0 rfl) ?_
  refine lv_iload hx hb dL_law_2518 (lv_at hl 5 rfl) ?_
  refine lv_iconst (v := 1) hx hb dL_law_2520 (by decide) ?_
  refine lv_iadd hx hb dL_law_2521 ?_
  refine va_sld hx hb hX hsb hsA hS hi1 dL_law_2522 ?_
  refine lv_aload_n hx hb dL_law_2523 rfl (lv_at hl 3 rfl) ?_
  have hPc := lP_app hP
  have hDc := lD_app hD
  have hfr := z_free hDc hS hA
  refine va_calli (vx_runSW (As := [.ref (a.1 0), .int (xs (i + 1).toNatClampNeg), .ref o1]) (rest := []) ⟨hx, hb, hml, hown, hts⟩ (c_L_isBroken l hl0 D cy a n V o1 out H.size (xs (i + 1).toNatClampNeg) hf) (vx_cwSW 3 hts gL_law_L_isBroken rfl rfl rfl hd_L_isBroken ⟨Nat.le_of_ble_eq_true rfl, Nat.le_of_ble_eq_true rfl⟩) ⟨lX_blind, lX_at hC hZ hS hfr hPc hK hDc⟩ rfl rfl hl.1 rfl (lv_room (Nat.le_of_ble_eq_true rfl)) dL_law_2524 ⟨by omega, by omega⟩) hS (fun q _ h => hfr q h) hfr (fun r9 a1 t H1 locs1 ht hvm hw hB hz hk hS => ?_)
  obtain ⟨ha1, hP1, hD1⟩ := hB
  rw [ht] at hP1
  subst hw
  obtain ⟨hP2, hD2⟩ := z_join (ws := lOutD cy o2 outD :: rW cy b T) (wc := lOut cy o1 out :: xW cy a n V) (w1 := (o1, .inl (cy 1, 1, .inr (.inl res.2.2.2))) :: xW cy a1 res.2.1 res.2.2.1) hP hD hk hfr hP1 hD1
  replace hP : va_P D xcl (lW cy a1 res.2.1 res.2.2.1 b T o1 res.2.2.2 o2 outD) H1 := hP2
  replace hD : va_D A (lW cy a1 res.2.1 res.2.2.1 b T o1 res.2.2.2 o2 outD) := hD2
  clear hP2 hD2 hP1 hD1 hk hz hPc hDc hfr hvm ht
  generalize H1 = H at hP hS ⊢
  rw [← ha1] at hl
  refine lv_istore (lv' := [(6, .int res.1), (0, .ref sb), (1, .ref (a1.1 0)), (2, .ref (b 0)), (3, .ref o1), (4, .ref o2), (5, .int i)]) hx hb dL_law_2527 hl (by decide) rfl (fun ls hl => ?_)
  refine lv_aload_n hx hb dL_law_2529 rfl (lv_at hl 3 rfl) ?_
  refine lv_aload_n hx hb dL_law_2530 rfl (lv_at hl 1 rfl) ?_
  refine lv_iload hx hb dL_law_2531 (lv_at hl 6 rfl) ?_
  refine lv_iconst (v := 1) hx hb dL_law_2533 (by decide) ?_
  refine lv_iadd hx hb dL_law_2534 ?_
  refine va_sld hx hb hX hsb hsA hS hi1 dL_law_2535 ?_
  replace hP := zP_perm l_perm1 hP
  replace hD := zD_perm l_perm1 hD
  have hPc := lP_app hP
  have hDc := lD_app hD
  have hfr := z_free hDc hS hA
  refine va_calli (va_runV (As := [.int (xs (i + 1).toNatClampNeg)]) (rest := []) ⟨hx, hb, hml, hown, hts⟩ (c_X4_isBroken l D cy b T H.size (xs (i + 1).toNatClampNeg) hr) (cwV 1 hts gL_law_X4_isBroken rfl rfl rfl hd_X4_isBroken ⟨Nat.le_of_ble_eq_true rfl, Nat.le_of_ble_eq_true rfl⟩) ⟨zJ_blind rI_blind, va_recv hK hPc (ci := 4) (q0 := 0) rfl rfl, zJ_at (rI_at hPc hK hDc)⟩ rfl rfl hl.1 rfl (lv_room (Nat.le_of_ble_eq_true rfl)) dL_law_2536 ⟨by omega, by omega⟩) hS (fun q _ h => hfr q h) hfr (fun r9 u9 t H1 locs1 ht hvm hw hB hz hk hS => ?_)
  obtain ⟨hP1, hD1⟩ := hB
  rw [ht] at hP1
  subst hw
  obtain ⟨hP2, hD2⟩ := z_join (ws := (lOutD cy o2 outD) :: (lOut cy o1 res.2.2.2) :: xW cy a1 res.2.1 res.2.2.1) (wc := rW cy b T) (w1 := rW cy b rr.2) hP hD hk hfr hP1 hD1
  replace hP2 := zP_perm l_perm1.symm hP2
  replace hD2 := zD_perm l_perm1.symm hD2
  replace hP : va_P D xcl (lW cy a1 res.2.1 res.2.2.1 b rr.2 o1 res.2.2.2 o2 outD) H1 := hP2
  replace hD : va_D A (lW cy a1 res.2.1 res.2.2.1 b rr.2 o1 res.2.2.2 o2 outD) := hD2
  clear hP2 hD2 hP1 hD1 hk hz hPc hDc hfr hvm ht
  generalize H1 = H at hP hS ⊢
  refine lv_istore (lv' := [(7, .int rr.1), (6, .int res.1), (0, .ref sb), (1, .ref (a1.1 0)), (2, .ref (b 0)), (3, .ref o1), (4, .ref o2), (5, .int i)]) hx hb dL_law_2539 hl (by decide) rfl (fun ls hl => ?_)
  refine lv_aload_n hx hb dL_law_2541 rfl (lv_at hl 4 rfl) ?_
  have hPc := lP_app (zP_perm l_perm1 hP)
  have hDc := lD_app (zD_perm l_perm1 hD)
  refine zcSi (W.runV (As := []) (rest := []) ⟨hx, hb, hml, hown, hts⟩ (c_X4_thrown l D cy b rr.2 (res := rr.2.1 27) rfl) (cwV 0 hts gL_law_X4_thrown rfl rfl rfl hd_X4_thrown ⟨Nat.le_of_ble_eq_true rfl, Nat.le_of_ble_eq_true rfl⟩) ⟨rI_blind, va_recv hK hPc (ci := 4) (q0 := 0) rfl rfl, rI_at hPc hK hDc⟩ rfl rfl hl.1 rfl (lv_room (Nat.le_of_ble_eq_true rfl)) dL_law_2542 ⟨by omega, by omega⟩) ?_
  refine lv_iload hx hb dL_law_2545 (lv_at hl 1 rfl) ?_
  refine lv_icmp_eq (tgt := 2552) hx hb dL_law_2547 (by decide) (fun c0 => ?_) (fun c0 => absurd ht0 c0)
  refine lv_iload hx hb dL_law_2552 (lv_at hl 1 rfl) ?_
  refine lv_if_ne (tgt := 2576) hx hb dL_law_2554 (by decide) (fun c0 => ?_) (fun c0 => ?_)
  · refine lv_goto (tgt := 2861) hx hb dL_law_2576 (by decide) ?_
    refine W.widen (k := cells_ + 16) (n := slots_ + 130) (by omega) (by omega) ?_
    exact hk ha1 _ _ _ hP hD hS (lv_sub hl [2, 3, 4, 5, 6, 7] rfl)
  · refine lv_aload_n hx hb dL_law_2557 rfl (lv_at hl 5 rfl) ?_
    refine lv_iconst (v := 0) hx hb dL_law_2558 (by decide) ?_
    refine va_lald hx hb hK (zP_perm l_perm4 hP) 0 1 rfl rfl (show vp_in 0 1 from by unfold vp_in; decide) dL_law_2559 ?_
    refine lv_iload hx hb dL_law_2560 (lv_at hl 0 rfl) ?_
    refine lv_if_eq (tgt := 2569) hx hb dL_law_2562 (by decide) (fun c1 => ?_) (fun c1 => ?_)
    · refine lv_lconst (v := 0) hx hb dL_law_2569 (by decide) ?_
      refine W.lcmp hx hb dL_law_2570 ?_
      refine lv_if_eq (tgt := 2576) hx hb dL_law_2571 (by decide) (fun c2 => ?_) (fun c2 => absurd (l_cmp ((hv c0).trans (if_pos c1))) c2)
      refine lv_goto (tgt := 2861) hx hb dL_law_2576 (by decide) ?_
      refine W.widen (k := cells_ + 16) (n := slots_ + 130) (by omega) (by omega) ?_
      exact hk ha1 _ _ _ hP hD hS (lv_sub hl [2, 3, 4, 5, 6, 7] rfl)
    · refine lv_lconst (v := 1) hx hb dL_law_2565 (by decide) ?_
      refine lv_goto (tgt := 2570) hx hb dL_law_2566 (by decide) ?_
      refine W.lcmp hx hb dL_law_2570 ?_
      refine lv_if_eq (tgt := 2576) hx hb dL_law_2571 (by decide) (fun c2 => ?_) (fun c2 => absurd (l_cmp ((hv c0).trans (if_neg c1))) c2)
      refine lv_goto (tgt := 2861) hx hb dL_law_2576 (by decide) ?_
      refine W.widen (k := cells_ + 16) (n := slots_ + 130) (by omega) (by omega) ?_
      exact hk ha1 _ _ _ hP hD hS (lv_sub hl [2, 3, 4, 5, 6, 7] rfl)
set_option maxHeartbeats 4000000 in
set_option maxRecDepth 100000 in
theorem l_case_37 (hC0 : lC p l s m args meth c D cy A sb L xs) {a : XA} {n : Nat → Nat} {V : XV} {b : Nat → Nat} {T : RV} {o1 o2 : Nat} {out : Nat → Int64} {outD : Nat → UInt64} {i : Int32} {H : Heap} {locs : List Loc} {ls : Array Slot} {cells_ slots_ : Nat} (hc1 : cells_ + 16 ≤ room_1.cells) (hc2 : slots_ + 130 ≤ room_1.slots) (hP : va_P D xcl (lW cy a n V b T o1 out o2 outD) H) (hD : va_D A (lW cy a n V b T o1 out o2 outD)) (hS : va_S A s.heap H locs) (hl : lv_has ls 9 [(0, .ref sb), (1, .ref (a.1 0)), (2, .ref (b 0)), (3, .ref o1), (4, .ref o2), (5, .int i)])  {xr : Int32} {rr : Int32 × RV} (hf : f_X3_waiting n V = some xr) (hr : f_X4_waiting T  = some rr) (hv : xr = rr.1)
    (hk : ∀ {a1 : XA} (_ : a1.1 = a.1) (H : Heap) (locs : List Loc) (ls : Array Slot), va_P D xcl (lW cy a1 n V b rr.2 o1 out o2 outD) H → va_D A (lW cy a1 n V b rr.2 o1 out o2 outD) → va_S A s.heap H locs → lv_has ls 9 [(0, .ref sb), (1, .ref (a1.1 0)), (2, .ref (b 0)), (3, .ref o1), (4, .ref o2), (5, .int i)] → W p l e room_1 s m args below meth c H locs (cells_ + 16) (slots_ + 130) Q (F0 m 2861 ls [])) : W p l e room_1 s m args below meth c H locs cells_ slots_ Q (F0 m 2579 ls []) := by
  obtain ⟨hl0, hx, hb, hml, hown, hts, hK, hA, hC, hZ, hX, hsb, hsA⟩ := hC0
  refine lv_aload_n hx hb dL_law_2579 rfl (lv_at hl 1 rfl) ?_
  have hPc := lP_app (zP_perm l_perm3 hP)
  have hDc := lD_app (zD_perm l_perm3 hD)
  refine zcSi (W.runV (As := []) (rest := []) ⟨hx, hb, hml, hown, hts⟩ (c_X3_waiting l D cy a n V hf) (cwV 0 hts gL_law_X3_waiting rfl rfl rfl hd_X3_waiting ⟨Nat.le_of_ble_eq_true rfl, Nat.le_of_ble_eq_true rfl⟩) ⟨xI_blind, va_recv hK hPc (ci := 3) (q0 := 0) rfl rfl, xI_at hPc hK hDc⟩ rfl rfl hl.1 rfl (lv_room (Nat.le_of_ble_eq_true rfl)) dL_law_2580 ⟨by omega, by omega⟩) ?_
  refine lv_aload_n hx hb dL_law_2583 rfl (lv_at hl 2 rfl) ?_
  replace hP := zP_perm l_perm1 hP
  replace hD := zD_perm l_perm1 hD
  have hPc := lP_app hP
  have hDc := lD_app hD
  have hfr := z_free hDc hS hA
  refine va_calli (va_runV (As := []) (rest := [.int xr]) ⟨hx, hb, hml, hown, hts⟩ (c_X4_waiting l D cy b T H.size  hr) (cwV 0 hts gL_law_X4_waiting rfl rfl rfl hd_X4_waiting ⟨Nat.le_of_ble_eq_true rfl, Nat.le_of_ble_eq_true rfl⟩) ⟨zJ_blind rI_blind, va_recv hK hPc (ci := 4) (q0 := 0) rfl rfl, zJ_at (rI_at hPc hK hDc)⟩ rfl rfl hl.1 rfl (lv_room (Nat.le_of_ble_eq_true rfl)) dL_law_2584 ⟨by omega, by omega⟩) hS (fun q _ h => hfr q h) hfr (fun r9 u9 t H1 locs1 ht hvm hw hB hz hk hS => ?_)
  obtain ⟨hP1, hD1⟩ := hB
  rw [ht] at hP1
  subst hw
  obtain ⟨hP2, hD2⟩ := z_join (ws := (lOutD cy o2 outD) :: (lOut cy o1 out) :: xW cy a n V) (wc := rW cy b T) (w1 := rW cy b rr.2) hP hD hk hfr hP1 hD1
  replace hP2 := zP_perm l_perm1.symm hP2
  replace hD2 := zD_perm l_perm1.symm hD2
  replace hP : va_P D xcl (lW cy a n V b rr.2 o1 out o2 outD) H1 := hP2
  replace hD : va_D A (lW cy a n V b rr.2 o1 out o2 outD) := hD2
  clear hP2 hD2 hP1 hD1 hk hz hPc hDc hfr hvm ht
  generalize H1 = H at hP hS ⊢
  refine lv_icmp_eq (tgt := 2861) hx hb dL_law_2587 (by decide) (fun c0 => ?_) (fun c0 => absurd hv c0)
  refine W.widen (k := cells_ + 16) (n := slots_ + 130) (by omega) (by omega) ?_
  exact hk rfl _ _ _ hP hD hS (lv_sub hl [0, 1, 2, 3, 4, 5] rfl)
set_option maxHeartbeats 4000000 in
set_option maxRecDepth 100000 in
theorem l_case_38 (hC0 : lC p l s m args meth c D cy A sb L xs) {a : XA} {n : Nat → Nat} {V : XV} {b : Nat → Nat} {T : RV} {o1 o2 : Nat} {out : Nat → Int64} {outD : Nat → UInt64} {i : Int32} {H : Heap} {locs : List Loc} {ls : Array Slot} {cells_ slots_ : Nat} (hc1 : cells_ + 16 ≤ room_1.cells) (hc2 : slots_ + 130 ≤ room_1.slots) (hP : va_P D xcl (lW cy a n V b T o1 out o2 outD) H) (hD : va_D A (lW cy a n V b T o1 out o2 outD)) (hS : va_S A s.heap H locs) (hl : lv_has ls 9 [(0, .ref sb), (1, .ref (a.1 0)), (2, .ref (b 0)), (3, .ref o1), (4, .ref o2), (5, .int i)]) (hi1 : vp_in (i + 1) L) {res : Int32 × (Nat → Nat) × XV × (Nat → Int64)} {rr : Int32 × RV} (hf : f_L_minutesOf n V out (xs (i + 1).toNatClampNeg) = some res) (hr : f_X4_minutesOf T (xs (i + 1).toNatClampNeg) = some rr) (ht0 : rr.2.1 27 = res.1) (hv : res.1 = 0 → res.2.2.2 (0 : Int32).toNatClampNeg = Int32.toInt64 rr.1)
    (hk : ∀ {a1 : XA} (_ : a1.1 = a.1) (H : Heap) (locs : List Loc) (ls : Array Slot), va_P D xcl (lW cy a1 res.2.1 res.2.2.1 b rr.2 o1 res.2.2.2 o2 outD) H → va_D A (lW cy a1 res.2.1 res.2.2.1 b rr.2 o1 res.2.2.2 o2 outD) → va_S A s.heap H locs → lv_has ls 9 [(0, .ref sb), (1, .ref (a1.1 0)), (2, .ref (b 0)), (3, .ref o1), (4, .ref o2), (5, .int i)] → W p l e room_1 s m args below meth c H locs (cells_ + 16) (slots_ + 130) Q (F0 m 2861 ls [])) : W p l e room_1 s m args below meth c H locs cells_ slots_ Q (F0 m 2592 ls []) := by
  obtain ⟨hl0, hx, hb, hml, hown, hts, hK, hA, hC, hZ, hX, hsb, hsA⟩ := hC0
  refine lv_aload_n hx hb dL_law_2592 rfl (lv_at hl 1 rfl) ?_
  refine lv_aload_n hx hb dL_law_2593 rfl (lv_at hl 0 rfl) ?_
  refine lv_iload hx hb dL_law_2594 (lv_at hl 5 rfl) ?_
  refine lv_iconst (v := 1) hx hb dL_law_2596 (by decide) ?_
  refine lv_iadd hx hb dL_law_2597 ?_
  refine va_sld hx hb hX hsb hsA hS hi1 dL_law_2598 ?_
  refine lv_aload_n hx hb dL_law_2599 rfl (lv_at hl 3 rfl) ?_
  have hPc := lP_app hP
  have hDc := lD_app hD
  have hfr := z_free hDc hS hA
  refine va_calli (vx_runSW (As := [.ref (a.1 0), .int (xs (i + 1).toNatClampNeg), .ref o1]) (rest := []) ⟨hx, hb, hml, hown, hts⟩ (c_L_minutesOf l hl0 D cy a n V o1 out H.size (xs (i + 1).toNatClampNeg) hf) (vx_cwSW 3 hts gL_law_L_minutesOf rfl rfl rfl hd_L_minutesOf ⟨Nat.le_of_ble_eq_true rfl, Nat.le_of_ble_eq_true rfl⟩) ⟨lX_blind, lX_at hC hZ hS hfr hPc hK hDc⟩ rfl rfl hl.1 rfl (lv_room (Nat.le_of_ble_eq_true rfl)) dL_law_2600 ⟨by omega, by omega⟩) hS (fun q _ h => hfr q h) hfr (fun r9 a1 t H1 locs1 ht hvm hw hB hz hk hS => ?_)
  obtain ⟨ha1, hP1, hD1⟩ := hB
  rw [ht] at hP1
  subst hw
  obtain ⟨hP2, hD2⟩ := z_join (ws := lOutD cy o2 outD :: rW cy b T) (wc := lOut cy o1 out :: xW cy a n V) (w1 := (o1, .inl (cy 1, 1, .inr (.inl res.2.2.2))) :: xW cy a1 res.2.1 res.2.2.1) hP hD hk hfr hP1 hD1
  replace hP : va_P D xcl (lW cy a1 res.2.1 res.2.2.1 b T o1 res.2.2.2 o2 outD) H1 := hP2
  replace hD : va_D A (lW cy a1 res.2.1 res.2.2.1 b T o1 res.2.2.2 o2 outD) := hD2
  clear hP2 hD2 hP1 hD1 hk hz hPc hDc hfr hvm ht
  generalize H1 = H at hP hS ⊢
  rw [← ha1] at hl
  refine lv_istore (lv' := [(6, .int res.1), (0, .ref sb), (1, .ref (a1.1 0)), (2, .ref (b 0)), (3, .ref o1), (4, .ref o2), (5, .int i)]) hx hb dL_law_2603 hl (by decide) rfl (fun ls hl => ?_)
  refine lv_aload_n hx hb dL_law_2605 rfl (lv_at hl 3 rfl) ?_
  refine lv_aload_n hx hb dL_law_2606 rfl (lv_at hl 1 rfl) ?_
  refine lv_iload hx hb dL_law_2607 (lv_at hl 6 rfl) ?_
  refine lv_iconst (v := 1) hx hb dL_law_2609 (by decide) ?_
  refine lv_iadd hx hb dL_law_2610 ?_
  refine va_sld hx hb hX hsb hsA hS hi1 dL_law_2611 ?_
  replace hP := zP_perm l_perm1 hP
  replace hD := zD_perm l_perm1 hD
  have hPc := lP_app hP
  have hDc := lD_app hD
  have hfr := z_free hDc hS hA
  refine va_calli (va_runV (As := [.int (xs (i + 1).toNatClampNeg)]) (rest := []) ⟨hx, hb, hml, hown, hts⟩ (c_X4_minutesOf l D cy b T H.size (xs (i + 1).toNatClampNeg) hr) (cwV 1 hts gL_law_X4_minutesOf rfl rfl rfl hd_X4_minutesOf ⟨Nat.le_of_ble_eq_true rfl, Nat.le_of_ble_eq_true rfl⟩) ⟨zJ_blind rI_blind, va_recv hK hPc (ci := 4) (q0 := 0) rfl rfl, zJ_at (rI_at hPc hK hDc)⟩ rfl rfl hl.1 rfl (lv_room (Nat.le_of_ble_eq_true rfl)) dL_law_2612 ⟨by omega, by omega⟩) hS (fun q _ h => hfr q h) hfr (fun r9 u9 t H1 locs1 ht hvm hw hB hz hk hS => ?_)
  obtain ⟨hP1, hD1⟩ := hB
  rw [ht] at hP1
  subst hw
  obtain ⟨hP2, hD2⟩ := z_join (ws := (lOutD cy o2 outD) :: (lOut cy o1 res.2.2.2) :: xW cy a1 res.2.1 res.2.2.1) (wc := rW cy b T) (w1 := rW cy b rr.2) hP hD hk hfr hP1 hD1
  replace hP2 := zP_perm l_perm1.symm hP2
  replace hD2 := zD_perm l_perm1.symm hD2
  replace hP : va_P D xcl (lW cy a1 res.2.1 res.2.2.1 b rr.2 o1 res.2.2.2 o2 outD) H1 := hP2
  replace hD : va_D A (lW cy a1 res.2.1 res.2.2.1 b rr.2 o1 res.2.2.2 o2 outD) := hD2
  clear hP2 hD2 hP1 hD1 hk hz hPc hDc hfr hvm ht
  generalize H1 = H at hP hS ⊢
  refine lv_istore (lv' := [(7, .int rr.1), (6, .int res.1), (0, .ref sb), (1, .ref (a1.1 0)), (2, .ref (b 0)), (3, .ref o1), (4, .ref o2), (5, .int i)]) hx hb dL_law_2615 hl (by decide) rfl (fun ls hl => ?_)
  refine lv_aload_n hx hb dL_law_2617 rfl (lv_at hl 4 rfl) ?_
  have hPc := lP_app (zP_perm l_perm1 hP)
  have hDc := lD_app (zD_perm l_perm1 hD)
  refine zcSi (W.runV (As := []) (rest := []) ⟨hx, hb, hml, hown, hts⟩ (c_X4_thrown l D cy b rr.2 (res := rr.2.1 27) rfl) (cwV 0 hts gL_law_X4_thrown rfl rfl rfl hd_X4_thrown ⟨Nat.le_of_ble_eq_true rfl, Nat.le_of_ble_eq_true rfl⟩) ⟨rI_blind, va_recv hK hPc (ci := 4) (q0 := 0) rfl rfl, rI_at hPc hK hDc⟩ rfl rfl hl.1 rfl (lv_room (Nat.le_of_ble_eq_true rfl)) dL_law_2618 ⟨by omega, by omega⟩) ?_
  refine lv_iload hx hb dL_law_2621 (lv_at hl 1 rfl) ?_
  refine lv_icmp_eq (tgt := 2628) hx hb dL_law_2623 (by decide) (fun c0 => ?_) (fun c0 => absurd ht0 c0)
  refine lv_iload hx hb dL_law_2628 (lv_at hl 1 rfl) ?_
  refine lv_if_ne (tgt := 2645) hx hb dL_law_2630 (by decide) (fun c0 => ?_) (fun c0 => ?_)
  · refine lv_goto (tgt := 2861) hx hb dL_law_2645 (by decide) ?_
    refine W.widen (k := cells_ + 16) (n := slots_ + 130) (by omega) (by omega) ?_
    exact hk ha1 _ _ _ hP hD hS (lv_sub hl [2, 3, 4, 5, 6, 7] rfl)
  · refine lv_aload_n hx hb dL_law_2633 rfl (lv_at hl 5 rfl) ?_
    refine lv_iconst (v := 0) hx hb dL_law_2634 (by decide) ?_
    refine va_lald hx hb hK (zP_perm l_perm4 hP) 0 1 rfl rfl (show vp_in 0 1 from by unfold vp_in; decide) dL_law_2635 ?_
    refine lv_iload hx hb dL_law_2636 (lv_at hl 0 rfl) ?_
    refine lv_i2l (v := Int32.toInt64 rr.1) hx hb dL_law_2638 rfl ?_
    refine W.lcmp hx hb dL_law_2639 ?_
    refine lv_if_eq (tgt := 2645) hx hb dL_law_2640 (by decide) (fun c2 => ?_) (fun c2 => absurd (l_cmp (hv c0)) c2)
    refine lv_goto (tgt := 2861) hx hb dL_law_2645 (by decide) ?_
    refine W.widen (k := cells_ + 16) (n := slots_ + 130) (by omega) (by omega) ?_
    exact hk ha1 _ _ _ hP hD hS (lv_sub hl [2, 3, 4, 5, 6, 7] rfl)
set_option maxHeartbeats 4000000 in
set_option maxRecDepth 100000 in
theorem l_case_39 (hC0 : lC p l s m args meth c D cy A sb L xs) {a : XA} {n : Nat → Nat} {V : XV} {b : Nat → Nat} {T : RV} {o1 o2 : Nat} {out : Nat → Int64} {outD : Nat → UInt64} {i : Int32} {H : Heap} {locs : List Loc} {ls : Array Slot} {cells_ slots_ : Nat} (hc1 : cells_ + 16 ≤ room_1.cells) (hc2 : slots_ + 130 ≤ room_1.slots) (hP : va_P D xcl (lW cy a n V b T o1 out o2 outD) H) (hD : va_D A (lW cy a n V b T o1 out o2 outD)) (hS : va_S A s.heap H locs) (hl : lv_has ls 9 [(0, .ref sb), (1, .ref (a.1 0)), (2, .ref (b 0)), (3, .ref o1), (4, .ref o2), (5, .int i)])  {xr : Int64} {rr : Int64 × RV} (hf : f_X3_lifted n V = some xr) (hr : f_X4_lifted T  = some rr) (hv : xr = rr.1)
    (hk : ∀ {a1 : XA} (_ : a1.1 = a.1) (H : Heap) (locs : List Loc) (ls : Array Slot), va_P D xcl (lW cy a1 n V b rr.2 o1 out o2 outD) H → va_D A (lW cy a1 n V b rr.2 o1 out o2 outD) → va_S A s.heap H locs → lv_has ls 9 [(0, .ref sb), (1, .ref (a1.1 0)), (2, .ref (b 0)), (3, .ref o1), (4, .ref o2), (5, .int i)] → W p l e room_1 s m args below meth c H locs (cells_ + 16) (slots_ + 130) Q (F0 m 2861 ls [])) : W p l e room_1 s m args below meth c H locs cells_ slots_ Q (F0 m 2648 ls []) := by
  obtain ⟨hl0, hx, hb, hml, hown, hts, hK, hA, hC, hZ, hX, hsb, hsA⟩ := hC0
  refine lv_aload_n hx hb dL_law_2648 rfl (lv_at hl 1 rfl) ?_
  have hPc := lP_app (zP_perm l_perm3 hP)
  have hDc := lD_app (zD_perm l_perm3 hD)
  refine zcSl (W.runV (As := []) (rest := []) ⟨hx, hb, hml, hown, hts⟩ (c_X3_lifted l D cy a n V hf) (cwV 0 hts gL_law_X3_lifted rfl rfl rfl hd_X3_lifted ⟨Nat.le_of_ble_eq_true rfl, Nat.le_of_ble_eq_true rfl⟩) ⟨xI_blind, va_recv hK hPc (ci := 3) (q0 := 0) rfl rfl, xI_at hPc hK hDc⟩ rfl rfl hl.1 rfl (lv_room (Nat.le_of_ble_eq_true rfl)) dL_law_2649 ⟨by omega, by omega⟩) ?_
  refine lv_aload_n hx hb dL_law_2652 rfl (lv_at hl 2 rfl) ?_
  replace hP := zP_perm l_perm1 hP
  replace hD := zD_perm l_perm1 hD
  have hPc := lP_app hP
  have hDc := lD_app hD
  have hfr := z_free hDc hS hA
  refine va_calll (va_runV (As := []) (rest := [.long xr]) ⟨hx, hb, hml, hown, hts⟩ (c_X4_lifted l D cy b T H.size  hr) (cwV 0 hts gL_law_X4_lifted rfl rfl rfl hd_X4_lifted ⟨Nat.le_of_ble_eq_true rfl, Nat.le_of_ble_eq_true rfl⟩) ⟨zJ_blind rI_blind, va_recv hK hPc (ci := 4) (q0 := 0) rfl rfl, zJ_at (rI_at hPc hK hDc)⟩ rfl rfl hl.1 rfl (lv_room (Nat.le_of_ble_eq_true rfl)) dL_law_2653 ⟨by omega, by omega⟩) hS (fun q _ h => hfr q h) hfr (fun r9 u9 t H1 locs1 ht hvm hw hB hz hk hS => ?_)
  obtain ⟨hP1, hD1⟩ := hB
  rw [ht] at hP1
  subst hw
  obtain ⟨hP2, hD2⟩ := z_join (ws := (lOutD cy o2 outD) :: (lOut cy o1 out) :: xW cy a n V) (wc := rW cy b T) (w1 := rW cy b rr.2) hP hD hk hfr hP1 hD1
  replace hP2 := zP_perm l_perm1.symm hP2
  replace hD2 := zD_perm l_perm1.symm hD2
  replace hP : va_P D xcl (lW cy a n V b rr.2 o1 out o2 outD) H1 := hP2
  replace hD : va_D A (lW cy a n V b rr.2 o1 out o2 outD) := hD2
  clear hP2 hD2 hP1 hD1 hk hz hPc hDc hfr hvm ht
  generalize H1 = H at hP hS ⊢
  refine W.lcmp hx hb dL_law_2656 ?_
  refine lv_if_eq (tgt := 2861) hx hb dL_law_2657 (by decide) (fun c0 => ?_) (fun c0 => absurd (l_cmp hv) c0)
  refine W.widen (k := cells_ + 16) (n := slots_ + 130) (by omega) (by omega) ?_
  exact hk rfl _ _ _ hP hD hS (lv_sub hl [0, 1, 2, 3, 4, 5] rfl)
set_option maxHeartbeats 4000000 in
set_option maxRecDepth 100000 in
theorem l_case_40 (hC0 : lC p l s m args meth c D cy A sb L xs) {a : XA} {n : Nat → Nat} {V : XV} {b : Nat → Nat} {T : RV} {o1 o2 : Nat} {out : Nat → Int64} {outD : Nat → UInt64} {i : Int32} {H : Heap} {locs : List Loc} {ls : Array Slot} {cells_ slots_ : Nat} (hc1 : cells_ + 16 ≤ room_1.cells) (hc2 : slots_ + 130 ≤ room_1.slots) (hP : va_P D xcl (lW cy a n V b T o1 out o2 outD) H) (hD : va_D A (lW cy a n V b T o1 out o2 outD)) (hS : va_S A s.heap H locs) (hl : lv_has ls 9 [(0, .ref sb), (1, .ref (a.1 0)), (2, .ref (b 0)), (3, .ref o1), (4, .ref o2), (5, .int i)]) (hi1 : vp_in (i + 1) L) {res : Int32 × (Nat → Nat) × XV × (Nat → Int64)} {rr : Int32 × RV} (hf : f_L_code n V out (xs (i + 1).toNatClampNeg) = some res) (hr : f_X4_code T (xs (i + 1).toNatClampNeg) = some rr) (ht0 : rr.2.1 27 = res.1) (hv : res.1 = 0 → res.2.2.2 (0 : Int32).toNatClampNeg = Int32.toInt64 rr.1)
    (hk : ∀ {a1 : XA} (_ : a1.1 = a.1) (H : Heap) (locs : List Loc) (ls : Array Slot), va_P D xcl (lW cy a1 res.2.1 res.2.2.1 b rr.2 o1 res.2.2.2 o2 outD) H → va_D A (lW cy a1 res.2.1 res.2.2.1 b rr.2 o1 res.2.2.2 o2 outD) → va_S A s.heap H locs → lv_has ls 9 [(0, .ref sb), (1, .ref (a1.1 0)), (2, .ref (b 0)), (3, .ref o1), (4, .ref o2), (5, .int i)] → W p l e room_1 s m args below meth c H locs (cells_ + 16) (slots_ + 130) Q (F0 m 2861 ls [])) : W p l e room_1 s m args below meth c H locs cells_ slots_ Q (F0 m 2662 ls []) := by
  obtain ⟨hl0, hx, hb, hml, hown, hts, hK, hA, hC, hZ, hX, hsb, hsA⟩ := hC0
  refine lv_aload_n hx hb dL_law_2662 rfl (lv_at hl 1 rfl) ?_
  refine lv_aload_n hx hb dL_law_2663 rfl (lv_at hl 0 rfl) ?_
  refine lv_iload hx hb dL_law_2664 (lv_at hl 5 rfl) ?_
  refine lv_iconst (v := 1) hx hb dL_law_2666 (by decide) ?_
  refine lv_iadd hx hb dL_law_2667 ?_
  refine va_sld hx hb hX hsb hsA hS hi1 dL_law_2668 ?_
  refine lv_aload_n hx hb dL_law_2669 rfl (lv_at hl 3 rfl) ?_
  have hPc := lP_app hP
  have hDc := lD_app hD
  have hfr := z_free hDc hS hA
  refine va_calli (vx_runSW (As := [.ref (a.1 0), .int (xs (i + 1).toNatClampNeg), .ref o1]) (rest := []) ⟨hx, hb, hml, hown, hts⟩ (c_L_code l hl0 D cy a n V o1 out H.size (xs (i + 1).toNatClampNeg) hf) (vx_cwSW 3 hts gL_law_L_code rfl rfl rfl hd_L_code ⟨Nat.le_of_ble_eq_true rfl, Nat.le_of_ble_eq_true rfl⟩) ⟨lX_blind, lX_at hC hZ hS hfr hPc hK hDc⟩ rfl rfl hl.1 rfl (lv_room (Nat.le_of_ble_eq_true rfl)) dL_law_2670 ⟨by omega, by omega⟩) hS (fun q _ h => hfr q h) hfr (fun r9 a1 t H1 locs1 ht hvm hw hB hz hk hS => ?_)
  obtain ⟨ha1, hP1, hD1⟩ := hB
  rw [ht] at hP1
  subst hw
  obtain ⟨hP2, hD2⟩ := z_join (ws := lOutD cy o2 outD :: rW cy b T) (wc := lOut cy o1 out :: xW cy a n V) (w1 := (o1, .inl (cy 1, 1, .inr (.inl res.2.2.2))) :: xW cy a1 res.2.1 res.2.2.1) hP hD hk hfr hP1 hD1
  replace hP : va_P D xcl (lW cy a1 res.2.1 res.2.2.1 b T o1 res.2.2.2 o2 outD) H1 := hP2
  replace hD : va_D A (lW cy a1 res.2.1 res.2.2.1 b T o1 res.2.2.2 o2 outD) := hD2
  clear hP2 hD2 hP1 hD1 hk hz hPc hDc hfr hvm ht
  generalize H1 = H at hP hS ⊢
  rw [← ha1] at hl
  refine lv_istore (lv' := [(6, .int res.1), (0, .ref sb), (1, .ref (a1.1 0)), (2, .ref (b 0)), (3, .ref o1), (4, .ref o2), (5, .int i)]) hx hb dL_law_2673 hl (by decide) rfl (fun ls hl => ?_)
  refine lv_aload_n hx hb dL_law_2675 rfl (lv_at hl 3 rfl) ?_
  refine lv_aload_n hx hb dL_law_2676 rfl (lv_at hl 1 rfl) ?_
  refine lv_iload hx hb dL_law_2677 (lv_at hl 6 rfl) ?_
  refine lv_iconst (v := 1) hx hb dL_law_2679 (by decide) ?_
  refine lv_iadd hx hb dL_law_2680 ?_
  refine va_sld hx hb hX hsb hsA hS hi1 dL_law_2681 ?_
  replace hP := zP_perm l_perm1 hP
  replace hD := zD_perm l_perm1 hD
  have hPc := lP_app hP
  have hDc := lD_app hD
  have hfr := z_free hDc hS hA
  refine va_calli (va_runV (As := [.int (xs (i + 1).toNatClampNeg)]) (rest := []) ⟨hx, hb, hml, hown, hts⟩ (c_X4_code l D cy b T H.size (xs (i + 1).toNatClampNeg) hr) (cwV 1 hts gL_law_X4_code rfl rfl rfl hd_X4_code ⟨Nat.le_of_ble_eq_true rfl, Nat.le_of_ble_eq_true rfl⟩) ⟨zJ_blind rI_blind, va_recv hK hPc (ci := 4) (q0 := 0) rfl rfl, zJ_at (rI_at hPc hK hDc)⟩ rfl rfl hl.1 rfl (lv_room (Nat.le_of_ble_eq_true rfl)) dL_law_2682 ⟨by omega, by omega⟩) hS (fun q _ h => hfr q h) hfr (fun r9 u9 t H1 locs1 ht hvm hw hB hz hk hS => ?_)
  obtain ⟨hP1, hD1⟩ := hB
  rw [ht] at hP1
  subst hw
  obtain ⟨hP2, hD2⟩ := z_join (ws := (lOutD cy o2 outD) :: (lOut cy o1 res.2.2.2) :: xW cy a1 res.2.1 res.2.2.1) (wc := rW cy b T) (w1 := rW cy b rr.2) hP hD hk hfr hP1 hD1
  replace hP2 := zP_perm l_perm1.symm hP2
  replace hD2 := zD_perm l_perm1.symm hD2
  replace hP : va_P D xcl (lW cy a1 res.2.1 res.2.2.1 b rr.2 o1 res.2.2.2 o2 outD) H1 := hP2
  replace hD : va_D A (lW cy a1 res.2.1 res.2.2.1 b rr.2 o1 res.2.2.2 o2 outD) := hD2
  clear hP2 hD2 hP1 hD1 hk hz hPc hDc hfr hvm ht
  generalize H1 = H at hP hS ⊢
  refine lv_istore (lv' := [(7, .int rr.1), (6, .int res.1), (0, .ref sb), (1, .ref (a1.1 0)), (2, .ref (b 0)), (3, .ref o1), (4, .ref o2), (5, .int i)]) hx hb dL_law_2685 hl (by decide) rfl (fun ls hl => ?_)
  refine lv_aload_n hx hb dL_law_2687 rfl (lv_at hl 4 rfl) ?_
  have hPc := lP_app (zP_perm l_perm1 hP)
  have hDc := lD_app (zD_perm l_perm1 hD)
  refine zcSi (W.runV (As := []) (rest := []) ⟨hx, hb, hml, hown, hts⟩ (c_X4_thrown l D cy b rr.2 (res := rr.2.1 27) rfl) (cwV 0 hts gL_law_X4_thrown rfl rfl rfl hd_X4_thrown ⟨Nat.le_of_ble_eq_true rfl, Nat.le_of_ble_eq_true rfl⟩) ⟨rI_blind, va_recv hK hPc (ci := 4) (q0 := 0) rfl rfl, rI_at hPc hK hDc⟩ rfl rfl hl.1 rfl (lv_room (Nat.le_of_ble_eq_true rfl)) dL_law_2688 ⟨by omega, by omega⟩) ?_
  refine lv_iload hx hb dL_law_2691 (lv_at hl 1 rfl) ?_
  refine lv_icmp_eq (tgt := 2698) hx hb dL_law_2693 (by decide) (fun c0 => ?_) (fun c0 => absurd ht0 c0)
  refine lv_iload hx hb dL_law_2698 (lv_at hl 1 rfl) ?_
  refine lv_if_ne (tgt := 2715) hx hb dL_law_2700 (by decide) (fun c0 => ?_) (fun c0 => ?_)
  · refine lv_goto (tgt := 2861) hx hb dL_law_2715 (by decide) ?_
    refine W.widen (k := cells_ + 16) (n := slots_ + 130) (by omega) (by omega) ?_
    exact hk ha1 _ _ _ hP hD hS (lv_sub hl [2, 3, 4, 5, 6, 7] rfl)
  · refine lv_aload_n hx hb dL_law_2703 rfl (lv_at hl 5 rfl) ?_
    refine lv_iconst (v := 0) hx hb dL_law_2704 (by decide) ?_
    refine va_lald hx hb hK (zP_perm l_perm4 hP) 0 1 rfl rfl (show vp_in 0 1 from by unfold vp_in; decide) dL_law_2705 ?_
    refine lv_iload hx hb dL_law_2706 (lv_at hl 0 rfl) ?_
    refine lv_i2l (v := Int32.toInt64 rr.1) hx hb dL_law_2708 rfl ?_
    refine W.lcmp hx hb dL_law_2709 ?_
    refine lv_if_eq (tgt := 2715) hx hb dL_law_2710 (by decide) (fun c2 => ?_) (fun c2 => absurd (l_cmp (hv c0)) c2)
    refine lv_goto (tgt := 2861) hx hb dL_law_2715 (by decide) ?_
    refine W.widen (k := cells_ + 16) (n := slots_ + 130) (by omega) (by omega) ?_
    exact hk ha1 _ _ _ hP hD hS (lv_sub hl [2, 3, 4, 5, 6, 7] rfl)
set_option maxHeartbeats 4000000 in
set_option maxRecDepth 100000 in
theorem l_case_41 (hC0 : lC p l s m args meth c D cy A sb L xs) {a : XA} {n : Nat → Nat} {V : XV} {b : Nat → Nat} {T : RV} {o1 o2 : Nat} {out : Nat → Int64} {outD : Nat → UInt64} {i : Int32} {H : Heap} {locs : List Loc} {ls : Array Slot} {cells_ slots_ : Nat} (hc1 : cells_ + 16 ≤ room_1.cells) (hc2 : slots_ + 130 ≤ room_1.slots) (hP : va_P D xcl (lW cy a n V b T o1 out o2 outD) H) (hD : va_D A (lW cy a n V b T o1 out o2 outD)) (hS : va_S A s.heap H locs) (hl : lv_has ls 9 [(0, .ref sb), (1, .ref (a.1 0)), (2, .ref (b 0)), (3, .ref o1), (4, .ref o2), (5, .int i)]) (hi1 : vp_in (i + 1) L) {res : Int32 × (Nat → Nat) × XV × (Nat → UInt64)} {rr : UInt32 × RV} (hf : f_L_workShare n V outD (xs (i + 1).toNatClampNeg) = some res) (hr : f_X4_workShare T (xs (i + 1).toNatClampNeg) = some rr) (ht0 : rr.2.1 27 = res.1) (hn : res.1 = 0 → vf_n64 (FP.f2d rr.1)) (hv : res.1 = 0 → Op.cmpValue (FP.dcmp (res.2.2.2 (0 : Int32).toNatClampNeg) (FP.f2d rr.1)) .l = 0)
    (hk : ∀ {a1 : XA} (_ : a1.1 = a.1) (H : Heap) (locs : List Loc) (ls : Array Slot), va_P D xcl (lW cy a1 res.2.1 res.2.2.1 b rr.2 o1 out o2 res.2.2.2) H → va_D A (lW cy a1 res.2.1 res.2.2.1 b rr.2 o1 out o2 res.2.2.2) → va_S A s.heap H locs → lv_has ls 9 [(0, .ref sb), (1, .ref (a1.1 0)), (2, .ref (b 0)), (3, .ref o1), (4, .ref o2), (5, .int i)] → W p l e room_1 s m args below meth c H locs (cells_ + 16) (slots_ + 130) Q (F0 m 2861 ls [])) : W p l e room_1 s m args below meth c H locs cells_ slots_ Q (F0 m 2718 ls []) := by
  obtain ⟨hl0, hx, hb, hml, hown, hts, hK, hA, hC, hZ, hX, hsb, hsA⟩ := hC0
  refine lv_aload_n hx hb dL_law_2718 rfl (lv_at hl 1 rfl) ?_
  refine lv_aload_n hx hb dL_law_2719 rfl (lv_at hl 0 rfl) ?_
  refine lv_iload hx hb dL_law_2720 (lv_at hl 5 rfl) ?_
  refine lv_iconst (v := 1) hx hb dL_law_2722 (by decide) ?_
  refine lv_iadd hx hb dL_law_2723 ?_
  refine va_sld hx hb hX hsb hsA hS hi1 dL_law_2724 ?_
  refine lv_aload hx hb dL_law_2725 (lv_at hl 4 rfl) ?_
  replace hP := zP_perm l_perm2 hP
  replace hD := zD_perm l_perm2 hD
  have hPc := lP_app hP
  have hDc := lD_app hD
  have hfr := z_free hDc hS hA
  refine va_calli (vx_runSW (As := [.ref (a.1 0), .int (xs (i + 1).toNatClampNeg), .ref o2]) (rest := []) ⟨hx, hb, hml, hown, hts⟩ (c_L_workShare l hl0 D cy a n V o2 outD H.size (xs (i + 1).toNatClampNeg) hf) (vx_cwSW 3 hts gL_law_L_workShare rfl rfl rfl hd_L_workShare ⟨Nat.le_of_ble_eq_true rfl, Nat.le_of_ble_eq_true rfl⟩) ⟨lX_blind, lX_at hC hZ hS hfr hPc hK hDc⟩ rfl rfl hl.1 rfl (lv_room (Nat.le_of_ble_eq_true rfl)) dL_law_2727 ⟨by omega, by omega⟩) hS (fun q _ h => hfr q h) hfr (fun r9 a1 t H1 locs1 ht hvm hw hB hz hk hS => ?_)
  obtain ⟨ha1, hP1, hD1⟩ := hB
  rw [ht] at hP1
  subst hw
  obtain ⟨hP2, hD2⟩ := z_join (ws := lOut cy o1 out :: rW cy b T) (wc := lOutD cy o2 outD :: xW cy a n V) (w1 := (o2, .inl (cy 7, 1, .inr (.inr (.inr (.inl res.2.2.2))))) :: xW cy a1 res.2.1 res.2.2.1) hP hD hk hfr hP1 hD1
  replace hP2 := zP_perm l_perm2 hP2
  replace hD2 := zD_perm l_perm2 hD2
  replace hP : va_P D xcl (lW cy a1 res.2.1 res.2.2.1 b T o1 out o2 res.2.2.2) H1 := hP2
  replace hD : va_D A (lW cy a1 res.2.1 res.2.2.1 b T o1 out o2 res.2.2.2) := hD2
  clear hP2 hD2 hP1 hD1 hk hz hPc hDc hfr hvm ht
  generalize H1 = H at hP hS ⊢
  rw [← ha1] at hl
  refine lv_istore (lv' := [(6, .int res.1), (0, .ref sb), (1, .ref (a1.1 0)), (2, .ref (b 0)), (3, .ref o1), (4, .ref o2), (5, .int i)]) hx hb dL_law_2730 hl (by decide) rfl (fun ls hl => ?_)
  refine lv_aload_n hx hb dL_law_2732 rfl (lv_at hl 3 rfl) ?_
  refine lv_aload_n hx hb dL_law_2733 rfl (lv_at hl 1 rfl) ?_
  refine lv_iload hx hb dL_law_2734 (lv_at hl 6 rfl) ?_
  refine lv_iconst (v := 1) hx hb dL_law_2736 (by decide) ?_
  refine lv_iadd hx hb dL_law_2737 ?_
  refine va_sld hx hb hX hsb hsA hS hi1 dL_law_2738 ?_
  replace hP := zP_perm l_perm1 hP
  replace hD := zD_perm l_perm1 hD
  have hPc := lP_app hP
  have hDc := lD_app hD
  have hfr := z_free hDc hS hA
  refine va_callf (va_runV (As := [.int (xs (i + 1).toNatClampNeg)]) (rest := []) ⟨hx, hb, hml, hown, hts⟩ (c_X4_workShare l D cy b T H.size (xs (i + 1).toNatClampNeg) hr) (cwV 1 hts gL_law_X4_workShare rfl rfl rfl hd_X4_workShare ⟨Nat.le_of_ble_eq_true rfl, Nat.le_of_ble_eq_true rfl⟩) ⟨zJ_blind rI_blind, va_recv hK hPc (ci := 4) (q0 := 0) rfl rfl, zJ_at (rI_at hPc hK hDc)⟩ rfl rfl hl.1 rfl (lv_room (Nat.le_of_ble_eq_true rfl)) dL_law_2739 ⟨by omega, by omega⟩) hS (fun q _ h => hfr q h) hfr (fun r9 u9 t H1 locs1 ht hvm hw hB hz hk hS => ?_)
  obtain ⟨hP1, hD1⟩ := hB
  rw [ht] at hP1
  subst hw
  obtain ⟨hP2, hD2⟩ := z_join (ws := (lOutD cy o2 res.2.2.2) :: (lOut cy o1 out) :: xW cy a1 res.2.1 res.2.2.1) (wc := rW cy b T) (w1 := rW cy b rr.2) hP hD hk hfr hP1 hD1
  replace hP2 := zP_perm l_perm1.symm hP2
  replace hD2 := zD_perm l_perm1.symm hD2
  replace hP : va_P D xcl (lW cy a1 res.2.1 res.2.2.1 b rr.2 o1 out o2 res.2.2.2) H1 := hP2
  replace hD : va_D A (lW cy a1 res.2.1 res.2.2.1 b rr.2 o1 out o2 res.2.2.2) := hD2
  clear hP2 hD2 hP1 hD1 hk hz hPc hDc hfr hvm ht
  generalize H1 = H at hP hS ⊢
  refine lv_fstore (lv' := [(7, .float rr.1), (6, .int res.1), (0, .ref sb), (1, .ref (a1.1 0)), (2, .ref (b 0)), (3, .ref o1), (4, .ref o2), (5, .int i)]) hx hb dL_law_2742 hl (by decide) rfl (fun ls hl => ?_)
  refine lv_aload_n hx hb dL_law_2744 rfl (lv_at hl 4 rfl) ?_
  have hPc := lP_app (zP_perm l_perm1 hP)
  have hDc := lD_app (zD_perm l_perm1 hD)
  refine zcSi (W.runV (As := []) (rest := []) ⟨hx, hb, hml, hown, hts⟩ (c_X4_thrown l D cy b rr.2 (res := rr.2.1 27) rfl) (cwV 0 hts gL_law_X4_thrown rfl rfl rfl hd_X4_thrown ⟨Nat.le_of_ble_eq_true rfl, Nat.le_of_ble_eq_true rfl⟩) ⟨rI_blind, va_recv hK hPc (ci := 4) (q0 := 0) rfl rfl, rI_at hPc hK hDc⟩ rfl rfl hl.1 rfl (lv_room (Nat.le_of_ble_eq_true rfl)) dL_law_2745 ⟨by omega, by omega⟩) ?_
  refine lv_iload hx hb dL_law_2748 (lv_at hl 1 rfl) ?_
  refine lv_icmp_eq (tgt := 2755) hx hb dL_law_2750 (by decide) (fun c0 => ?_) (fun c0 => absurd ht0 c0)
  refine lv_iload hx hb dL_law_2755 (lv_at hl 1 rfl) ?_
  refine lv_if_ne (tgt := 2793) hx hb dL_law_2757 (by decide) (fun c0 => ?_) (fun c0 => ?_)
  · refine lv_goto (tgt := 2861) hx hb dL_law_2793 (by decide) ?_
    refine W.widen (k := cells_ + 16) (n := slots_ + 130) (by omega) (by omega) ?_
    exact hk ha1 _ _ _ hP hD hS (lv_sub hl [2, 3, 4, 5, 6, 7] rfl)
  · refine lv_aload hx hb dL_law_2760 (lv_at hl 6 rfl) ?_
    refine lv_iconst (v := 0) hx hb dL_law_2762 (by decide) ?_
    refine va_dald hx hb hK (zP_perm l_perm4 hP) 1 7 rfl rfl (show vp_in 0 1 from by unfold vp_in; decide) dL_law_2763 ?_
    refine lv_fload hx hb dL_law_2764 (lv_at hl 0 rfl) ?_
    refine lv_f2d hx hb dL_law_2766 (hn c0) ?_
    refine lv_dcmp hx hb dL_law_2767 ?_
    refine lv_if_eq (tgt := 2793) hx hb dL_law_2768 (by decide) (fun c2 => ?_) (fun c2 => absurd (hv c0) c2)
    refine lv_goto (tgt := 2861) hx hb dL_law_2793 (by decide) ?_
    refine W.widen (k := cells_ + 16) (n := slots_ + 130) (by omega) (by omega) ?_
    exact hk ha1 _ _ _ hP hD hS (lv_sub hl [2, 3, 4, 5, 6, 7] rfl)
set_option maxHeartbeats 4000000 in
set_option maxRecDepth 100000 in
theorem l_case_42 (hC0 : lC p l s m args meth c D cy A sb L xs) {a : XA} {n : Nat → Nat} {V : XV} {b : Nat → Nat} {T : RV} {o1 o2 : Nat} {out : Nat → Int64} {outD : Nat → UInt64} {i : Int32} {H : Heap} {locs : List Loc} {ls : Array Slot} {cells_ slots_ : Nat} (hc1 : cells_ + 16 ≤ room_1.cells) (hc2 : slots_ + 130 ≤ room_1.slots) (hP : va_P D xcl (lW cy a n V b T o1 out o2 outD) H) (hD : va_D A (lW cy a n V b T o1 out o2 outD)) (hS : va_S A s.heap H locs) (hl : lv_has ls 9 [(0, .ref sb), (1, .ref (a.1 0)), (2, .ref (b 0)), (3, .ref o1), (4, .ref o2), (5, .int i)])  {res : Int32 × (Nat → Nat) × XV × (Nat → UInt64)} {rr : UInt64 × RV} (hf : f_L_meanStart n V outD  = some res) (hr : f_X4_meanStart T  = some rr) (ht0 : rr.2.1 27 = res.1) (hv : res.1 = 0 → Op.cmpValue (FP.dcmp (res.2.2.2 (0 : Int32).toNatClampNeg) (rr.1)) .l = 0)
    (hk : ∀ {a1 : XA} (_ : a1.1 = a.1) (H : Heap) (locs : List Loc) (ls : Array Slot), va_P D xcl (lW cy a1 res.2.1 res.2.2.1 b rr.2 o1 out o2 res.2.2.2) H → va_D A (lW cy a1 res.2.1 res.2.2.1 b rr.2 o1 out o2 res.2.2.2) → va_S A s.heap H locs → lv_has ls 9 [(0, .ref sb), (1, .ref (a1.1 0)), (2, .ref (b 0)), (3, .ref o1), (4, .ref o2), (5, .int i)] → W p l e room_1 s m args below meth c H locs (cells_ + 16) (slots_ + 130) Q (F0 m 2861 ls [])) : W p l e room_1 s m args below meth c H locs cells_ slots_ Q (F0 m 2796 ls []) := by
  obtain ⟨hl0, hx, hb, hml, hown, hts, hK, hA, hC, hZ, hX, hsb, hsA⟩ := hC0
  refine lv_aload_n hx hb dL_law_2796 rfl (lv_at hl 1 rfl) ?_
  refine lv_aload hx hb dL_law_2797 (lv_at hl 4 rfl) ?_
  replace hP := zP_perm l_perm2 hP
  replace hD := zD_perm l_perm2 hD
  have hPc := lP_app hP
  have hDc := lD_app hD
  have hfr := z_free hDc hS hA
  refine va_calli (vx_runSW (As := [.ref (a.1 0), .ref o2]) (rest := []) ⟨hx, hb, hml, hown, hts⟩ (c_L_meanStart l hl0 D cy a n V o2 outD H.size  hf) (vx_cwSW 2 hts gL_law_L_meanStart rfl rfl rfl hd_L_meanStart ⟨Nat.le_of_ble_eq_true rfl, Nat.le_of_ble_eq_true rfl⟩) ⟨lX_blind, lX_at hC hZ hS hfr hPc hK hDc⟩ rfl rfl hl.1 rfl (lv_room (Nat.le_of_ble_eq_true rfl)) dL_law_2799 ⟨by omega, by omega⟩) hS (fun q _ h => hfr q h) hfr (fun r9 a1 t H1 locs1 ht hvm hw hB hz hk hS => ?_)
  obtain ⟨ha1, hP1, hD1⟩ := hB
  rw [ht] at hP1
  subst hw
  obtain ⟨hP2, hD2⟩ := z_join (ws := lOut cy o1 out :: rW cy b T) (wc := lOutD cy o2 outD :: xW cy a n V) (w1 := (o2, .inl (cy 7, 1, .inr (.inr (.inr (.inl res.2.2.2))))) :: xW cy a1 res.2.1 res.2.2.1) hP hD hk hfr hP1 hD1
  replace hP2 := zP_perm l_perm2 hP2
  replace hD2 := zD_perm l_perm2 hD2
  replace hP : va_P D xcl (lW cy a1 res.2.1 res.2.2.1 b T o1 out o2 res.2.2.2) H1 := hP2
  replace hD : va_D A (lW cy a1 res.2.1 res.2.2.1 b T o1 out o2 res.2.2.2) := hD2
  clear hP2 hD2 hP1 hD1 hk hz hPc hDc hfr hvm ht
  generalize H1 = H at hP hS ⊢
  rw [← ha1] at hl
  refine lv_istore (lv' := [(6, .int res.1), (0, .ref sb), (1, .ref (a1.1 0)), (2, .ref (b 0)), (3, .ref o1), (4, .ref o2), (5, .int i)]) hx hb dL_law_2802 hl (by decide) rfl (fun ls hl => ?_)
  refine lv_aload_n hx hb dL_law_2804 rfl (lv_at hl 3 rfl) ?_
  replace hP := zP_perm l_perm1 hP
  replace hD := zD_perm l_perm1 hD
  have hPc := lP_app hP
  have hDc := lD_app hD
  have hfr := z_free hDc hS hA
  refine va_calld (va_runV (As := []) (rest := []) ⟨hx, hb, hml, hown, hts⟩ (c_X4_meanStart l D cy b T H.size  hr) (cwV 0 hts gL_law_X4_meanStart rfl rfl rfl hd_X4_meanStart ⟨Nat.le_of_ble_eq_true rfl, Nat.le_of_ble_eq_true rfl⟩) ⟨zJ_blind rI_blind, va_recv hK hPc (ci := 4) (q0 := 0) rfl rfl, zJ_at (rI_at hPc hK hDc)⟩ rfl rfl hl.1 rfl (lv_room (Nat.le_of_ble_eq_true rfl)) dL_law_2805 ⟨by omega, by omega⟩) hS (fun q _ h => hfr q h) hfr (fun r9 u9 t H1 locs1 ht hvm hw hB hz hk hS => ?_)
  obtain ⟨hP1, hD1⟩ := hB
  rw [ht] at hP1
  subst hw
  obtain ⟨hP2, hD2⟩ := z_join (ws := (lOutD cy o2 res.2.2.2) :: (lOut cy o1 out) :: xW cy a1 res.2.1 res.2.2.1) (wc := rW cy b T) (w1 := rW cy b rr.2) hP hD hk hfr hP1 hD1
  replace hP2 := zP_perm l_perm1.symm hP2
  replace hD2 := zD_perm l_perm1.symm hD2
  replace hP : va_P D xcl (lW cy a1 res.2.1 res.2.2.1 b rr.2 o1 out o2 res.2.2.2) H1 := hP2
  replace hD : va_D A (lW cy a1 res.2.1 res.2.2.1 b rr.2 o1 out o2 res.2.2.2) := hD2
  clear hP2 hD2 hP1 hD1 hk hz hPc hDc hfr hvm ht
  generalize H1 = H at hP hS ⊢
  refine lv_dstore (lv' := [(7, .double rr.1), (6, .int res.1), (0, .ref sb), (1, .ref (a1.1 0)), (2, .ref (b 0)), (3, .ref o1), (4, .ref o2), (5, .int i)]) hx hb dL_law_2808 hl (by decide) rfl (fun ls hl => ?_)
  refine lv_aload_n hx hb dL_law_2810 rfl (lv_at hl 4 rfl) ?_
  have hPc := lP_app (zP_perm l_perm1 hP)
  have hDc := lD_app (zD_perm l_perm1 hD)
  refine zcSi (W.runV (As := []) (rest := []) ⟨hx, hb, hml, hown, hts⟩ (c_X4_thrown l D cy b rr.2 (res := rr.2.1 27) rfl) (cwV 0 hts gL_law_X4_thrown rfl rfl rfl hd_X4_thrown ⟨Nat.le_of_ble_eq_true rfl, Nat.le_of_ble_eq_true rfl⟩) ⟨rI_blind, va_recv hK hPc (ci := 4) (q0 := 0) rfl rfl, rI_at hPc hK hDc⟩ rfl rfl hl.1 rfl (lv_room (Nat.le_of_ble_eq_true rfl)) dL_law_2811 ⟨by omega, by omega⟩) ?_
  refine lv_iload hx hb dL_law_2814 (lv_at hl 1 rfl) ?_
  refine lv_icmp_eq (tgt := 2821) hx hb dL_law_2816 (by decide) (fun c0 => ?_) (fun c0 => absurd ht0 c0)
  refine lv_iload hx hb dL_law_2821 (lv_at hl 1 rfl) ?_
  refine lv_if_ne (tgt := 2858) hx hb dL_law_2823 (by decide) (fun c0 => ?_) (fun c0 => ?_)
  · refine lv_goto (tgt := 2861) hx hb dL_law_2858 (by decide) ?_
    refine W.widen (k := cells_ + 16) (n := slots_ + 130) (by omega) (by omega) ?_
    exact hk ha1 _ _ _ hP hD hS (lv_sub hl [2, 3, 4, 5, 6, 7] rfl)
  · refine lv_aload hx hb dL_law_2826 (lv_at hl 6 rfl) ?_
    refine lv_iconst (v := 0) hx hb dL_law_2828 (by decide) ?_
    refine va_dald hx hb hK (zP_perm l_perm4 hP) 1 7 rfl rfl (show vp_in 0 1 from by unfold vp_in; decide) dL_law_2829 ?_
    refine lv_dload hx hb dL_law_2830 (lv_at hl 0 rfl) ?_
    refine lv_dcmp hx hb dL_law_2832 ?_
    refine lv_if_eq (tgt := 2858) hx hb dL_law_2833 (by decide) (fun c2 => ?_) (fun c2 => absurd (hv c0) c2)
    refine lv_goto (tgt := 2861) hx hb dL_law_2858 (by decide) ?_
    refine W.widen (k := cells_ + 16) (n := slots_ + 130) (by omega) (by omega) ?_
    exact hk ha1 _ _ _ hP hD hS (lv_sub hl [2, 3, 4, 5, 6, 7] rfl)
end LAW
