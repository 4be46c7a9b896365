/-! The state of both systems: X the class (n: how many objects of each kind; a: addresses; V: what the cells hold), R the reference (b: addresses; V). -/
abbrev xcl : List vw_C := [(RX0, TX0, 6), (RX1, TX1, 11), (RX2, TX2, 3), (RX3, TX3, 10), (RX4, TX4, 28)]
abbrev xty (cy : Nat → ClassId) : List (ClassId × FieldType) := [(cy 0, .int), (cy 1, .long), (cy 2, .boolean), (cy 3, .char), (cy 4, .object "Cranepool$Crane"), (cy 5, .object "Cranepool$Lift"), (cy 6, .object "Cranepool$Pour"), (cy 7, .double)]
abbrev XA : Type := (Nat → Nat) × (Nat → Nat → Nat)
abbrev XV : Type := (Nat → Nat → Nat → Int32) × (Nat → Int64) × (Nat → Int32) × (Nat → Nat → Int32)
abbrev RV : Type := (Nat → Int32) × (Nat → Nat → Int32) × (Nat → Int64)
def xput (V : XV) (kd k f : Nat) (v : Int32) : XV := (va_up V.1 kd (va_up (V.1 kd) k (va_up (V.1 kd k) f v)), V.2)
def xsc (V : XV) (f : Nat) (v : Int32) : XV := (V.1, V.2.1, va_up V.2.2.1 f v, V.2.2.2)
def xrwp (V : XV) (r i : Nat) (v : Int32) : XV := (V.1, V.2.1, V.2.2.1, va_up V.2.2.2 r (upd (V.2.2.2 r) i v))
def rsc (V : RV) (f : Nat) (v : Int32) : RV := (va_up V.1 f v, V.2)
def rar (V : RV) (j i : Nat) (v : Int32) : RV := (V.1, va_up V.2.1 j (upd (V.2.1 j) i v), V.2.2)
def rlg (V : RV) (i : Nat) (v : Int64) : RV := (V.1, V.2.1, vp_updL V.2.2 i v)
def xcrf (V : XV) (k : Nat) : List Value := [.int (V.1 0 k 0), .int (V.1 0 k 1), .int (V.1 0 k 2), .int (V.1 0 k 3), .int (V.1 0 k 4), .int (V.1 0 k 5)]
def xlif (V : XV) (k : Nat) : List Value := [.int (V.1 1 k 0), .int (V.1 1 k 1), .int (V.1 1 k 2), .int (V.1 1 k 3), .int (V.1 1 k 4), .int (V.1 1 k 5), .int (V.1 1 k 6), .long (V.2.1 k), .int (V.1 1 k 8), .int (V.1 1 k 9), .int (V.1 1 k 10)]
def xpof (V : XV) (k : Nat) : List Value := [.int (V.1 2 k 0), .int (V.1 2 k 1), .int (V.1 2 k 2)]
def xrow (a : XA) (n : Nat → Nat) (kd : Nat) : Nat → Option Nat := fun j => (if j < n kd then some j else none).map (a.2 kd)
def xobf (a : XA) (V : XV) : List Value := [.ref (a.1 1), .ref (a.1 2), .ref (a.1 3), .int (V.2.2.1 3), .int (V.2.2.1 4), .int (V.2.2.1 5), .int (V.2.2.1 6), .int (V.2.2.1 7), .ref (a.1 4), .ref (a.1 5)]
def xfix (cy : Nat → ClassId) (a : XA) (n : Nat → Nat) (V : XV) : va_W := [(a.1 0, .inr (3, xobf a V)), (a.1 1, .inl (cy 4, 5, .inr (.inr (.inr (.inr (xrow a n 0)))))), (a.1 2, .inl (cy 5, 40, .inr (.inr (.inr (.inr (xrow a n 1)))))), (a.1 3, .inl (cy 6, 6, .inr (.inr (.inr (.inr (xrow a n 2)))))), (a.1 4, .inl (cy 0, 8, .inl (V.2.2.2 0))), (a.1 5, .inl (cy 0, 1440, .inl (V.2.2.2 1)))]
def xpl0 (a : XA) (n : Nat → Nat) (V : XV) : va_W := (List.range (n 0)).map (fun k => (a.2 0 k, .inr (0, xcrf V k)))
def xpl1 (a : XA) (n : Nat → Nat) (V : XV) : va_W := (List.range (n 1)).map (fun k => (a.2 1 k, .inr (1, xlif V k)))
def xpl2 (a : XA) (n : Nat → Nat) (V : XV) : va_W := (List.range (n 2)).map (fun k => (a.2 2 k, .inr (2, xpof V k)))
def xW (cy : Nat → ClassId) (a : XA) (n : Nat → Nat) (V : XV) : va_W := xfix cy a n V ++ (xpl0 a n V ++ (xpl1 a n V ++ xpl2 a n V))
def robf (b : Nat → Nat) (V : RV) : List Value := [.int (V.1 0), .ref (b 1), .ref (b 2), .ref (b 3), .ref (b 4), .ref (b 5), .ref (b 6), .int (V.1 7), .ref (b 8), .ref (b 9), .ref (b 10), .ref (b 11), .ref (b 12), .ref (b 13), .ref (b 14), .ref (b 15), .ref (b 16), .ref (b 17), .ref (b 18), .int (V.1 19), .ref (b 20), .ref (b 21), .ref (b 22), .ref (b 23), .ref (b 24), .int (V.1 25), .int (V.1 26), .int (V.1 27)]
def rW (cy : Nat → ClassId) (b : Nat → Nat) (V : RV) : va_W := [(b 0, .inr (4, robf b V)), (b 1, .inl (cy 0, 5, .inl (V.2.1 1))), (b 2, .inl (cy 0, 5, .inl (V.2.1 2))), (b 3, .inl (cy 0, 5, .inl (V.2.1 3))), (b 4, .inl (cy 0, 5, .inl (V.2.1 4))), (b 5, .inl (cy 0, 5, .inl (V.2.1 5))), (b 6, .inl (cy 2, 120, .inl (V.2.1 6))), (b 8, .inl (cy 0, 40, .inl (V.2.1 8))), (b 9, .inl (cy 0, 40, .inl (V.2.1 9))), (b 10, .inl (cy 0, 40, .inl (V.2.1 10))), (b 11, .inl (cy 0, 40, .inl (V.2.1 11))), (b 12, .inl (cy 0, 40, .inl (V.2.1 12))), (b 13, .inl (cy 0, 40, .inl (V.2.1 13))), (b 14, .inl (cy 3, 40, .inl (V.2.1 14))), (b 15, .inl (cy 0, 40, .inl (V.2.1 15))), (b 16, .inl (cy 0, 40, .inl (V.2.1 16))), (b 17, .inl (cy 0, 40, .inl (V.2.1 17))), (b 18, .inl (cy 1, 40, .inr (.inl V.2.2))), (b 20, .inl (cy 0, 6, .inl (V.2.1 20))), (b 21, .inl (cy 0, 6, .inl (V.2.1 21))), (b 22, .inl (cy 0, 6, .inl (V.2.1 22))), (b 23, .inl (cy 0, 1441, .inl (V.2.1 23))), (b 24, .inl (cy 0, 8, .inl (V.2.1 24)))]
/-! what the walk's pure functions are written with -/
def ob {α β : Type} (o : Option α) (f : α → Option β) : Option β := match o with
  | none => none
  | some x => f x
def og {β : Type} (c : Prop) [Decidable c] (k : Option β) : Option β := if c then k else none
def oi {β : Type} (c : Prop) [Decidable c] (x y : Option β) : Option β := if c then x else y
def oc {β : Type} (N : Nat) (o : Option Nat) (x : Option β) (y : Nat → Option β) : Option β := match o with
  | none => x
  | some k => if k < N then y k else none
def xref (n : Nat → Nat) (kd : Nat) (i : Int32) : Option Nat := if i.toNatClampNeg < n kd then some i.toNatClampNeg else none
theorem ob_some {α β : Type} {o : Option α} {f : α → Option β} {r : β} (h : ob o f = some r) : ∃ u, o = some u ∧ f u = some r := by
  cases o with
  | none => cases h
  | some u => exact ⟨u, rfl, h⟩
theorem og_some {β : Type} {c : Prop} [Decidable c] {k : Option β} {r : β} (h : og c k = some r) : c ∧ k = some r := by
  unfold og at h
  split at h
  · exact ⟨by assumption, h⟩
  · cases h
theorem oi_t {β : Type} {c : Prop} [Decidable c] {x y : Option β} {r : β} (hc : c) (h : oi c x y = some r) : x = some r := by
  rw [oi, if_pos hc] at h; exact h
theorem oi_f {β : Type} {c : Prop} [Decidable c] {x y : Option β} {r : β} (hc : ¬ c) (h : oi c x y = some r) : y = some r := by
  rw [oi, if_neg hc] at h; exact h
theorem oc_some {β : Type} {N : Nat} {o : Option Nat} {x : Option β} {y : Nat → Option β} {r : β} (h : oc N o x y = some r) : (o = none ∧ x = some r) ∨ ∃ k, k < N ∧ o = some k ∧ y k = some r := by
  cases o with
  | none => exact Or.inl ⟨rfl, h⟩
  | some k =>
    have h : (if k < N then y k else none) = some r := h
    by_cases hk : k < N
    · rw [if_pos hk] at h; exact Or.inr ⟨k, hk, rfl, h⟩
    · rw [if_neg hk] at h; cases h
theorem oc_none' {α : Type} {r : α} {P : Prop} (h : (none : Option α) = some r) : P := by cases h
/-! places -/
section XP
variable {cy : Nat → ClassId} {a : XA} {n : Nat → Nat} {V : XV} {k : Nat}
theorem xpos_cr (hk : k < n 0) : (xW cy a n V)[6 + k]? = some (a.2 0 k, .inr (0, xcrf V k)) := by
  show (xfix cy a n V ++ _)[6 + k]? = _
  rw [List.getElem?_append_right (by show 6 ≤ _; omega)]
  rw [show 6 + k - (xfix cy a n V).length = k from by show 6 + k - 6 = k; omega]
  rw [List.getElem?_append_left (by simp [xpl0]; exact hk)]
  simp [xpl0, hk]
theorem xpos_li (hk : k < n 1) : (xW cy a n V)[6 + (n 0 + k)]? = some (a.2 1 k, .inr (1, xlif V k)) := by
  show (xfix cy a n V ++ _)[6 + (n 0 + k)]? = _
  rw [List.getElem?_append_right (by show 6 ≤ _; omega)]
  rw [show 6 + (n 0 + k) - (xfix cy a n V).length = n 0 + k from by show 6 + (n 0 + k) - 6 = _; omega]
  rw [List.getElem?_append_right (by simp [xpl0])]
  rw [show n 0 + k - (xpl0 a n V).length = k from by simp [xpl0]]
  rw [List.getElem?_append_left (by simp [xpl1]; exact hk)]
  simp [xpl1, hk]
theorem xpos_po (hk : k < n 2) : (xW cy a n V)[6 + (n 0 + (n 1 + k))]? = some (a.2 2 k, .inr (2, xpof V k)) := by
  show (xfix cy a n V ++ _)[6 + (n 0 + (n 1 + k))]? = _
  rw [List.getElem?_append_right (by show 6 ≤ _; omega)]
  rw [show 6 + (n 0 + (n 1 + k)) - (xfix cy a n V).length = n 0 + (n 1 + k) from by show 6 + (n 0 + (n 1 + k)) - 6 = _; omega]
  rw [List.getElem?_append_right (by simp [xpl0])]
  rw [show n 0 + (n 1 + k) - (xpl0 a n V).length = n 1 + k from by simp [xpl0]]
  rw [List.getElem?_append_right (by simp [xpl1])]
  rw [show n 1 + k - (xpl1 a n V).length = k from by simp [xpl1]]
  simp [xpl2, hk]
theorem xinj_li {A : Nat → Prop} (hD : va_D A (xW cy a n V)) {k j : Nat} (hk : k < n 1) (hj : j < n 1) (h : some (a.2 1 k) = some (a.2 1 j)) : k = j := by
  have := hD.1 _ _ _ _ (xpos_li hk) (xpos_li hj) (Option.some.inj h)
  omega
theorem set_map_range {α : Type} (N k : Nat) (f g : Nat → α) (h : ∀ j, j ≠ k → f j = g j) : ((List.range N).map f).set k (g k) = (List.range N).map g := by
  apply List.ext_getElem?
  intro i
  by_cases hi : i < N
  · by_cases hik : i = k
    · subst hik
      rw [List.getElem?_set_self (by simp; exact hi)]
      simp [hi]
    · rw [List.getElem?_set_ne (fun q => hik q.symm)]
      simp [hi, h i hik]
  · rw [List.getElem?_eq_none (by simp; omega), List.getElem?_eq_none (by simp; omega)]
theorem xset_cr (hk : k < n 0) (v : Int32) : (xW cy a n V).set (6 + k) (a.2 0 k, .inr (0, (xcrf V k).set 5 (.int v))) = xW cy a n (xput V 0 k 5 v) := by
  show (xfix cy a n V ++ (xpl0 a n V ++ (xpl1 a n V ++ xpl2 a n V))).set (6 + k) _ = _
  rw [List.set_append_right _ _ (by show 6 ≤ _; omega)]
  rw [show 6 + k - (xfix cy a n V).length = k from by show 6 + k - 6 = k; omega]
  rw [List.set_append_left _ _ (by simp [xpl0]; exact hk)]
  have h0 := set_map_range (n 0) k (fun k => ((a.2 0 k, .inr (0, xcrf V k)) : Nat × va_E)) (fun j => (a.2 0 j, .inr (0, xcrf (xput V 0 k 5 v) j))) (fun j hj => by simp [xcrf, xput, va_up, hj])
  rw [show (a.2 0 k, (Sum.inr (0, (xcrf V k).set 5 (.int v)) : va_E)) = (a.2 0 k, .inr (0, xcrf (xput V 0 k 5 v) k)) from by simp [xcrf, xput, va_up]]
  rw [show (xpl0 a n V).set k (a.2 0 k, .inr (0, xcrf (xput V 0 k 5 v) k)) = xpl0 a n (xput V 0 k 5 v) from h0]
  rfl
theorem xset_li (f : Nat) (hf : f = 8 ∨ f = 9 ∨ f = 10) (hk : k < n 1) (v : Int32) : (xW cy a n V).set (6 + (n 0 + k)) (a.2 1 k, .inr (1, (xlif V k).set f (.int v))) = xW cy a n (xput V 1 k f v) := by
  show (xfix cy a n V ++ (xpl0 a n V ++ (xpl1 a n V ++ xpl2 a n V))).set (6 + (n 0 + k)) _ = _
  rw [List.set_append_right _ _ (by show 6 ≤ _; omega)]
  rw [show 6 + (n 0 + k) - (xfix cy a n V).length = n 0 + k from by show 6 + (n 0 + k) - 6 = _; omega]
  rw [List.set_append_right _ _ (by simp [xpl0])]
  rw [show n 0 + k - (xpl0 a n V).length = k from by simp [xpl0]]
  rw [List.set_append_left _ _ (by simp [xpl1]; exact hk)]
  have h0 := set_map_range (n 1) k (fun k => ((a.2 1 k, .inr (1, xlif V k)) : Nat × va_E)) (fun j => (a.2 1 j, .inr (1, xlif (xput V 1 k f v) j))) (fun j hj => by simp [xlif, xput, va_up, hj])
  rw [show (a.2 1 k, (Sum.inr (1, (xlif V k).set f (.int v)) : va_E)) = (a.2 1 k, .inr (1, xlif (xput V 1 k f v) k)) from by rcases hf with rfl | rfl | rfl <;> simp [xlif, xput, va_up]]
  rw [show (xpl1 a n V).set k (a.2 1 k, .inr (1, xlif (xput V 1 k f v) k)) = xpl1 a n (xput V 1 k f v) from h0]
  rfl
end XP
/-! what a contract asks and says -/
def xI (D : va_G) (cy : Nat → ClassId) (a : XA) (n : Nat → Nat) (V : XV) (U : State) : Prop := va_P D xcl (xW cy a n V) U.heap ∧ va_K D xcl (xty cy) U ∧ va_D (fun _ => True) (xW cy a n V)
def rI (D : va_G) (cy : Nat → ClassId) (b : Nat → Nat) (V : RV) (U : State) : Prop := va_P D xcl (rW cy b V) U.heap ∧ va_K D xcl (xty cy) U ∧ va_D (fun _ => True) (rW cy b V)
def zT (_ : State) : Prop := True
theorem zT_blind {av : List Value} : FrameBlind (va_Pc av zT) := fun _ _ _ _ q => q
theorem zT_at {s : State} {H : Heap} {av : List Value} : ∀ U : State, U.heap = H → s.WarmedH U.vm → va_Pc av zT av.toArray U := fun _ _ _ => ⟨rfl, trivial⟩
section XI
variable {D : va_G} {cy : Nat → ClassId} {a : XA} {b : Nat → Nat} {n : Nat → Nat} {av : List Value} {s : State} {H : Heap} {A : Nat → Prop}
theorem xI_blind {V : XV} : FrameBlind (va_Pc av (xI D cy a n V)) := fun a' U g mk q => by
  obtain ⟨q0, qP, qK, qD⟩ := q
  exact ⟨q0, qP, va_K.moved (u := U) (U := U.calling g mk a') (Vm.Alike.refl U.vm) qK, qD⟩
theorem xI_at {V : XV} (hP : va_P D xcl (xW cy a n V) H) (hK : va_K D xcl (xty cy) s) (hD : va_D A (xW cy a n V)) : ∀ U : State, U.heap = H → s.WarmedH U.vm → va_Pc av (xI D cy a n V) av.toArray U :=
  fun U hU hW => ⟨rfl, by rw [hU]; exact hP, va_K.moved hW.alike hK, hD.weaken (fun _ _ _ _ => trivial)⟩
theorem rI_blind {V : RV} : FrameBlind (va_Pc av (rI D cy b V)) := fun a' U g mk q => by
  obtain ⟨q0, qP, qK, qD⟩ := q
  exact ⟨q0, qP, va_K.moved (u := U) (U := U.calling g mk a') (Vm.Alike.refl U.vm) qK, qD⟩
theorem rI_at {V : RV} (hP : va_P D xcl (rW cy b V) H) (hK : va_K D xcl (xty cy) s) (hD : va_D A (rW cy b V)) : ∀ U : State, U.heap = H → s.WarmedH U.vm → va_Pc av (rI D cy b V) av.toArray U :=
  fun U hU hW => ⟨rfl, by rw [hU]; exact hP, va_K.moved hW.alike hK, hD.weaken (fun _ _ _ _ => trivial)⟩
def zJ (sz : Nat) (I : State → Prop) (U : State) : Prop := U.heap.size = sz ∧ I U
theorem zJ_blind {sz : Nat} {I : State → Prop} (h : FrameBlind (va_Pc av I)) : FrameBlind (va_Pc av (zJ sz I)) := fun a' U g mk q => ⟨q.1, q.2.1, (h a' U g mk ⟨q.1, q.2.2⟩).2⟩
theorem zJ_at {I : State → Prop} (h : ∀ U : State, U.heap = H → s.WarmedH U.vm → va_Pc av I av.toArray U) : ∀ U : State, U.heap = H → s.WarmedH U.vm → va_Pc av (zJ H.size I) av.toArray U :=
  fun U hU hW => ⟨rfl, by rw [hU], (h U hU hW).2⟩
theorem z_free {ws : va_W} {H0 : Heap} {locs : List Loc} (hD : va_D A ws) (hS : va_S A H0 H locs) (hA : ∀ q, H0.size ≤ q → A q) : ∀ q, va_A ws H.size q → A q := by
  intro q h
  rcases h with ⟨k, e, h⟩ | h
  · exact hD.2 k _ h
  · exact hA q (Nat.le_trans hS.1 h)
end XI
/-! rows of calls whose answer is known -/
section ZC
variable {p : Program} {l : Launch} {e : Env} {R : Room} {s : State} {m : MethodId} {args : Array Value} {below : List Frame} {meth : Method} {c : Code} {H : Heap} {locs : List Loc} {cells slots : Nat} {Q : State → Prop}
variable {pc : Nat} {ls : Array Slot} {rest st0 : List Value} {a : Array Value} {A0 A1 : Nat → Prop} {H0 : Heap} {mc ms : Nat} {D : va_G}
theorem zcSi {v : Int32} (hr : CallRun p l e R s m args below meth c H locs cells slots 0 0 (F0 m pc ls st0) rest (vp_Si (fun r => r = v) a) (fun _ => False)) (kk : W p l e R s m args below meth c H locs cells slots Q (F0 m (pc + 3) ls (.int v :: rest))) : W p l e R s m args below meth c H locs cells slots Q (F0 m pc ls st0) :=
  vp_callSi hr (fun r h => by rw [h]; exact kk)
theorem zcSl {v : Int64} (hr : CallRun p l e R s m args below meth c H locs cells slots 0 0 (F0 m pc ls st0) rest (vp_Sl (fun r => r = v) a) (fun _ => False)) (kk : W p l e R s m args below meth c H locs cells slots Q (F0 m (pc + 3) ls (.long v :: rest))) : W p l e R s m args below meth c H locs cells slots Q (F0 m pc ls st0) :=
  vp_callSl hr (fun r h => by rw [h]; exact kk)
theorem zcSqn {o : Option Nat} {f : Nat → Nat} (hr : CallRun p l e R s m args below meth c H locs cells slots 0 0 (F0 m pc ls st0) rest (va_Sq (fun r => r = o.map f) a) (fun _ => False)) (ho : o = none) (kk : W p l e R s m args below meth c H locs cells slots Q (F0 m (pc + 3) ls (.null :: rest))) : W p l e R s m args below meth c H locs cells slots Q (F0 m pc ls st0) :=
  va_csq hr (fun r h => by rw [h, ho]; exact kk)
theorem zcSqs {o : Option Nat} {f : Nat → Nat} {k : Nat} (hr : CallRun p l e R s m args below meth c H locs cells slots 0 0 (F0 m pc ls st0) rest (va_Sq (fun r => r = o.map f) a) (fun _ => False)) (ho : o = some k) (kk : W p l e R s m args below meth c H locs cells slots Q (F0 m (pc + 3) ls (.ref (f k) :: rest))) : W p l e R s m args below meth c H locs cells slots Q (F0 m pc ls st0) :=
  va_csq hr (fun r h => by rw [h, ho]; exact kk)
theorem zcWi {v : Int32} {w1 : va_W} (hr : va_Run p l e R s m args below meth c H locs cells slots mc ms (F0 m pc ls st0) rest (va_Qi (fun r (_ : Unit) => r = v) (fun _ t => va_P D xcl w1 t.heap ∧ va_D A1 w1) A1 a) A1) (hS : va_S A0 H0 H locs) (hA : ∀ q, A1 q → A0 q)
    (kk : ∀ (H1 : Heap) (locs1 : List Loc), va_P D xcl w1 H1 → va_D A0 w1 → va_S A0 H0 H1 locs1 → W p l e R s m args below meth c H1 locs1 (cells + mc) (slots + ms) Q (F0 m (pc + 3) ls (.int v :: rest))) : W p l e R s m args below meth c H locs cells slots Q (F0 m pc ls st0) :=
  va_calli hr hS (fun q _ h => hA q h) hA (fun r u t H1 locs1 ht _ hw hB _ _ hS1 => by
    rw [hw]; exact kk H1 locs1 (by rw [← ht]; exact hB.1) (hB.2.weaken (fun _ q _ h => hA q.1 h)) hS1)
theorem zcWl {v : Int64} {w1 : va_W} (hr : va_Run p l e R s m args below meth c H locs cells slots mc ms (F0 m pc ls st0) rest (va_Ql (fun r (_ : Unit) => r = v) (fun _ t => va_P D xcl w1 t.heap ∧ va_D A1 w1) A1 a) A1) (hS : va_S A0 H0 H locs) (hA : ∀ q, A1 q → A0 q)
    (kk : ∀ (H1 : Heap) (locs1 : List Loc), va_P D xcl w1 H1 → va_D A0 w1 → va_S A0 H0 H1 locs1 → W p l e R s m args below meth c H1 locs1 (cells + mc) (slots + ms) Q (F0 m (pc + 3) ls (.long v :: rest))) : W p l e R s m args below meth c H locs cells slots Q (F0 m pc ls st0) :=
  va_calll hr hS (fun q _ h => hA q h) hA (fun r u t H1 locs1 ht _ hw hB _ _ hS1 => by
    rw [hw]; exact kk H1 locs1 (by rw [← ht]; exact hB.1) (hB.2.weaken (fun _ q _ h => hA q.1 h)) hS1)
theorem zcWv {w1 : va_W} (hr : va_Run p l e R s m args below meth c H locs cells slots mc ms (F0 m pc ls st0) rest (va_Qv (fun (_ : Unit) => True) (fun _ t => va_P D xcl w1 t.heap ∧ va_D A1 w1) A1 a) A1) (hS : va_S A0 H0 H locs) (hA : ∀ q, A1 q → A0 q)
    (kk : ∀ (H1 : Heap) (locs1 : List Loc), va_P D xcl w1 H1 → va_D A0 w1 → va_S A0 H0 H1 locs1 → W p l e R s m args below meth c H1 locs1 (cells + mc) (slots + ms) Q (F0 m (pc + 3) ls rest)) : W p l e R s m args below meth c H locs cells slots Q (F0 m pc ls st0) :=
  va_callv hr hS (fun q _ h => hA q h) hA (fun u t H1 locs1 ht _ _ hB _ _ hS1 => kk H1 locs1 (by rw [← ht]; exact hB.1) (hB.2.weaken (fun _ q _ h => hA q.1 h)) hS1)
variable {cc : ByteArray} {cy : Nat → ClassId} {ax : XA} {n : Nat → Nat} {V : XV}
theorem zaldn (hexec : p.tables.exec = Jvm.exec) (hb : c.code = cc) (hK : va_K D xcl (xty cy) s) {ws : va_W} (hP : va_P D xcl ws H) (q0 t0 : Nat) {ad : Nat} {cA : ClassId} {C : String} {N kd : Nat} (ha : ws[q0]? = some (ad, .inl (cA, N, .inr (.inr (.inr (.inr (xrow ax n kd))))))) (ht : (xty cy)[t0]? = some (cA, .object C)) {i : Int32} (hin : vp_in i N) (ho : xref n kd i = none) (hdg : decode cc pc = .ok (.aaload, 1))
    (kk : W p l e R s m args below meth c H locs cells slots Q (F0 m (pc + 1) ls (.null :: rest))) : W p l e R s m args below meth c H locs cells slots Q (F0 m pc ls (.int i :: .ref ad :: rest)) := by
  refine va_aldq hexec hb hK hP q0 t0 ha ht hin hdg ?_
  rw [show xrow ax n kd i.toNatClampNeg = (xref n kd i).map (ax.2 kd) from rfl, ho]
  exact kk
theorem zalds (hexec : p.tables.exec = Jvm.exec) (hb : c.code = cc) (hK : va_K D xcl (xty cy) s) {ws : va_W} (hP : va_P D xcl ws H) (q0 t0 : Nat) {ad k : Nat} {cA : ClassId} {C : String} {N kd : Nat} (ha : ws[q0]? = some (ad, .inl (cA, N, .inr (.inr (.inr (.inr (xrow ax n kd))))))) (ht : (xty cy)[t0]? = some (cA, .object C)) {i : Int32} (hin : vp_in i N) (ho : xref n kd i = some k) (hdg : decode cc pc = .ok (.aaload, 1))
    (kk : W p l e R s m args below meth c H locs cells slots Q (F0 m (pc + 1) ls (.ref (ax.2 kd k) :: rest))) : W p l e R s m args below meth c H locs cells slots Q (F0 m pc ls (.int i :: .ref ad :: rest)) := by
  refine va_aldq hexec hb hK hP q0 t0 ha ht hin hdg ?_
  rw [show xrow ax n kd i.toNatClampNeg = (xref n kd i).map (ax.2 kd) from rfl, ho]
  exact kk
end ZC
def FU : Nat := 2000
/-! methods that throw -/
def xnm : Nat → String
  | 1 => "java/lang/IllegalArgumentException"
  | 2 => "java/lang/IllegalStateException"
  | 3 => "java/util/NoSuchElementException"
  | 4 => "java/lang/UnsupportedOperationException"
  | 5 => "java/lang/ArithmeticException"
  | _ => ""
def xBk (E : String) : List Cond := [.castable E E, .declares (Bundle.init0 "java/lang/RuntimeException"), .declares (Bundle.init0 "java/lang/Exception"), .declares (Bundle.init0 "java/lang/Throwable")]
def xN (U : State) : Prop := (va_Nw (.castable "java/lang/IllegalArgumentException" "java/lang/IllegalArgumentException") U ∧ va_Nw (.castable "java/lang/IllegalStateException" "java/lang/IllegalStateException") U ∧ va_Nw (.castable "java/util/NoSuchElementException" "java/util/NoSuchElementException") U ∧ va_Nw (.castable "java/lang/UnsupportedOperationException" "java/lang/UnsupportedOperationException") U ∧ va_Nw (.castable "java/lang/ArithmeticException" "java/lang/ArithmeticException") U) ∧ va_Nw (.declares (Bundle.init0 "java/lang/RuntimeException")) U ∧ va_Nw (.declares (Bundle.init0 "java/lang/Exception")) U ∧ va_Nw (.declares (Bundle.init0 "java/lang/Throwable")) U ∧ va_Nw (.methodLinkNest RX1 43 yX3_airBetween RX3) U
theorem xN_warm {s U : State} (hW : s.WarmedH U.vm) (h : xN s) : xN U :=
  ⟨⟨va_Nw.warmC hW h.1.1, va_Nw.warmC hW h.1.2.1, va_Nw.warmC hW h.1.2.2.1, va_Nw.warmC hW h.1.2.2.2.1, va_Nw.warmC hW h.1.2.2.2.2⟩, va_Nw.warmD hW h.2.1, va_Nw.warmD hW h.2.2.1, va_Nw.warmD hW h.2.2.2.1, va_Nw.warmM hW h.2.2.2.2⟩
theorem xNB_1 {s : State} (h : xN s) (args : Array Value) : ∀ w ∈ xBk "java/lang/IllegalArgumentException", w.before args s = true := vx_c (va_Nw.use rfl h.1.1) (vx_c (va_Nw.use rfl h.2.1) (vx_c (va_Nw.use rfl h.2.2.1) (vx_c (va_Nw.use rfl h.2.2.2.1) vx_n)))
theorem xNB_2 {s : State} (h : xN s) (args : Array Value) : ∀ w ∈ xBk "java/lang/IllegalStateException", w.before args s = true := vx_c (va_Nw.use rfl h.1.2.1) (vx_c (va_Nw.use rfl h.2.1) (vx_c (va_Nw.use rfl h.2.2.1) (vx_c (va_Nw.use rfl h.2.2.2.1) vx_n)))
theorem xNB_3 {s : State} (h : xN s) (args : Array Value) : ∀ w ∈ xBk "java/util/NoSuchElementException", w.before args s = true := vx_c (va_Nw.use rfl h.1.2.2.1) (vx_c (va_Nw.use rfl h.2.1) (vx_c (va_Nw.use rfl h.2.2.1) (vx_c (va_Nw.use rfl h.2.2.2.1) vx_n)))
theorem xNB_4 {s : State} (h : xN s) (args : Array Value) : ∀ w ∈ xBk "java/lang/UnsupportedOperationException", w.before args s = true := vx_c (va_Nw.use rfl h.1.2.2.2.1) (vx_c (va_Nw.use rfl h.2.1) (vx_c (va_Nw.use rfl h.2.2.1) (vx_c (va_Nw.use rfl h.2.2.2.1) vx_n)))
theorem xNB_5 {s : State} (h : xN s) (args : Array Value) : ∀ w ∈ xBk "java/lang/ArithmeticException", w.before args s = true := vx_c (va_Nw.use rfl h.1.2.2.2.2) (vx_c (va_Nw.use rfl h.2.1) (vx_c (va_Nw.use rfl h.2.2.1) (vx_c (va_Nw.use rfl h.2.2.2.1) vx_n)))
def zZ (A : Nat → Prop) (U : State) : Prop := xN U ∧ vx_Zq Bundle.tN "UNASSIGNED_STACK" Bundle.steD A U U.heap ∧ vx_Zq Bundle.tN "SUPPRESSED_SENTINEL" Bundle.listD A U U.heap
def zX (sz : Nat) (A : Nat → Prop) (I : State → Prop) (U : State) : Prop := U.heap.size = sz ∧ zZ A U ∧ I U
def zN (A : Nat → Prop) (c : Code) (s : State) : Prop := xN s ∧ vx_Zq Bundle.tN "UNASSIGNED_STACK" Bundle.steD A s s.heap ∧ vx_Zq Bundle.tN "SUPPRESSED_SENTINEL" Bundle.listD A s s.heap ∧ ∀ x ∈ c.exceptionTable.toList, False
theorem zP_kept {D : va_G} {cl : List vw_C} {ws : va_W} {H H1 : Heap} (hP : va_P D cl ws H) (hk : ∀ q : Nat, q < H.size → H1[q]? = H[q]?) : va_P D cl ws H1 := hP.kept (fun k q h => hk q.1 (hP k q h).lt)
theorem zF_kept {A : Nat → Prop} {s t : State} {H : Heap} {locs : List Loc} (hS : va_S A s.heap H locs) (hz : H.size ≤ t.heap.size) (hk : ∀ q : Nat, q < H.size → t.heap[q]? = H[q]?) : va_F A s t :=
  ⟨Nat.le_trans hS.1 hz, fun q h1 h2 => (hk q (Nat.lt_of_lt_of_le h1 hS.1)).trans (hS.2.1 q h1 h2)⟩
