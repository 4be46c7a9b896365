/-! what the law's wrappers ask: the row of one answer ahead of the class's world -/
def xC (U : State) : Prop := ∀ i j : Nat, (1 ≤ i ∧ i ≤ 5 ∧ 1 ≤ j ∧ j ≤ 5 ∧ i ≠ j) → va_Nc (xnm i) (xnm j) U
theorem xC_moved {u U : State} (hvm : u.vm.Alike U.vm) (h : xC u) : xC U := fun i j hij => (h i j hij).moved hvm
def lI (D : va_G) (cy : Nat → ClassId) (a : XA) (n : Nat → Nat) (V : XV) (oc : Nat × va_E) (U : State) : Prop := xC U ∧ va_P D xcl (oc :: xW cy a n V) U.heap ∧ va_K D xcl (xty cy) U ∧ va_D (fun _ => True) (oc :: xW cy a n V)
theorem lP_tail {D : va_G} {cl : List vw_C} {q : Nat × va_E} {ws : va_W} {H : Heap} (h : va_P D cl (q :: ws) H) : va_P D cl ws H := fun k x hk => h (k + 1) x (by rw [List.getElem?_cons_succ]; exact hk)
theorem lD_tail {A : Nat → Prop} {q : Nat × va_E} {ws : va_W} (h : va_D A (q :: ws)) : va_D A ws :=
  ⟨fun i j p r hi hj e => by have := h.1 (i + 1) (j + 1) p r (by rw [List.getElem?_cons_succ]; exact hi) (by rw [List.getElem?_cons_succ]; exact hj) e; omega, fun k x hk => h.2 (k + 1) x (by rw [List.getElem?_cons_succ]; exact hk)⟩
theorem lZ_narrow {A B : Nat → Prop} {s : State} (h : zZ A s) (hAB : ∀ q, B q → A q) : zZ B s := ⟨h.1, h.2.1.narrow hAB, h.2.2.narrow hAB⟩
theorem zZ_at {A : Nat → Prop} {s U : State} (hW : s.WarmedH U.vm) (hU : U.heap = s.heap) (h : zZ A s) : zZ A U := by
  refine ⟨xN_warm hW h.1, ?_, ?_⟩
  · rw [hU]; exact h.2.1.moved hW.alike
  · rw [hU]; exact h.2.2.moved hW.alike
theorem zX_blind {av : List Value} {sz : Nat} {A : Nat → Prop} {I : State → Prop} (h : FrameBlind (va_Pc av I)) : FrameBlind (va_Pc av (zX sz A I)) := fun a' U g mk q =>
  ⟨q.1, q.2.1, zZ_at (s := U) (U := U.calling g mk a') (State.WarmedH.refl U) rfl q.2.2.1, (h a' U g mk ⟨q.1, q.2.2.2⟩).2⟩
theorem zX_at {av : List Value} {s : State} {A : Nat → Prop} {I : State → Prop} (hZ : zZ A s) (h : ∀ U : State, U.heap = s.heap → s.WarmedH U.vm → va_Pc av I av.toArray U) : ∀ U : State, U.heap = s.heap → s.WarmedH U.vm → va_Pc av (zX s.heap.size A I) av.toArray U :=
  fun U hU hW => ⟨rfl, by rw [hU], zZ_at hW hU hZ, (h U hU hW).2⟩
theorem z_ofWH {l : Launch} {y : MethodName} {ws ws' : List Cond} {rm : Room} {Pc : Array Value → State → Prop} {Qc : Array Value → State → Outcome → State → Prop} {mc ms : Nat} {free : Addr → Prop} {cc : ByteArray} {maxL : Nat} {ret : Option FieldType} {hh : List (Nat × Nat × Nat × Nat)}
    (hy : plainName y.cls = true) (hw : ws = Cond.codeWith y cc maxL ret hh :: ws')
    (body : ∀ p e s m args below meth c s₁, BodyLoose p l y (headSpec ws rm) cc maxL ret e s m args below meth c s₁ → c.maxLocals = maxL → Pc args s →
      W p l e (headSpec ws rm).room s m args below meth c s.heap [] 0 0 (MQ below Qc args s mc ms free) (entryFrame m args maxL)) : Met l y ws rm Pc Qc mc ms free := by
  refine MetFree.of_bodyS (code := cc) (maxLocals := maxL) (ret := ret) hy ?_ ?_
  · intro args s m h hn
    obtain ⟨m9, meth, c, hn9, h1, h2, h3, h4, -, h5, h6, -⟩ := Cond.codeWith_spec (atoms_spec (ws := ws) h _ (by rw [hw]; exact List.mem_cons_self))
    cases hn.symm.trans hn9
    exact ⟨meth, c, h1, h2, h3, h4, h5, h6⟩
  · intro p e s m args below meth c s₁ B hml hP _
    have hh0 : s₁.heap = s.heap := by rw [B.state]; rfl
    obtain ⟨t, a1, o, b1, b2, b3⟩ := body p e s m args below meth c s₁ B hml hP s₁ hh0 (Stand.of_body B)
    exact ⟨t, o, a1, b1, b2, b3⟩
