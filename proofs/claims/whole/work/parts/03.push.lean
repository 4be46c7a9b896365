/-! making objects: the world with one object more, wherever it stands -/
theorem z_join {A0 : Nat → Prop} {D : va_G} {cl : List vw_C} {ws wc w1 : va_W} {H H1 : Heap} (hP : va_P D cl (ws ++ wc) H) (hD : va_D A0 (ws ++ wc)) (hk : ∀ q : Nat, q < H.size → ¬ va_A wc H.size q → H1[q]? = H[q]?) (hF : ∀ q, va_A wc H.size q → A0 q) (hP1 : va_P D cl w1 H1) (hD1 : va_D (va_A wc H.size) w1) : va_P D cl (ws ++ w1) H1 ∧ va_D A0 (ws ++ w1) := by
  have hpos : ∀ (k : Nat) (q : Nat × va_E), ws[k]? = some q → (ws ++ wc)[k]? = some q := fun k q hk => by
    rw [List.getElem?_append_left (List.getElem?_eq_some_iff.mp hk).1]; exact hk
  have hpos2 : ∀ (k : Nat) (q : Nat × va_E), wc[k]? = some q → (ws ++ wc)[ws.length + k]? = some q := fun k q hk => by
    rw [List.getElem?_append_right (Nat.le_add_right _ _), Nat.add_sub_cancel_left]; exact hk
  have apart : ∀ (k : Nat) (q : Nat × va_E), ws[k]? = some q → q.1 < H.size ∧ ¬ va_A wc H.size q.1 := by
    intro k q hq
    have hl := (hP k q (hpos k q hq)).lt
    refine ⟨hl, fun h => ?_⟩
    rcases h with ⟨k2, e, h⟩ | h
    · have h1 := hD.1 k (ws.length + k2) q (q.1, e) (hpos k q hq) (hpos2 k2 _ h) rfl
      have h2 := (List.getElem?_eq_some_iff.mp hq).1
      omega
    · omega
  refine ⟨va_P.app (fun k q hq => (hP k q (hpos k q hq)).kept (hk q.1 (apart k q hq).1 (apart k q hq).2)) hP1, va_D.app ⟨fun i j p q hi hj h => hD.1 i j p q (hpos i p hi) (hpos j q hj) h, fun k q hq => hD.2 k q (hpos k q hq)⟩ (hD1.weaken (fun k q _ h => hF q.1 h)) (fun i j p q hp hq h => (apart i p hp).2 (by rw [h]; exact hD1.2 j q hq))⟩
theorem zP_perm {D : va_G} {cl : List vw_C} {ws w1 : va_W} {H : Heap} (h : ws.Perm w1) (hP : va_P D cl ws H) : va_P D cl w1 H := fun k q hk => by
  obtain ⟨i, hi⟩ := List.getElem?_of_mem (h.mem_iff.mpr (List.mem_of_getElem? hk))
  exact hP i q hi
theorem zD_nd {A : Nat → Prop} {ws : va_W} : va_D A ws ↔ (ws.map Prod.fst).Nodup ∧ ∀ q ∈ ws, A q.1 := by
  constructor
  · intro h
    refine ⟨?_, fun q hq => ?_⟩
    · rw [List.Nodup, List.pairwise_iff_getElem]
      intro i j hi hj hij he
      simp only [List.length_map] at hi hj
      simp only [List.getElem_map] at he
      have := h.1 i j ws[i] ws[j] (List.getElem?_eq_getElem hi) (List.getElem?_eq_getElem hj) he
      omega
    · obtain ⟨i, hi⟩ := List.getElem?_of_mem hq
      exact h.2 i q hi
  · rintro ⟨h1, h2⟩
    rw [List.Nodup, List.pairwise_iff_getElem] at h1
    refine ⟨fun i j p q hi hj hpq => ?_, fun k q hk => h2 q (List.mem_of_getElem? hk)⟩
    obtain ⟨li, ei⟩ := List.getElem?_eq_some_iff.mp hi
    obtain ⟨lj, ej⟩ := List.getElem?_eq_some_iff.mp hj
    rcases Nat.lt_trichotomy i j with h | h | h
    · have hne := h1 i j (by simpa using li) (by simpa using lj) h
      exact absurd (by simp only [List.getElem_map]; rw [ei, ej]; exact hpq) hne
    · exact h
    · have hne := h1 j i (by simpa using lj) (by simpa using li) h
      exact absurd (by simp only [List.getElem_map]; rw [ei, ej]; exact hpq.symm) hne
theorem zD_perm {A : Nat → Prop} {ws w1 : va_W} (h : ws.Perm w1) (hD : va_D A ws) : va_D A w1 := by
  rw [zD_nd] at hD ⊢
  exact ⟨(h.map Prod.fst).nodup_iff.mp hD.1, fun q hq => hD.2 q (h.mem_iff.mpr hq)⟩
def nup (n : Nat → Nat) (kd : Nat) : Nat → Nat := va_up n kd (n kd + 1)
def aup (a : XA) (kd k q : Nat) : XA := (a.1, va_up a.2 kd (va_up (a.2 kd) k q))
def xnew (V : XV) (kd k : Nat) (g : Nat → Int32) : XV := (va_up V.1 kd (va_up (V.1 kd) k g), V.2)
def xnai (V : XV) (k : Nat) (v : Int64) : XV := (V.1, va_up V.2.1 k v, V.2.2)
theorem xrow_up (a : XA) (n : Nat → Nat) (kd q : Nat) : xrow (aup a kd (n kd) q) (nup n kd) kd = va_up (xrow a n kd) (n kd) (some q) := by
  funext j
  by_cases h : j = n kd
  · subst h; simp [xrow, aup, nup, va_up]
  · by_cases h2 : j < n kd
    · have h3 : j < n kd + 1 := by omega
      simp [xrow, aup, nup, va_up, h, h2, h3]
    · have h3 : ¬ j < n kd + 1 := by omega
      simp [xrow, aup, nup, va_up, h, h2, h3]
section XU
variable {cy : Nat → ClassId} {a : XA} {n : Nat → Nat} {V : XV} {q : Nat}
theorem xpl0_up (g : Nat → Int32) : xpl0 (aup a 0 (n 0) q) (nup n 0) (xnew V 0 (n 0) g) = xpl0 a n V ++ [(q, .inr (0, [.int (g 0), .int (g 1), .int (g 2), .int (g 3), .int (g 4), .int (g 5)]))] := by
  show (List.range (n 0 + 1)).map _ = _
  rw [List.range_succ, List.map_append]
  congr 1
  · refine List.map_congr_left (fun k hk => ?_)
    have hk : k ≠ n 0 := by have := List.mem_range.mp hk; omega
    simp [aup, xnew, va_up, xcrf, hk]
  · simp [aup, xnew, va_up, xcrf]
theorem xpl1_up (g : Nat → Int32) (v : Int64) : xpl1 (aup a 1 (n 1) q) (nup n 1) (xnai (xnew V 1 (n 1) g) (n 1) v) = xpl1 a n V ++ [(q, .inr (1, [.int (g 0), .int (g 1), .int (g 2), .int (g 3), .int (g 4), .int (g 5), .int (g 6), .long v, .int (g 8), .int (g 9), .int (g 10)]))] := by
  show (List.range (n 1 + 1)).map _ = _
  rw [List.range_succ, List.map_append]
  congr 1
  · refine List.map_congr_left (fun k hk => ?_)
    have hk : k ≠ n 1 := by have := List.mem_range.mp hk; omega
    simp [aup, xnew, xnai, va_up, xlif, hk]
  · simp [aup, xnew, xnai, va_up, xlif]
theorem xpl2_up (g : Nat → Int32) : xpl2 (aup a 2 (n 2) q) (nup n 2) (xnew V 2 (n 2) g) = xpl2 a n V ++ [(q, .inr (2, [.int (g 0), .int (g 1), .int (g 2)]))] := by
  show (List.range (n 2 + 1)).map _ = _
  rw [List.range_succ, List.map_append]
  congr 1
  · refine List.map_congr_left (fun k hk => ?_)
    have hk : k ≠ n 2 := by have := List.mem_range.mp hk; omega
    simp [aup, xnew, va_up, xpof, hk]
  · simp [aup, xnew, va_up, xpof]
theorem xperm0 (g : Nat → Int32) : ((xW cy a n V ++ ([(q, .inr (0, [.int (g 0), .int (g 1), .int (g 2), .int (g 3), .int (g 4), .int (g 5)]))] : va_W)).set 1 (a.1 1, .inl (cy 4, 5, .inr (.inr (.inr (.inr (va_up (xrow a n 0) (n 0) (some q)))))))).Perm (xW cy (aup a 0 (n 0) q) (nup n 0) (xnew V 0 (n 0) g)) := by
  rw [← xrow_up]
  show (xfix cy (aup a 0 (n 0) q) (nup n 0) (xnew V 0 (n 0) g) ++ ((xpl0 a n V ++ (xpl1 a n V ++ xpl2 a n V)) ++ [_])).Perm (xfix cy (aup a 0 (n 0) q) (nup n 0) (xnew V 0 (n 0) g) ++ (xpl0 (aup a 0 (n 0) q) (nup n 0) (xnew V 0 (n 0) g) ++ (xpl1 a n V ++ xpl2 a n V)))
  rw [xpl0_up]
  simp only [List.append_assoc]
  refine List.Perm.append_left _ (List.Perm.append_left _ ?_)
  rw [← List.append_assoc]
  exact List.perm_append_comm
theorem xperm1 (g : Nat → Int32) (v : Int64) : ((xW cy a n V ++ ([(q, .inr (1, [.int (g 0), .int (g 1), .int (g 2), .int (g 3), .int (g 4), .int (g 5), .int (g 6), .long v, .int (g 8), .int (g 9), .int (g 10)]))] : va_W)).set 2 (a.1 2, .inl (cy 5, 40, .inr (.inr (.inr (.inr (va_up (xrow a n 1) (n 1) (some q)))))))).Perm (xW cy (aup a 1 (n 1) q) (nup n 1) (xnai (xnew V 1 (n 1) g) (n 1) v)) := by
  rw [← xrow_up]
  show (xfix cy (aup a 1 (n 1) q) (nup n 1) (xnai (xnew V 1 (n 1) g) (n 1) v) ++ ((xpl0 a n V ++ (xpl1 a n V ++ xpl2 a n V)) ++ [_])).Perm (xfix cy (aup a 1 (n 1) q) (nup n 1) (xnai (xnew V 1 (n 1) g) (n 1) v) ++ (xpl0 a n V ++ (xpl1 (aup a 1 (n 1) q) (nup n 1) (xnai (xnew V 1 (n 1) g) (n 1) v) ++ xpl2 a n V)))
  rw [xpl1_up]
  simp only [List.append_assoc]
  refine List.Perm.append_left _ (List.Perm.append_left _ (List.Perm.append_left _ ?_))
  exact List.perm_append_comm
theorem xperm2 (g : Nat → Int32) : ((xW cy a n V ++ ([(q, .inr (2, [.int (g 0), .int (g 1), .int (g 2)]))] : va_W)).set 3 (a.1 3, .inl (cy 6, 6, .inr (.inr (.inr (.inr (va_up (xrow a n 2) (n 2) (some q)))))))).Perm (xW cy (aup a 2 (n 2) q) (nup n 2) (xnew V 2 (n 2) g)) := by
  rw [← xrow_up]
  show (xfix cy (aup a 2 (n 2) q) (nup n 2) (xnew V 2 (n 2) g) ++ ((xpl0 a n V ++ (xpl1 a n V ++ xpl2 a n V)) ++ [_])).Perm (xfix cy (aup a 2 (n 2) q) (nup n 2) (xnew V 2 (n 2) g) ++ (xpl0 a n V ++ (xpl1 a n V ++ xpl2 (aup a 2 (n 2) q) (nup n 2) (xnew V 2 (n 2) g))))
  rw [xpl2_up]
  simp only [List.append_assoc]
  exact List.Perm.refl _
end XU
def gC (p1 p2 p3 p4 p5 : Int32) : Nat → Int32 := fun f => match f with
  | 0 => p1
  | 1 => p2
  | 2 => p3
  | 3 => p4
  | 4 => p5
  | _ => 0
def gL (p1 p2 p3 p4 p5 p6 p7 : Int32) : Nat → Int32 := fun f => match f with
  | 0 => p1
  | 1 => p2
  | 2 => p3
  | 3 => p4
  | 4 => p5
  | 5 => p6
  | 6 => p7
  | 8 => 119
  | 9 => -1
  | 10 => -1
  | _ => 0
def gP (p1 p2 p3 : Int32) : Nat → Int32 := fun f => match f with
  | 0 => p1
  | 1 => p2
  | _ => p3
def cI (D : va_G) (cy : Nat → ClassId) (ws : va_W) (U : State) : Prop := va_P D xcl ws U.heap ∧ va_K D xcl (xty cy) U ∧ va_D (fun _ => True) ws
def nI1 (I : State → Prop) (U : State) : Prop := va_Nw (.methodLinkNest RX1 43 yX3_airBetween RX3) U ∧ I U
section CI
variable {D : va_G} {cy : Nat → ClassId} {av : List Value} {s : State} {H : Heap} {A : Nat → Prop} {ws : va_W} {I : State → Prop}
theorem cI_blind : FrameBlind (va_Pc av (cI D cy ws)) := fun a' U g mk q => by
  obtain ⟨q0, qP, qK, qD⟩ := q
  exact ⟨q0, qP, va_K.moved (u := U) (U := U.calling g mk a') (Vm.Alike.refl U.vm) qK, qD⟩
theorem cI_at (hP : va_P D xcl ws H) (hK : va_K D xcl (xty cy) s) (hD : va_D A ws) : ∀ U : State, U.heap = H → s.WarmedH U.vm → va_Pc av (cI D cy ws) av.toArray U :=
  fun U hU hW => ⟨rfl, by rw [hU]; exact hP, va_K.moved hW.alike hK, hD.weaken (fun _ _ _ _ => trivial)⟩
theorem nI1_blind (h : FrameBlind (va_Pc av I)) : FrameBlind (va_Pc av (nI1 I)) := fun a' U g mk q => ⟨q.1, va_Nw.warmM (s := U) (U := U.calling g mk a') (State.WarmedH.refl U) q.2.1, (h a' U g mk ⟨q.1, q.2.2⟩).2⟩
theorem nI1_at (hN : xN s) (h : ∀ U : State, U.heap = H → s.WarmedH U.vm → va_Pc av I av.toArray U) : ∀ U : State, U.heap = H → s.WarmedH U.vm → va_Pc av (nI1 I) av.toArray U :=
  fun U hU hW => ⟨rfl, va_Nw.warmM hW hN.2.2.2.2, (h U hU hW).2⟩
theorem zP_last {x : Nat × va_E} (h : va_P D xcl (ws ++ [x]) H) : va_P D xcl [x] H := fun k q hk => by
  have hm : q ∈ ws ++ [x] := List.mem_append_right _ (List.mem_of_getElem? hk)
  obtain ⟨i, hi⟩ := List.getElem?_of_mem hm
  exact h i q hi
theorem zD_last {x : Nat × va_E} (h : va_D A (ws ++ [x])) : va_D A [x] := by
  refine ⟨fun i j p q hi hj _ => ?_, fun k q hk => ?_⟩
  · have h1 := (List.getElem?_eq_some_iff.mp hi).1
    have h2 := (List.getElem?_eq_some_iff.mp hj).1
    simp only [List.length_singleton] at h1 h2
    omega
  · have hm : q ∈ ws ++ [x] := List.mem_append_right _ (List.mem_of_getElem? hk)
    obtain ⟨i, hi⟩ := List.getElem?_of_mem hm
    exact h.2 i q hi
theorem z_at_last {x : Nat × va_E} : (ws ++ [x])[ws.length]? = some x := by
  rw [List.getElem?_append_right (Nat.le_refl _), Nat.sub_self]; rfl
end CI
theorem z_CR {p : Program} {l : Launch} {e : Env} {R : Room} {s : State} {m : MethodId} {args : Array Value} {below : List Frame} {meth : Method} {c : Code} {H : Heap} {locs : List Loc} {cells slots mc ms : Nat} {g : JFrame} {rest : List Value} {Qa : State → Outcome → State → Prop} {free : Addr → Prop} (hr : va_Run p l e R s m args below meth c H locs cells slots mc ms g rest Qa free) : CallRun p l e R s m args below meth c H locs cells slots mc ms g rest Qa free := by
  intro T hT X
  obtain ⟨v, st₀, t, T', L, h0, X', hL, e1, e2, q, st⟩ := hr T hT X
  exact ⟨v, st₀, t, T', L, h0, X', hL, e1, q, st⟩
