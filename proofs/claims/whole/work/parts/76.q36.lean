/-! quotients of small numbers are no NaN -/
abbrev fpG (f : FP.Core.Fmt) : Prop := 0 < f.tails ∧ 2 ^ f.p = 2 * f.tails ∧ f.qmax - f.qmin + 3 = (f.exps : Int) ∧ f.qmin ≤ f.qmax
theorem fp32 : fpG FP.Core.b32 := by unfold fpG; decide +kernel
theorem fp64 : fpG FP.Core.b64 := by unfold fpG; decide +kernel
def fpok (f : FP.Core.Fmt) : FP.Core.Datum → Prop
  | .nan => False
  | .inf _ => True
  | .fin _ c q => c < 2 * f.tails ∧ q ≤ f.qmax
def fpfin : FP.Core.Datum → Prop
  | .fin _ _ _ => True
  | _ => False
def fpnz : FP.Core.Datum → Bool
  | .fin _ c _ => c != 0
  | _ => false
theorem fp_T {f : FP.Core.Fmt} {s : Bool} {e t : Nat} (ht : t < f.tails) : FP.Core.fieldT f (FP.Core.assemble f s e t) = t := by
  unfold FP.Core.fieldT FP.Core.assemble
  rw [Nat.add_comm, Nat.add_mul_mod_self_right, Nat.mod_eq_of_lt ht]
theorem fp_E {f : FP.Core.Fmt} {s : Bool} {e t : Nat} (he : e < f.exps) (ht : t < f.tails) : FP.Core.fieldE f (FP.Core.assemble f s e t) = e := by
  unfold FP.Core.fieldE FP.Core.assemble
  have hp : 0 < f.tails := by omega
  rw [Nat.add_comm ((s.toNat * f.exps + e) * f.tails) t, Nat.add_mul_div_right _ _ hp, Nat.div_eq_of_lt ht, Nat.zero_add, Nat.add_comm (s.toNat * f.exps) e, Nat.add_mul_mod_self_right, Nat.mod_eq_of_lt he]
theorem fp_enc {f : FP.Core.Fmt} (hG : fpG f) {D : FP.Core.Datum} (h : fpok f D) : ∃ s e t, FP.Core.encode f D = FP.Core.assemble f s e t ∧ t < f.tails ∧ e < f.exps ∧ (e = f.exps - 1 → t = 0) ∧ (fpfin D → e ≠ f.exps - 1) := by
  obtain ⟨g1, g2, g3, g4⟩ := hG
  cases D with
  | nan => exact h.elim
  | inf s => exact ⟨s, f.exps - 1, 0, rfl, g1, by omega, fun _ => rfl, fun z => z.elim⟩
  | fin s c q =>
    obtain ⟨h1, h2⟩ := h
    unfold FP.Core.encode
    by_cases z : c < f.tails
    · exact ⟨s, 0, c, if_pos z, z, by omega, fun y => by omega, fun _ => by omega⟩
    · exact ⟨s, (q - f.qmin).toNat + 1, c - f.tails, if_neg z, by omega, by omega, fun y => by omega, fun _ => by omega⟩
theorem fp_dec {f : FP.Core.Fmt} (hG : fpG f) {D : FP.Core.Datum} (h : fpok f D) : FP.Core.decode f (FP.Core.encode f D) ≠ .nan ∧ (fpfin D → fpfin (FP.Core.decode f (FP.Core.encode f D))) := by
  obtain ⟨s, e, t, he, ht, h1, h2, h3⟩ := fp_enc hG h
  rw [he]
  unfold FP.Core.decode
  rw [fp_T ht, fp_E h1 ht]
  by_cases z : e = f.exps - 1
  · rw [if_pos z, if_pos (h2 z)]
    exact ⟨(fun w => by cases w), fun w => absurd z (h3 w)⟩
  · rw [if_neg z]
    by_cases y : e = 0
    · rw [if_pos y]; exact ⟨(fun w => by cases w), fun _ => trivial⟩
    · rw [if_neg y]; exact ⟨(fun w => by cases w), fun _ => trivial⟩
theorem fp_bound {f : FP.Core.Fmt} {s : Bool} {c : Nat} {q : Int} (h : c < 2 * f.tails) : fpok f (FP.Core.bound f s c q) := by
  unfold FP.Core.bound
  by_cases z : q ≤ f.qmax
  · rw [if_pos z]; exact ⟨h, z⟩
  · rw [if_neg z]; trivial
theorem fp_rr {f : FP.Core.Fmt} (hG : fpG f) (s : Bool) (a b : Nat) (e : Int) : fpok f (FP.Core.roundRatio f s a b e) := by
  obtain ⟨g1, g2, g3, g4⟩ := hG
  unfold FP.Core.roundRatio FP.Core.roundAt FP.Core.settle
  by_cases z : a = 0
  · rw [if_pos z]; exact ⟨by omega, g4⟩
  · rw [if_neg z]
    split
    · exact fp_bound (by omega)
    · exact fp_bound (by omega)
theorem fp_rrf {f : FP.Core.Fmt} (hq : 40 ≤ f.qmax) (hm : f.qmin ≤ 30) (hp : 1 ≤ f.p) (s : Bool) {a : Nat} (ha : a < 2 ^ 31) : fpfin (FP.Core.roundRatio f s a 1 0) := by
  unfold FP.Core.roundRatio FP.Core.roundAt FP.Core.settle FP.Core.bound
  by_cases z : a = 0
  · rw [if_pos z]; trivial
  · rw [if_neg z]
    have hl : a.log2 < 31 := (Nat.log2_lt z).mpr ha
    have h1 : FP.Core.leading a 1 ≤ 30 := by
      have e0 : Nat.log2 1 = 0 := by decide
      have hz : ∀ (Q : Prop) [Decidable Q] (k : Int), k ≤ 30 → (if Q then k else k - 1) ≤ 30 := by
        intro Q _ k hk
        split <;> omega
      unfold FP.Core.leading
      exact hz _ _ (by rw [e0]; omega)
    have h2 : FP.Core.quantum f a 1 0 ≤ 30 := by
      unfold FP.Core.quantum
      exact Int.max_le.mpr ⟨hm, by omega⟩
    split
    · rw [if_pos (by omega)]; trivial
    · rw [if_pos (by omega)]; trivial
theorem fp_quo {f : FP.Core.Fmt} (hG : fpG f) {x y : FP.Core.Datum} (hx : fpfin x) (hy : fpnz y = true) : fpok f (FP.Core.quotient f x y) := by
  cases x with
  | nan => exact hx.elim
  | inf s => exact hx.elim
  | fin s c q =>
    cases y with
    | nan => cases hy
    | inf t => cases hy
    | fin t d r =>
      have hd : d ≠ 0 := by
        intro z
        subst z
        cases hy
      show fpok f (if d = 0 then (if c = 0 then FP.Core.Datum.nan else FP.Core.Datum.inf (s != t)) else FP.Core.roundRatio f (s != t) c d (q - r))
      rw [if_neg hd]
      exact fp_rr hG _ _ _ _
theorem fp_order {D : FP.Core.Datum} (h : D ≠ .nan) : FP.Core.order D D = some .eq := by
  have hc : ∀ v : Int, compare v v = .eq := fun v => by simp [compare, compareOfLessAndEq]
  cases D with
  | nan => exact absurd rfl h
  | inf s => exact congrArg some (hc _)
  | fin s c q => exact congrArg some (hc _)
theorem v64 {D : FP.Core.Datum} (h : fpok FP.Core.b64 D) : (UInt64.ofNat (FP.Core.encode FP.Core.b64 D)).toNat = FP.Core.encode FP.Core.b64 D ∧ vf_n64 (UInt64.ofNat (FP.Core.encode FP.Core.b64 D)) := by
  obtain ⟨s, e, t, he, ht, h1, h2, h3⟩ := fp_enc fp64 h
  have e1 : FP.Core.b64.tails = 4503599627370496 := by decide
  have e2 : FP.Core.b64.exps = 2048 := by decide
  have hs : s.toNat ≤ 1 := Bool.toNat_le s
  rw [e1] at ht
  rw [e2] at h1 h2
  have hN : FP.Core.encode FP.Core.b64 D = (s.toNat * 2048 + e) * 4503599627370496 + t := by
    rw [he]
    unfold FP.Core.assemble
    rw [e1, e2]
  clear he h3 h
  generalize FP.Core.encode FP.Core.b64 D = N at hN ⊢
  generalize s.toNat = S at hs hN
  have hlt : N < 18446744073709551616 := by omega
  have hn : (UInt64.ofNat N).toNat = N := by
    show N % 2 ^ 64 = N
    omega
  refine ⟨hn, ?_⟩
  unfold vf_n64
  rw [UInt64.le_iff_toNat_le, UInt64.toNat_and, hn, show (0x7fffffffffffffff : UInt64).toNat = 2 ^ 63 - 1 from rfl, Nat.and_two_pow_sub_one_eq_mod, show (0x7ff0000000000000 : UInt64).toNat = 9218868437227405312 from rfl]
  omega
theorem v32 {D : FP.Core.Datum} (h : fpok FP.Core.b32 D) : (UInt32.ofNat (FP.Core.encode FP.Core.b32 D)).toNat = FP.Core.encode FP.Core.b32 D ∧ vf_n32 (UInt32.ofNat (FP.Core.encode FP.Core.b32 D)) := by
  obtain ⟨s, e, t, he, ht, h1, h2, h3⟩ := fp_enc fp32 h
  have e1 : FP.Core.b32.tails = 8388608 := by decide
  have e2 : FP.Core.b32.exps = 256 := by decide
  have hs : s.toNat ≤ 1 := Bool.toNat_le s
  rw [e1] at ht
  rw [e2] at h1 h2
  have hN : FP.Core.encode FP.Core.b32 D = (s.toNat * 256 + e) * 8388608 + t := by
    rw [he]
    unfold FP.Core.assemble
    rw [e1, e2]
  clear he h3 h
  generalize FP.Core.encode FP.Core.b32 D = N at hN ⊢
  generalize s.toNat = S at hs hN
  have hlt : N < 4294967296 := by omega
  have hn : (UInt32.ofNat N).toNat = N := by
    show N % 2 ^ 32 = N
    omega
  refine ⟨hn, ?_⟩
  unfold vf_n32
  rw [UInt32.le_iff_toNat_le, UInt32.toNat_and, hn, show (0x7fffffff : UInt32).toNat = 2 ^ 31 - 1 from rfl, Nat.and_two_pow_sub_one_eq_mod, show (0x7f800000 : UInt32).toNat = 2139095040 from rfl]
  omega
theorem fp_i2d {a : Nat} (ha : a < 2 ^ 31) : fpfin (FP.Core.decode FP.Core.b64 (FP.i2d (nI a)).toNat) := by
  have e : FP.i2d (nI a) = UInt64.ofNat (FP.Core.encode FP.Core.b64 (FP.Core.roundRatio FP.Core.b64 (decide ((nI a).toInt < 0)) (nI a).toInt.natAbs 1 0)) := rfl
  have hn : (nI a).toInt.natAbs = a := by rw [nI_toInt ha]; rfl
  rw [hn] at e
  rw [e, (v64 (fp_rr fp64 _ _ _ _)).1]
  exact (fp_dec fp64 (fp_rr fp64 _ _ _ _)).2 (fp_rrf (by decide) (by decide) (by decide) _ ha)
theorem fp_i2f {a : Nat} (ha : a < 2 ^ 31) : fpfin (FP.Core.decode FP.Core.b32 (FP.i2f (nI a)).toNat) := by
  have e : FP.i2f (nI a) = UInt32.ofNat (FP.Core.encode FP.Core.b32 (FP.Core.roundRatio FP.Core.b32 (decide ((nI a).toInt < 0)) (nI a).toInt.natAbs 1 0)) := rfl
  have hn : (nI a).toInt.natAbs = a := by rw [nI_toInt ha]; rfl
  rw [hn] at e
  rw [e, (v32 (fp_rr fp32 _ _ _ _)).1]
  exact (fp_dec fp32 (fp_rr fp32 _ _ _ _)).2 (fp_rrf (by decide) (by decide) (by decide) _ ha)
theorem fp_d40 : ∀ b, b < 41 → 1 ≤ b → fpnz (FP.Core.decode FP.Core.b64 (FP.i2d (nI b)).toNat) = true := by decide +kernel
theorem fp_f24 : ∀ k, k < 25 → 1 ≤ k → fpnz (FP.Core.decode FP.Core.b32 (FP.i2f (nI (k * 60))).toNat) = true := by decide +kernel
theorem cmp_self {x : UInt64} (h : FP.Core.decode FP.Core.b64 x.toNat ≠ .nan) : Op.cmpValue (FP.dcmp x x) .l = 0 := by
  have e : FP.dcmp x x = some .eq := fp_order h
  rw [e]
  rfl
theorem dd_ok {a b : Nat} (ha : a < 2 ^ 31) (hb : b < 41) (hb1 : 1 ≤ b) : vf_n64 (FP.ddiv (FP.i2d (nI a)) (FP.i2d (nI b))) ∧ Op.cmpValue (FP.dcmp (FP.ddiv (FP.i2d (nI a)) (FP.i2d (nI b))) (FP.ddiv (FP.i2d (nI a)) (FP.i2d (nI b)))) .l = 0 := by
  have hq : fpok FP.Core.b64 (FP.Core.quotient FP.Core.b64 (FP.Core.decode FP.Core.b64 (FP.i2d (nI a)).toNat) (FP.Core.decode FP.Core.b64 (FP.i2d (nI b)).toNat)) := fp_quo fp64 (fp_i2d ha) (fp_d40 b hb hb1)
  have hv := v64 hq
  refine ⟨hv.2, cmp_self ?_⟩
  show FP.Core.decode FP.Core.b64 (UInt64.ofNat (FP.Core.encode FP.Core.b64 _)).toNat ≠ .nan
  rw [hv.1]
  exact (fp_dec fp64 hq).1
theorem fp_round {D : FP.Core.Datum} (h : D ≠ .nan) : fpok FP.Core.b64 (FP.Core.round FP.Core.b64 D) := by
  cases D with
  | nan => exact absurd rfl h
  | inf s => trivial
  | fin s c q => exact fp_rr fp64 _ _ _ _
theorem fd_ok {a k : Nat} (ha : a < 2 ^ 31) (hk : k < 25) (hk1 : 1 ≤ k) : vf_n32 (FP.fdiv (FP.i2f (nI a)) (FP.i2f (nI (k * 60)))) ∧ vf_n64 (FP.f2d (FP.fdiv (FP.i2f (nI a)) (FP.i2f (nI (k * 60))))) ∧ Op.cmpValue (FP.dcmp (FP.f2d (FP.fdiv (FP.i2f (nI a)) (FP.i2f (nI (k * 60))))) (FP.f2d (FP.fdiv (FP.i2f (nI a)) (FP.i2f (nI (k * 60)))))) .l = 0 := by
  have hq : fpok FP.Core.b32 (FP.Core.quotient FP.Core.b32 (FP.Core.decode FP.Core.b32 (FP.i2f (nI a)).toNat) (FP.Core.decode FP.Core.b32 (FP.i2f (nI (k * 60))).toNat)) := fp_quo fp32 (fp_i2f ha) (fp_f24 k hk hk1)
  have hv := v32 hq
  have hd : FP.Core.decode FP.Core.b32 (FP.fdiv (FP.i2f (nI a)) (FP.i2f (nI (k * 60)))).toNat ≠ .nan := by
    show FP.Core.decode FP.Core.b32 (UInt32.ofNat (FP.Core.encode FP.Core.b32 _)).toNat ≠ .nan
    rw [hv.1]
    exact (fp_dec fp32 hq).1
  refine ⟨hv.2, ?_⟩
  generalize FP.fdiv (FP.i2f (nI a)) (FP.i2f (nI (k * 60))) = x at hd ⊢
  have e : FP.f2d x = UInt64.ofNat (FP.Core.encode FP.Core.b64 (FP.Core.round FP.Core.b64 (FP.Core.decode FP.Core.b32 x.toNat))) := by
    unfold FP.f2d
    rw [if_neg]
    · rfl
    · intro w
      exact hd (of_decide_eq_true w)
  have hw := v64 (fp_round hd)
  rw [e]
  refine ⟨hw.2, cmp_self ?_⟩
  rw [hw.1]
  exact (fp_dec fp64 (fp_round hd)).1
