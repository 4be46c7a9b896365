/-! how many bits: digits, and three stages of adding them up side by side -/
def dg (B : Nat) (f : Nat → Nat) : Nat → Nat
  | 0 => 0
  | k + 1 => f 0 + B * dg B (fun i => f (i + 1)) k
theorem dg_lt {B : Nat} : ∀ (k : Nat) (f : Nat → Nat), (∀ i, f i < B) → dg B f k < B ^ k := by
  intro k
  induction k with
  | zero => intro f _; exact Nat.one_pos
  | succ k ih =>
    intro f h
    have h1 := ih (fun i => f (i + 1)) (fun i => h (i + 1))
    have h0 := h 0
    show f 0 + B * dg B (fun i => f (i + 1)) k < B ^ (k + 1)
    generalize dg B (fun i => f (i + 1)) k = d at h1 ⊢
    rw [Nat.pow_succ, Nat.mul_comm (B ^ k) B]
    have h2 : B * (d + 1) ≤ B * B ^ k := Nat.mul_le_mul_left B h1
    rw [Nat.mul_succ] at h2
    omega
theorem dg_bits : ∀ (k N : Nat), N < 2 ^ k → N = dg 2 (fun i => N / 2 ^ i % 2) k := by
  intro k
  induction k with
  | zero => intro N h; exact (show N = 0 by rw [Nat.pow_zero] at h; omega)
  | succ k ih =>
    intro N h
    have h2 : N / 2 < 2 ^ k := by rw [Nat.pow_succ] at h; omega
    have e := ih (N / 2) h2
    show N = N / 2 ^ 0 % 2 + 2 * dg 2 (fun i => N / 2 ^ (i + 1) % 2) k
    have e2 : (fun i => N / 2 ^ (i + 1) % 2) = (fun i => N / 2 / 2 ^ i % 2) := by
      funext i
      rw [Nat.pow_succ, Nat.mul_comm, Nat.div_div_eq_div_mul]
    rw [e2, ← e, Nat.pow_zero, Nat.div_one]
    omega
theorem and_split (w : Nat) {a c m : Nat} (hc : c < 2 ^ w) : a &&& (c + 2 ^ w * m) = (a % 2 ^ w &&& c) + 2 ^ w * (a / 2 ^ w &&& m) := by
  have hp : 0 < 2 ^ w := Nat.two_pow_pos w
  have h1 : (a &&& (c + 2 ^ w * m)) / 2 ^ w = a / 2 ^ w &&& m := by
    rw [Nat.and_div_two_pow, Nat.add_mul_div_left _ _ hp, Nat.div_eq_of_lt hc, Nat.zero_add]
  have h2 : (a &&& (c + 2 ^ w * m)) % 2 ^ w = a % 2 ^ w &&& c := by
    rw [Nat.and_mod_two_pow, Nat.add_mul_mod_self_left, Nat.mod_eq_of_lt hc]
  rw [← h1, ← h2, Nat.mod_add_div]
theorem and_1 (a : Nat) : a &&& 1 = a % 2 := Nat.and_two_pow_sub_one_eq_mod a 1
theorem and_3 (a : Nat) : a &&& 3 = a % 4 := Nat.and_two_pow_sub_one_eq_mod a 2
theorem and_15 (a : Nat) : a &&& 15 = a % 16 := Nat.and_two_pow_sub_one_eq_mod a 4
theorem dg_s1 : ∀ (k : Nat) (f : Nat → Nat), (∀ i, f i ≤ 1) → dg 2 f (2 * k) = dg 4 (fun i => f (2 * i) + f (2 * i + 1)) k + ((dg 2 f (2 * k) / 2) &&& dg 4 (fun _ => 1) k) := by
  intro k
  induction k with
  | zero => intro f _; simp [dg]
  | succ k ih =>
    intro f h
    have e := ih (fun i => f (i + 1 + 1)) (fun i => h (i + 1 + 1))
    have h0 := h 0
    have h1 := h 1
    have ex : dg 2 f (2 * (k + 1)) = f 0 + 2 * (f 1 + 2 * dg 2 (fun i => f (i + 1 + 1)) (2 * k)) := rfl
    have em : dg 4 (fun _ => 1) (k + 1) = 1 + 2 ^ 2 * dg 4 (fun _ => 1) k := rfl
    have ed : dg 4 (fun i => f (2 * i) + f (2 * i + 1)) (k + 1) = (f 0 + f 1) + 4 * dg 4 (fun i => f (2 * i + 1 + 1) + f (2 * i + 1 + 1 + 1)) k := rfl
    have e : dg 2 (fun i => f (i + 1 + 1)) (2 * k) = dg 4 (fun i => f (2 * i + 1 + 1) + f (2 * i + 1 + 1 + 1)) k + ((dg 2 (fun i => f (i + 1 + 1)) (2 * k) / 2) &&& dg 4 (fun _ => 1) k) := e
    rw [ex, em, ed]
    generalize dg 2 (fun i => f (i + 1 + 1)) (2 * k) = y at e ⊢
    generalize dg 4 (fun _ => 1) k = m at e ⊢
    generalize dg 4 (fun i => f (2 * i + 1 + 1) + f (2 * i + 1 + 1 + 1)) k = d at e ⊢
    rw [show (f 0 + 2 * (f 1 + 2 * y)) / 2 = f 1 + 2 * y by omega, and_split 2 (by omega), and_1, show (f 1 + 2 * y) % 2 ^ 2 % 2 = f 1 by omega, show (f 1 + 2 * y) / 2 ^ 2 = y / 2 by omega]
    omega
theorem dg_s2 : ∀ (k : Nat) (f : Nat → Nat), (∀ i, f i ≤ 2) → (dg 4 f (2 * k) &&& dg 16 (fun _ => 3) k) + ((dg 4 f (2 * k) / 4) &&& dg 16 (fun _ => 3) k) = dg 16 (fun i => f (2 * i) + f (2 * i + 1)) k := by
  intro k
  induction k with
  | zero => intro f _; simp [dg]
  | succ k ih =>
    intro f h
    have e := ih (fun i => f (i + 1 + 1)) (fun i => h (i + 1 + 1))
    have h0 := h 0
    have h1 := h 1
    have ex : dg 4 f (2 * (k + 1)) = f 0 + 4 * (f 1 + 4 * dg 4 (fun i => f (i + 1 + 1)) (2 * k)) := rfl
    have em : dg 16 (fun _ => 3) (k + 1) = 3 + 2 ^ 4 * dg 16 (fun _ => 3) k := rfl
    have ed : dg 16 (fun i => f (2 * i) + f (2 * i + 1)) (k + 1) = (f 0 + f 1) + 16 * dg 16 (fun i => f (2 * i + 1 + 1) + f (2 * i + 1 + 1 + 1)) k := rfl
    have e : (dg 4 (fun i => f (i + 1 + 1)) (2 * k) &&& dg 16 (fun _ => 3) k) + ((dg 4 (fun i => f (i + 1 + 1)) (2 * k) / 4) &&& dg 16 (fun _ => 3) k) = dg 16 (fun i => f (2 * i + 1 + 1) + f (2 * i + 1 + 1 + 1)) k := e
    rw [ex, em, ed]
    generalize dg 4 (fun i => f (i + 1 + 1)) (2 * k) = y at e ⊢
    generalize dg 16 (fun _ => 3) k = m at e ⊢
    generalize dg 16 (fun i => f (2 * i + 1 + 1) + f (2 * i + 1 + 1 + 1)) k = d at e ⊢
    rw [show (f 0 + 4 * (f 1 + 4 * y)) / 4 = f 1 + 4 * y by omega, and_split 4 (by omega), and_split 4 (by omega), and_3, and_3, show (f 0 + 4 * (f 1 + 4 * y)) % 2 ^ 4 % 4 = f 0 by omega, show (f 0 + 4 * (f 1 + 4 * y)) / 2 ^ 4 = y by omega, show (f 1 + 4 * y) % 2 ^ 4 % 4 = f 1 by omega, show (f 1 + 4 * y) / 2 ^ 4 = y / 4 by omega]
    omega
theorem dg_s3 : ∀ (k : Nat) (f : Nat → Nat), (∀ i, f i ≤ 4) → (dg 16 f (2 * k) + dg 16 f (2 * k) / 16) &&& dg 256 (fun _ => 15) k = dg 256 (fun i => f (2 * i) + f (2 * i + 1)) k := by
  intro k
  induction k with
  | zero => intro f _; simp [dg]
  | succ k ih =>
    intro f h
    have e := ih (fun i => f (i + 1 + 1)) (fun i => h (i + 1 + 1))
    have h0 := h 0
    have h1 := h 1
    have hy : dg 16 (fun i => f (i + 1 + 1)) (2 * k) % 16 ≤ 4 := by
      cases k with
      | zero => exact Nat.zero_le _
      | succ k =>
        have h2 := h 2
        have : dg 16 (fun i => f (i + 1 + 1)) (2 * (k + 1)) = f 2 + 16 * dg 16 (fun i => f (i + 1 + 1 + 1)) (2 * k + 1) := rfl
        rw [this]
        omega
    have ex : dg 16 f (2 * (k + 1)) = f 0 + 16 * (f 1 + 16 * dg 16 (fun i => f (i + 1 + 1)) (2 * k)) := rfl
    have em : dg 256 (fun _ => 15) (k + 1) = 15 + 2 ^ 8 * dg 256 (fun _ => 15) k := rfl
    have ed : dg 256 (fun i => f (2 * i) + f (2 * i + 1)) (k + 1) = (f 0 + f 1) + 256 * dg 256 (fun i => f (2 * i + 1 + 1) + f (2 * i + 1 + 1 + 1)) k := rfl
    have e : (dg 16 (fun i => f (i + 1 + 1)) (2 * k) + dg 16 (fun i => f (i + 1 + 1)) (2 * k) / 16) &&& dg 256 (fun _ => 15) k = dg 256 (fun i => f (2 * i + 1 + 1) + f (2 * i + 1 + 1 + 1)) k := e
    rw [ex, em, ed]
    generalize dg 16 (fun i => f (i + 1 + 1)) (2 * k) = y at e hy ⊢
    generalize dg 256 (fun _ => 15) k = m at e ⊢
    generalize dg 256 (fun i => f (2 * i + 1 + 1) + f (2 * i + 1 + 1 + 1)) k = d at e ⊢
    rw [show (f 0 + 16 * (f 1 + 16 * y)) / 16 = f 1 + 16 * y by omega, and_split 8 (by omega), and_15, show (f 0 + 16 * (f 1 + 16 * y) + (f 1 + 16 * y)) % 2 ^ 8 % 16 = f 0 + f 1 by omega, show (f 0 + 16 * (f 1 + 16 * y) + (f 1 + 16 * y)) / 2 ^ 8 = y + y / 16 by omega, e]
/-- the three stages, of numbers -/
theorem pop_nat (k N : Nat) (f : Nat → Nat) (hf0 : f = fun i => N / 2 ^ i % 2) (hN : N < 2 ^ (8 * k)) : ∃ c : Nat → Nat, (∀ i, c i ≤ 8) ∧ (∀ i, c i = f (8 * i) + f (8 * i + 1) + (f (8 * i + 2) + f (8 * i + 3)) + (f (8 * i + 4) + f (8 * i + 5) + (f (8 * i + 6) + f (8 * i + 7)))) ∧ ∃ a b : Nat, a + (N / 2 &&& dg 4 (fun _ => 1) (4 * k)) = N ∧ (a &&& dg 16 (fun _ => 3) (2 * k)) + (a / 4 &&& dg 16 (fun _ => 3) (2 * k)) = b ∧ (b + b / 16) &&& dg 256 (fun _ => 15) k = dg 256 c k ∧ a < 4 ^ (4 * k) ∧ b < 16 ^ (2 * k) := by
  have e0 := dg_bits (8 * k) N hN
  rw [← hf0] at e0
  have hf : ∀ i, f i ≤ 1 := fun i => by rw [hf0]; show N / 2 ^ i % 2 ≤ 1; omega
  clear hf0
  have e1 := dg_s1 (4 * k) f hf
  rw [show 2 * (4 * k) = 8 * k by omega, ← e0] at e1
  have hg : ∀ i, f (2 * i) + f (2 * i + 1) ≤ 2 := fun i => by have := hf (2 * i); have := hf (2 * i + 1); omega
  have e2 := dg_s2 (2 * k) (fun i => f (2 * i) + f (2 * i + 1)) hg
  rw [show 2 * (2 * k) = 4 * k by omega] at e2
  have hh : ∀ i, f (2 * (2 * i)) + f (2 * (2 * i) + 1) + (f (2 * (2 * i + 1)) + f (2 * (2 * i + 1) + 1)) ≤ 4 := fun i => by have := hg (2 * i); have := hg (2 * i + 1); omega
  have e3 := dg_s3 k (fun i => f (2 * (2 * i)) + f (2 * (2 * i) + 1) + (f (2 * (2 * i + 1)) + f (2 * (2 * i + 1) + 1))) hh
  refine ⟨fun i => f (2 * (2 * (2 * i))) + f (2 * (2 * (2 * i)) + 1) + (f (2 * (2 * (2 * i) + 1)) + f (2 * (2 * (2 * i) + 1) + 1)) + (f (2 * (2 * (2 * i + 1))) + f (2 * (2 * (2 * i + 1)) + 1) + (f (2 * (2 * (2 * i + 1) + 1)) + f (2 * (2 * (2 * i + 1) + 1) + 1))), fun i => ?_, fun i => ?_, _, _, e1.symm, e2, e3, ?_, ?_⟩
  · have h1 := hh (2 * i)
    have h2 := hh (2 * i + 1)
    exact Nat.add_le_add h1 h2
  · show f (2 * (2 * (2 * i))) + f (2 * (2 * (2 * i)) + 1) + (f (2 * (2 * (2 * i) + 1)) + f (2 * (2 * (2 * i) + 1) + 1)) + (f (2 * (2 * (2 * i + 1))) + f (2 * (2 * (2 * i + 1)) + 1) + (f (2 * (2 * (2 * i + 1) + 1)) + f (2 * (2 * (2 * i + 1) + 1) + 1))) = _
    rw [show 2 * (2 * (2 * i)) = 8 * i by omega, show 2 * (2 * (2 * i) + 1) = 8 * i + 2 by omega, show 2 * (2 * (2 * i + 1)) = 8 * i + 4 by omega, show 2 * (2 * (2 * i + 1) + 1) = 8 * i + 6 by omega]
  · exact dg_lt _ _ (fun i => Nat.lt_of_le_of_lt (hg i) (by decide))
  · exact dg_lt _ _ (fun i => Nat.lt_of_le_of_lt (hh i) (by decide))
theorem iN_and (a b : Nat) : nI a &&& nI b = nI (a &&& b) := by
  apply Int32.toBitVec_inj.1
  show BitVec.ofNat 32 a &&& BitVec.ofNat 32 b = BitVec.ofNat 32 (a &&& b)
  apply BitVec.eq_of_getLsbD_eq
  intro i hi
  simp [hi]
theorem eN_and (a b : Nat) : lN a &&& lN b = lN (a &&& b) := by
  apply Int64.toBitVec_inj.1
  show BitVec.ofNat 64 a &&& BitVec.ofNat 64 b = BitVec.ofNat 64 (a &&& b)
  apply BitVec.eq_of_getLsbD_eq
  intro i hi
  simp [hi]
theorem eN_add (a b : Nat) : lN a + lN b = lN (a + b) := (Int64.ofNat_add a b).symm
theorem iN_ush {a k : Nat} {s : UInt32} (hs : s = UInt32.ofNat k) (ha : a < 2 ^ 32) (hk : k < 32) : ((nI a).toUInt32 >>> s).toInt32 = nI (a / 2 ^ k) := by
  subst hs
  apply Int32.toBitVec_inj.1
  apply BitVec.eq_of_toNat_eq
  show ((nI a).toUInt32 >>> UInt32.ofNat k).toNat = (BitVec.ofNat 32 _).toNat
  have h1 : (UInt32.ofNat k).toNat = k := by
    show (BitVec.ofNat 32 k).toNat = k
    rw [BitVec.toNat_ofNat, Nat.mod_eq_of_lt (by omega)]
  have h2 : (nI a).toUInt32.toNat = a := by
    show (BitVec.ofNat 32 a).toNat = a
    rw [BitVec.toNat_ofNat, Nat.mod_eq_of_lt ha]
  rw [UInt32.toNat_shiftRight, h1, h2, Nat.mod_eq_of_lt hk, Nat.shiftRight_eq_div_pow, BitVec.toNat_ofNat, Nat.mod_eq_of_lt (Nat.lt_of_le_of_lt (Nat.div_le_self _ _) ha)]
theorem eN_ush {a k : Nat} {s : UInt64} (hs : s = UInt64.ofNat k) (ha : a < 2 ^ 64) (hk : k < 64) : ((lN a).toUInt64 >>> s).toInt64 = lN (a / 2 ^ k) := by
  subst hs
  apply Int64.toBitVec_inj.1
  apply BitVec.eq_of_toNat_eq
  show ((lN a).toUInt64 >>> UInt64.ofNat k).toNat = (BitVec.ofNat 64 _).toNat
  have h1 : (UInt64.ofNat k).toNat = k := by
    show (BitVec.ofNat 64 k).toNat = k
    rw [BitVec.toNat_ofNat, Nat.mod_eq_of_lt (by omega)]
  have h2 : (lN a).toUInt64.toNat = a := by
    show (BitVec.ofNat 64 a).toNat = a
    rw [BitVec.toNat_ofNat, Nat.mod_eq_of_lt ha]
  rw [UInt64.toNat_shiftRight, h1, h2, Nat.mod_eq_of_lt hk, Nat.shiftRight_eq_div_pow, BitVec.toNat_ofNat, Nat.mod_eq_of_lt (Nat.lt_of_le_of_lt (Nat.div_le_self _ _) ha)]
theorem bc32 {N : Nat} (hN : N < 2 ^ 32) : f_J6_bitCount_0f7a4 (nI N) = some (nI (sm (fun i => N / 2 ^ i % 2) 32)) := by
  obtain ⟨f, hf⟩ : ∃ f : Nat → Nat, f = fun i => N / 2 ^ i % 2 := ⟨_, rfl⟩
  rw [← hf]
  obtain ⟨c, hc, ec, a, b, h1, h2, h3, ha, hb⟩ := pop_nat 4 N f hf hN
  have ha : a < 2 ^ 32 := ha
  have hb : b < 2 ^ 32 := hb
  rw [show dg 4 (fun _ => 1) (4 * 4) = 1431655765 by decide +kernel] at h1
  rw [show dg 16 (fun _ => 3) (2 * 4) = 858993459 by decide +kernel] at h2
  rw [show dg 256 (fun _ => 15) 4 = 252645135 by decide +kernel] at h3
  have k1 : ((nI N).toUInt32 >>> (Int32.toUInt32 1 &&& Int32.toUInt32 31)).toInt32 = nI (N / 2) := iN_ush (k := 1) (by decide) hN (by omega)
  have k2 : nI N - nI (N / 2 &&& 1431655765) = nI a := by
    have : nI a + nI (N / 2 &&& 1431655765) = nI N := by rw [nI_add, h1]
    rw [← this, Int32.add_sub_cancel]
  have k3 : ((nI a).toUInt32 >>> (Int32.toUInt32 2 &&& Int32.toUInt32 31)).toInt32 = nI (a / 4) := iN_ush (k := 2) (by decide) ha (by omega)
  have k4 : ((nI b).toUInt32 >>> (Int32.toUInt32 4 &&& Int32.toUInt32 31)).toInt32 = nI (b / 16) := iN_ush (k := 4) (by decide) hb (by omega)
  have eD : dg 256 c 4 = c 0 + 256 * (c 1 + 256 * (c 2 + 256 * (c 3 + 256 * 0))) := rfl
  have hc0 := hc 0
  have hc1 := hc 1
  have hc2 := hc 2
  have hc3 := hc 3
  generalize dg 256 c 4 = D at h3 eD
  have k5 : ((nI D).toUInt32 >>> (Int32.toUInt32 8 &&& Int32.toUInt32 31)).toInt32 = nI (D / 256) := iN_ush (k := 8) (by decide) (by omega) (by omega)
  have k6 : ((nI (D + D / 256)).toUInt32 >>> (Int32.toUInt32 16 &&& Int32.toUInt32 31)).toInt32 = nI ((D + D / 256) / 65536) := iN_ush (k := 16) (by decide) (by omega) (by omega)
  unfold f_J6_bitCount_0f7a4
  rw [k1, show (1431655765 : Int32) = nI 1431655765 from rfl, iN_and, k2, k3, ob_s, show (858993459 : Int32) = nI 858993459 from rfl, iN_and, iN_and, nI_add, h2, ob_s, k4, nI_add, show (252645135 : Int32) = nI 252645135 from rfl, iN_and, h3, k5, ob_s, nI_add, k6, ob_s, nI_add, show (63 : Int32) = nI 63 from rfl, iN_and, ob_s, show ∀ z : Nat, z &&& 63 = z % 64 from fun z => Nat.and_two_pow_sub_one_eq_mod z 6]
  have es : sm f 32 = 0 + f 0 + f 1 + f 2 + f 3 + f 4 + f 5 + f 6 + f 7 + f 8 + f 9 + f 10 + f 11 + f 12 + f 13 + f 14 + f 15 + f 16 + f 17 + f 18 + f 19 + f 20 + f 21 + f 22 + f 23 + f 24 + f 25 + f 26 + f 27 + f 28 + f 29 + f 30 + f 31 := rfl
  have e0 : c 0 = f 0 + f 1 + (f 2 + f 3) + (f 4 + f 5 + (f 6 + f 7)) := ec 0
  have e1 : c 1 = f 8 + f 9 + (f 10 + f 11) + (f 12 + f 13 + (f 14 + f 15)) := ec 1
  have e2 : c 2 = f 16 + f 17 + (f 18 + f 19) + (f 20 + f 21 + (f 22 + f 23)) := ec 2
  have e3 : c 3 = f 24 + f 25 + (f 26 + f 27) + (f 28 + f 29 + (f 30 + f 31)) := ec 3
  have er : (D + D / 256 + (D + D / 256) / 65536) % 64 = c 0 + c 1 + c 2 + c 3 := by
    clear es e0 e1 e2 e3 h1 h2 h3 ha hb k1 k2 k3 k4 k5 k6 hN ec hc
    have q1 : D / 256 = c 1 + 256 * (c 2 + 256 * (c 3 + 256 * 0)) := by omega
    have q2 : (D + D / 256) / 65536 = c 2 + c 3 + 256 * c 3 := by omega
    omega
  rw [er, es, e0, e1, e2, e3]
  congr 2
  omega
theorem bc64 {N : Nat} (hN : N < 2 ^ 64) : f_J13_bitCount_95d88 (lN N) = some (nI (sm (fun i => N / 2 ^ i % 2) 64)) := by
  obtain ⟨f, hf⟩ : ∃ f : Nat → Nat, f = fun i => N / 2 ^ i % 2 := ⟨_, rfl⟩
  rw [← hf]
  obtain ⟨c, hc, ec, a, b, h1, h2, h3, ha, hb⟩ := pop_nat 8 N f hf hN
  have ha : a < 2 ^ 64 := ha
  have hb : b < 2 ^ 64 := hb
  rw [show dg 4 (fun _ => 1) (4 * 8) = 6148914691236517205 by decide +kernel] at h1
  rw [show dg 16 (fun _ => 3) (2 * 8) = 3689348814741910323 by decide +kernel] at h2
  rw [show dg 256 (fun _ => 15) 8 = 1085102592571150095 by decide +kernel] at h3
  have k1 : ((lN N).toUInt64 >>> ((Int32.toInt64 1).toUInt64 &&& Int64.toUInt64 63)).toInt64 = lN (N / 2) := eN_ush (k := 1) (by decide) hN (by omega)
  have k2 : lN N - lN (N / 2 &&& 6148914691236517205) = lN a := by
    have : lN a + lN (N / 2 &&& 6148914691236517205) = lN N := by rw [eN_add, h1]
    rw [← this, Int64.add_sub_cancel]
  have k3 : ((lN a).toUInt64 >>> ((Int32.toInt64 2).toUInt64 &&& Int64.toUInt64 63)).toInt64 = lN (a / 4) := eN_ush (k := 2) (by decide) ha (by omega)
  have k4 : ((lN b).toUInt64 >>> ((Int32.toInt64 4).toUInt64 &&& Int64.toUInt64 63)).toInt64 = lN (b / 16) := eN_ush (k := 4) (by decide) hb (by omega)
  have eD : dg 256 c 8 = c 0 + 256 * (c 1 + 256 * (c 2 + 256 * (c 3 + 256 * (c 4 + 256 * (c 5 + 256 * (c 6 + 256 * (c 7 + 256 * 0))))))) := rfl
  have hc0 := hc 0
  have hc1 := hc 1
  have hc2 := hc 2
  have hc3 := hc 3
  have hc4 := hc 4
  have hc5 := hc 5
  have hc6 := hc 6
  have hc7 := hc 7
  generalize dg 256 c 8 = D at h3 eD
  have k5 : ((lN D).toUInt64 >>> ((Int32.toInt64 8).toUInt64 &&& Int64.toUInt64 63)).toInt64 = lN (D / 256) := eN_ush (k := 8) (by decide) (by omega) (by omega)
  have k6 : ((lN (D + D / 256)).toUInt64 >>> ((Int32.toInt64 16).toUInt64 &&& Int64.toUInt64 63)).toInt64 = lN ((D + D / 256) / 65536) := eN_ush (k := 16) (by decide) (by omega) (by omega)
  have k7 : ((lN (D + D / 256 + (D + D / 256) / 65536)).toUInt64 >>> ((Int32.toInt64 32).toUInt64 &&& Int64.toUInt64 63)).toInt64 = lN ((D + D / 256 + (D + D / 256) / 65536) / 4294967296) := eN_ush (k := 32) (by decide) (by omega) (by omega)
  unfold f_J13_bitCount_95d88
  rw [k1, show (6148914691236517205 : Int64) = lN 6148914691236517205 from rfl, eN_and, k2, show (3689348814741910323 : Int64) = lN 3689348814741910323 from rfl, eN_and, ob_s, k3, ob_s, eN_and, eN_add, h2, k4, ob_s, eN_add, show (1085102592571150095 : Int64) = lN 1085102592571150095 from rfl, eN_and, h3, k5, ob_s, eN_add, k6, ob_s, eN_add, k7, ob_s, eN_add, show ∀ z : Nat, (lN z).toInt32 = nI z from fun z => Int64.toInt32_ofNat', show (127 : Int32) = nI 127 from rfl, iN_and, ob_s, show ∀ z : Nat, z &&& 127 = z % 128 from fun z => Nat.and_two_pow_sub_one_eq_mod z 7]
  have es : sm f 64 = 0 + f 0 + f 1 + f 2 + f 3 + f 4 + f 5 + f 6 + f 7 + f 8 + f 9 + f 10 + f 11 + f 12 + f 13 + f 14 + f 15 + f 16 + f 17 + f 18 + f 19 + f 20 + f 21 + f 22 + f 23 + f 24 + f 25 + f 26 + f 27 + f 28 + f 29 + f 30 + f 31 + f 32 + f 33 + f 34 + f 35 + f 36 + f 37 + f 38 + f 39 + f 40 + f 41 + f 42 + f 43 + f 44 + f 45 + f 46 + f 47 + f 48 + f 49 + f 50 + f 51 + f 52 + f 53 + f 54 + f 55 + f 56 + f 57 + f 58 + f 59 + f 60 + f 61 + f 62 + f 63 := rfl
  have e0 : c 0 = f 0 + f 1 + (f 2 + f 3) + (f 4 + f 5 + (f 6 + f 7)) := ec 0
  have e1 : c 1 = f 8 + f 9 + (f 10 + f 11) + (f 12 + f 13 + (f 14 + f 15)) := ec 1
  have e2 : c 2 = f 16 + f 17 + (f 18 + f 19) + (f 20 + f 21 + (f 22 + f 23)) := ec 2
  have e3 : c 3 = f 24 + f 25 + (f 26 + f 27) + (f 28 + f 29 + (f 30 + f 31)) := ec 3
  have e4 : c 4 = f 32 + f 33 + (f 34 + f 35) + (f 36 + f 37 + (f 38 + f 39)) := ec 4
  have e5 : c 5 = f 40 + f 41 + (f 42 + f 43) + (f 44 + f 45 + (f 46 + f 47)) := ec 5
  have e6 : c 6 = f 48 + f 49 + (f 50 + f 51) + (f 52 + f 53 + (f 54 + f 55)) := ec 6
  have e7 : c 7 = f 56 + f 57 + (f 58 + f 59) + (f 60 + f 61 + (f 62 + f 63)) := ec 7
  have er : (D + D / 256 + (D + D / 256) / 65536 + (D + D / 256 + (D + D / 256) / 65536) / 4294967296) % 128 = c 0 + c 1 + c 2 + c 3 + c 4 + c 5 + c 6 + c 7 := by
    clear es e0 e1 e2 e3 e4 e5 e6 e7 h1 h2 h3 ha hb k1 k2 k3 k4 k5 k6 k7 hN ec hc
    have q0 : D = (c 0) + 256 * (c 1) + 65536 * (c 2) + 16777216 * (c 3) + 4294967296 * (c 4) + 1099511627776 * (c 5) + 281474976710656 * (c 6) + 72057594037927936 * (c 7) := by omega
    clear eD
    have q1 : D / 256 = (c 1) + 256 * (c 2) + 65536 * (c 3) + 16777216 * (c 4) + 4294967296 * (c 5) + 1099511627776 * (c 6) + 281474976710656 * (c 7) := by omega
    have z1 : D + D / 256 = (c 0 + c 1) + 256 * (c 1 + c 2) + 65536 * (c 2 + c 3) + 16777216 * (c 3 + c 4) + 4294967296 * (c 4 + c 5) + 1099511627776 * (c 5 + c 6) + 281474976710656 * (c 6 + c 7) + 72057594037927936 * (c 7) := by omega
    clear q0 q1
    generalize D + D / 256 = E at z1 ⊢
    have q2 : E / 65536 = (c 2 + c 3) + 256 * (c 3 + c 4) + 65536 * (c 4 + c 5) + 16777216 * (c 5 + c 6) + 4294967296 * (c 6 + c 7) + 1099511627776 * (c 7) := by omega
    have z2 : E + E / 65536 = (c 0 + c 1 + c 2 + c 3) + 256 * (c 1 + c 2 + c 3 + c 4) + 65536 * (c 2 + c 3 + c 4 + c 5) + 16777216 * (c 3 + c 4 + c 5 + c 6) + 4294967296 * (c 4 + c 5 + c 6 + c 7) + 1099511627776 * (c 5 + c 6 + c 7) + 281474976710656 * (c 6 + c 7) + 72057594037927936 * (c 7) := by omega
    clear z1 q2
    generalize E + E / 65536 = F at z2 ⊢
    have q3 : F / 4294967296 = (c 4 + c 5 + c 6 + c 7) + 256 * (c 5 + c 6 + c 7) + 65536 * (c 6 + c 7) + 16777216 * (c 7) := by omega
    omega
  rw [er, es, e0, e1, e2, e3, e4, e5, e6, e7]
  congr 2
  omega
/-- one bit of a long, shifted with its sign -/
theorem sm64 : ∀ k, k < 64 → ((nI k).toInt64 &&& 63).toBitVec.smod 64 = BitVec.ofNat 64 k := by decide +kernel
theorem bit64 (u : Int64) {k : Nat} (hk : k < 64) : (u >>> ((nI k).toInt64 &&& 63)) &&& 1 = if lb u k = true then 1 else 0 := by
  apply Int64.toBitVec_inj.1
  apply BitVec.eq_of_getLsbD_eq
  intro i hi
  have e1 : ((1 : Int64).toBitVec).getLsbD i = decide (i = 0) := by
    show (1#64).getLsbD i = _
    rw [BitVec.getLsbD_one]
    simp
  rw [Int64.toBitVec_and, BitVec.getLsbD_and, e1, Int64.toBitVec_shiftRight, sm64 k hk, BitVec.sshiftRight_eq', BitVec.getLsbD_sshiftRight, BitVec.toNat_ofNat, Nat.mod_eq_of_lt (show k < 2 ^ 64 by omega)]
  by_cases z : i = 0
  · subst z
    by_cases q : lb u k = true
    · rw [if_pos q, e1, Nat.add_zero, if_pos hk]
      simp [show u.toBitVec.getLsbD k = true from q]
    · rw [if_neg q, Nat.add_zero, if_pos hk]
      have q : u.toBitVec.getLsbD k = false := Bool.not_eq_true _ ▸ q
      simp [q]
  · by_cases q : lb u k = true
    · rw [if_pos q, e1]; simp [z]
    · rw [if_neg q]; simp [z]
theorem lb_nat (N : Nat) {k : Nat} (hk : k < 64) : N / 2 ^ k % 2 = if lb (lN N) k = true then 1 else 0 := by
  have e : lb (lN N) k = N.testBit k := by
    show (BitVec.ofNat 64 N).getLsbD k = _
    rw [BitVec.getLsbD_ofNat]
    simp [hk]
  rw [e, Nat.testBit_eq_decide_div_mod_eq]
  rcases Nat.mod_two_eq_zero_or_one (N / 2 ^ k) with h | h <;> simp [h]
section Q23
variable {n : Nat → Nat} {V : XV} {T : RV} {M : MD}
def fb (x : Int64) (k : Nat) : Nat := if lb x k = true then 1 else 0
theorem bc_l (x : Int64) : f_J13_bitCount_95d88 x = some (nI (sm (fb x) 64)) := by
  obtain ⟨N, hN, rfl⟩ : ∃ N, N < 2 ^ 64 ∧ x = lN N := ⟨x.toBitVec.toNat, x.toBitVec.isLt, Int64.toBitVec_inj.1 (by show _ = BitVec.ofNat 64 _; simp)⟩
  rw [bc64 hN]
  congr 2
  exact sm_congr 64 (fun i hi => lb_nat N hi)
theorem t_sq (hW : WF M) (hT : RT T M) (hA : RA V T M) {m : Nat} (hm : m < 1440) : ∀ (k j fu : Nat), j + k = 64 → k < fu → f_X4_squaresAt_14 T fu (nI m) (nI (sm (fb (orf (fa M V m) 40)) j)) (nI j) = some (nI (sm (fb (orf (fa M V m) 40)) 64), T) := by
  intro k
  induction k with
  | zero =>
    intro j fu h1 h2
    obtain ⟨fu, rfl⟩ : ∃ g, fu = g + 1 := ⟨fu - 1, by omega⟩
    unfold f_X4_squaresAt_14
    rw [oi_p (show (64 : Int32) ≤ nI j from nI_le (a := 64) (by omega) (by omega)), show j = 64 by omega]
  | succ k ih =>
    intro j fu h1 h2
    obtain ⟨fu, rfl⟩ : ∃ g, fu = g + 1 := ⟨fu - 1, by omega⟩
    have hn := ih (j + 1) fu (by omega) (by omega)
    have es : sm (fb (orf (fa M V m) 40)) (j + 1) = sm (fb (orf (fa M V m) 40)) j + fb (orf (fa M V m) 40) j := rfl
    unfold f_X4_squaresAt_14
    rw [oi_n (show ¬ (64 : Int32) ≤ nI j from nI_ge (b := 64) (by omega) (by omega)), t_airm hW hT hA hm, ob_s, bit64 _ (show j < 64 by omega), nI_1, nI_1, Int32.add_zero]
    by_cases q : lb (orf (fa M V m) 40) j = true
    · rw [if_pos q, oi_p (by decide)]
      rw [es, show fb (orf (fa M V m) 40) j = 1 from if_pos q] at hn
      exact hn
    · rw [if_neg q, oi_n (by decide)]
      rw [es, show fb (orf (fa M V m) 40) j = 0 from if_neg q, Nat.add_zero] at hn
      exact hn
theorem st_31 (hR : Rel n V T) : lst_31 Rel n V T := by
  obtain ⟨M, hW, hX, hT, hA⟩ := hR
  intro out p
  rcases p_min p with ⟨m, hm, rfl⟩ | h
  · have ht := t_sq hW (T := rsc T 27 0) (RT_27 hT) (RA_27 hA) hm 64 0 FU rfl (by unfold FU; omega)
    refine ⟨(0, n, V, vp_updL out (0 : Int32).toNatClampNeg (nI (sm (fb (orf (fa M V m) 40)) 64)).toInt64), (nI (sm (fb (orf (fa M V m) 40)) 64), rsc T 27 0), ?_, ?_, rfl, fun _ => u0 (f := out), Rel.of27 hW hX hT hA⟩
    · unfold f_L_squaresAt f_X3_squaresAt
      rw [x_mink hm, ob_s, oi_n e10, x_airm hW hX hm, ob_s, bc_l, ob_s, ob_s, oi_p rfl]
    · unfold f_X4_squaresAt
      rw [t_nomink T hm, ob_s, oi_p rfl]
      exact ht
  · refine ⟨(1, n, V, out), (0, rsc T 27 1), ?_, ?_, rfl, fun h => absurd h e10, Rel.of27 hW hX hT hA⟩
    · unfold f_L_squaresAt f_X3_squaresAt
      rw [x_minn h, ob_s, oi_p rfl, ob_s, oi_n n10, oi_p rfl]
    · unfold f_X4_squaresAt
      rw [t_nominn T h, ob_s, oi_n e10]
end Q23
