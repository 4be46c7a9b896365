theorem sm_app (f : Nat → Nat) (a : Nat) : ∀ b, sm f (a + b) = sm f a + sm (fun i => f (a + i)) b := by
  intro b
  induction b with
  | zero => rfl
  | succ b ih =>
    show sm f (a + b) + f (a + b) = sm f a + (sm (fun i => f (a + i)) b + f (a + b))
    rw [ih]; omega
theorem sm_rows (g : Nat → Nat → Nat) : ∀ b, sm (fun p => g (p % 40) (p / 40)) (40 * b) = sm (fun y => sm (fun x => g x y) 40) b := by
  intro b
  induction b with
  | zero => rfl
  | succ b ih =>
    show _ = sm (fun y => sm (fun x => g x y) 40) b + sm (fun x => g x b) 40
    rw [Nat.mul_succ, sm_app, ih]
    congr 1
    refine sm_congr 40 (fun i hi => ?_)
    show g ((40 * b + i) % 40) ((40 * b + i) / 40) = g i b
    rw [show (40 * b + i) % 40 = i by omega, show (40 * b + i) / 40 = b by omega]
section Q25
variable {n : Nat → Nat} {V : XV} {T : RV} {M : MD}
def bth (M : MD) (c d x y : Nat) : Nat := if far M c x y ≤ M 3 c * M 3 c then (if far M d x y ≤ M 3 d * M 3 d then 1 else 0) else 0
theorem x_cc13 (KK : Int32 → Int32 → Option Int32) (hW : WF M) (hX : RX n V M) {c d x : Nat} (hc : c < M 0 0) (hd : d < M 0 0) (hx : x < 40) : ∀ (k y a fu : Nat), y + k = 40 → k < fu → f_X3_countCommonPlaces_13 KK n V fu c d (nI (a + sm (bth M c d x) y)) (nI x) (nI y) = KK (nI (a + sm (bth M c d x) 40)) (nI x) := by
  intro k
  induction k with
  | zero =>
    intro y a fu h1 h2
    obtain ⟨fu, rfl⟩ : ∃ g, fu = g + 1 := ⟨fu - 1, by omega⟩
    obtain rfl : y = 40 := by omega
    unfold f_X3_countCommonPlaces_13
    rw [oi_p (l40 (by omega) (by omega))]
  | succ k ih =>
    intro y a fu h1 h2
    obtain ⟨fu, rfl⟩ : ∃ g, fu = g + 1 := ⟨fu - 1, by omega⟩
    have hn := ih (y + 1) a fu (by omega) (by omega)
    have es : sm (bth M c d x) (y + 1) = sm (bth M c d x) y + bth M c d x y := rfl
    rw [es] at hn
    unfold f_X3_countCommonPlaces_13
    rw [oi_n (g40 (by omega)), x_rch hW hX hc hx (show y < 40 by omega), ob_s, nI_1, nI_1]
    by_cases q : far M c x y ≤ M 3 c * M 3 c
    · rw [if_pos q, oi_n e10, x_rch hW hX hd hx (show y < 40 by omega), ob_s]
      by_cases r : far M d x y ≤ M 3 d * M 3 d
      · rw [if_pos r, oi_n e10]
        rw [show bth M c d x y = 1 by unfold bth; rw [if_pos q, if_pos r]] at hn
        exact hn
      · rw [if_neg r, oi_p rfl]
        rw [show bth M c d x y = 0 by unfold bth; rw [if_pos q, if_neg r]] at hn
        exact hn
    · rw [if_neg q, oi_p rfl]
      rw [show bth M c d x y = 0 by unfold bth; rw [if_neg q]] at hn
      exact hn
theorem x_cc4 (hW : WF M) (hX : RX n V M) {c d : Nat} (hc : c < M 0 0) (hd : d < M 0 0) : ∀ (k x fu : Nat), x + k = 40 → k < fu → f_X3_countCommonPlaces_4 n V fu c d (nI (sm (fun x => sm (bth M c d x) 40) x)) (nI x) = some (nI (sm (fun x => sm (bth M c d x) 40) 40)) := by
  intro k
  induction k with
  | zero =>
    intro x fu h1 h2
    obtain ⟨fu, rfl⟩ : ∃ g, fu = g + 1 := ⟨fu - 1, by omega⟩
    obtain rfl : x = 40 := by omega
    unfold f_X3_countCommonPlaces_4
    rw [oi_p (l40 (by omega) (by omega))]
  | succ k ih =>
    intro x fu h1 h2
    obtain ⟨fu, rfl⟩ : ∃ g, fu = g + 1 := ⟨fu - 1, by omega⟩
    have hn := ih (x + 1) fu (by omega) (by omega)
    have es : sm (fun x => sm (bth M c d x) 40) (x + 1) = sm (fun x => sm (bth M c d x) 40) x + sm (bth M c d x) 40 := rfl
    rw [es] at hn
    unfold f_X3_countCommonPlaces_4
    rw [oi_n (g40 (by omega))]
    have h := x_cc13 (fun (e_9 : Int32) (e_10 : Int32) => f_X3_countCommonPlaces_4 n V fu c d e_9 (e_10 + 1)) hW hX hc hd (show x < 40 by omega) 40 0 (sm (fun x => sm (bth M c d x) 40) x) FU rfl (by unfold FU; omega)
    refine Eq.trans h ?_
    show f_X3_countCommonPlaces_4 n V fu c d (nI (sm (fun x => sm (bth M c d x) 40) x + sm (bth M c d x) 40)) (nI x + 1) = _
    rw [nI_1]
    exact hn
theorem x_cc (hW : WF M) (hX : RX n V M) {c d : Nat} (hc : c < M 0 0) (hd : d < M 0 0) : f_X3_countCommonPlaces n V c d = some (nI (sm (fun x => sm (bth M c d x) 40) 40)) := by
  have h := x_cc4 hW hX hc hd 40 0 FU rfl (by unfold FU; omega)
  unfold f_X3_countCommonPlaces
  exact h
theorem t_both35 (hW : WF M) (hT : RT T M) {c d : Nat} (hc : c < M 0 0) (hd : d < M 0 0) : ∀ (k p fu : Nat), p + k = 1600 → k < fu → f_X4_both_35 T fu (nI c) (nI d) (nI (sm (fun p => bth M c d (p % 40) (p / 40)) p)) (nI p) = some (nI (sm (fun p => bth M c d (p % 40) (p / 40)) 1600), T) := by
  intro k
  induction k with
  | zero =>
    intro p fu h1 h2
    obtain ⟨fu, rfl⟩ : ∃ g, fu = g + 1 := ⟨fu - 1, by omega⟩
    unfold f_X4_both_35
    rw [oi_p (show (1600 : Int32) ≤ nI p from nI_le (a := 1600) (by omega) (by omega)), show p = 1600 by omega]
  | succ k ih =>
    intro p fu h1 h2
    obtain ⟨fu, rfl⟩ : ∃ g, fu = g + 1 := ⟨fu - 1, by omega⟩
    have hn := ih (p + 1) fu (by omega) (by omega)
    have es : sm (fun p => bth M c d (p % 40) (p / 40)) (p + 1) = sm (fun p => bth M c d (p % 40) (p / 40)) p + bth M c d (p % 40) (p / 40) := rfl
    rw [es] at hn
    have e1 : nI p / 40 = nI (p / 40) := nI_div (b := 40) (by omega) (by omega) (by omega)
    have e2 : nI p - nI (p / 40) * 40 = nI (p % 40) := by
      rw [show (40 : Int32) = nI 40 from rfl, nI_mul, nI_subn (by omega)]
      congr 1
      omega
    have hx : p % 40 < 40 := by omega
    have hy : p / 40 < 40 := by omega
    unfold f_X4_both_35
    rw [oi_n (show ¬ (1600 : Int32) ≤ nI p from nI_ge (b := 1600) (by omega) (by omega)), e1, e2, t_rch hW hT hc hx hy, ob_s, nI_1, nI_1, Int32.add_zero]
    by_cases q : far M c (p % 40) (p / 40) ≤ M 3 c * M 3 c
    · rw [if_pos q, oi_n e10, t_rch hW hT hd hx hy, ob_s]
      by_cases r : far M d (p % 40) (p / 40) ≤ M 3 d * M 3 d
      · rw [if_pos r, oi_n e10]
        rw [show bth M c d (p % 40) (p / 40) = 1 by unfold bth; rw [if_pos q, if_pos r]] at hn
        exact hn
      · rw [if_neg r, oi_p rfl]
        rw [show bth M c d (p % 40) (p / 40) = 0 by unfold bth; rw [if_pos q, if_neg r]] at hn
        exact hn
    · rw [if_neg q, oi_p rfl]
      rw [show bth M c d (p % 40) (p / 40) = 0 by unfold bth; rw [if_neg q]] at hn
      exact hn
theorem bth_eq (M : MD) (c d : Nat) : sm (fun p => bth M c d (p % 40) (p / 40)) 1600 = sm (fun x => sm (bth M c d x) 40) 40 := by
  have h := sm_rows (bth M c d) 40
  rw [show 40 * 40 = 1600 from rfl] at h
  rw [h, sm_swap (bth M c d) 40 40]
theorem t_both (hW : WF M) (hT : RT T M) {c d : Nat} (hc : c < M 0 0) (hd : d < M 0 0) : f_X4_both T (nI c) (nI d) = some (nI (sm (fun x => sm (bth M c d x) 40) 40), rsc T 27 0) := by
  have h := t_both35 hW (T := rsc T 27 0) (RT_27 hT) hc hd 1600 0 FU rfl (by unfold FU; omega)
  rw [bth_eq] at h
  unfold f_X4_both
  rw [t_isc hW hT hc, ob_s, oi_p rfl, t_isc hW hT hd, ob_s, oi_p rfl, t_fl0, ob_s, oi_p rfl]
  exact h
theorem t_bothn (hW : WF M) (hT : RT T M) {p q : Int32} (h : (p < 0 ∨ nI (M 0 0) ≤ p) ∨ (∃ c, c < M 0 0 ∧ p = nI c) ∧ (q < 0 ∨ nI (M 0 0) ≤ q)) : f_X4_both T p q = some (0, rsc T 27 1) := by
  unfold f_X4_both
  rcases h with h | ⟨⟨c, hc, rfl⟩, h⟩
  · rw [t_noc hW hT h, ob_s, oi_n e10, t_fl1, ob_s, oi_n e10]
  · rw [t_isc hW hT hc, ob_s, oi_p rfl, t_noc hW hT h, ob_s, oi_n e10, t_fl1, ob_s, oi_n e10]
theorem cpairs (hW : WF M) (p q : Int32) : (∃ c d, c < M 0 0 ∧ d < M 0 0 ∧ p = nI c ∧ q = nI d) ∨ ((p < 0 ∨ nI (M 0 0) ≤ p) ∨ (∃ c, c < M 0 0 ∧ p = nI c) ∧ (q < 0 ∨ nI (M 0 0) ≤ q)) := by
  have h5 := hW.1.1
  rcases p_num p (M 0 0) (by omega) with ⟨c, hc, rfl⟩ | h
  · rcases p_num q (M 0 0) (by omega) with ⟨d, hd, rfl⟩ | h
    · exact Or.inl ⟨c, d, hc, hd, rfl, rfl⟩
    · exact Or.inr (Or.inr ⟨⟨c, hc, rfl⟩, h⟩)
  · exact Or.inr (Or.inl h)
theorem x_nocr {α : Type} {p q : Int32} {x : Option α} {y : Nat → Nat → Option α} (hW : WF M) (hX : RX n V M) (h : (p < 0 ∨ nI (M 0 0) ≤ p) ∨ (∃ c, c < M 0 0 ∧ p = nI c) ∧ (q < 0 ∨ nI (M 0 0) ≤ q)) : ob (f_X3_craneNumbered n V p) (fun u_1 => oc (n 0) u_1 (ob (f_X3_craneNumbered n V q) (fun u_5 => oc (n 0) u_5 x (fun _ => x))) (fun k_3 => ob (f_X3_craneNumbered n V q) (fun u_9 => oc (n 0) u_9 x (y k_3)))) = x := by
  have h5 := hW.1.1
  rcases h with h | ⟨⟨c, hc, rfl⟩, h⟩
  · rw [x_crn hW hX h, ob_s, oc_n]
    rcases p_num q (M 0 0) (by omega) with ⟨d, hd, rfl⟩ | h2
    · rw [x_crk hW hX hd, ob_s, oc_s (rx_n0 hX hd)]
    · rw [x_crn hW hX h2, ob_s, oc_n]
  · rw [x_crk hW hX hc, ob_s, oc_s (rx_n0 hX hc), x_crn hW hX h, ob_s, oc_n]
theorem st_16 (hR : Rel n V T) : lst_16 Rel n V T := by
  obtain ⟨M, hW, hX, hT, hA⟩ := hR
  intro out p1 p2
  rcases cpairs hW p1 p2 with ⟨c, d, hc, hd, rfl, rfl⟩ | h
  · refine ⟨(0, n, V, vp_updL out (0 : Int32).toNatClampNeg (nI (sm (fun x => sm (bth M c d x) 40) 40)).toInt64), (nI (sm (fun x => sm (bth M c d x) 40) 40), rsc T 27 0), ?_, ?_, rfl, fun _ => u0 (f := out), Rel.of27 hW hX hT hA⟩
    · unfold f_L_bothReach f_X3_bothReach
      rw [x_crk hW hX hc, ob_s, oc_s (rx_n0 hX hc), x_crk hW hX hd, ob_s, oc_s (rx_n0 hX hd), x_cc hW hX hc hd, ob_s, ob_s, oi_p rfl]
    · unfold f_X4_bothReach
      rw [t_both hW hT hc hd, ob_s]
  · refine ⟨(1, n, V, out), (0, rsc T 27 1), ?_, ?_, rfl, fun h => absurd h e10, Rel.of27 hW hX hT hA⟩
    · unfold f_L_bothReach f_X3_bothReach
      rw [x_nocr hW hX h, ob_s, oi_n n30, oi_p rfl]
    · unfold f_X4_bothReach
      rw [t_bothn hW hT h, ob_s]
theorem st_15 (hR : Rel n V T) : lst_15 Rel n V T := by
  obtain ⟨M, hW, hX, hT, hA⟩ := hR
  intro out p1 p2
  rcases cpairs hW p1 p2 with ⟨c, d, hc, hd, rfl, rfl⟩ | h
  · have hx := x_cc hW hX hc hd
    have ht := t_both hW hT hc hd
    generalize sm (fun x => sm (bth M c d x) 40) 40 = z at hx ht
    by_cases q : nI z ≤ 0
    · refine ⟨(0, n, V, vp_updL out (0 : Int32).toNatClampNeg 0), (0, rsc T 27 0), ?_, ?_, rfl, fun _ => u0 (f := out), Rel.of27 hW hX hT hA⟩
      · unfold f_L_overlap f_X3_overlap
        rw [x_crk hW hX hc, ob_s, oc_s (rx_n0 hX hc), x_crk hW hX hd, ob_s, oc_s (rx_n0 hX hd), hx, ob_s, oi_p q, ob_s, oi_p rfl, oi_p rfl]
      · unfold f_X4_overlap
        rw [ht, ob_s, oi_p q]
    · refine ⟨(0, n, V, vp_updL out (0 : Int32).toNatClampNeg 1), (1, rsc T 27 0), ?_, ?_, rfl, fun _ => (u0 (f := out)).trans (if_neg e10).symm, Rel.of27 hW hX hT hA⟩
      · unfold f_L_overlap f_X3_overlap
        rw [x_crk hW hX hc, ob_s, oc_s (rx_n0 hX hc), x_crk hW hX hd, ob_s, oc_s (rx_n0 hX hd), hx, ob_s, oi_n q, ob_s, oi_p rfl, oi_n e10]
      · unfold f_X4_overlap
        rw [ht, ob_s, oi_n q]
  · refine ⟨(1, n, V, out), (0, rsc T 27 1), ?_, ?_, rfl, fun h => absurd h e10, Rel.of27 hW hX hT hA⟩
    · unfold f_L_overlap f_X3_overlap
      rw [x_nocr hW hX h, ob_s, oi_n n30, oi_p rfl]
    · unfold f_X4_overlap
      rw [t_bothn hW hT h, ob_s, oi_p (show (0 : Int32) ≤ 0 by decide)]
end Q25
