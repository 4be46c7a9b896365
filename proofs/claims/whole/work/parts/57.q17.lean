section Q17
variable {n : Nat → Nat} {V : XV} {T : RV} {M : MD}
theorem po_eq (hW : WF M) {i j : Nat} (hi : i < M 0 1) (hj : j < M 0 1) : nI (M 16 i) - 1 = nI (M 16 j) - 1 ↔ M 16 i = M 16 j := by
  have h6 := hW.1.2.2.1
  have a := (hW.2.2.1 i hi).2.2.2.2.2.2.2.2.1
  have b := (hW.2.2.1 j hj).2.2.2.2.2.2.2.2.1
  refine ⟨fun h => ?_, fun h => by rw [h]⟩
  have h2 : nI (M 16 i) - 1 + 1 = nI (M 16 j) - 1 + 1 := by rw [h]
  rw [Int32.sub_add_cancel, Int32.sub_add_cancel] at h2
  exact nI_inj h2 (by omega) (by omega)
theorem po_neg (hW : WF M) {i : Nat} (hi : i < M 0 1) : nI (M 16 i) - 1 < 0 ↔ M 16 i = 0 := by
  have h6 := hW.1.2.2.1
  have a := (hW.2.2.1 i hi).2.2.2.2.2.2.2.2.1
  by_cases q : M 16 i = 0
  · rw [q]; exact ⟨fun _ => rfl, fun _ => by decide⟩
  · rw [nI_m1 (by omega)]
    exact ⟨fun h => absurd h (nI_pos (by omega)), fun h => absurd h q⟩
/-- one turn of the reference's loop -/
theorem t_unp (hW : WF M) (hT : RT T M) {l i : Nat} (hl : l < M 0 1) (hi : i < M 0 1) (fr : Nat) (x : Int32) : f_X4_unplan_37 T (fr + 1) (nI l) x (nI i) = if M 17 i = 112 ∧ (i = l ∨ M 16 l ≠ 0 ∧ M 16 i = M 16 l) then f_X4_unplan_37 (rar T 14 i 119) fr (nI l) (x + 1) (nI (i + 1)) else f_X4_unplan_37 T fr (nI l) x (nI (i + 1)) := by
  have h40 := hW.1.2.1
  have hl40 := wfl_40 hW hl
  have gi := nI_in (c := i) (N := 40) (by omega) (by omega)
  have gl := nI_in (N := 40) hl40 (by omega)
  show oi ((T.1 7) ≤ nI i) _ _ = _
  rw [hT.1.2.1, oi_n (nI_ge (by omega) (by omega))]
  repeat rw [og_p gi]
  repeat rw [og_p gl]
  repeat rw [og_p gi]
  repeat rw [og_p gl]
  repeat rw [og_p gi]
  rw [nI_clamp (show i < 2 ^ 31 by omega), nI_clamp (show l < 2 ^ 31 by omega), (hT.2.2.2.1 i hi).2.2.2.2.2.2.2.1, (hT.2.2.2.1 i hi).2.2.2.2.2.2.1, (hT.2.2.2.1 l hl).2.2.2.2.2.2.1, nI_1]
  by_cases q : M 17 i = 112
  · rw [oi_p (show nI (M 17 i) = 112 from (st_is hW hi 112 (by omega)).mpr q)]
    by_cases r : i = l
    · rw [oi_p (by rw [r]), if_pos ⟨q, Or.inl r⟩]; rfl
    · rw [oi_n (nI_ne r (by omega) (by omega))]
      by_cases z : M 16 l = 0
      · rw [oi_p ((po_neg hW hl).mpr z), if_neg (fun h => h.2.elim r (fun w => w.1 z))]
      · rw [oi_n (fun h => z ((po_neg hW hl).mp h))]
        by_cases y : M 16 i = M 16 l
        · rw [oi_p ((po_eq hW hi hl).mpr y), if_pos ⟨q, Or.inr ⟨z, y⟩⟩]; rfl
        · rw [oi_n (fun h => y ((po_eq hW hi hl).mp h)), if_neg (fun h => h.2.elim r (fun w => y w.2))]
  · rw [oi_n (show ¬ nI (M 17 i) = 112 from fun h => q ((st_is hW hi 112 (by omega)).mp h)), if_neg (fun h => q h.1)]
end Q17
