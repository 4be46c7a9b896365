def lst_0 (Rel : (Nat → Nat) → XV → RV → Prop) (n : Nat → Nat) (V : XV) (T : RV) : Prop := ∀ (out : Nat → Int64) (p1 p2 p3 p4 p5 : Int32), ∃ (res : Int32 × (Nat → Nat) × XV × (Nat → Int64)) (rr : Int32 × RV), f_L_addCrane n V out p1 p2 p3 p4 p5 = some res ∧ f_X4_addCrane T p1 p2 p3 p4 p5 = some rr ∧ rr.2.1 27 = res.1 ∧ (res.1 = 0 → res.2.2.2 (0 : Int32).toNatClampNeg = Int32.toInt64 rr.1) ∧ Rel res.2.1 res.2.2.1 rr.2
def lst_1 (Rel : (Nat → Nat) → XV → RV → Prop) (n : Nat → Nat) (V : XV) (T : RV) : Prop := ∀ (out : Nat → Int64) (p1 p2 p3 : Int32), ∃ (res : Int32 × (Nat → Nat) × XV × (Nat → Int64)) (rr : Int32 × RV), f_L_permit n V out p1 p2 p3 = some res ∧ f_X4_permit T p1 p2 p3 = some rr ∧ rr.2.1 27 = res.1 ∧ (res.1 = 0 → res.2.2.2 (0 : Int32).toNatClampNeg = Int32.toInt64 rr.1) ∧ Rel res.2.1 res.2.2.1 rr.2
def lst_2 (Rel : (Nat → Nat) → XV → RV → Prop) (n : Nat → Nat) (V : XV) (T : RV) : Prop := ∀ (out : Nat → Int64) (p1 p2 p3 : Int32), ∃ (res : Int32 × (Nat → Nat) × XV × (Nat → Int64)) (rr : Int32 × RV), f_L_endPermit n V out p1 p2 p3 = some res ∧ f_X4_endPermit T p1 p2 p3 = some rr ∧ rr.2.1 27 = res.1 ∧ (res.1 = 0 → res.2.2.2 (0 : Int32).toNatClampNeg = Int32.toInt64 rr.1) ∧ Rel res.2.1 res.2.2.1 rr.2
def lst_3 (Rel : (Nat → Nat) → XV → RV → Prop) (n : Nat → Nat) (V : XV) (T : RV) : Prop := ∀ (out : Nat → Int64) (p1 : Int32), ∃ (res : Int32 × (Nat → Nat) × XV × (Nat → Int64)) (rr : Int32 × RV), f_L_setWind n V out p1 = some res ∧ f_X4_setWind T p1 = some rr ∧ rr.2.1 27 = res.1 ∧ (res.1 = 0 → res.2.2.2 (0 : Int32).toNatClampNeg = Int32.toInt64 rr.1) ∧ Rel res.2.1 res.2.2.1 rr.2
def lst_4 (Rel : (Nat → Nat) → XV → RV → Prop) (n : Nat → Nat) (V : XV) (T : RV) : Prop := ∀ (out : Nat → Int64) (p1 p2 p3 p4 p5 p6 : Int32), ∃ (res : Int32 × (Nat → Nat) × XV × (Nat → Int64)) (rr : Int32 × RV), f_L_addLift n V out p1 p2 p3 p4 p5 p6 = some res ∧ f_X4_addLift T p1 p2 p3 p4 p5 p6 = some rr ∧ rr.2.1 27 = res.1 ∧ (res.1 = 0 → res.2.2.2 (0 : Int32).toNatClampNeg = Int32.toInt64 rr.1) ∧ Rel res.2.1 res.2.2.1 rr.2
def lst_5 (Rel : (Nat → Nat) → XV → RV → Prop) (n : Nat → Nat) (V : XV) (T : RV) : Prop := ∀ (out : Nat → Int64) (p1 p2 p3 p4 p5 p6 p7 p8 : Int32), ∃ (res : Int32 × (Nat → Nat) × XV × (Nat → Int64)) (rr : Int32 × RV), f_L_addPour n V out p1 p2 p3 p4 p5 p6 p7 p8 = some res ∧ f_X4_addPour T p1 p2 p3 p4 p5 p6 p7 p8 = some rr ∧ rr.2.1 27 = res.1 ∧ (res.1 = 0 → res.2.2.2 (0 : Int32).toNatClampNeg = Int32.toInt64 rr.1) ∧ Rel res.2.1 res.2.2.1 rr.2
def lst_6 (Rel : (Nat → Nat) → XV → RV → Prop) (n : Nat → Nat) (V : XV) (T : RV) : Prop := ∀ (out : Nat → Int64) (p1 p2 : Int32), ∃ (res : Int32 × (Nat → Nat) × XV × (Nat → Int64)) (rr : Int32 × RV), f_L_plan n V out p1 p2 = some res ∧ f_X4_plan T p1 p2 = some rr ∧ rr.2.1 27 = res.1 ∧ (res.1 = 0 → res.2.2.2 (0 : Int32).toNatClampNeg = Int32.toInt64 rr.1) ∧ Rel res.2.1 res.2.2.1 rr.2
def lst_7 (Rel : (Nat → Nat) → XV → RV → Prop) (n : Nat → Nat) (V : XV) (T : RV) : Prop := ∀ (out : Nat → Int64) (p1 p2 p3 : Int32), ∃ (res : Int32 × (Nat → Nat) × XV × (Nat → Int64)) (rr : Int32 × RV), f_L_planAt n V out p1 p2 p3 = some res ∧ f_X4_planAt T p1 p2 p3 = some rr ∧ rr.2.1 27 = res.1 ∧ (res.1 = 0 → res.2.2.2 (0 : Int32).toNatClampNeg = Int32.toInt64 rr.1) ∧ Rel res.2.1 res.2.2.1 rr.2
def lst_8 (Rel : (Nat → Nat) → XV → RV → Prop) (n : Nat → Nat) (V : XV) (T : RV) : Prop := ∀ (out : Nat → Int64) (p1 p2 : Int32), ∃ (res : Int32 × (Nat → Nat) × XV × (Nat → Int64)) (rr : Int32 × RV), f_L_planPour n V out p1 p2 = some res ∧ f_X4_planPour T p1 p2 = some rr ∧ rr.2.1 27 = res.1 ∧ (res.1 = 0 → res.2.2.2 (0 : Int32).toNatClampNeg = Int32.toInt64 rr.1) ∧ Rel res.2.1 res.2.2.1 rr.2
def lst_9 (Rel : (Nat → Nat) → XV → RV → Prop) (n : Nat → Nat) (V : XV) (T : RV) : Prop := ∀ (out : Nat → Int64) (p1 : Int32), ∃ (res : Int32 × (Nat → Nat) × XV × (Nat → Int64)) (rr : Int32 × RV), f_L_unplan n V out p1 = some res ∧ f_X4_unplan T p1 = some rr ∧ rr.2.1 27 = res.1 ∧ (res.1 = 0 → res.2.2.2 (0 : Int32).toNatClampNeg = Int32.toInt64 rr.1) ∧ Rel res.2.1 res.2.2.1 rr.2
def lst_10 (Rel : (Nat → Nat) → XV → RV → Prop) (n : Nat → Nat) (V : XV) (T : RV) : Prop := ∀ (out : Nat → Int64) (p1 : Int32), ∃ (res : Int32 × (Nat → Nat) × XV × (Nat → Int64)) (rr : Int32 × RV), f_L_pass n V out p1 = some res ∧ f_X4_pass T p1 = some rr ∧ rr.2.1 27 = res.1 ∧ (res.1 = 0 → res.2.2.2 (0 : Int32).toNatClampNeg = Int32.toInt64 rr.1) ∧ Rel res.2.1 res.2.2.1 rr.2
def lst_11 (Rel : (Nat → Nat) → XV → RV → Prop) (n : Nat → Nat) (V : XV) (T : RV) : Prop := ∃ (xr : Int32) (rr : Int32 × RV), f_X3_now n V = some xr ∧ f_X4_now T = some rr ∧ xr = rr.1 ∧ Rel n V rr.2
def lst_12 (Rel : (Nat → Nat) → XV → RV → Prop) (n : Nat → Nat) (V : XV) (T : RV) : Prop := ∃ (xr : Int32) (rr : Int32 × RV), f_X3_cranes n V = some xr ∧ f_X4_cranes T = some rr ∧ xr = rr.1 ∧ Rel n V rr.2
def lst_13 (Rel : (Nat → Nat) → XV → RV → Prop) (n : Nat → Nat) (V : XV) (T : RV) : Prop := ∃ (xr : Int32) (rr : Int32 × RV), f_X3_lifts n V = some xr ∧ f_X4_lifts T = some rr ∧ xr = rr.1 ∧ Rel n V rr.2
def lst_14 (Rel : (Nat → Nat) → XV → RV → Prop) (n : Nat → Nat) (V : XV) (T : RV) : Prop := ∀ (out : Nat → Int64) (p1 p2 p3 : Int32), ∃ (res : Int32 × (Nat → Nat) × XV × (Nat → Int64)) (rr : Int32 × RV), f_L_limit n V out p1 p2 p3 = some res ∧ f_X4_limit T p1 p2 p3 = some rr ∧ rr.2.1 27 = res.1 ∧ (res.1 = 0 → res.2.2.2 (0 : Int32).toNatClampNeg = Int32.toInt64 rr.1) ∧ Rel res.2.1 res.2.2.1 rr.2
def lst_15 (Rel : (Nat → Nat) → XV → RV → Prop) (n : Nat → Nat) (V : XV) (T : RV) : Prop := ∀ (out : Nat → Int64) (p1 p2 : Int32), ∃ (res : Int32 × (Nat → Nat) × XV × (Nat → Int64)) (rr : Int32 × RV), f_L_overlap n V out p1 p2 = some res ∧ f_X4_overlap T p1 p2 = some rr ∧ rr.2.1 27 = res.1 ∧ (res.1 = 0 → res.2.2.2 (0 : Int32).toNatClampNeg = if rr.1 = 0 then 0 else 1) ∧ Rel res.2.1 res.2.2.1 rr.2
def lst_16 (Rel : (Nat → Nat) → XV → RV → Prop) (n : Nat → Nat) (V : XV) (T : RV) : Prop := ∀ (out : Nat → Int64) (p1 p2 : Int32), ∃ (res : Int32 × (Nat → Nat) × XV × (Nat → Int64)) (rr : Int32 × RV), f_L_bothReach n V out p1 p2 = some res ∧ f_X4_bothReach T p1 p2 = some rr ∧ rr.2.1 27 = res.1 ∧ (res.1 = 0 → res.2.2.2 (0 : Int32).toNatClampNeg = Int32.toInt64 rr.1) ∧ Rel res.2.1 res.2.2.1 rr.2
def lst_17 (Rel : (Nat → Nat) → XV → RV → Prop) (n : Nat → Nat) (V : XV) (T : RV) : Prop := ∀ (out : Nat → Int64) (p1 p2 p3 : Int32), ∃ (res : Int32 × (Nat → Nat) × XV × (Nat → Int64)) (rr : Int32 × RV), f_L_reason n V out p1 p2 p3 = some res ∧ f_X4_reason T p1 p2 p3 = some rr ∧ rr.2.1 27 = res.1 ∧ (res.1 = 0 → res.2.2.2 (0 : Int32).toNatClampNeg = Int32.toInt64 rr.1) ∧ Rel res.2.1 res.2.2.1 rr.2
def lst_18 (Rel : (Nat → Nat) → XV → RV → Prop) (n : Nat → Nat) (V : XV) (T : RV) : Prop := ∀ (out : Nat → Int64) (p1 p2 : Int32), ∃ (res : Int32 × (Nat → Nat) × XV × (Nat → Int64)) (rr : Int32 × RV), f_L_earliest n V out p1 p2 = some res ∧ f_X4_earliest T p1 p2 = some rr ∧ rr.2.1 27 = res.1 ∧ (res.1 = 0 → res.2.2.2 (0 : Int32).toNatClampNeg = Int32.toInt64 rr.1) ∧ Rel res.2.1 res.2.2.1 rr.2
def lst_19 (Rel : (Nat → Nat) → XV → RV → Prop) (n : Nat → Nat) (V : XV) (T : RV) : Prop := ∀ (out : Nat → Int64) (p1 p2 : Int32), ∃ (res : Int32 × (Nat → Nat) × XV × (Nat → Int64)) (rr : Int32 × RV), f_L_earliestByMinutes n V out p1 p2 = some res ∧ f_X4_earliestByMinutes T p1 p2 = some rr ∧ rr.2.1 27 = res.1 ∧ (res.1 = 0 → res.2.2.2 (0 : Int32).toNatClampNeg = Int32.toInt64 rr.1) ∧ Rel res.2.1 res.2.2.1 rr.2
def lst_20 (Rel : (Nat → Nat) → XV → RV → Prop) (n : Nat → Nat) (V : XV) (T : RV) : Prop := ∀ (out : Nat → Int64) (p1 : Int32), ∃ (res : Int32 × (Nat → Nat) × XV × (Nat → Int64)) (rr : Int32 × RV), f_L_stateOf n V out p1 = some res ∧ f_X4_stateOf T p1 = some rr ∧ rr.2.1 27 = res.1 ∧ (res.1 = 0 → res.2.2.2 (0 : Int32).toNatClampNeg = Int32.toInt64 rr.1) ∧ Rel res.2.1 res.2.2.1 rr.2
def lst_21 (Rel : (Nat → Nat) → XV → RV → Prop) (n : Nat → Nat) (V : XV) (T : RV) : Prop := ∀ (out : Nat → Int64) (p1 : Int32), ∃ (res : Int32 × (Nat → Nat) × XV × (Nat → Int64)) (rr : Int32 × RV), f_L_startOf n V out p1 = some res ∧ f_X4_startOf T p1 = some rr ∧ rr.2.1 27 = res.1 ∧ (res.1 = 0 → res.2.2.2 (0 : Int32).toNatClampNeg = Int32.toInt64 rr.1) ∧ Rel res.2.1 res.2.2.1 rr.2
def lst_22 (Rel : (Nat → Nat) → XV → RV → Prop) (n : Nat → Nat) (V : XV) (T : RV) : Prop := ∀ (out : Nat → Int64) (p1 : Int32), ∃ (res : Int32 × (Nat → Nat) × XV × (Nat → Int64)) (rr : Int32 × RV), f_L_craneOf n V out p1 = some res ∧ f_X4_craneOf T p1 = some rr ∧ rr.2.1 27 = res.1 ∧ (res.1 = 0 → res.2.2.2 (0 : Int32).toNatClampNeg = Int32.toInt64 rr.1) ∧ Rel res.2.1 res.2.2.1 rr.2
def lst_23 (Rel : (Nat → Nat) → XV → RV → Prop) (n : Nat → Nat) (V : XV) (T : RV) : Prop := ∀ (out : Nat → Int64) (p1 : Int32), ∃ (res : Int32 × (Nat → Nat) × XV × (Nat → Int64)) (rr : Int32 × RV), f_L_pourOf n V out p1 = some res ∧ f_X4_pourOf T p1 = some rr ∧ rr.2.1 27 = res.1 ∧ (res.1 = 0 → res.2.2.2 (0 : Int32).toNatClampNeg = Int32.toInt64 rr.1) ∧ Rel res.2.1 res.2.2.1 rr.2
def lst_24 (Rel : (Nat → Nat) → XV → RV → Prop) (n : Nat → Nat) (V : XV) (T : RV) : Prop := ∀ (out : Nat → Int64) (p1 : Int32), ∃ (res : Int32 × (Nat → Nat) × XV × (Nat → Int64)) (rr : Int64 × RV), f_L_airOf n V out p1 = some res ∧ f_X4_airOf T p1 = some rr ∧ rr.2.1 27 = res.1 ∧ (res.1 = 0 → res.2.2.2 (0 : Int32).toNatClampNeg = rr.1) ∧ Rel res.2.1 res.2.2.1 rr.2
def lst_25 (Rel : (Nat → Nat) → XV → RV → Prop) (n : Nat → Nat) (V : XV) (T : RV) : Prop := ∀ (out : Nat → Int64) (p1 p2 : Int32), ∃ (res : Int32 × (Nat → Nat) × XV × (Nat → Int64)) (rr : Int32 × RV), f_L_shareAir n V out p1 p2 = some res ∧ f_X4_shareAir T p1 p2 = some rr ∧ rr.2.1 27 = res.1 ∧ (res.1 = 0 → res.2.2.2 (0 : Int32).toNatClampNeg = if rr.1 = 0 then 0 else 1) ∧ Rel res.2.1 res.2.2.1 rr.2
def lst_26 (Rel : (Nat → Nat) → XV → RV → Prop) (n : Nat → Nat) (V : XV) (T : RV) : Prop := ∀ (out : Nat → Int64) (p1 p2 : Int32), ∃ (res : Int32 × (Nat → Nat) × XV × (Nat → Int64)) (rr : Int32 × RV), f_L_liftAt n V out p1 p2 = some res ∧ f_X4_liftAt T p1 p2 = some rr ∧ rr.2.1 27 = res.1 ∧ (res.1 = 0 → res.2.2.2 (0 : Int32).toNatClampNeg = Int32.toInt64 rr.1) ∧ Rel res.2.1 res.2.2.1 rr.2
def lst_27 (Rel : (Nat → Nat) → XV → RV → Prop) (n : Nat → Nat) (V : XV) (T : RV) : Prop := ∀ (out : Nat → Int64) (p1 p2 : Int32), ∃ (res : Int32 × (Nat → Nat) × XV × (Nat → Int64)) (rr : Int32 × RV), f_L_liftByMinutes n V out p1 p2 = some res ∧ f_X4_liftByMinutes T p1 p2 = some rr ∧ rr.2.1 27 = res.1 ∧ (res.1 = 0 → res.2.2.2 (0 : Int32).toNatClampNeg = Int32.toInt64 rr.1) ∧ Rel res.2.1 res.2.2.1 rr.2
def lst_28 (Rel : (Nat → Nat) → XV → RV → Prop) (n : Nat → Nat) (V : XV) (T : RV) : Prop := ∀ (out : Nat → Int64) (p1 : Int32), ∃ (res : Int32 × (Nat → Nat) × XV × (Nat → Int64)) (rr : Int32 × RV), f_L_freeMinutes n V out p1 = some res ∧ f_X4_freeMinutes T p1 = some rr ∧ rr.2.1 27 = res.1 ∧ (res.1 = 0 → res.2.2.2 (0 : Int32).toNatClampNeg = Int32.toInt64 rr.1) ∧ Rel res.2.1 res.2.2.1 rr.2
def lst_29 (Rel : (Nat → Nat) → XV → RV → Prop) (n : Nat → Nat) (V : XV) (T : RV) : Prop := ∀ (out : Nat → Int64) (p1 : Int32), ∃ (res : Int32 × (Nat → Nat) × XV × (Nat → Int64)) (rr : Int32 × RV), f_L_atWork n V out p1 = some res ∧ f_X4_atWork T p1 = some rr ∧ rr.2.1 27 = res.1 ∧ (res.1 = 0 → res.2.2.2 (0 : Int32).toNatClampNeg = Int32.toInt64 rr.1) ∧ Rel res.2.1 res.2.2.1 rr.2
def lst_30 (Rel : (Nat → Nat) → XV → RV → Prop) (n : Nat → Nat) (V : XV) (T : RV) : Prop := ∀ (out : Nat → Int64) (p1 : Int32), ∃ (res : Int32 × (Nat → Nat) × XV × (Nat → Int64)) (rr : Int64 × RV), f_L_airAt n V out p1 = some res ∧ f_X4_airAt T p1 = some rr ∧ rr.2.1 27 = res.1 ∧ (res.1 = 0 → res.2.2.2 (0 : Int32).toNatClampNeg = rr.1) ∧ Rel res.2.1 res.2.2.1 rr.2
def lst_31 (Rel : (Nat → Nat) → XV → RV → Prop) (n : Nat → Nat) (V : XV) (T : RV) : Prop := ∀ (out : Nat → Int64) (p1 : Int32), ∃ (res : Int32 × (Nat → Nat) × XV × (Nat → Int64)) (rr : Int32 × RV), f_L_squaresAt n V out p1 = some res ∧ f_X4_squaresAt T p1 = some rr ∧ rr.2.1 27 = res.1 ∧ (res.1 = 0 → res.2.2.2 (0 : Int32).toNatClampNeg = Int32.toInt64 rr.1) ∧ Rel res.2.1 res.2.2.1 rr.2
def lst_32 (Rel : (Nat → Nat) → XV → RV → Prop) (n : Nat → Nat) (V : XV) (T : RV) : Prop := ∃ (xr : Int32) (rr : Int32 × RV), f_X3_pours n V = some xr ∧ f_X4_pours T = some rr ∧ xr = rr.1 ∧ Rel n V rr.2
def lst_33 (Rel : (Nat → Nat) → XV → RV → Prop) (n : Nat → Nat) (V : XV) (T : RV) : Prop := ∀ (out : Nat → Int64) (p1 : Int32), ∃ (res : Int32 × (Nat → Nat) × XV × (Nat → Int64)) (rr : Int32 × RV), f_L_firstOf n V out p1 = some res ∧ f_X4_firstOf T p1 = some rr ∧ rr.2.1 27 = res.1 ∧ (res.1 = 0 → res.2.2.2 (0 : Int32).toNatClampNeg = Int32.toInt64 rr.1) ∧ Rel res.2.1 res.2.2.1 rr.2
def lst_34 (Rel : (Nat → Nat) → XV → RV → Prop) (n : Nat → Nat) (V : XV) (T : RV) : Prop := ∀ (out : Nat → Int64) (p1 : Int32), ∃ (res : Int32 × (Nat → Nat) × XV × (Nat → Int64)) (rr : Int32 × RV), f_L_loadsOf n V out p1 = some res ∧ f_X4_loadsOf T p1 = some rr ∧ rr.2.1 27 = res.1 ∧ (res.1 = 0 → res.2.2.2 (0 : Int32).toNatClampNeg = Int32.toInt64 rr.1) ∧ Rel res.2.1 res.2.2.1 rr.2
def lst_35 (Rel : (Nat → Nat) → XV → RV → Prop) (n : Nat → Nat) (V : XV) (T : RV) : Prop := ∀ (out : Nat → Int64) (p1 : Int32), ∃ (res : Int32 × (Nat → Nat) × XV × (Nat → Int64)) (rr : Int32 × RV), f_L_longestWait n V out p1 = some res ∧ f_X4_longestWait T p1 = some rr ∧ rr.2.1 27 = res.1 ∧ (res.1 = 0 → res.2.2.2 (0 : Int32).toNatClampNeg = Int32.toInt64 rr.1) ∧ Rel res.2.1 res.2.2.1 rr.2
def lst_36 (Rel : (Nat → Nat) → XV → RV → Prop) (n : Nat → Nat) (V : XV) (T : RV) : Prop := ∀ (out : Nat → Int64) (p1 : Int32), ∃ (res : Int32 × (Nat → Nat) × XV × (Nat → Int64)) (rr : Int32 × RV), f_L_isBroken n V out p1 = some res ∧ f_X4_isBroken T p1 = some rr ∧ rr.2.1 27 = res.1 ∧ (res.1 = 0 → res.2.2.2 (0 : Int32).toNatClampNeg = if rr.1 = 0 then 0 else 1) ∧ Rel res.2.1 res.2.2.1 rr.2
def lst_37 (Rel : (Nat → Nat) → XV → RV → Prop) (n : Nat → Nat) (V : XV) (T : RV) : Prop := ∃ (xr : Int32) (rr : Int32 × RV), f_X3_waiting n V = some xr ∧ f_X4_waiting T = some rr ∧ xr = rr.1 ∧ Rel n V rr.2
def lst_38 (Rel : (Nat → Nat) → XV → RV → Prop) (n : Nat → Nat) (V : XV) (T : RV) : Prop := ∀ (out : Nat → Int64) (p1 : Int32), ∃ (res : Int32 × (Nat → Nat) × XV × (Nat → Int64)) (rr : Int32 × RV), f_L_minutesOf n V out p1 = some res ∧ f_X4_minutesOf T p1 = some rr ∧ rr.2.1 27 = res.1 ∧ (res.1 = 0 → res.2.2.2 (0 : Int32).toNatClampNeg = Int32.toInt64 rr.1) ∧ Rel res.2.1 res.2.2.1 rr.2
def lst_39 (Rel : (Nat → Nat) → XV → RV → Prop) (n : Nat → Nat) (V : XV) (T : RV) : Prop := ∃ (xr : Int64) (rr : Int64 × RV), f_X3_lifted n V = some xr ∧ f_X4_lifted T = some rr ∧ xr = rr.1 ∧ Rel n V rr.2
def lst_40 (Rel : (Nat → Nat) → XV → RV → Prop) (n : Nat → Nat) (V : XV) (T : RV) : Prop := ∀ (out : Nat → Int64) (p1 : Int32), ∃ (res : Int32 × (Nat → Nat) × XV × (Nat → Int64)) (rr : Int32 × RV), f_L_code n V out p1 = some res ∧ f_X4_code T p1 = some rr ∧ rr.2.1 27 = res.1 ∧ (res.1 = 0 → res.2.2.2 (0 : Int32).toNatClampNeg = Int32.toInt64 rr.1) ∧ Rel res.2.1 res.2.2.1 rr.2
def lst_41 (Rel : (Nat → Nat) → XV → RV → Prop) (n : Nat → Nat) (V : XV) (T : RV) : Prop := ∀ (out : Nat → UInt64) (p1 : Int32), ∃ (res : Int32 × (Nat → Nat) × XV × (Nat → UInt64)) (rr : UInt32 × RV), f_L_workShare n V out p1 = some res ∧ f_X4_workShare T p1 = some rr ∧ rr.2.1 27 = res.1 ∧ (res.1 = 0 → vf_n64 (FP.f2d rr.1)) ∧ (res.1 = 0 → Op.cmpValue (FP.dcmp (res.2.2.2 (0 : Int32).toNatClampNeg) (FP.f2d rr.1)) .l = 0) ∧ Rel res.2.1 res.2.2.1 rr.2
def lst_42 (Rel : (Nat → Nat) → XV → RV → Prop) (n : Nat → Nat) (V : XV) (T : RV) : Prop := ∀ (out : Nat → UInt64), ∃ (res : Int32 × (Nat → Nat) × XV × (Nat → UInt64)) (rr : UInt64 × RV), f_L_meanStart n V out  = some res ∧ f_X4_meanStart T  = some rr ∧ rr.2.1 27 = res.1 ∧ (res.1 = 0 → Op.cmpValue (FP.dcmp (res.2.2.2 (0 : Int32).toNatClampNeg) (rr.1)) .l = 0) ∧ Rel res.2.1 res.2.2.1 rr.2
def lsteps (Rel : (Nat → Nat) → XV → RV → Prop) (n : Nat → Nat) (V : XV) (T : RV) : Prop := lst_0 Rel n V T ∧ lst_1 Rel n V T ∧ lst_2 Rel n V T ∧ lst_3 Rel n V T ∧ lst_4 Rel n V T ∧ lst_5 Rel n V T ∧ lst_6 Rel n V T ∧ lst_7 Rel n V T ∧ lst_8 Rel n V T ∧ lst_9 Rel n V T ∧ lst_10 Rel n V T ∧ lst_11 Rel n V T ∧ lst_12 Rel n V T ∧ lst_13 Rel n V T ∧ lst_14 Rel n V T ∧ lst_15 Rel n V T ∧ lst_16 Rel n V T ∧ lst_17 Rel n V T ∧ lst_18 Rel n V T ∧ lst_19 Rel n V T ∧ lst_20 Rel n V T ∧ lst_21 Rel n V T ∧ lst_22 Rel n V T ∧ lst_23 Rel n V T ∧ lst_24 Rel n V T ∧ lst_25 Rel n V T ∧ lst_26 Rel n V T ∧ lst_27 Rel n V T ∧ lst_28 Rel n V T ∧ lst_29 Rel n V T ∧ lst_30 Rel n V T ∧ lst_31 Rel n V T ∧ lst_32 Rel n V T ∧ lst_33 Rel n V T ∧ lst_34 Rel n V T ∧ lst_35 Rel n V T ∧ lst_36 Rel n V T ∧ lst_37 Rel n V T ∧ lst_38 Rel n V T ∧ lst_39 Rel n V T ∧ lst_40 Rel n V T ∧ lst_41 Rel n V T ∧ lst_42 Rel n V T
section LOOP
variable {p : Program} {l : Launch} {e : Env} {s : State} {m : MethodId} {args : Array Value} {below : List Frame} {meth : Method} {c : Code} {D : va_G} {cy : Nat → ClassId} {A : Nat → Prop} {Q : State → Prop} {sb L : Nat} {xs : Nat → Int32}
theorem l_in {t k L : Nat} (h : 9 * t + 9 ≤ L) (hL : L ≤ 4608) (i : Int32) (hi : i = nI (9 * t)) (hk : k < 9) : vp_in (i + nI k) L := by
  subst hi
  rw [nI_add]
  exact vp_in_nI (by omega) (by omega)
theorem l_i9 (t : Nat) : nI (9 * t) + Int32.ofInt 9 = nI (9 * (t + 1)) := by
  rw [show Int32.ofInt 9 = nI 9 from rfl, nI_add, Nat.mul_succ]
theorem l_sub {L : Nat} (hL : L ≤ 4608) : (Int32.ofNat L - 9).toInt = (L : Int) - 9 := by
  have h : (Int32.ofNat L).toInt = (L : Int) := nI_toInt (n := L) (by omega)
  rw [Int32.toInt_sub, h, show (9 : Int32).toInt = 9 from rfl]
  exact Int.bmod_eq_of_le (by omega) (by omega)
set_option maxHeartbeats 4000000 in
set_option maxRecDepth 100000 in
theorem l_loop_open (Rel : (Nat → Nat) → XV → RV → Prop) (hsteps : ∀ n V T, Rel n V T → lsteps Rel n V T) (hC0 : lC p l s m args meth c D cy A sb L xs) (hL : L ≤ 4608) {b : Nat → Nat} {o1 o2 : Nat}
    (hend : ∀ (H : Heap) (locs : List Loc) (ls : Array Slot) (cells_ slots_ : Nat), cells_ ≤ 16 * 600 → slots_ ≤ 5000 + 130 * 600 → va_S A s.heap H locs → W p l e room_1 s m args below meth c H locs cells_ slots_ Q (F0 m 2867 ls [])) :
    ∀ (k t : Nat) (a : XA) (n : Nat → Nat) (V : XV) (T : RV) (out : Nat → Int64) (outD : Nat → UInt64) (H : Heap) (locs : List Loc) (ls : Array Slot) (cells_ slots_ : Nat), t + k = 514 → 9 * t ≤ L + 9 → cells_ ≤ 60 + 16 * t → slots_ ≤ 4500 + 130 * t → Rel n V T →
      va_P D xcl (lW cy a n V b T o1 out o2 outD) H → va_D A (lW cy a n V b T o1 out o2 outD) → va_S A s.heap H locs → lv_has ls 9 [(0, .ref sb), (1, .ref (a.1 0)), (2, .ref (b 0)), (3, .ref o1), (4, .ref o2), (5, .int (nI (9 * t)))] → W p l e room_1 s m args below meth c H locs cells_ slots_ Q (F0 m 28 ls []) := by
  have hC := hC0
  obtain ⟨hl0, hx, hb, hml, hown, hts, hK, hA, hxC, hZ, hX, hsb, hsA⟩ := hC
  intro k
  induction k with
  | zero => intro t a n V T out outD H locs ls cells_ slots_ htk htL; omega
  | succ k ih =>
    intro t a n V T out outD H locs ls cells_ slots_ htk htL hcl hsl hRel hP hD hS hl
    have hst := hsteps n V T hRel
    have hti : (nI (9 * t)).toInt = ((9 * t : Nat) : Int) := nI_toInt (by omega)
    refine lv_iload hx hb dL_law_28 (lv_at hl 5 rfl) ?_
    refine lv_aload_n hx hb dL_law_30 rfl (lv_at hl 0 rfl) ?_
    refine va_slen hx hb hX hsb hsA hS dL_law_31 ?_
    refine lv_bipush (v := 9) hx hb dL_law_32 (by decide) ?_
    refine lv_isub hx hb dL_law_34 ?_
    refine lv_icmp_gt (tgt := 2867) hx hb dL_law_35 (by decide) (fun c0 => hend _ _ _ _ _ (by omega) (by omega) hS) (fun c0 => ?_)
    have hle : 9 * t + 9 ≤ L := by
      rw [Int32.lt_iff_toInt_lt, l_sub hL, hti] at c0
      omega
    have hin : ∀ q : Nat, q < 9 → vp_in (nI (9 * t) + nI q) L := fun q hq => l_in hle hL _ rfl hq
    have hc1 : cells_ + 16 ≤ room_1.cells := Nat.le_trans (show cells_ + 16 ≤ 603072 by omega) (Nat.le_of_ble_eq_true rfl)
    have hc2 : slots_ + 130 ≤ room_1.slots := Nat.le_trans (show slots_ + 130 ≤ 7129194 by omega) (Nat.le_of_ble_eq_true rfl)
    have hnext : ∀ {a1 : XA} {n1 : Nat → Nat} {V1 : XV} {T1 : RV} {out1 : Nat → Int64} {outD1 : Nat → UInt64} {H : Heap} {locs : List Loc} {ls : Array Slot}, a1.1 = a.1 → Rel n1 V1 T1 → va_P D xcl (lW cy a1 n1 V1 b T1 o1 out1 o2 outD1) H → va_D A (lW cy a1 n1 V1 b T1 o1 out1 o2 outD1) → va_S A s.heap H locs → lv_has ls 9 [(0, .ref sb), (1, .ref (a1.1 0)), (2, .ref (b 0)), (3, .ref o1), (4, .ref o2), (5, .int (nI (9 * t)))] → W p l e room_1 s m args below meth c H locs (cells_ + 16) (slots_ + 130) Q (F0 m 2861 ls []) := by
      intro a1 n1 V1 T1 out1 outD1 H locs ls ha hR1 hP hD hS hl
      refine lv_iinc (v := nI (9 * (t + 1))) (lv' := [(5, .int (nI (9 * (t + 1)))), (0, .ref sb), (1, .ref (a1.1 0)), (2, .ref (b 0)), (3, .ref o1), (4, .ref o2)]) hx hb dL_law_2861 hl (k := 5) rfl (l_i9 t) (by decide) rfl (fun ls hl => ?_)
      refine lv_goto (tgt := 28) hx hb dL_law_2864 (by decide) ?_
      exact ih (t + 1) a1 n1 V1 T1 out1 outD1 H locs ls _ _ (by omega) (by omega) (by omega) (by omega) hR1 hP hD hS (lv_sub hl [1, 2, 3, 4, 5, 0] rfl)
    have hin0 : vp_in (nI (9 * t)) L := vp_in_nI (by omega) (by omega)
    clear hti c0
    generalize nI (9 * t) = i at hl hin hnext hin0 ⊢
    refine lv_aload_n hx hb dL_law_38 rfl (lv_at hl 0 rfl) ?_
    refine lv_iload hx hb dL_law_39 (lv_at hl 5 rfl) ?_
    refine va_sld hx hb hX hsb hsA hS hin0 dL_law_41 ?_
    refine lv_bipush (v := 63) hx hb dL_law_42 (by decide) ?_
    refine lv_iand hx hb dL_law_44 ?_
    generalize xs i.toNatClampNeg &&& 63 = x
    by_cases hr : x.toInt < 0 ∨ x.toInt > 42
    · refine lv_tswd (tgt := 2861) hx hb dL_law_45 hr (by decide) ?_
      exact W.widen (k := cells_ + 16) (n := slots_ + 130) (by omega) (by omega) (hnext rfl hRel hP hD hS hl)
    · obtain ⟨j, hj, hjx⟩ : ∃ j : Nat, j < 43 ∧ x.toInt = (j : Int) := ⟨x.toInt.toNat, by omega, by omega⟩
      rcases (show j = 0 ∨ j = 1 ∨ j = 2 ∨ j = 3 ∨ j = 4 ∨ j = 5 ∨ j = 6 ∨ j = 7 ∨ j = 8 ∨ j = 9 ∨ j = 10 ∨ j = 11 ∨ j = 12 ∨ j = 13 ∨ j = 14 ∨ j = 15 ∨ j = 16 ∨ j = 17 ∨ j = 18 ∨ j = 19 ∨ j = 20 ∨ j = 21 ∨ j = 22 ∨ j = 23 ∨ j = 24 ∨ j = 25 ∨ j = 26 ∨ j = 27 ∨ j = 28 ∨ j = 29 ∨ j = 30 ∨ j = 31 ∨ j = 32 ∨ j = 33 ∨ j = 34 ∨ j = 35 ∨ j = 36 ∨ j = 37 ∨ j = 38 ∨ j = 39 ∨ j = 40 ∨ j = 41 ∨ j = 42 by omega) with rfl | rfl | rfl | rfl | rfl | rfl | rfl | rfl | rfl | rfl | rfl | rfl | rfl | rfl | rfl | rfl | rfl | rfl | rfl | rfl | rfl | rfl | rfl | rfl | rfl | rfl | rfl | rfl | rfl | rfl | rfl | rfl | rfl | rfl | rfl | rfl | rfl | rfl | rfl | rfl | rfl | rfl | rfl
      · refine lv_tsw (o := 187) (tgt := 232) hx hb dL_law_45 hr (by rw [hjx]; rfl) (by decide) ?_
        obtain ⟨res, rr, h1, h2, h3, h4, h5⟩ := hst.1 out (xs (i + 1).toNatClampNeg) (xs (i + 2).toNatClampNeg) (xs (i + 3).toNatClampNeg) (xs (i + 4).toNatClampNeg) (xs (i + 5).toNatClampNeg)
        exact l_case_0 hC0 hc1 hc2 hP hD hS hl (hin 1 (by decide)) (hin 2 (by decide)) (hin 3 (by decide)) (hin 4 (by decide)) (hin 5 (by decide)) h1 h2 h3 h4 (fun ha H locs ls hP hD hS hl => hnext ha h5 hP hD hS hl)
      · refine lv_tsw (o := 291) (tgt := 336) hx hb dL_law_45 hr (by rw [hjx]; rfl) (by decide) ?_
        obtain ⟨res, rr, h1, h2, h3, h4, h5⟩ := hst.2.1 out (xs (i + 1).toNatClampNeg) (xs (i + 2).toNatClampNeg) (xs (i + 3).toNatClampNeg)
        exact l_case_1 hC0 hc1 hc2 hP hD hS hl (hin 1 (by decide)) (hin 2 (by decide)) (hin 3 (by decide)) h1 h2 h3 h4 (fun ha H locs ls hP hD hS hl => hnext ha h5 hP hD hS hl)
      · refine lv_tsw (o := 371) (tgt := 416) hx hb dL_law_45 hr (by rw [hjx]; rfl) (by decide) ?_
        obtain ⟨res, rr, h1, h2, h3, h4, h5⟩ := hst.2.2.1 out (xs (i + 1).toNatClampNeg) (xs (i + 2).toNatClampNeg) (xs (i + 3).toNatClampNeg)
        exact l_case_2 hC0 hc1 hc2 hP hD hS hl (hin 1 (by decide)) (hin 2 (by decide)) (hin 3 (by decide)) h1 h2 h3 h4 (fun ha H locs ls hP hD hS hl => hnext ha h5 hP hD hS hl)
      · refine lv_tsw (o := 451) (tgt := 496) hx hb dL_law_45 hr (by rw [hjx]; rfl) (by decide) ?_
        obtain ⟨res, rr, h1, h2, h3, h4, h5⟩ := hst.2.2.2.1 out (xs (i + 1).toNatClampNeg)
        exact l_case_3 hC0 hc1 hc2 hP hD hS hl (hin 1 (by decide)) h1 h2 h3 h4 (fun ha H locs ls hP hD hS hl => hnext ha h5 hP hD hS hl)
      · refine lv_tsw (o := 507) (tgt := 552) hx hb dL_law_45 hr (by rw [hjx]; rfl) (by decide) ?_
        obtain ⟨res, rr, h1, h2, h3, h4, h5⟩ := hst.2.2.2.2.1 out (xs (i + 1).toNatClampNeg) (xs (i + 2).toNatClampNeg) (xs (i + 3).toNatClampNeg) (xs (i + 4).toNatClampNeg) (xs (i + 5).toNatClampNeg) (xs (i + 6).toNatClampNeg)
        exact l_case_4 hC0 hc1 hc2 hP hD hS hl (hin 1 (by decide)) (hin 2 (by decide)) (hin 3 (by decide)) (hin 4 (by decide)) (hin 5 (by decide)) (hin 6 (by decide)) h1 h2 h3 h4 (fun ha H locs ls hP hD hS hl => hnext ha h5 hP hD hS hl)
      · refine lv_tsw (o := 625) (tgt := 670) hx hb dL_law_45 hr (by rw [hjx]; rfl) (by decide) ?_
        obtain ⟨res, rr, h1, h2, h3, h4, h5⟩ := hst.2.2.2.2.2.1 out (xs (i + 1).toNatClampNeg) (xs (i + 2).toNatClampNeg) (xs (i + 3).toNatClampNeg) (xs (i + 4).toNatClampNeg) (xs (i + 5).toNatClampNeg) (xs (i + 6).toNatClampNeg) (xs (i + 7).toNatClampNeg) (xs (i + 8).toNatClampNeg)
        exact l_case_5 hC0 hc1 hc2 hP hD hS hl (hin 1 (by decide)) (hin 2 (by decide)) (hin 3 (by decide)) (hin 4 (by decide)) (hin 5 (by decide)) (hin 6 (by decide)) (hin 7 (by decide)) (hin 8 (by decide)) h1 h2 h3 h4 (fun ha H locs ls hP hD hS hl => hnext ha h5 hP hD hS hl)
      · refine lv_tsw (o := 771) (tgt := 816) hx hb dL_law_45 hr (by rw [hjx]; rfl) (by decide) ?_
        obtain ⟨res, rr, h1, h2, h3, h4, h5⟩ := hst.2.2.2.2.2.2.1 out (xs (i + 1).toNatClampNeg) (xs (i + 2).toNatClampNeg)
        exact l_case_6 hC0 hc1 hc2 hP hD hS hl (hin 1 (by decide)) (hin 2 (by decide)) h1 h2 h3 h4 (fun ha H locs ls hP hD hS hl => hnext ha h5 hP hD hS hl)
      · refine lv_tsw (o := 839) (tgt := 884) hx hb dL_law_45 hr (by rw [hjx]; rfl) (by decide) ?_
        obtain ⟨res, rr, h1, h2, h3, h4, h5⟩ := hst.2.2.2.2.2.2.2.1 out (xs (i + 1).toNatClampNeg) (xs (i + 2).toNatClampNeg) (xs (i + 3).toNatClampNeg)
        exact l_case_7 hC0 hc1 hc2 hP hD hS hl (hin 1 (by decide)) (hin 2 (by decide)) (hin 3 (by decide)) h1 h2 h3 h4 (fun ha H locs ls hP hD hS hl => hnext ha h5 hP hD hS hl)
      · refine lv_tsw (o := 919) (tgt := 964) hx hb dL_law_45 hr (by rw [hjx]; rfl) (by decide) ?_
        obtain ⟨res, rr, h1, h2, h3, h4, h5⟩ := hst.2.2.2.2.2.2.2.2.1 out (xs (i + 1).toNatClampNeg) (xs (i + 2).toNatClampNeg)
        exact l_case_8 hC0 hc1 hc2 hP hD hS hl (hin 1 (by decide)) (hin 2 (by decide)) h1 h2 h3 h4 (fun ha H locs ls hP hD hS hl => hnext ha h5 hP hD hS hl)
      · refine lv_tsw (o := 987) (tgt := 1032) hx hb dL_law_45 hr (by rw [hjx]; rfl) (by decide) ?_
        obtain ⟨res, rr, h1, h2, h3, h4, h5⟩ := hst.2.2.2.2.2.2.2.2.2.1 out (xs (i + 1).toNatClampNeg)
        exact l_case_9 hC0 hc1 hc2 hP hD hS hl (hin 1 (by decide)) h1 h2 h3 h4 (fun ha H locs ls hP hD hS hl => hnext ha h5 hP hD hS hl)
      · refine lv_tsw (o := 1043) (tgt := 1088) hx hb dL_law_45 hr (by rw [hjx]; rfl) (by decide) ?_
        obtain ⟨res, rr, h1, h2, h3, h4, h5⟩ := hst.2.2.2.2.2.2.2.2.2.2.1 out (xs (i + 1).toNatClampNeg)
        exact l_case_10 hC0 hc1 hc2 hP hD hS hl (hin 1 (by decide)) h1 h2 h3 h4 (fun ha H locs ls hP hD hS hl => hnext ha h5 hP hD hS hl)
      · refine lv_tsw (o := 1099) (tgt := 1144) hx hb dL_law_45 hr (by rw [hjx]; rfl) (by decide) ?_
        obtain ⟨xr, rr, h1, h2, h3, h4⟩ := hst.2.2.2.2.2.2.2.2.2.2.2.1
        exact l_case_11 hC0 hc1 hc2 hP hD hS hl h1 h2 h3 (fun ha H locs ls hP hD hS hl => hnext ha h4 hP hD hS hl)
      · refine lv_tsw (o := 1112) (tgt := 1157) hx hb dL_law_45 hr (by rw [hjx]; rfl) (by decide) ?_
        obtain ⟨xr, rr, h1, h2, h3, h4⟩ := hst.2.2.2.2.2.2.2.2.2.2.2.2.1
        exact l_case_12 hC0 hc1 hc2 hP hD hS hl h1 h2 h3 (fun ha H locs ls hP hD hS hl => hnext ha h4 hP hD hS hl)
      · refine lv_tsw (o := 1125) (tgt := 1170) hx hb dL_law_45 hr (by rw [hjx]; rfl) (by decide) ?_
        obtain ⟨xr, rr, h1, h2, h3, h4⟩ := hst.2.2.2.2.2.2.2.2.2.2.2.2.2.1
        exact l_case_13 hC0 hc1 hc2 hP hD hS hl h1 h2 h3 (fun ha H locs ls hP hD hS hl => hnext ha h4 hP hD hS hl)
      · refine lv_tsw (o := 1138) (tgt := 1183) hx hb dL_law_45 hr (by rw [hjx]; rfl) (by decide) ?_
        obtain ⟨res, rr, h1, h2, h3, h4, h5⟩ := hst.2.2.2.2.2.2.2.2.2.2.2.2.2.2.1 out (xs (i + 1).toNatClampNeg) (xs (i + 2).toNatClampNeg) (xs (i + 3).toNatClampNeg)
        exact l_case_14 hC0 hc1 hc2 hP hD hS hl (hin 1 (by decide)) (hin 2 (by decide)) (hin 3 (by decide)) h1 h2 h3 h4 (fun ha H locs ls hP hD hS hl => hnext ha h5 hP hD hS hl)
      · refine lv_tsw (o := 1218) (tgt := 1263) hx hb dL_law_45 hr (by rw [hjx]; rfl) (by decide) ?_
        obtain ⟨res, rr, h1, h2, h3, h4, h5⟩ := hst.2.2.2.2.2.2.2.2.2.2.2.2.2.2.2.1 out (xs (i + 1).toNatClampNeg) (xs (i + 2).toNatClampNeg)
        exact l_case_15 hC0 hc1 hc2 hP hD hS hl (hin 1 (by decide)) (hin 2 (by decide)) h1 h2 h3 h4 (fun ha H locs ls hP hD hS hl => hnext ha h5 hP hD hS hl)
      · refine lv_tsw (o := 1293) (tgt := 1338) hx hb dL_law_45 hr (by rw [hjx]; rfl) (by decide) ?_
        obtain ⟨res, rr, h1, h2, h3, h4, h5⟩ := hst.2.2.2.2.2.2.2.2.2.2.2.2.2.2.2.2.1 out (xs (i + 1).toNatClampNeg) (xs (i + 2).toNatClampNeg)
        exact l_case_16 hC0 hc1 hc2 hP hD hS hl (hin 1 (by decide)) (hin 2 (by decide)) h1 h2 h3 h4 (fun ha H locs ls hP hD hS hl => hnext ha h5 hP hD hS hl)
      · refine lv_tsw (o := 1361) (tgt := 1406) hx hb dL_law_45 hr (by rw [hjx]; rfl) (by decide) ?_
        obtain ⟨res, rr, h1, h2, h3, h4, h5⟩ := hst.2.2.2.2.2.2.2.2.2.2.2.2.2.2.2.2.2.1 out (xs (i + 1).toNatClampNeg) (xs (i + 2).toNatClampNeg) (xs (i + 3).toNatClampNeg)
        exact l_case_17 hC0 hc1 hc2 hP hD hS hl (hin 1 (by decide)) (hin 2 (by decide)) (hin 3 (by decide)) h1 h2 h3 h4 (fun ha H locs ls hP hD hS hl => hnext ha h5 hP hD hS hl)
      · refine lv_tsw (o := 1441) (tgt := 1486) hx hb dL_law_45 hr (by rw [hjx]; rfl) (by decide) ?_
        obtain ⟨res, rr, h1, h2, h3, h4, h5⟩ := hst.2.2.2.2.2.2.2.2.2.2.2.2.2.2.2.2.2.2.1 out (xs (i + 1).toNatClampNeg) (xs (i + 2).toNatClampNeg)
        exact l_case_18 hC0 hc1 hc2 hP hD hS hl (hin 1 (by decide)) (hin 2 (by decide)) h1 h2 h3 h4 (fun ha H locs ls hP hD hS hl => hnext ha h5 hP hD hS hl)
      · refine lv_tsw (o := 1509) (tgt := 1554) hx hb dL_law_45 hr (by rw [hjx]; rfl) (by decide) ?_
        obtain ⟨res, rr, h1, h2, h3, h4, h5⟩ := hst.2.2.2.2.2.2.2.2.2.2.2.2.2.2.2.2.2.2.2.1 out (xs (i + 1).toNatClampNeg) (xs (i + 2).toNatClampNeg)
        exact l_case_19 hC0 hc1 hc2 hP hD hS hl (hin 1 (by decide)) (hin 2 (by decide)) h1 h2 h3 h4 (fun ha H locs ls hP hD hS hl => hnext ha h5 hP hD hS hl)
      · refine lv_tsw (o := 1577) (tgt := 1622) hx hb dL_law_45 hr (by rw [hjx]; rfl) (by decide) ?_
        obtain ⟨res, rr, h1, h2, h3, h4, h5⟩ := hst.2.2.2.2.2.2.2.2.2.2.2.2.2.2.2.2.2.2.2.2.1 out (xs (i + 1).toNatClampNeg)
        exact l_case_20 hC0 hc1 hc2 hP hD hS hl (hin 1 (by decide)) h1 h2 h3 h4 (fun ha H locs ls hP hD hS hl => hnext ha h5 hP hD hS hl)
      · refine lv_tsw (o := 1633) (tgt := 1678) hx hb dL_law_45 hr (by rw [hjx]; rfl) (by decide) ?_
        obtain ⟨res, rr, h1, h2, h3, h4, h5⟩ := hst.2.2.2.2.2.2.2.2.2.2.2.2.2.2.2.2.2.2.2.2.2.1 out (xs (i + 1).toNatClampNeg)
        exact l_case_21 hC0 hc1 hc2 hP hD hS hl (hin 1 (by decide)) h1 h2 h3 h4 (fun ha H locs ls hP hD hS hl => hnext ha h5 hP hD hS hl)
      · refine lv_tsw (o := 1689) (tgt := 1734) hx hb dL_law_45 hr (by rw [hjx]; rfl) (by decide) ?_
        obtain ⟨res, rr, h1, h2, h3, h4, h5⟩ := hst.2.2.2.2.2.2.2.2.2.2.2.2.2.2.2.2.2.2.2.2.2.2.1 out (xs (i + 1).toNatClampNeg)
        exact l_case_22 hC0 hc1 hc2 hP hD hS hl (hin 1 (by decide)) h1 h2 h3 h4 (fun ha H locs ls hP hD hS hl => hnext ha h5 hP hD hS hl)
      · refine lv_tsw (o := 1745) (tgt := 1790) hx hb dL_law_45 hr (by rw [hjx]; rfl) (by decide) ?_
        obtain ⟨res, rr, h1, h2, h3, h4, h5⟩ := hst.2.2.2.2.2.2.2.2.2.2.2.2.2.2.2.2.2.2.2.2.2.2.2.1 out (xs (i + 1).toNatClampNeg)
        exact l_case_23 hC0 hc1 hc2 hP hD hS hl (hin 1 (by decide)) h1 h2 h3 h4 (fun ha H locs ls hP hD hS hl => hnext ha h5 hP hD hS hl)
      · refine lv_tsw (o := 1801) (tgt := 1846) hx hb dL_law_45 hr (by rw [hjx]; rfl) (by decide) ?_
        obtain ⟨res, rr, h1, h2, h3, h4, h5⟩ := hst.2.2.2.2.2.2.2.2.2.2.2.2.2.2.2.2.2.2.2.2.2.2.2.2.1 out (xs (i + 1).toNatClampNeg)
        exact l_case_24 hC0 hc1 hc2 hP hD hS hl (hin 1 (by decide)) h1 h2 h3 h4 (fun ha H locs ls hP hD hS hl => hnext ha h5 hP hD hS hl)
      · refine lv_tsw (o := 1856) (tgt := 1901) hx hb dL_law_45 hr (by rw [hjx]; rfl) (by decide) ?_
        obtain ⟨res, rr, h1, h2, h3, h4, h5⟩ := hst.2.2.2.2.2.2.2.2.2.2.2.2.2.2.2.2.2.2.2.2.2.2.2.2.2.1 out (xs (i + 1).toNatClampNeg) (xs (i + 2).toNatClampNeg)
        exact l_case_25 hC0 hc1 hc2 hP hD hS hl (hin 1 (by decide)) (hin 2 (by decide)) h1 h2 h3 h4 (fun ha H locs ls hP hD hS hl => hnext ha h5 hP hD hS hl)
      · refine lv_tsw (o := 1931) (tgt := 1976) hx hb dL_law_45 hr (by rw [hjx]; rfl) (by decide) ?_
        obtain ⟨res, rr, h1, h2, h3, h4, h5⟩ := hst.2.2.2.2.2.2.2.2.2.2.2.2.2.2.2.2.2.2.2.2.2.2.2.2.2.2.1 out (xs (i + 1).toNatClampNeg) (xs (i + 2).toNatClampNeg)
        exact l_case_26 hC0 hc1 hc2 hP hD hS hl (hin 1 (by decide)) (hin 2 (by decide)) h1 h2 h3 h4 (fun ha H locs ls hP hD hS hl => hnext ha h5 hP hD hS hl)
      · refine lv_tsw (o := 1999) (tgt := 2044) hx hb dL_law_45 hr (by rw [hjx]; rfl) (by decide) ?_
        obtain ⟨res, rr, h1, h2, h3, h4, h5⟩ := hst.2.2.2.2.2.2.2.2.2.2.2.2.2.2.2.2.2.2.2.2.2.2.2.2.2.2.2.1 out (xs (i + 1).toNatClampNeg) (xs (i + 2).toNatClampNeg)
        exact l_case_27 hC0 hc1 hc2 hP hD hS hl (hin 1 (by decide)) (hin 2 (by decide)) h1 h2 h3 h4 (fun ha H locs ls hP hD hS hl => hnext ha h5 hP hD hS hl)
      · refine lv_tsw (o := 2067) (tgt := 2112) hx hb dL_law_45 hr (by rw [hjx]; rfl) (by decide) ?_
        obtain ⟨res, rr, h1, h2, h3, h4, h5⟩ := hst.2.2.2.2.2.2.2.2.2.2.2.2.2.2.2.2.2.2.2.2.2.2.2.2.2.2.2.2.1 out (xs (i + 1).toNatClampNeg)
        exact l_case_28 hC0 hc1 hc2 hP hD hS hl (hin 1 (by decide)) h1 h2 h3 h4 (fun ha H locs ls hP hD hS hl => hnext ha h5 hP hD hS hl)
      · refine lv_tsw (o := 2123) (tgt := 2168) hx hb dL_law_45 hr (by rw [hjx]; rfl) (by decide) ?_
        obtain ⟨res, rr, h1, h2, h3, h4, h5⟩ := hst.2.2.2.2.2.2.2.2.2.2.2.2.2.2.2.2.2.2.2.2.2.2.2.2.2.2.2.2.2.1 out (xs (i + 1).toNatClampNeg)
        exact l_case_29 hC0 hc1 hc2 hP hD hS hl (hin 1 (by decide)) h1 h2 h3 h4 (fun ha H locs ls hP hD hS hl => hnext ha h5 hP hD hS hl)
      · refine lv_tsw (o := 2179) (tgt := 2224) hx hb dL_law_45 hr (by rw [hjx]; rfl) (by decide) ?_
        obtain ⟨res, rr, h1, h2, h3, h4, h5⟩ := hst.2.2.2.2.2.2.2.2.2.2.2.2.2.2.2.2.2.2.2.2.2.2.2.2.2.2.2.2.2.2.1 out (xs (i + 1).toNatClampNeg)
        exact l_case_30 hC0 hc1 hc2 hP hD hS hl (hin 1 (by decide)) h1 h2 h3 h4 (fun ha H locs ls hP hD hS hl => hnext ha h5 hP hD hS hl)
      · refine lv_tsw (o := 2234) (tgt := 2279) hx hb dL_law_45 hr (by rw [hjx]; rfl) (by decide) ?_
        obtain ⟨res, rr, h1, h2, h3, h4, h5⟩ := hst.2.2.2.2.2.2.2.2.2.2.2.2.2.2.2.2.2.2.2.2.2.2.2.2.2.2.2.2.2.2.2.1 out (xs (i + 1).toNatClampNeg)
        exact l_case_31 hC0 hc1 hc2 hP hD hS hl (hin 1 (by decide)) h1 h2 h3 h4 (fun ha H locs ls hP hD hS hl => hnext ha h5 hP hD hS hl)
      · refine lv_tsw (o := 2290) (tgt := 2335) hx hb dL_law_45 hr (by rw [hjx]; rfl) (by decide) ?_
        obtain ⟨xr, rr, h1, h2, h3, h4⟩ := hst.2.2.2.2.2.2.2.2.2.2.2.2.2.2.2.2.2.2.2.2.2.2.2.2.2.2.2.2.2.2.2.2.1
        exact l_case_32 hC0 hc1 hc2 hP hD hS hl h1 h2 h3 (fun ha H locs ls hP hD hS hl => hnext ha h4 hP hD hS hl)
      · refine lv_tsw (o := 2303) (tgt := 2348) hx hb dL_law_45 hr (by rw [hjx]; rfl) (by decide) ?_
        obtain ⟨res, rr, h1, h2, h3, h4, h5⟩ := hst.2.2.2.2.2.2.2.2.2.2.2.2.2.2.2.2.2.2.2.2.2.2.2.2.2.2.2.2.2.2.2.2.2.1 out (xs (i + 1).toNatClampNeg)
        exact l_case_33 hC0 hc1 hc2 hP hD hS hl (hin 1 (by decide)) h1 h2 h3 h4 (fun ha H locs ls hP hD hS hl => hnext ha h5 hP hD hS hl)
      · refine lv_tsw (o := 2359) (tgt := 2404) hx hb dL_law_45 hr (by rw [hjx]; rfl) (by decide) ?_
        obtain ⟨res, rr, h1, h2, h3, h4, h5⟩ := hst.2.2.2.2.2.2.2.2.2.2.2.2.2.2.2.2.2.2.2.2.2.2.2.2.2.2.2.2.2.2.2.2.2.2.1 out (xs (i + 1).toNatClampNeg)
        exact l_case_34 hC0 hc1 hc2 hP hD hS hl (hin 1 (by decide)) h1 h2 h3 h4 (fun ha H locs ls hP hD hS hl => hnext ha h5 hP hD hS hl)
      · refine lv_tsw (o := 2415) (tgt := 2460) hx hb dL_law_45 hr (by rw [hjx]; rfl) (by decide) ?_
        obtain ⟨res, rr, h1, h2, h3, h4, h5⟩ := hst.2.2.2.2.2.2.2.2.2.2.2.2.2.2.2.2.2.2.2.2.2.2.2.2.2.2.2.2.2.2.2.2.2.2.2.1 out (xs (i + 1).toNatClampNeg)
        exact l_case_35 hC0 hc1 hc2 hP hD hS hl (hin 1 (by decide)) h1 h2 h3 h4 (fun ha H locs ls hP hD hS hl => hnext ha h5 hP hD hS hl)
      · refine lv_tsw (o := 2471) (tgt := 2516) hx hb dL_law_45 hr (by rw [hjx]; rfl) (by decide) ?_
        obtain ⟨res, rr, h1, h2, h3, h4, h5⟩ := hst.2.2.2.2.2.2.2.2.2.2.2.2.2.2.2.2.2.2.2.2.2.2.2.2.2.2.2.2.2.2.2.2.2.2.2.2.1 out (xs (i + 1).toNatClampNeg)
        exact l_case_36 hC0 hc1 hc2 hP hD hS hl (hin 1 (by decide)) h1 h2 h3 h4 (fun ha H locs ls hP hD hS hl => hnext ha h5 hP hD hS hl)
      · refine lv_tsw (o := 2534) (tgt := 2579) hx hb dL_law_45 hr (by rw [hjx]; rfl) (by decide) ?_
        obtain ⟨xr, rr, h1, h2, h3, h4⟩ := hst.2.2.2.2.2.2.2.2.2.2.2.2.2.2.2.2.2.2.2.2.2.2.2.2.2.2.2.2.2.2.2.2.2.2.2.2.2.1
        exact l_case_37 hC0 hc1 hc2 hP hD hS hl h1 h2 h3 (fun ha H locs ls hP hD hS hl => hnext ha h4 hP hD hS hl)
      · refine lv_tsw (o := 2547) (tgt := 2592) hx hb dL_law_45 hr (by rw [hjx]; rfl) (by decide) ?_
        obtain ⟨res, rr, h1, h2, h3, h4, h5⟩ := hst.2.2.2.2.2.2.2.2.2.2.2.2.2.2.2.2.2.2.2.2.2.2.2.2.2.2.2.2.2.2.2.2.2.2.2.2.2.2.1 out (xs (i + 1).toNatClampNeg)
        exact l_case_38 hC0 hc1 hc2 hP hD hS hl (hin 1 (by decide)) h1 h2 h3 h4 (fun ha H locs ls hP hD hS hl => hnext ha h5 hP hD hS hl)
      · refine lv_tsw (o := 2603) (tgt := 2648) hx hb dL_law_45 hr (by rw [hjx]; rfl) (by decide) ?_
        obtain ⟨xr, rr, h1, h2, h3, h4⟩ := hst.2.2.2.2.2.2.2.2.2.2.2.2.2.2.2.2.2.2.2.2.2.2.2.2.2.2.2.2.2.2.2.2.2.2.2.2.2.2.2.1
        exact l_case_39 hC0 hc1 hc2 hP hD hS hl h1 h2 h3 (fun ha H locs ls hP hD hS hl => hnext ha h4 hP hD hS hl)
      · refine lv_tsw (o := 2617) (tgt := 2662) hx hb dL_law_45 hr (by rw [hjx]; rfl) (by decide) ?_
        obtain ⟨res, rr, h1, h2, h3, h4, h5⟩ := hst.2.2.2.2.2.2.2.2.2.2.2.2.2.2.2.2.2.2.2.2.2.2.2.2.2.2.2.2.2.2.2.2.2.2.2.2.2.2.2.2.1 out (xs (i + 1).toNatClampNeg)
        exact l_case_40 hC0 hc1 hc2 hP hD hS hl (hin 1 (by decide)) h1 h2 h3 h4 (fun ha H locs ls hP hD hS hl => hnext ha h5 hP hD hS hl)
      · refine lv_tsw (o := 2673) (tgt := 2718) hx hb dL_law_45 hr (by rw [hjx]; rfl) (by decide) ?_
        obtain ⟨res, rr, h1, h2, h3, hn, h4, h5⟩ := hst.2.2.2.2.2.2.2.2.2.2.2.2.2.2.2.2.2.2.2.2.2.2.2.2.2.2.2.2.2.2.2.2.2.2.2.2.2.2.2.2.2.1 outD (xs (i + 1).toNatClampNeg)
        exact l_case_41 hC0 hc1 hc2 hP hD hS hl (hin 1 (by decide)) h1 h2 h3 hn h4 (fun ha H locs ls hP hD hS hl => hnext ha h5 hP hD hS hl)
      · refine lv_tsw (o := 2751) (tgt := 2796) hx hb dL_law_45 hr (by rw [hjx]; rfl) (by decide) ?_
        obtain ⟨res, rr, h1, h2, h3, h4, h5⟩ := hst.2.2.2.2.2.2.2.2.2.2.2.2.2.2.2.2.2.2.2.2.2.2.2.2.2.2.2.2.2.2.2.2.2.2.2.2.2.2.2.2.2.2 outD 
        exact l_case_42 hC0 hc1 hc2 hP hD hS hl  h1 h2 h3 h4 (fun ha H locs ls hP hD hS hl => hnext ha h5 hP hD hS hl)
end LOOP
