def f_x_isMember (x_members : Int32) (x1 : Int32) : Option (Int32) :=
    (if x1 < 0 then
    some (0)
    else
    (if x_members ≤ x1 then
    some (0)
    else
    some (1)))
def f_x_collateral_b46 (x_members : Int32) (x_hasSent : Nat → Int32) (x_isSealed : Nat → Int32) (x_collaterals : Nat → Int32) : Option (Nat × (Nat → Int32)) :=
    some (2, x_collaterals)
def f_x_collateral_b18 (x_members : Int32) (x_hasSent : Nat → Int32) (x_isSealed : Nat → Int32) (x_collaterals : Nat → Int32) : Option (Nat × (Nat → Int32)) :=
    some (1, x_collaterals)
def f_x_collateral (x_members : Int32) (x_collaterals : Nat → Int32) (x_hasSent : Nat → Int32) (x_isSealed : Nat → Int32) (x1 : Int32) (x2 : Int32) : Option (Nat × (Nat → Int32)) :=
    (f_x_isMember x_members x1).bind fun r1 =>
    (if r1 = 0 then
    f_x_collateral_b18 x_members x_hasSent x_isSealed x_collaterals
    else
    (if x2 < 0 then
    f_x_collateral_b18 x_members x_hasSent x_isSealed x_collaterals
    else
    (if x2 ≤ 1000000000 then
    if x1 < 0 ∨ 6 ≤ x1.toNatClampNeg then none else (if (x_hasSent x1.toNatClampNeg) = 0 then
    (if (x_isSealed x1.toNatClampNeg) = 0 then
    some (0, (upd x_collaterals x1.toNatClampNeg x2))
    else
    f_x_collateral_b46 x_members x_hasSent x_isSealed x_collaterals)
    else
    f_x_collateral_b46 x_members x_hasSent x_isSealed x_collaterals)
    else
    f_x_collateral_b18 x_members x_hasSent x_isSealed x_collaterals)))
def f_x_isHour (x0 : Int32) : Option (Int32) :=
    (if x0 < 0 then
    some (0)
    else
    (if 3 ≤ x0 then
    some (0)
    else
    some (1)))
def f_bk_costOfOne_b10 (s0 : Int32) : Option (Int32) :=
    (if s0 ≤ 0 then
    some (0)
    else
    some (s0))
def f_bk_costOfOne (x0 : Int32) (x1 : Int32) : Option (Int32) :=
    (if x0 = 0 then
    f_bk_costOfOne_b10 x1
    else
    f_bk_costOfOne_b10 (-x1))
def f_bk_firstHour (x0 : Int32) : Option (Int32) :=
    (if x0 < 100 then
    some (x0)
    else
    some (((x0 - 100) / 4)))
def f_bk_lastHour (x0 : Int32) : Option (Int32) :=
    (if x0 < 100 then
    some (x0)
    else
    some (((x0 - 100) - (x0 - 100) / 4 * 4)))
def f_bk_lengthOf (x0 : Int32) : Option (Int32) :=
    (f_bk_lastHour x0).bind fun r1 =>
    (f_bk_firstHour x0).bind fun r2 =>
    some (((r1 - r2) + 1))
def f_bk_take (bk_counts : Nat → Int32) (bk_needs : Nat → Int64) (bk_whens : Nat → Int32) (bk_sides : Nat → Int32) (bk_quantities : Nat → Int32) (bk_limits : Nat → Int32) (x1 : Int32) (x2 : Int32) (x3 : Int32) (x4 : Int32) (x5 : Int32) (x6 : Int32) : Option (Int32 × (Nat → Int32) × (Nat → Int64) × (Nat → Int32) × (Nat → Int32) × (Nat → Int32) × (Nat → Int32)) :=
    if x1 < 0 ∨ 25 ≤ x1.toNatClampNeg then none else (f_bk_costOfOne x4 x6).bind fun r2 =>
    (f_bk_lengthOf x3).bind fun r3 =>
    (if 10 ≤ (bk_counts x1.toNatClampNeg) then
    some (0, bk_counts, bk_needs, bk_whens, bk_sides, bk_quantities, bk_limits)
    else
    (if (lg_cmp ((bk_needs x1.toNatClampNeg) + (((Int32.toInt64 x5) * (Int32.toInt64 r2)) * (Int32.toInt64 r3))) (Int32.toInt64 x2)) ≤ 0 then
    if ((10 * x1) + (bk_counts x1.toNatClampNeg)) < 0 ∨ 240 ≤ ((10 * x1) + (bk_counts x1.toNatClampNeg)).toNatClampNeg then none else some (1, (upd bk_counts x1.toNatClampNeg ((bk_counts x1.toNatClampNeg) + 1)), (vp_updL bk_needs x1.toNatClampNeg ((bk_needs x1.toNatClampNeg) + (((Int32.toInt64 x5) * (Int32.toInt64 r2)) * (Int32.toInt64 r3)))), (upd bk_whens ((10 * x1) + (bk_counts x1.toNatClampNeg)).toNatClampNeg x3), (upd bk_sides ((10 * x1) + (bk_counts x1.toNatClampNeg)).toNatClampNeg x4), (upd bk_quantities ((10 * x1) + (bk_counts x1.toNatClampNeg)).toNatClampNeg x5), (upd bk_limits ((10 * x1) + (bk_counts x1.toNatClampNeg)).toNatClampNeg x6))
    else
    some (0, bk_counts, bk_needs, bk_whens, bk_sides, bk_quantities, bk_limits)))
def f_x_isBid_b9 (x1 : Int32) (x2 : Int32) : Option (Int32) :=
    (if x1 < 1 then
    some (0)
    else
    (if 1000 < x1 then
    some (0)
    else
    (if x2 < (-5000) then
    some (0)
    else
    (if 40000 < x2 then
    some (0)
    else
    some (1)))))
def f_x_isBid (x0 : Int32) (x1 : Int32) (x2 : Int32) : Option (Int32) :=
    (if x0 = 0 then
    f_x_isBid_b9 x1 x2
    else
    (if x0 = 1 then
    f_x_isBid_b9 x1 x2
    else
    some (0)))
def f_x_isOperator (x0 : Int32) : Option (Int32) :=
    (if x0 < 0 then
    some (0)
    else
    (if 4 ≤ x0 then
    some (0)
    else
    some (1)))
def f_x_send_b96 (x_members : Int32) (x_collaterals : Nat → Int32) (x_isSealed : Nat → Int32) (x1 : Int32) (x2 : Int32) (x3 : Int32) (x4 : Int32) (x5 : Int32) (x6 : Int32) (K74 : (Nat → Int32) → (Nat → Int32) → (Nat → Int64) → (Nat → Int32) → (Nat → Int32) → (Nat → Int32) → (Nat → Int32) → Int32 → Int32 → Option (Nat × Int32 × (Nat → Int32) × (Nat → Int32) × (Nat → Int64) × (Nat → Int32) × (Nat → Int32) × (Nat → Int32) × (Nat → Int32))) (x_hasSent : Nat → Int32) (bk_counts : Nat → Int32) (bk_needs : Nat → Int64) (bk_whens : Nat → Int32) (bk_sides : Nat → Int32) (bk_quantities : Nat → Int32) (bk_limits : Nat → Int32) (x7 : Int32) (x8 : Int32) (s0 : Int32) : Option (Nat × Int32 × (Nat → Int32) × (Nat → Int32) × (Nat → Int64) × (Nat → Int32) × (Nat → Int32) × (Nat → Int32) × (Nat → Int32)) :=
    (if s0 = 0 then
    K74 x_hasSent bk_counts bk_needs bk_whens bk_sides bk_quantities bk_limits x7 (x8 + 1)
    else
    if x1 < 0 ∨ 6 ≤ x1.toNatClampNeg then none else (f_bk_take bk_counts bk_needs bk_whens bk_sides bk_quantities bk_limits ((4 * x1) + x8) (x_collaterals x1.toNatClampNeg) x3 x4 x5 x6).bind fun r6 =>
    (if r6.1 = 0 then
    K74 x_hasSent r6.2.1 r6.2.2.1 r6.2.2.2.1 r6.2.2.2.2.1 r6.2.2.2.2.2.1 r6.2.2.2.2.2.2 x7 (x8 + 1)
    else
    K74 x_hasSent r6.2.1 r6.2.2.1 r6.2.2.2.1 r6.2.2.2.2.1 r6.2.2.2.2.2.1 r6.2.2.2.2.2.2 (x7 + 1) (x8 + 1)))
def f_x_send_b91 (x_members : Int32) (x_collaterals : Nat → Int32) (x_isSealed : Nat → Int32) (x1 : Int32) (x2 : Int32) (x3 : Int32) (x4 : Int32) (x5 : Int32) (x6 : Int32) (K74 : (Nat → Int32) → (Nat → Int32) → (Nat → Int64) → (Nat → Int32) → (Nat → Int32) → (Nat → Int32) → (Nat → Int32) → Int32 → Int32 → Option (Nat × Int32 × (Nat → Int32) × (Nat → Int32) × (Nat → Int64) × (Nat → Int32) × (Nat → Int32) × (Nat → Int32) × (Nat → Int32))) (x_hasSent : Nat → Int32) (bk_counts : Nat → Int32) (bk_needs : Nat → Int64) (bk_whens : Nat → Int32) (bk_sides : Nat → Int32) (bk_quantities : Nat → Int32) (bk_limits : Nat → Int32) (x7 : Int32) (x8 : Int32) : Option (Nat × Int32 × (Nat → Int32) × (Nat → Int32) × (Nat → Int64) × (Nat → Int32) × (Nat → Int32) × (Nat → Int32) × (Nat → Int32)) :=
    f_x_send_b96 x_members x_collaterals x_isSealed x1 x2 x3 x4 x5 x6 K74 x_hasSent bk_counts bk_needs bk_whens bk_sides bk_quantities bk_limits x7 x8 1
def f_x_send_L74 (x_members : Int32) (x_collaterals : Nat → Int32) (x_isSealed : Nat → Int32) (x1 : Int32) (x2 : Int32) (x3 : Int32) (x4 : Int32) (x5 : Int32) (x6 : Int32) : Nat → (Nat → Int32) → (Nat → Int32) → (Nat → Int64) → (Nat → Int32) → (Nat → Int32) → (Nat → Int32) → (Nat → Int32) → Int32 → Int32 → Option (Nat × Int32 × (Nat → Int32) × (Nat → Int32) × (Nat → Int64) × (Nat → Int32) × (Nat → Int32) × (Nat → Int32) × (Nat → Int32))
  | 0, _, _, _, _, _, _, _, _, _ => none
  | n + 1, x_hasSent, bk_counts, bk_needs, bk_whens, bk_sides, bk_quantities, bk_limits, x7, x8 =>
    (if 4 ≤ x8 then
    some (0, x7, x_hasSent, bk_counts, bk_needs, bk_whens, bk_sides, bk_quantities, bk_limits)
    else
    (if x2 = (-1) then
    f_x_send_b91 x_members x_collaterals x_isSealed x1 x2 x3 x4 x5 x6 (f_x_send_L74 x_members x_collaterals x_isSealed x1 x2 x3 x4 x5 x6 n) x_hasSent bk_counts bk_needs bk_whens bk_sides bk_quantities bk_limits x7 x8
    else
    (if x2 = x8 then
    f_x_send_b91 x_members x_collaterals x_isSealed x1 x2 x3 x4 x5 x6 (f_x_send_L74 x_members x_collaterals x_isSealed x1 x2 x3 x4 x5 x6 n) x_hasSent bk_counts bk_needs bk_whens bk_sides bk_quantities bk_limits x7 x8
    else
    f_x_send_b96 x_members x_collaterals x_isSealed x1 x2 x3 x4 x5 x6 (f_x_send_L74 x_members x_collaterals x_isSealed x1 x2 x3 x4 x5 x6 n) x_hasSent bk_counts bk_needs bk_whens bk_sides bk_quantities bk_limits x7 x8 0)))
def f_x_send_b32 (x_members : Int32) (x_collaterals : Nat → Int32) (x_isSealed : Nat → Int32) (x_hasSent : Nat → Int32) (bk_counts : Nat → Int32) (bk_needs : Nat → Int64) (bk_whens : Nat → Int32) (bk_sides : Nat → Int32) (bk_quantities : Nat → Int32) (bk_limits : Nat → Int32) : Option (Nat × Int32 × (Nat → Int32) × (Nat → Int32) × (Nat → Int64) × (Nat → Int32) × (Nat → Int32) × (Nat → Int32) × (Nat → Int32)) :=
    some (1, 0, x_hasSent, bk_counts, bk_needs, bk_whens, bk_sides, bk_quantities, bk_limits)
def f_x_send_b20 (x_members : Int32) (x_collaterals : Nat → Int32) (x_isSealed : Nat → Int32) (x1 : Int32) (x2 : Int32) (x3 : Int32) (x4 : Int32) (x5 : Int32) (x6 : Int32) (x_hasSent : Nat → Int32) (bk_counts : Nat → Int32) (bk_needs : Nat → Int64) (bk_whens : Nat → Int32) (bk_sides : Nat → Int32) (bk_quantities : Nat → Int32) (bk_limits : Nat → Int32) : Option (Nat × Int32 × (Nat → Int32) × (Nat → Int32) × (Nat → Int64) × (Nat → Int32) × (Nat → Int32) × (Nat → Int32) × (Nat → Int32)) :=
    (f_x_isBid x4 x5 x6).bind fun r3 =>
    (if r3 = 0 then
    f_x_send_b32 x_members x_collaterals x_isSealed x_hasSent bk_counts bk_needs bk_whens bk_sides bk_quantities bk_limits
    else
    if x1 < 0 ∨ 6 ≤ x1.toNatClampNeg then none else (if (x_isSealed x1.toNatClampNeg) = 0 then
    f_x_send_L74 x_members x_collaterals x_isSealed x1 x2 x3 x4 x5 x6 1000 (upd x_hasSent x1.toNatClampNeg (vp_nar .boolean 1)) bk_counts bk_needs bk_whens bk_sides bk_quantities bk_limits 0 0
    else
    some (2, 0, x_hasSent, bk_counts, bk_needs, bk_whens, bk_sides, bk_quantities, bk_limits)))
def f_x_send (x_members : Int32) (x_collaterals : Nat → Int32) (x_hasSent : Nat → Int32) (x_isSealed : Nat → Int32) (bk_counts : Nat → Int32) (bk_needs : Nat → Int64) (bk_whens : Nat → Int32) (bk_sides : Nat → Int32) (bk_quantities : Nat → Int32) (bk_limits : Nat → Int32) (x1 : Int32) (x2 : Int32) (x3 : Int32) (x4 : Int32) (x5 : Int32) (x6 : Int32) : Option (Nat × Int32 × (Nat → Int32) × (Nat → Int32) × (Nat → Int64) × (Nat → Int32) × (Nat → Int32) × (Nat → Int32) × (Nat → Int32)) :=
    (f_x_isMember x_members x1).bind fun r1 =>
    (if r1 = 0 then
    f_x_send_b32 x_members x_collaterals x_isSealed x_hasSent bk_counts bk_needs bk_whens bk_sides bk_quantities bk_limits
    else
    (if x2 = (-1) then
    f_x_send_b20 x_members x_collaterals x_isSealed x1 x2 x3 x4 x5 x6 x_hasSent bk_counts bk_needs bk_whens bk_sides bk_quantities bk_limits
    else
    (f_x_isOperator x2).bind fun r2 =>
    (if r2 = 0 then
    f_x_send_b32 x_members x_collaterals x_isSealed x_hasSent bk_counts bk_needs bk_whens bk_sides bk_quantities bk_limits
    else
    f_x_send_b20 x_members x_collaterals x_isSealed x1 x2 x3 x4 x5 x6 x_hasSent bk_counts bk_needs bk_whens bk_sides bk_quantities bk_limits)))
def f_x_order (x_members : Int32) (x_collaterals : Nat → Int32) (x_hasSent : Nat → Int32) (x_isSealed : Nat → Int32) (bk_counts : Nat → Int32) (bk_needs : Nat → Int64) (bk_whens : Nat → Int32) (bk_sides : Nat → Int32) (bk_quantities : Nat → Int32) (bk_limits : Nat → Int32) (x1 : Int32) (x2 : Int32) (x3 : Int32) (x4 : Int32) (x5 : Int32) (x6 : Int32) : Option (Nat × Int32 × (Nat → Int32) × (Nat → Int32) × (Nat → Int64) × (Nat → Int32) × (Nat → Int32) × (Nat → Int32) × (Nat → Int32)) :=
    (f_x_isHour x3).bind fun r1 =>
    (if r1 = 0 then
    some (1, 0, x_hasSent, bk_counts, bk_needs, bk_whens, bk_sides, bk_quantities, bk_limits)
    else
    (f_x_send x_members x_collaterals x_hasSent x_isSealed bk_counts bk_needs bk_whens bk_sides bk_quantities bk_limits x1 x2 x3 x4 x5 x6).bind fun r2 =>
    (if r2.1 = 0 then
    some (0, r2.2.1, r2.2.2.1, r2.2.2.2.1, r2.2.2.2.2.1, r2.2.2.2.2.2.1, r2.2.2.2.2.2.2.1, r2.2.2.2.2.2.2.2.1, r2.2.2.2.2.2.2.2.2)
    else
    some (r2.1, 0, r2.2.2.1, r2.2.2.2.1, r2.2.2.2.2.1, r2.2.2.2.2.2.1, r2.2.2.2.2.2.2.1, r2.2.2.2.2.2.2.2.1, r2.2.2.2.2.2.2.2.2)))
def f_x_isSpan (x0 : Int32) : Option (Int32) :=
    (if x0 < 0 then
    some (0)
    else
    (f_x_isHour (x0 / 4)).bind fun r1 =>
    (if r1 = 0 then
    some (0)
    else
    (f_x_isHour (x0 - x0 / 4 * 4)).bind fun r2 =>
    (if r2 = 0 then
    some (0)
    else
    (if (x0 - x0 / 4 * 4) < (x0 / 4) then
    some (0)
    else
    some (1)))))
def f_x_block (x_members : Int32) (x_collaterals : Nat → Int32) (x_hasSent : Nat → Int32) (x_isSealed : Nat → Int32) (bk_counts : Nat → Int32) (bk_needs : Nat → Int64) (bk_whens : Nat → Int32) (bk_sides : Nat → Int32) (bk_quantities : Nat → Int32) (bk_limits : Nat → Int32) (x1 : Int32) (x2 : Int32) (x3 : Int32) (x4 : Int32) (x5 : Int32) (x6 : Int32) : Option (Nat × Int32 × (Nat → Int32) × (Nat → Int32) × (Nat → Int64) × (Nat → Int32) × (Nat → Int32) × (Nat → Int32) × (Nat → Int32)) :=
    (f_x_isSpan x3).bind fun r1 =>
    (if r1 = 0 then
    some (1, 0, x_hasSent, bk_counts, bk_needs, bk_whens, bk_sides, bk_quantities, bk_limits)
    else
    (f_x_send x_members x_collaterals x_hasSent x_isSealed bk_counts bk_needs bk_whens bk_sides bk_quantities bk_limits x1 x2 (100 + x3) x4 x5 x6).bind fun r2 =>
    (if r2.1 = 0 then
    some (0, r2.2.1, r2.2.2.1, r2.2.2.2.1, r2.2.2.2.2.1, r2.2.2.2.2.2.1, r2.2.2.2.2.2.2.1, r2.2.2.2.2.2.2.2.1, r2.2.2.2.2.2.2.2.2)
    else
    some (r2.1, 0, r2.2.2.1, r2.2.2.2.1, r2.2.2.2.2.1, r2.2.2.2.2.2.1, r2.2.2.2.2.2.2.1, r2.2.2.2.2.2.2.2.1, r2.2.2.2.2.2.2.2.2)))
def f_x_seal (x_members : Int32) (x_isSealed : Nat → Int32) (x_sealedCount : Int32) (x1 : Int32) : Option (Nat × Int32 × (Nat → Int32) × Int32) :=
    (f_x_isMember x_members x1).bind fun r1 =>
    (if r1 = 0 then
    some (1, 0, x_isSealed, x_sealedCount)
    else
    if x1 < 0 ∨ 6 ≤ x1.toNatClampNeg then none else (if (x_isSealed x1.toNatClampNeg) = 0 then
    some (0, (x_sealedCount + 1), (upd x_isSealed x1.toNatClampNeg (vp_nar .boolean 1)), (x_sealedCount + 1))
    else
    some (2, 0, x_isSealed, x_sealedCount)))
def f_ag_hasLiar (ag_liarOperator : Int32) : Option (Int32) :=
    (if ag_liarOperator = (-1) then
    some (0)
    else
    some (1))
def f_x_liar_b37 (ag_rounds : Int32) (ag_liarOperator : Int32) : Option (Nat × Int32) :=
    some (2, ag_liarOperator)
def f_x_liar (ag_liarOperator : Int32) (ag_rounds : Int32) (x1 : Int32) : Option (Nat × Int32) :=
    (f_x_isOperator x1).bind fun r1 =>
    (if r1 = 0 then
    some (1, ag_liarOperator)
    else
    (f_ag_hasLiar ag_liarOperator).bind fun r2 =>
    (if r2 = 0 then
    (if ag_rounds ≤ 0 then
    some (0, x1)
    else
    f_x_liar_b37 ag_rounds ag_liarOperator)
    else
    f_x_liar_b37 ag_rounds ag_liarOperator))
def f_ag_isTellingNext_b16 (ag_rounds : Int32) : Option (Int32) :=
    some (1)
def f_ag_isTellingNext (ag_rounds : Int32) : Option (Int32) :=
    (if ag_rounds = 1 then
    f_ag_isTellingNext_b16 ag_rounds
    else
    (if ag_rounds = 2 then
    f_ag_isTellingNext_b16 ag_rounds
    else
    some (0)))
def f_ag_mayLie (ag_liarOperator : Int32) (ag_rounds : Int32) (x1 : Int32) (x2 : Int32) : Option (Int32) :=
    (if x1 = ag_liarOperator then
    some (0)
    else
    (if ag_rounds = 1 then
    (if x2 = ag_liarOperator then
    some (1)
    else
    some (0))
    else
    (if x2 = ag_liarOperator then
    some (0)
    else
    (if x2 = x1 then
    some (0)
    else
    some (1)))))
def f_ag_passedPlace (x0 : Int32) (x1 : Int32) (x2 : Int32) : Option (Int32) :=
    some (((6 * ((4 * x0) + x1)) + x2))
def f_ag_toldPlace (x0 : Int32) (x1 : Int32) : Option (Int32) :=
    some (((6 * x0) + x1))
def f_ag_setLie (ag_toldLies : Nat → Int32) (ag_passedLies : Nat → Int32) (ag_rounds : Int32) (x1 : Int32) (x2 : Int32) (x3 : Int32) (x4 : Int32) : Option ((Nat → Int32) × (Nat → Int32)) :=
    (if ag_rounds = 1 then
    (f_ag_toldPlace x1 x3).bind fun r3 =>
    if r3 < 0 ∨ 24 ≤ r3.toNatClampNeg then none else some ((upd ag_toldLies r3.toNatClampNeg x4), ag_passedLies)
    else
    (f_ag_passedPlace x1 x2 x3).bind fun r1 =>
    if r1 < 0 ∨ 96 ≤ r1.toNatClampNeg then none else some (ag_toldLies, (upd ag_passedLies r1.toNatClampNeg x4)))
def f_x_isItem (x_members : Int32) (x1 : Int32) : Option (Int32) :=
    (if x1 < (-1) then
    some (0)
    else
    (if (4 * x_members) ≤ x1 then
    some (0)
    else
    some (1)))
def f_x_tell_b113 (x_members : Int32) (ag_liarOperator : Int32) (ag_rounds : Int32) (ag_toldLies : Nat → Int32) (ag_passedLies : Nat → Int32) (s1 : Int32) (s2 : Int32) (s3 : Int32) (s4 : Int32) : Option (Nat × (Nat → Int32) × (Nat → Int32)) :=
    (f_ag_setLie ag_toldLies ag_passedLies ag_rounds s1 s2 s3 s4).bind fun r8 =>
    some (0, r8.1, r8.2)
def f_x_tell_b61 (x_members : Int32) (ag_liarOperator : Int32) (ag_rounds : Int32) (ag_toldLies : Nat → Int32) (ag_passedLies : Nat → Int32) : Option (Nat × (Nat → Int32) × (Nat → Int32)) :=
    some (2, ag_toldLies, ag_passedLies)
def f_x_tell_b31 (x_members : Int32) (ag_liarOperator : Int32) (ag_rounds : Int32) (ag_toldLies : Nat → Int32) (ag_passedLies : Nat → Int32) : Option (Nat × (Nat → Int32) × (Nat → Int32)) :=
    some (1, ag_toldLies, ag_passedLies)
def f_x_tell (x_members : Int32) (ag_toldLies : Nat → Int32) (ag_passedLies : Nat → Int32) (ag_liarOperator : Int32) (ag_rounds : Int32) (x1 : Int32) (x2 : Int32) (x3 : Int32) (x4 : Int32) : Option (Nat × (Nat → Int32) × (Nat → Int32)) :=
    (f_x_isOperator x1).bind fun r1 =>
    (if r1 = 0 then
    f_x_tell_b31 x_members ag_liarOperator ag_rounds ag_toldLies ag_passedLies
    else
    (f_x_isOperator x2).bind fun r2 =>
    (if r2 = 0 then
    f_x_tell_b31 x_members ag_liarOperator ag_rounds ag_toldLies ag_passedLies
    else
    (f_x_isMember x_members x3).bind fun r3 =>
    (if r3 = 0 then
    f_x_tell_b31 x_members ag_liarOperator ag_rounds ag_toldLies ag_passedLies
    else
    (f_x_isItem x_members x4).bind fun r4 =>
    (if r4 = 0 then
    f_x_tell_b31 x_members ag_liarOperator ag_rounds ag_toldLies ag_passedLies
    else
    (f_ag_hasLiar ag_liarOperator).bind fun r5 =>
    (if r5 = 0 then
    f_x_tell_b61 x_members ag_liarOperator ag_rounds ag_toldLies ag_passedLies
    else
    (f_ag_isTellingNext ag_rounds).bind fun r6 =>
    (if r6 = 0 then
    f_x_tell_b61 x_members ag_liarOperator ag_rounds ag_toldLies ag_passedLies
    else
    (f_ag_mayLie ag_liarOperator ag_rounds x1 x2).bind fun r7 =>
    (if r7 = 0 then
    some (1, ag_toldLies, ag_passedLies)
    else
    (if x4 = (-1) then
    f_x_tell_b113 x_members ag_liarOperator ag_rounds ag_toldLies ag_passedLies x1 x2 x3 24
    else
    f_x_tell_b113 x_members ag_liarOperator ag_rounds ag_toldLies ag_passedLies x1 x2 x3 x4))))))))
def f_ag_own (x0 : Int32) (x1 : Int32) : Option (Int32) :=
    some (((4 * x1) + x0))
def f_ag_told_b22 (ag_toldLies : Nat → Int32) (ag_liarOperator : Int32) (x1 : Int32) (x3 : Int32) (s0 : Int32) : Option (Int32) :=
    (if s0 = (-1) then
    (f_ag_own x1 x3).bind fun r3 =>
    some (r3)
    else
    some (s0))
def f_ag_told (ag_toldLies : Nat → Int32) (ag_liarOperator : Int32) (x1 : Int32) (x2 : Int32) (x3 : Int32) : Option (Int32) :=
    (if x1 = ag_liarOperator then
    (f_ag_toldPlace x2 x3).bind fun r1 =>
    if r1 < 0 ∨ 24 ≤ r1.toNatClampNeg then none else f_ag_told_b22 ag_toldLies ag_liarOperator x1 x3 (ag_toldLies r1.toNatClampNeg)
    else
    f_ag_told_b22 ag_toldLies ag_liarOperator x1 x3 (-1))
def f_ag_passed_b24 (ag_toldLies : Nat → Int32) (ag_passedLies : Nat → Int32) (ag_liarOperator : Int32) (x1 : Int32) (x2 : Int32) (x4 : Int32) (s0 : Int32) : Option (Int32) :=
    (if s0 = (-1) then
    (f_ag_told ag_toldLies ag_liarOperator x2 x1 x4).bind fun r3 =>
    some (r3)
    else
    some (s0))
def f_ag_passed (ag_toldLies : Nat → Int32) (ag_passedLies : Nat → Int32) (ag_liarOperator : Int32) (x1 : Int32) (x2 : Int32) (x3 : Int32) (x4 : Int32) : Option (Int32) :=
    (if x1 = ag_liarOperator then
    (f_ag_passedPlace x3 x2 x4).bind fun r1 =>
    if r1 < 0 ∨ 96 ≤ r1.toNatClampNeg then none else f_ag_passed_b24 ag_toldLies ag_passedLies ag_liarOperator x1 x2 x4 (ag_passedLies r1.toNatClampNeg)
    else
    f_ag_passed_b24 ag_toldLies ag_passedLies ag_liarOperator x1 x2 x4 (-1))
def f_bk_areEntriesEqual (bk_whens : Nat → Int32) (bk_sides : Nat → Int32) (bk_quantities : Nat → Int32) (bk_limits : Nat → Int32) (x1 : Int32) (x2 : Int32) : Option (Int32) :=
    if x1 < 0 ∨ 240 ≤ x1.toNatClampNeg then none else if x2 < 0 ∨ 240 ≤ x2.toNatClampNeg then none else (if (bk_whens x1.toNatClampNeg) = (bk_whens x2.toNatClampNeg) then
    (if (bk_sides x1.toNatClampNeg) = (bk_sides x2.toNatClampNeg) then
    (if (bk_quantities x1.toNatClampNeg) = (bk_quantities x2.toNatClampNeg) then
    (if (bk_limits x1.toNatClampNeg) = (bk_limits x2.toNatClampNeg) then
    some (1)
    else
    some (0))
    else
    some (0))
    else
    some (0))
    else
    some (0))
def f_bk_areEqual_L19 (bk_counts : Nat → Int32) (bk_whens : Nat → Int32) (bk_sides : Nat → Int32) (bk_quantities : Nat → Int32) (bk_limits : Nat → Int32) (x1 : Int32) (x2 : Int32) : Nat → Int32 → Option (Int32)
  | 0, _ => none
  | n + 1, x3 =>
    if x1 < 0 ∨ 25 ≤ x1.toNatClampNeg then none else (if (bk_counts x1.toNatClampNeg) ≤ x3 then
    some (1)
    else
    (f_bk_areEntriesEqual bk_whens bk_sides bk_quantities bk_limits ((10 * x1) + x3) ((10 * x2) + x3)).bind fun r4 =>
    (if r4 = 0 then
    some (0)
    else
    f_bk_areEqual_L19 bk_counts bk_whens bk_sides bk_quantities bk_limits x1 x2 n (x3 + 1)))
def f_bk_areEqual (bk_counts : Nat → Int32) (bk_whens : Nat → Int32) (bk_sides : Nat → Int32) (bk_quantities : Nat → Int32) (bk_limits : Nat → Int32) (x1 : Int32) (x2 : Int32) : Option (Int32) :=
    if x1 < 0 ∨ 25 ≤ x1.toNatClampNeg then none else if x2 < 0 ∨ 25 ≤ x2.toNatClampNeg then none else (if (bk_counts x1.toNatClampNeg) = (bk_counts x2.toNatClampNeg) then
    f_bk_areEqual_L19 bk_counts bk_whens bk_sides bk_quantities bk_limits x1 x2 1000 0
    else
    some (0))
def f_ag_word_L15 (bk_counts : Nat → Int32) (bk_whens : Nat → Int32) (bk_sides : Nat → Int32) (bk_quantities : Nat → Int32) (bk_limits : Nat → Int32) (ag_toldLies : Nat → Int32) (ag_passedLies : Nat → Int32) (ag_liarOperator : Int32) (x1 : Int32) (x2 : Int32) (x3 : Int32) : Nat → Int32 → Int32 → Int32 → Option (Int32)
  | 0, _, _, _ => none
  | n + 1, x4, x5, x6 =>
    (if 4 ≤ x6 then
    some (24)
    else
    (if x6 = x1 then
    f_ag_word_L15 bk_counts bk_whens bk_sides bk_quantities bk_limits ag_toldLies ag_passedLies ag_liarOperator x1 x2 x3 n x4 x5 (x6 + 1)
    else
    (if x6 = x2 then
    f_ag_word_L15 bk_counts bk_whens bk_sides bk_quantities bk_limits ag_toldLies ag_passedLies ag_liarOperator x1 x2 x3 n x4 x5 (x6 + 1)
    else
    (f_ag_passed ag_toldLies ag_passedLies ag_liarOperator x6 x2 x1 x3).bind fun r2 =>
    (f_bk_areEqual bk_counts bk_whens bk_sides bk_quantities bk_limits r2 x4).bind fun r3 =>
    (if r3 = 0 then
    (if x5 = (-1) then
    f_ag_word_L15 bk_counts bk_whens bk_sides bk_quantities bk_limits ag_toldLies ag_passedLies ag_liarOperator x1 x2 x3 n x4 r2 (x6 + 1)
    else
    (f_bk_areEqual bk_counts bk_whens bk_sides bk_quantities bk_limits r2 x5).bind fun r4 =>
    (if r4 = 0 then
    f_ag_word_L15 bk_counts bk_whens bk_sides bk_quantities bk_limits ag_toldLies ag_passedLies ag_liarOperator x1 x2 x3 n x4 r2 (x6 + 1)
    else
    some (r2)))
    else
    some (x4)))))
def f_ag_word (bk_counts : Nat → Int32) (bk_whens : Nat → Int32) (bk_sides : Nat → Int32) (bk_quantities : Nat → Int32) (bk_limits : Nat → Int32) (ag_toldLies : Nat → Int32) (ag_passedLies : Nat → Int32) (ag_liarOperator : Int32) (x1 : Int32) (x2 : Int32) (x3 : Int32) : Option (Int32) :=
    (f_ag_told ag_toldLies ag_liarOperator x2 x1 x3).bind fun r1 =>
    f_ag_word_L15 bk_counts bk_whens bk_sides bk_quantities bk_limits ag_toldLies ag_passedLies ag_liarOperator x1 x2 x3 1000 r1 (-1) 0
def f_ag_wordsLike_L4 (bk_counts : Nat → Int32) (bk_whens : Nat → Int32) (bk_sides : Nat → Int32) (bk_quantities : Nat → Int32) (bk_limits : Nat → Int32) (ag_words : Nat → Int32) (x1 : Int32) : Nat → Int32 → Int32 → Option (Int32)
  | 0, _, _ => none
  | n + 1, x2, x3 =>
    (if 4 ≤ x3 then
    some (x2)
    else
    if x3 < 0 ∨ 4 ≤ x3.toNatClampNeg then none else (f_bk_areEqual bk_counts bk_whens bk_sides bk_quantities bk_limits (ag_words x3.toNatClampNeg) x1).bind fun r2 =>
    (if r2 = 0 then
    f_ag_wordsLike_L4 bk_counts bk_whens bk_sides bk_quantities bk_limits ag_words x1 n x2 (x3 + 1)
    else
    f_ag_wordsLike_L4 bk_counts bk_whens bk_sides bk_quantities bk_limits ag_words x1 n (x2 + 1) (x3 + 1)))
def f_ag_wordsLike (bk_counts : Nat → Int32) (bk_whens : Nat → Int32) (bk_sides : Nat → Int32) (bk_quantities : Nat → Int32) (bk_limits : Nat → Int32) (ag_words : Nat → Int32) (x1 : Int32) : Option (Int32) :=
    f_ag_wordsLike_L4 bk_counts bk_whens bk_sides bk_quantities bk_limits ag_words x1 1000 0 0
def f_ag_agreeOn_L41 (bk_counts : Nat → Int32) (bk_whens : Nat → Int32) (bk_sides : Nat → Int32) (bk_quantities : Nat → Int32) (bk_limits : Nat → Int32) (ag_toldLies : Nat → Int32) (ag_passedLies : Nat → Int32) (ag_liarOperator : Int32) : Nat → (Nat → Int32) → Int32 → Option (Int32 × (Nat → Int32))
  | 0, _, _ => none
  | n + 1, ag_words, x3 =>
    (if 4 ≤ x3 then
    some (24, ag_words)
    else
    if x3 < 0 ∨ 4 ≤ x3.toNatClampNeg then none else (f_ag_wordsLike bk_counts bk_whens bk_sides bk_quantities bk_limits ag_words (ag_words x3.toNatClampNeg)).bind fun r6 =>
    (if r6 < 3 then
    f_ag_agreeOn_L41 bk_counts bk_whens bk_sides bk_quantities bk_limits ag_toldLies ag_passedLies ag_liarOperator n ag_words (x3 + 1)
    else
    some ((ag_words x3.toNatClampNeg), ag_words)))
def f_ag_agreeOn_L2 (bk_counts : Nat → Int32) (bk_whens : Nat → Int32) (bk_sides : Nat → Int32) (bk_quantities : Nat → Int32) (bk_limits : Nat → Int32) (ag_toldLies : Nat → Int32) (ag_passedLies : Nat → Int32) (ag_liarOperator : Int32) (x1 : Int32) (x2 : Int32) : Nat → (Nat → Int32) → Int32 → Option (Int32 × (Nat → Int32))
  | 0, _, _ => none
  | n + 1, ag_words, x3 =>
    (if 4 ≤ x3 then
    f_ag_agreeOn_L41 bk_counts bk_whens bk_sides bk_quantities bk_limits ag_toldLies ag_passedLies ag_liarOperator 1000 ag_words 0
    else
    (if x3 = x1 then
    (f_ag_own x3 x2).bind fun r3 =>
    if x3 < 0 ∨ 4 ≤ x3.toNatClampNeg then none else f_ag_agreeOn_L2 bk_counts bk_whens bk_sides bk_quantities bk_limits ag_toldLies ag_passedLies ag_liarOperator x1 x2 n (upd ag_words x3.toNatClampNeg r3) (x3 + 1)
    else
    (f_ag_word bk_counts bk_whens bk_sides bk_quantities bk_limits ag_toldLies ag_passedLies ag_liarOperator x1 x3 x2).bind fun r1 =>
    if x3 < 0 ∨ 4 ≤ x3.toNatClampNeg then none else f_ag_agreeOn_L2 bk_counts bk_whens bk_sides bk_quantities bk_limits ag_toldLies ag_passedLies ag_liarOperator x1 x2 n (upd ag_words x3.toNatClampNeg r1) (x3 + 1)))
def f_ag_agreeOn (bk_counts : Nat → Int32) (bk_whens : Nat → Int32) (bk_sides : Nat → Int32) (bk_quantities : Nat → Int32) (bk_limits : Nat → Int32) (ag_toldLies : Nat → Int32) (ag_passedLies : Nat → Int32) (ag_words : Nat → Int32) (ag_liarOperator : Int32) (x1 : Int32) (x2 : Int32) : Option (Int32 × (Nat → Int32)) :=
    f_ag_agreeOn_L2 bk_counts bk_whens bk_sides bk_quantities bk_limits ag_toldLies ag_passedLies ag_liarOperator x1 x2 1000 ag_words 0
def f_ag_isOver (ag_rounds : Int32) : Option (Int32) :=
    (if ag_rounds < 3 then
    some (0)
    else
    some (1))
def f_ag_vectorPlace (x0 : Int32) (x1 : Int32) : Option (Int32) :=
    some (((6 * x0) + x1))
def f_ag_goOn_L26 (bk_counts : Nat → Int32) (bk_whens : Nat → Int32) (bk_sides : Nat → Int32) (bk_quantities : Nat → Int32) (bk_limits : Nat → Int32) (ag_toldLies : Nat → Int32) (ag_passedLies : Nat → Int32) (ag_liarOperator : Int32) (x1 : Int32) (K19 : (Nat → Int32) → (Nat → Int32) → Int32 → Int32 → Option (Int32 × (Nat → Int32) × (Nat → Int32) × Int32)) : Nat → (Nat → Int32) → (Nat → Int32) → Int32 → Int32 → Int32 → Option (Int32 × (Nat → Int32) × (Nat → Int32) × Int32)
  | 0, _, _, _, _, _ => none
  | n + 1, ag_words, ag_vectors, ag_rounds, x2, x3 =>
    (if x1 ≤ x3 then
    K19 ag_words ag_vectors ag_rounds (x2 + 1)
    else
    (f_ag_vectorPlace x2 x3).bind fun r2 =>
    (f_ag_agreeOn bk_counts bk_whens bk_sides bk_quantities bk_limits ag_toldLies ag_passedLies ag_words ag_liarOperator x2 x3).bind fun r3 =>
    if r2 < 0 ∨ 24 ≤ r2.toNatClampNeg then none else f_ag_goOn_L26 bk_counts bk_whens bk_sides bk_quantities bk_limits ag_toldLies ag_passedLies ag_liarOperator x1 K19 n r3.2 (upd ag_vectors r2.toNatClampNeg r3.1) ag_rounds x2 (x3 + 1))
def f_ag_goOn_L19 (bk_counts : Nat → Int32) (bk_whens : Nat → Int32) (bk_sides : Nat → Int32) (bk_quantities : Nat → Int32) (bk_limits : Nat → Int32) (ag_toldLies : Nat → Int32) (ag_passedLies : Nat → Int32) (ag_liarOperator : Int32) (x1 : Int32) : Nat → (Nat → Int32) → (Nat → Int32) → Int32 → Int32 → Option (Int32 × (Nat → Int32) × (Nat → Int32) × Int32)
  | 0, _, _, _, _ => none
  | n + 1, ag_words, ag_vectors, ag_rounds, x2 =>
    (if 4 ≤ x2 then
    some (ag_rounds, ag_words, ag_vectors, ag_rounds)
    else
    f_ag_goOn_L26 bk_counts bk_whens bk_sides bk_quantities bk_limits ag_toldLies ag_passedLies ag_liarOperator x1 (f_ag_goOn_L19 bk_counts bk_whens bk_sides bk_quantities bk_limits ag_toldLies ag_passedLies ag_liarOperator x1 n) 1000 ag_words ag_vectors ag_rounds x2 0)
def f_ag_goOn (bk_counts : Nat → Int32) (bk_whens : Nat → Int32) (bk_sides : Nat → Int32) (bk_quantities : Nat → Int32) (bk_limits : Nat → Int32) (ag_toldLies : Nat → Int32) (ag_passedLies : Nat → Int32) (ag_words : Nat → Int32) (ag_vectors : Nat → Int32) (ag_liarOperator : Int32) (ag_rounds : Int32) (x1 : Int32) : Option (Int32 × (Nat → Int32) × (Nat → Int32) × Int32) :=
    (f_ag_isOver (ag_rounds + 1)).bind fun r1 =>
    (if r1 = 0 then
    some ((ag_rounds + 1), ag_words, ag_vectors, (ag_rounds + 1))
    else
    f_ag_goOn_L19 bk_counts bk_whens bk_sides bk_quantities bk_limits ag_toldLies ag_passedLies ag_liarOperator x1 1000 ag_words ag_vectors (ag_rounds + 1) 0)
def f_x_round_b21 (x_members : Int32) (x_sealedCount : Int32) (bk_counts : Nat → Int32) (bk_whens : Nat → Int32) (bk_sides : Nat → Int32) (bk_quantities : Nat → Int32) (bk_limits : Nat → Int32) (ag_toldLies : Nat → Int32) (ag_passedLies : Nat → Int32) (ag_liarOperator : Int32) (ag_words : Nat → Int32) (ag_vectors : Nat → Int32) (ag_rounds : Int32) : Option (Nat × Int32 × (Nat → Int32) × (Nat → Int32) × Int32) :=
    some (2, 0, ag_words, ag_vectors, ag_rounds)
def f_x_round (x_members : Int32) (x_sealedCount : Int32) (bk_counts : Nat → Int32) (bk_whens : Nat → Int32) (bk_sides : Nat → Int32) (bk_quantities : Nat → Int32) (bk_limits : Nat → Int32) (ag_toldLies : Nat → Int32) (ag_passedLies : Nat → Int32) (ag_words : Nat → Int32) (ag_vectors : Nat → Int32) (ag_liarOperator : Int32) (ag_rounds : Int32) : Option (Nat × Int32 × (Nat → Int32) × (Nat → Int32) × Int32) :=
    (if x_sealedCount < x_members then
    f_x_round_b21 x_members x_sealedCount bk_counts bk_whens bk_sides bk_quantities bk_limits ag_toldLies ag_passedLies ag_liarOperator ag_words ag_vectors ag_rounds
    else
    (f_ag_isOver ag_rounds).bind fun r1 =>
    (if r1 = 0 then
    (f_ag_goOn bk_counts bk_whens bk_sides bk_quantities bk_limits ag_toldLies ag_passedLies ag_words ag_vectors ag_liarOperator ag_rounds x_members).bind fun r2 =>
    some (0, r2.1, r2.2.1, r2.2.2.1, r2.2.2.2)
    else
    f_x_round_b21 x_members x_sealedCount bk_counts bk_whens bk_sides bk_quantities bk_limits ag_toldLies ag_passedLies ag_liarOperator ag_words ag_vectors ag_rounds))
def f_ag_agreedBook (ag_vectors : Nat → Int32) (x1 : Int32) (x2 : Int32) : Option (Int32) :=
    (f_ag_vectorPlace x1 x2).bind fun r1 =>
    if r1 < 0 ∨ 24 ≤ r1.toNatClampNeg then none else some ((ag_vectors r1.toNatClampNeg))
def f_bk_detail (bk_whens : Nat → Int32) (bk_sides : Nat → Int32) (bk_quantities : Nat → Int32) (bk_limits : Nat → Int32) (x1 : Int32) (x2 : Int32) : Option (Int32) :=
    (if x2 = 0 then
    if x1 < 0 ∨ 240 ≤ x1.toNatClampNeg then none else some ((bk_whens x1.toNatClampNeg))
    else
    (if x2 = 1 then
    if x1 < 0 ∨ 240 ≤ x1.toNatClampNeg then none else some ((bk_sides x1.toNatClampNeg))
    else
    (if x2 = 2 then
    if x1 < 0 ∨ 240 ≤ x1.toNatClampNeg then none else some ((bk_quantities x1.toNatClampNeg))
    else
    if x1 < 0 ∨ 240 ≤ x1.toNatClampNeg then none else some ((bk_limits x1.toNatClampNeg)))))
def f_x_vector_b102 (x_members : Int32) (bk_counts : Nat → Int32) (bk_whens : Nat → Int32) (bk_sides : Nat → Int32) (bk_quantities : Nat → Int32) (bk_limits : Nat → Int32) (ag_vectors : Nat → Int32) (ag_rounds : Int32) : Option (Nat × Int32) :=
    some (1, 0)
def f_x_vector_b46 (x_members : Int32) (bk_counts : Nat → Int32) (bk_whens : Nat → Int32) (bk_sides : Nat → Int32) (bk_quantities : Nat → Int32) (bk_limits : Nat → Int32) (ag_vectors : Nat → Int32) (ag_rounds : Int32) : Option (Nat × Int32) :=
    some (1, 0)
def f_x_vector (x_members : Int32) (bk_counts : Nat → Int32) (bk_whens : Nat → Int32) (bk_sides : Nat → Int32) (bk_quantities : Nat → Int32) (bk_limits : Nat → Int32) (ag_vectors : Nat → Int32) (ag_rounds : Int32) (x1 : Int32) (x2 : Int32) (x3 : Int32) (x4 : Int32) : Option (Nat × Int32) :=
    (f_ag_isOver ag_rounds).bind fun r1 =>
    (if r1 = 0 then
    some (2, 0)
    else
    (f_x_isOperator x1).bind fun r2 =>
    (if r2 = 0 then
    f_x_vector_b46 x_members bk_counts bk_whens bk_sides bk_quantities bk_limits ag_vectors ag_rounds
    else
    (f_x_isMember x_members x2).bind fun r3 =>
    (if r3 = 0 then
    f_x_vector_b46 x_members bk_counts bk_whens bk_sides bk_quantities bk_limits ag_vectors ag_rounds
    else
    (if x4 < 0 then
    f_x_vector_b46 x_members bk_counts bk_whens bk_sides bk_quantities bk_limits ag_vectors ag_rounds
    else
    (if x4 ≤ 4 then
    (f_ag_agreedBook ag_vectors x1 x2).bind fun r4 =>
    (if x4 = 4 then
    if r4 < 0 ∨ 25 ≤ r4.toNatClampNeg then none else some (0, (bk_counts r4.toNatClampNeg))
    else
    (if x3 < 0 then
    f_x_vector_b102 x_members bk_counts bk_whens bk_sides bk_quantities bk_limits ag_vectors ag_rounds
    else
    if r4 < 0 ∨ 25 ≤ r4.toNatClampNeg then none else (if x3 < (bk_counts r4.toNatClampNeg) then
    (f_bk_detail bk_whens bk_sides bk_quantities bk_limits ((10 * r4) + x3) x4).bind fun r6 =>
    some (0, r6)
    else
    f_x_vector_b102 x_members bk_counts bk_whens bk_sides bk_quantities bk_limits ag_vectors ag_rounds)))
    else
    f_x_vector_b46 x_members bk_counts bk_whens bk_sides bk_quantities bk_limits ag_vectors ag_rounds)))))
def f_c_empty (c_count : Int32) (c_allBids : Int32) (c_allOffers : Int32) : Option (Int32 × Int32 × Int32) :=
    some (0, 0, 0)
def f_bk_isBlock (bk_whens : Nat → Int32) (x1 : Int32) : Option (Int32) :=
    if x1 < 0 ∨ 240 ≤ x1.toNatClampNeg then none else (if (bk_whens x1.toNatClampNeg) < 100 then
    some (0)
    else
    some (1))
def f_c_placeOf_L63 (x1 : Int32) : Nat → (Nat → Int32) → (Nat → Int32) → (Nat → Int32) → Int32 → Int32 → Int32 → Option (Int32 × (Nat → Int32) × (Nat → Int32) × (Nat → Int32) × Int32)
  | 0, _, _, _, _, _, _ => none
  | n + 1, c_limits, c_bids, c_offers, c_count, x2, x3 =>
    (if x3 ≤ x2 then
    if x2 < 0 ∨ 60 ≤ x2.toNatClampNeg then none else some (x2, (upd c_limits x2.toNatClampNeg x1), (upd c_bids x2.toNatClampNeg 0), (upd c_offers x2.toNatClampNeg 0), (c_count + 1))
    else
    if (x3 - 1) < 0 ∨ 60 ≤ (x3 - 1).toNatClampNeg then none else if x3 < 0 ∨ 60 ≤ x3.toNatClampNeg then none else f_c_placeOf_L63 x1 n (upd c_limits x3.toNatClampNeg (c_limits (x3 - 1).toNatClampNeg)) (upd c_bids x3.toNatClampNeg (c_bids (x3 - 1).toNatClampNeg)) (upd c_offers x3.toNatClampNeg (c_offers (x3 - 1).toNatClampNeg)) c_count x2 (x3 + (-1)))
def f_c_placeOf_b44 (x1 : Int32) (c_limits : Nat → Int32) (c_bids : Nat → Int32) (c_offers : Nat → Int32) (c_count : Int32) (x2 : Int32) : Option (Int32 × (Nat → Int32) × (Nat → Int32) × (Nat → Int32) × Int32) :=
    (if c_count < 60 then
    f_c_placeOf_L63 x1 1000 c_limits c_bids c_offers c_count x2 c_count
    else
    some (x2, c_limits, c_bids, c_offers, c_count))
def f_c_placeOf_b26 (x1 : Int32) (c_limits : Nat → Int32) (c_bids : Nat → Int32) (c_offers : Nat → Int32) (c_count : Int32) (x2 : Int32) : Option (Int32 × (Nat → Int32) × (Nat → Int32) × (Nat → Int32) × Int32) :=
    (if c_count ≤ x2 then
    f_c_placeOf_b44 x1 c_limits c_bids c_offers c_count x2
    else
    if x2 < 0 ∨ 60 ≤ x2.toNatClampNeg then none else (if (c_limits x2.toNatClampNeg) = x1 then
    some (x2, c_limits, c_bids, c_offers, c_count)
    else
    f_c_placeOf_b44 x1 c_limits c_bids c_offers c_count x2))
def f_c_placeOf_L2 (x1 : Int32) : Nat → (Nat → Int32) → (Nat → Int32) → (Nat → Int32) → Int32 → Int32 → Option (Int32 × (Nat → Int32) × (Nat → Int32) × (Nat → Int32) × Int32)
  | 0, _, _, _, _, _ => none
  | n + 1, c_limits, c_bids, c_offers, c_count, x2 =>
    (if c_count ≤ x2 then
    f_c_placeOf_b26 x1 c_limits c_bids c_offers c_count x2
    else
    if x2 < 0 ∨ 60 ≤ x2.toNatClampNeg then none else (if x1 ≤ (c_limits x2.toNatClampNeg) then
    f_c_placeOf_b26 x1 c_limits c_bids c_offers c_count x2
    else
    f_c_placeOf_L2 x1 n c_limits c_bids c_offers c_count (x2 + 1)))
def f_c_placeOf (c_limits : Nat → Int32) (c_bids : Nat → Int32) (c_offers : Nat → Int32) (c_count : Int32) (x1 : Int32) : Option (Int32 × (Nat → Int32) × (Nat → Int32) × (Nat → Int32) × Int32) :=
    f_c_placeOf_L2 x1 1000 c_limits c_bids c_offers c_count 0
def f_c_add (c_limits : Nat → Int32) (c_bids : Nat → Int32) (c_offers : Nat → Int32) (c_count : Int32) (c_allBids : Int32) (c_allOffers : Int32) (x1 : Int32) (x2 : Int32) (x3 : Int32) : Option ((Nat → Int32) × (Nat → Int32) × (Nat → Int32) × Int32 × Int32 × Int32) :=
    (f_c_placeOf c_limits c_bids c_offers c_count x3).bind fun r1 =>
    (if r1.1 < 60 then
    (if x1 = 0 then
    if r1.1 < 0 ∨ 60 ≤ r1.1.toNatClampNeg then none else some (r1.2.1, (upd r1.2.2.1 r1.1.toNatClampNeg ((r1.2.2.1 r1.1.toNatClampNeg) + x2)), r1.2.2.2.1, r1.2.2.2.2, (c_allBids + x2), c_allOffers)
    else
    if r1.1 < 0 ∨ 60 ≤ r1.1.toNatClampNeg then none else some (r1.2.1, r1.2.2.1, (upd r1.2.2.2.1 r1.1.toNatClampNeg ((r1.2.2.2.1 r1.1.toNatClampNeg) + x2)), r1.2.2.2.2, c_allBids, (c_allOffers + x2)))
    else
    some (r1.2.1, r1.2.2.1, r1.2.2.2.1, r1.2.2.2.2, c_allBids, c_allOffers))
def f_mk_addEntry (bk_whens : Nat → Int32) (bk_sides : Nat → Int32) (bk_quantities : Nat → Int32) (bk_limits : Nat → Int32) (mk_entries : Nat → Int32) (mk_slots : Nat → Int32) (mk_blocks : Nat → Int32) (mk_entryCount : Int32) (mk_blockCount : Int32) (cv_limits : Nat → Nat → Int32) (cv_bids : Nat → Nat → Int32) (cv_offers : Nat → Nat → Int32) (cv_count : Nat → Int32) (cv_allBids : Nat → Int32) (cv_allOffers : Nat → Int32) (x1 : Int32) (x2 : Int32) : Option ((Nat → Int32) × (Nat → Int32) × (Nat → Int32) × Int32 × Int32 × (Nat → Nat → Int32) × (Nat → Nat → Int32) × (Nat → Nat → Int32) × (Nat → Int32) × (Nat → Int32) × (Nat → Int32)) :=
    (if mk_entryCount < 60 then
    if mk_entryCount < 0 ∨ 60 ≤ mk_entryCount.toNatClampNeg then none else (f_bk_isBlock bk_whens x1).bind fun r2 =>
    (if r2 = 0 then
    if x1 < 0 ∨ 240 ≤ x1.toNatClampNeg then none else if (bk_whens x1.toNatClampNeg) < 0 ∨ 3 ≤ (bk_whens x1.toNatClampNeg).toNatClampNeg then none else (f_c_add (cv_limits ((bk_whens x1.toNatClampNeg).toNatClampNeg)) (cv_bids ((bk_whens x1.toNatClampNeg).toNatClampNeg)) (cv_offers ((bk_whens x1.toNatClampNeg).toNatClampNeg)) (cv_count ((bk_whens x1.toNatClampNeg).toNatClampNeg)) (cv_allBids ((bk_whens x1.toNatClampNeg).toNatClampNeg)) (cv_allOffers ((bk_whens x1.toNatClampNeg).toNatClampNeg)) (bk_sides x1.toNatClampNeg) (bk_quantities x1.toNatClampNeg) (bk_limits x1.toNatClampNeg)).bind fun r6 =>
    some ((upd mk_entries mk_entryCount.toNatClampNeg x1), (upd mk_slots mk_entryCount.toNatClampNeg x2), mk_blocks, (mk_entryCount + 1), mk_blockCount, (va_up cv_limits ((bk_whens x1.toNatClampNeg).toNatClampNeg) r6.1), (va_up cv_bids ((bk_whens x1.toNatClampNeg).toNatClampNeg) r6.2.1), (va_up cv_offers ((bk_whens x1.toNatClampNeg).toNatClampNeg) r6.2.2.1), (va_up cv_count ((bk_whens x1.toNatClampNeg).toNatClampNeg) r6.2.2.2.1), (va_up cv_allBids ((bk_whens x1.toNatClampNeg).toNatClampNeg) r6.2.2.2.2.1), (va_up cv_allOffers ((bk_whens x1.toNatClampNeg).toNatClampNeg) r6.2.2.2.2.2))
    else
    (if 8 ≤ mk_blockCount then
    some ((upd mk_entries mk_entryCount.toNatClampNeg x1), (upd mk_slots mk_entryCount.toNatClampNeg x2), mk_blocks, (mk_entryCount + 1), mk_blockCount, cv_limits, cv_bids, cv_offers, cv_count, cv_allBids, cv_allOffers)
    else
    if mk_blockCount < 0 ∨ 8 ≤ mk_blockCount.toNatClampNeg then none else some ((upd mk_entries mk_entryCount.toNatClampNeg x1), (upd mk_slots mk_entryCount.toNatClampNeg x2), (upd mk_blocks mk_blockCount.toNatClampNeg x1), (mk_entryCount + 1), (mk_blockCount + 1), cv_limits, cv_bids, cv_offers, cv_count, cv_allBids, cv_allOffers)))
    else
    some (mk_entries, mk_slots, mk_blocks, mk_entryCount, mk_blockCount, cv_limits, cv_bids, cv_offers, cv_count, cv_allBids, cv_allOffers))
def f_mk_load_L56 (bk_counts : Nat → Int32) (bk_whens : Nat → Int32) (bk_sides : Nat → Int32) (bk_quantities : Nat → Int32) (bk_limits : Nat → Int32) (ag_vectors : Nat → Int32) (x2 : Int32) (x3 : Int32) (K38 : (Nat → Int32) → (Nat → Int32) → (Nat → Int32) → Int32 → Int32 → (Nat → Nat → Int32) → (Nat → Nat → Int32) → (Nat → Nat → Int32) → (Nat → Int32) → (Nat → Int32) → (Nat → Int32) → Int32 → Option ((Nat → Int32) × (Nat → Int32) × (Nat → Int32) × Int32 × Int32 × (Nat → Nat → Int32) × (Nat → Nat → Int32) × (Nat → Nat → Int32) × (Nat → Int32) × (Nat → Int32) × (Nat → Int32))) : Nat → (Nat → Int32) → (Nat → Int32) → (Nat → Int32) → Int32 → Int32 → (Nat → Nat → Int32) → (Nat → Nat → Int32) → (Nat → Nat → Int32) → (Nat → Int32) → (Nat → Int32) → (Nat → Int32) → Int32 → Int32 → Int32 → Option ((Nat → Int32) × (Nat → Int32) × (Nat → Int32) × Int32 × Int32 × (Nat → Nat → Int32) × (Nat → Nat → Int32) × (Nat → Nat → Int32) × (Nat → Int32) × (Nat → Int32) × (Nat → Int32))
  | 0, _, _, _, _, _, _, _, _, _, _, _, _, _, _ => none
  | n + 1, mk_entries, mk_slots, mk_blocks, mk_entryCount, mk_blockCount, cv_limits, cv_bids, cv_offers, cv_count, cv_allBids, cv_allOffers, x4, x5, x6 =>
    if x5 < 0 ∨ 25 ≤ x5.toNatClampNeg then none else (if (bk_counts x5.toNatClampNeg) ≤ x6 then
    K38 mk_entries mk_slots mk_blocks mk_entryCount mk_blockCount cv_limits cv_bids cv_offers cv_count cv_allBids cv_allOffers (x4 + 1)
    else
    (f_mk_addEntry bk_whens bk_sides bk_quantities bk_limits mk_entries mk_slots mk_blocks mk_entryCount mk_blockCount cv_limits cv_bids cv_offers cv_count cv_allBids cv_allOffers ((10 * x5) + x6) ((10 * x4) + x6)).bind fun r5 =>
    f_mk_load_L56 bk_counts bk_whens bk_sides bk_quantities bk_limits ag_vectors x2 x3 K38 n r5.1 r5.2.1 r5.2.2.1 r5.2.2.2.1 r5.2.2.2.2.1 r5.2.2.2.2.2.1 r5.2.2.2.2.2.2.1 r5.2.2.2.2.2.2.2.1 r5.2.2.2.2.2.2.2.2.1 r5.2.2.2.2.2.2.2.2.2.1 r5.2.2.2.2.2.2.2.2.2.2 x4 x5 (x6 + 1))
def f_mk_load_L38 (bk_counts : Nat → Int32) (bk_whens : Nat → Int32) (bk_sides : Nat → Int32) (bk_quantities : Nat → Int32) (bk_limits : Nat → Int32) (ag_vectors : Nat → Int32) (x2 : Int32) (x3 : Int32) : Nat → (Nat → Int32) → (Nat → Int32) → (Nat → Int32) → Int32 → Int32 → (Nat → Nat → Int32) → (Nat → Nat → Int32) → (Nat → Nat → Int32) → (Nat → Int32) → (Nat → Int32) → (Nat → Int32) → Int32 → Option ((Nat → Int32) × (Nat → Int32) × (Nat → Int32) × Int32 × Int32 × (Nat → Nat → Int32) × (Nat → Nat → Int32) × (Nat → Nat → Int32) × (Nat → Int32) × (Nat → Int32) × (Nat → Int32))
  | 0, _, _, _, _, _, _, _, _, _, _, _, _ => none
  | n + 1, mk_entries, mk_slots, mk_blocks, mk_entryCount, mk_blockCount, cv_limits, cv_bids, cv_offers, cv_count, cv_allBids, cv_allOffers, x4 =>
    (if x3 ≤ x4 then
    some (mk_entries, mk_slots, mk_blocks, mk_entryCount, mk_blockCount, cv_limits, cv_bids, cv_offers, cv_count, cv_allBids, cv_allOffers)
    else
    (f_ag_agreedBook ag_vectors x2 x4).bind fun r3 =>
    f_mk_load_L56 bk_counts bk_whens bk_sides bk_quantities bk_limits ag_vectors x2 x3 (f_mk_load_L38 bk_counts bk_whens bk_sides bk_quantities bk_limits ag_vectors x2 x3 n) 1000 mk_entries mk_slots mk_blocks mk_entryCount mk_blockCount cv_limits cv_bids cv_offers cv_count cv_allBids cv_allOffers x4 r3 0)
def f_mk_load_L13 (bk_counts : Nat → Int32) (bk_whens : Nat → Int32) (bk_sides : Nat → Int32) (bk_quantities : Nat → Int32) (bk_limits : Nat → Int32) (ag_vectors : Nat → Int32) (x2 : Int32) (x3 : Int32) : Nat → (Nat → Int32) → (Nat → Int32) → (Nat → Int32) → Int32 → Int32 → (Nat → Nat → Int32) → (Nat → Nat → Int32) → (Nat → Nat → Int32) → (Nat → Int32) → (Nat → Int32) → (Nat → Int32) → Int32 → Option ((Nat → Int32) × (Nat → Int32) × (Nat → Int32) × Int32 × Int32 × (Nat → Nat → Int32) × (Nat → Nat → Int32) × (Nat → Nat → Int32) × (Nat → Int32) × (Nat → Int32) × (Nat → Int32))
  | 0, _, _, _, _, _, _, _, _, _, _, _, _ => none
  | n + 1, mk_entries, mk_slots, mk_blocks, mk_entryCount, mk_blockCount, cv_limits, cv_bids, cv_offers, cv_count, cv_allBids, cv_allOffers, x4 =>
    (if 3 ≤ x4 then
    f_mk_load_L38 bk_counts bk_whens bk_sides bk_quantities bk_limits ag_vectors x2 x3 1000 mk_entries mk_slots mk_blocks mk_entryCount mk_blockCount cv_limits cv_bids cv_offers cv_count cv_allBids cv_allOffers 0
    else
    if x4 < 0 ∨ 3 ≤ x4.toNatClampNeg then none else (f_c_empty (cv_count x4.toNatClampNeg) (cv_allBids x4.toNatClampNeg) (cv_allOffers x4.toNatClampNeg)).bind fun r2 =>
    f_mk_load_L13 bk_counts bk_whens bk_sides bk_quantities bk_limits ag_vectors x2 x3 n mk_entries mk_slots mk_blocks mk_entryCount mk_blockCount cv_limits cv_bids cv_offers (va_up cv_count x4.toNatClampNeg r2.1) (va_up cv_allBids x4.toNatClampNeg r2.2.1) (va_up cv_allOffers x4.toNatClampNeg r2.2.2) (x4 + 1))
def f_mk_load (bk_counts : Nat → Int32) (bk_whens : Nat → Int32) (bk_sides : Nat → Int32) (bk_quantities : Nat → Int32) (bk_limits : Nat → Int32) (ag_vectors : Nat → Int32) (mk_entries : Nat → Int32) (mk_slots : Nat → Int32) (mk_blocks : Nat → Int32) (mk_entryCount : Int32) (mk_blockCount : Int32) (cv_limits : Nat → Nat → Int32) (cv_bids : Nat → Nat → Int32) (cv_offers : Nat → Nat → Int32) (cv_count : Nat → Int32) (cv_allBids : Nat → Int32) (cv_allOffers : Nat → Int32) (x2 : Int32) (x3 : Int32) : Option ((Nat → Int32) × (Nat → Int32) × (Nat → Int32) × Int32 × Int32 × (Nat → Nat → Int32) × (Nat → Nat → Int32) × (Nat → Nat → Int32) × (Nat → Int32) × (Nat → Int32) × (Nat → Int32)) :=
    f_mk_load_L13 bk_counts bk_whens bk_sides bk_quantities bk_limits ag_vectors x2 x3 1000 mk_entries mk_slots mk_blocks 0 0 cv_limits cv_bids cv_offers cv_count cv_allBids cv_allOffers 0
def f_c_greatestServing_L21 (c_limits : Nat → Int32) (c_bids : Nat → Int32) (c_offers : Nat → Int32) (c_count : Int32) (c_allOffers : Int32) : Nat → Int32 → Int32 → Option (Int32)
  | 0, _, _ => none
  | n + 1, x2, x3 =>
    (if x3 < 0 then
    some ((-5001))
    else
    if x3 < 0 ∨ 60 ≤ x3.toNatClampNeg then none else (if (x2 + ((c_bids x3.toNatClampNeg) + (c_offers x3.toNatClampNeg))) < 0 then
    f_c_greatestServing_L21 c_limits c_bids c_offers c_count c_allOffers n (x2 + ((c_bids x3.toNatClampNeg) + (c_offers x3.toNatClampNeg))) (x3 + (-1))
    else
    some ((c_limits x3.toNatClampNeg))))
def f_c_greatestServing (c_limits : Nat → Int32) (c_bids : Nat → Int32) (c_offers : Nat → Int32) (c_count : Int32) (c_allOffers : Int32) (x1 : Int32) : Option (Int32) :=
    (if (x1 - c_allOffers) < 0 then
    f_c_greatestServing_L21 c_limits c_bids c_offers c_count c_allOffers 1000 (x1 - c_allOffers) (c_count - 1)
    else
    some (40000))
def f_c_leastServing_L17 (c_limits : Nat → Int32) (c_bids : Nat → Int32) (c_offers : Nat → Int32) (c_count : Int32) (c_allBids : Int32) : Nat → Int32 → Int32 → Option (Int32)
  | 0, _, _ => none
  | n + 1, x2, x3 =>
    (if c_count ≤ x3 then
    some (40001)
    else
    if x3 < 0 ∨ 60 ≤ x3.toNatClampNeg then none else (if 0 < (x2 - ((c_bids x3.toNatClampNeg) + (c_offers x3.toNatClampNeg))) then
    f_c_leastServing_L17 c_limits c_bids c_offers c_count c_allBids n (x2 - ((c_bids x3.toNatClampNeg) + (c_offers x3.toNatClampNeg))) (x3 + 1)
    else
    some ((c_limits x3.toNatClampNeg))))
def f_c_leastServing (c_limits : Nat → Int32) (c_bids : Nat → Int32) (c_offers : Nat → Int32) (c_count : Int32) (c_allBids : Int32) (x1 : Int32) : Option (Int32) :=
    (if 0 < (x1 + c_allBids) then
    f_c_leastServing_L17 c_limits c_bids c_offers c_count c_allBids 1000 (x1 + c_allBids) 0
    else
    some ((-5000)))
def f_jm_floorDiv (x0 : Int32) (x1 : Int32) : Option (Int32) :=
    if x1 = 0 then none else (if 0 ≤ (x0 ^^^ x1) then
    some ((x0 / x1))
    else
    (if ((x0 / x1) * x1) = x0 then
    some ((x0 / x1))
    else
    some (((x0 / x1) - 1))))
def f_c_meet (c_limits : Nat → Int32) (c_bids : Nat → Int32) (c_offers : Nat → Int32) (c_count : Int32) (c_allBids : Int32) (c_allOffers : Int32) (c_meetingPrice : Int32) (x1 : Int32) : Option (Int32 × Int32) :=
    (f_c_leastServing c_limits c_bids c_offers c_count c_allBids x1).bind fun r1 =>
    (f_c_greatestServing c_limits c_bids c_offers c_count c_allOffers x1).bind fun r2 =>
    (if r1 ≤ r2 then
    (f_jm_floorDiv (r1 + r2) 2).bind fun r3 =>
    some (1, r3)
    else
    some (0, c_meetingPrice))
def f_bk_covers (bk_whens : Nat → Int32) (x1 : Int32) (x2 : Int32) : Option (Int32) :=
    if x1 < 0 ∨ 240 ≤ x1.toNatClampNeg then none else (f_bk_firstHour (bk_whens x1.toNatClampNeg)).bind fun r2 =>
    (if x2 < r2 then
    some (0)
    else
    (f_bk_lastHour (bk_whens x1.toNatClampNeg)).bind fun r3 =>
    (if r3 < x2 then
    some (0)
    else
    some (1)))
def f_mk_addBlock (bk_sides : Nat → Int32) (bk_quantities : Nat → Int32) (mk_blockBids : Nat → Int32) (mk_blockOffers : Nat → Int32) (x1 : Int32) (x2 : Int32) : Option ((Nat → Int32) × (Nat → Int32)) :=
    if x2 < 0 ∨ 240 ≤ x2.toNatClampNeg then none else (if (bk_sides x2.toNatClampNeg) = 0 then
    if x1 < 0 ∨ 3 ≤ x1.toNatClampNeg then none else some ((upd mk_blockBids x1.toNatClampNeg ((mk_blockBids x1.toNatClampNeg) + (bk_quantities x2.toNatClampNeg))), mk_blockOffers)
    else
    if x1 < 0 ∨ 3 ≤ x1.toNatClampNeg then none else some (mk_blockBids, (upd mk_blockOffers x1.toNatClampNeg ((mk_blockOffers x1.toNatClampNeg) + (bk_quantities x2.toNatClampNeg)))))
def f_mk_isTaken (x0 : Int32) (x1 : Int32) : Option (Int32) :=
    (if ((x0 >>> (x1 &&& 31)) &&& 1) = 1 then
    some (1)
    else
    some (0))
def f_mk_sumBlocks_L23 (bk_whens : Nat → Int32) (bk_sides : Nat → Int32) (bk_quantities : Nat → Int32) (mk_blocks : Nat → Int32) (mk_blockCount : Int32) (x1 : Int32) (K2 : (Nat → Int32) → (Nat → Int32) → Int32 → Option ((Nat → Int32) × (Nat → Int32))) : Nat → (Nat → Int32) → (Nat → Int32) → Int32 → Int32 → Option ((Nat → Int32) × (Nat → Int32))
  | 0, _, _, _, _ => none
  | n + 1, mk_blockBids, mk_blockOffers, x2, x3 =>
    (if mk_blockCount ≤ x3 then
    K2 mk_blockBids mk_blockOffers (x2 + 1)
    else
    (f_mk_isTaken x1 x3).bind fun r2 =>
    (if r2 = 0 then
    f_mk_sumBlocks_L23 bk_whens bk_sides bk_quantities mk_blocks mk_blockCount x1 K2 n mk_blockBids mk_blockOffers x2 (x3 + 1)
    else
    if x3 < 0 ∨ 8 ≤ x3.toNatClampNeg then none else (f_bk_covers bk_whens (mk_blocks x3.toNatClampNeg) x2).bind fun r4 =>
    (if r4 = 0 then
    f_mk_sumBlocks_L23 bk_whens bk_sides bk_quantities mk_blocks mk_blockCount x1 K2 n mk_blockBids mk_blockOffers x2 (x3 + 1)
    else
    (f_mk_addBlock bk_sides bk_quantities mk_blockBids mk_blockOffers x2 (mk_blocks x3.toNatClampNeg)).bind fun r5 =>
    f_mk_sumBlocks_L23 bk_whens bk_sides bk_quantities mk_blocks mk_blockCount x1 K2 n r5.1 r5.2 x2 (x3 + 1))))
def f_mk_sumBlocks_L2 (bk_whens : Nat → Int32) (bk_sides : Nat → Int32) (bk_quantities : Nat → Int32) (mk_blocks : Nat → Int32) (mk_blockCount : Int32) (x1 : Int32) : Nat → (Nat → Int32) → (Nat → Int32) → Int32 → Option ((Nat → Int32) × (Nat → Int32))
  | 0, _, _, _ => none
  | n + 1, mk_blockBids, mk_blockOffers, x2 =>
    (if 3 ≤ x2 then
    some (mk_blockBids, mk_blockOffers)
    else
    if x2 < 0 ∨ 3 ≤ x2.toNatClampNeg then none else f_mk_sumBlocks_L23 bk_whens bk_sides bk_quantities mk_blocks mk_blockCount x1 (f_mk_sumBlocks_L2 bk_whens bk_sides bk_quantities mk_blocks mk_blockCount x1 n) 1000 (upd mk_blockBids x2.toNatClampNeg 0) (upd mk_blockOffers x2.toNatClampNeg 0) x2 0)
def f_mk_sumBlocks (bk_whens : Nat → Int32) (bk_sides : Nat → Int32) (bk_quantities : Nat → Int32) (mk_blocks : Nat → Int32) (mk_blockBids : Nat → Int32) (mk_blockOffers : Nat → Int32) (mk_blockCount : Int32) (x1 : Int32) : Option ((Nat → Int32) × (Nat → Int32)) :=
    f_mk_sumBlocks_L2 bk_whens bk_sides bk_quantities mk_blocks mk_blockCount x1 1000 mk_blockBids mk_blockOffers 0
def f_mk_findPrices_L7 (bk_whens : Nat → Int32) (bk_sides : Nat → Int32) (bk_quantities : Nat → Int32) (mk_blocks : Nat → Int32) (mk_blockCount : Int32) (cv_limits : Nat → Nat → Int32) (cv_bids : Nat → Nat → Int32) (cv_offers : Nat → Nat → Int32) (cv_count : Nat → Int32) (cv_allBids : Nat → Int32) (cv_allOffers : Nat → Int32) : Nat → (Nat → Int32) → (Nat → Int32) → (Nat → Int32) → Int32 → Option (Int32 × (Nat → Int32) × (Nat → Int32) × (Nat → Int32))
  | 0, _, _, _, _ => none
  | n + 1, mk_blockBids, mk_blockOffers, cv_meetingPrice, x2 =>
    (if 3 ≤ x2 then
    some (1, mk_blockBids, mk_blockOffers, cv_meetingPrice)
    else
    if x2 < 0 ∨ 3 ≤ x2.toNatClampNeg then none else (f_c_meet (cv_limits x2.toNatClampNeg) (cv_bids x2.toNatClampNeg) (cv_offers x2.toNatClampNeg) (cv_count x2.toNatClampNeg) (cv_allBids x2.toNatClampNeg) (cv_allOffers x2.toNatClampNeg) (cv_meetingPrice x2.toNatClampNeg) ((mk_blockBids x2.toNatClampNeg) - (mk_blockOffers x2.toNatClampNeg))).bind fun r3 =>
    (if r3.1 = 0 then
    some (0, mk_blockBids, mk_blockOffers, (va_up cv_meetingPrice x2.toNatClampNeg r3.2))
    else
    f_mk_findPrices_L7 bk_whens bk_sides bk_quantities mk_blocks mk_blockCount cv_limits cv_bids cv_offers cv_count cv_allBids cv_allOffers n mk_blockBids mk_blockOffers (va_up cv_meetingPrice x2.toNatClampNeg r3.2) (x2 + 1)))
def f_mk_findPrices (bk_whens : Nat → Int32) (bk_sides : Nat → Int32) (bk_quantities : Nat → Int32) (mk_blocks : Nat → Int32) (mk_blockBids : Nat → Int32) (mk_blockOffers : Nat → Int32) (mk_blockCount : Int32) (cv_limits : Nat → Nat → Int32) (cv_bids : Nat → Nat → Int32) (cv_offers : Nat → Nat → Int32) (cv_count : Nat → Int32) (cv_allBids : Nat → Int32) (cv_allOffers : Nat → Int32) (cv_meetingPrice : Nat → Int32) (x1 : Int32) : Option (Int32 × (Nat → Int32) × (Nat → Int32) × (Nat → Int32)) :=
    (f_mk_sumBlocks bk_whens bk_sides bk_quantities mk_blocks mk_blockBids mk_blockOffers mk_blockCount x1).bind fun r1 =>
    f_mk_findPrices_L7 bk_whens bk_sides bk_quantities mk_blocks mk_blockCount cv_limits cv_bids cv_offers cv_count cv_allBids cv_allOffers 1000 r1.1 r1.2 cv_meetingPrice 0
def f_bk_length (bk_whens : Nat → Int32) (x1 : Int32) : Option (Int32) :=
    if x1 < 0 ∨ 240 ≤ x1.toNatClampNeg then none else (f_bk_lengthOf (bk_whens x1.toNatClampNeg)).bind fun r2 =>
    some (r2)
def f_mk_loses_L22 (bk_whens : Nat → Int32) (bk_sides : Nat → Int32) (bk_limits : Nat → Int32) (cv_meetingPrice : Nat → Int32) (x1 : Int32) : Nat → Int32 → Int32 → Option (Int32)
  | 0, _, _ => none
  | n + 1, x2, x3 =>
    (if 3 ≤ x3 then
    if x1 < 0 ∨ 240 ≤ x1.toNatClampNeg then none else (if (bk_sides x1.toNatClampNeg) = 1 then
    (if 0 ≤ x2 then
    some (0)
    else
    some (1))
    else
    (if x2 ≤ 0 then
    some (0)
    else
    some (1)))
    else
    (f_bk_covers bk_whens x1 x3).bind fun r4 =>
    (if r4 = 0 then
    f_mk_loses_L22 bk_whens bk_sides bk_limits cv_meetingPrice x1 n x2 (x3 + 1)
    else
    if x3 < 0 ∨ 3 ≤ x3.toNatClampNeg then none else f_mk_loses_L22 bk_whens bk_sides bk_limits cv_meetingPrice x1 n (x2 + (cv_meetingPrice x3.toNatClampNeg)) (x3 + 1)))
def f_mk_loses (bk_whens : Nat → Int32) (bk_sides : Nat → Int32) (bk_limits : Nat → Int32) (cv_meetingPrice : Nat → Int32) (x1 : Int32) : Option (Int32) :=
    if x1 < 0 ∨ 240 ≤ x1.toNatClampNeg then none else (f_bk_length bk_whens x1).bind fun r2 =>
    f_mk_loses_L22 bk_whens bk_sides bk_limits cv_meetingPrice x1 1000 ((-(bk_limits x1.toNatClampNeg)) * r2) 0
def f_mk_isFit_L12 (bk_whens : Nat → Int32) (bk_sides : Nat → Int32) (bk_quantities : Nat → Int32) (bk_limits : Nat → Int32) (mk_blocks : Nat → Int32) (mk_blockCount : Int32) (cv_limits : Nat → Nat → Int32) (cv_bids : Nat → Nat → Int32) (cv_offers : Nat → Nat → Int32) (cv_count : Nat → Int32) (cv_allBids : Nat → Int32) (cv_allOffers : Nat → Int32) (x1 : Int32) : Nat → (Nat → Int32) → (Nat → Int32) → (Nat → Int32) → Int32 → Option (Int32 × (Nat → Int32) × (Nat → Int32) × (Nat → Int32))
  | 0, _, _, _, _ => none
  | n + 1, mk_blockBids, mk_blockOffers, cv_meetingPrice, x2 =>
    (if mk_blockCount ≤ x2 then
    some (1, mk_blockBids, mk_blockOffers, cv_meetingPrice)
    else
    (f_mk_isTaken x1 x2).bind fun r2 =>
    (if r2 = 0 then
    f_mk_isFit_L12 bk_whens bk_sides bk_quantities bk_limits mk_blocks mk_blockCount cv_limits cv_bids cv_offers cv_count cv_allBids cv_allOffers x1 n mk_blockBids mk_blockOffers cv_meetingPrice (x2 + 1)
    else
    if x2 < 0 ∨ 8 ≤ x2.toNatClampNeg then none else (f_mk_loses bk_whens bk_sides bk_limits cv_meetingPrice (mk_blocks x2.toNatClampNeg)).bind fun r4 =>
    (if r4 = 0 then
    f_mk_isFit_L12 bk_whens bk_sides bk_quantities bk_limits mk_blocks mk_blockCount cv_limits cv_bids cv_offers cv_count cv_allBids cv_allOffers x1 n mk_blockBids mk_blockOffers cv_meetingPrice (x2 + 1)
    else
    some (0, mk_blockBids, mk_blockOffers, cv_meetingPrice))))
def f_mk_isFit (bk_whens : Nat → Int32) (bk_sides : Nat → Int32) (bk_quantities : Nat → Int32) (bk_limits : Nat → Int32) (mk_blocks : Nat → Int32) (mk_blockBids : Nat → Int32) (mk_blockOffers : Nat → Int32) (mk_blockCount : Int32) (cv_limits : Nat → Nat → Int32) (cv_bids : Nat → Nat → Int32) (cv_offers : Nat → Nat → Int32) (cv_count : Nat → Int32) (cv_allBids : Nat → Int32) (cv_allOffers : Nat → Int32) (cv_meetingPrice : Nat → Int32) (x1 : Int32) : Option (Int32 × (Nat → Int32) × (Nat → Int32) × (Nat → Int32)) :=
    (f_mk_findPrices bk_whens bk_sides bk_quantities mk_blocks mk_blockBids mk_blockOffers mk_blockCount cv_limits cv_bids cv_offers cv_count cv_allBids cv_allOffers cv_meetingPrice x1).bind fun r1 =>
    (if r1.1 = 0 then
    some (0, r1.2.1, r1.2.2.1, r1.2.2.2)
    else
    f_mk_isFit_L12 bk_whens bk_sides bk_quantities bk_limits mk_blocks mk_blockCount cv_limits cv_bids cv_offers cv_count cv_allBids cv_allOffers x1 1000 r1.2.1 r1.2.2.1 r1.2.2.2 0)
def f_bk_worthOf (bk_whens : Nat → Int32) (bk_sides : Nat → Int32) (bk_quantities : Nat → Int32) (bk_limits : Nat → Int32) (x1 : Int32) : Option (Int64) :=
    if x1 < 0 ∨ 240 ≤ x1.toNatClampNeg then none else (f_bk_length bk_whens x1).bind fun r2 =>
    (if (bk_sides x1.toNatClampNeg) = 0 then
    some ((((Int32.toInt64 (bk_quantities x1.toNatClampNeg)) * (Int32.toInt64 (bk_limits x1.toNatClampNeg))) * (Int32.toInt64 r2)))
    else
    some ((-(((Int32.toInt64 (bk_quantities x1.toNatClampNeg)) * (Int32.toInt64 (bk_limits x1.toNatClampNeg))) * (Int32.toInt64 r2)))))
def f_c_shared (c_sureBids : Int32) (c_sureOffers : Int32) (c_volume : Int32) (x1 : Int32) : Option (Int32) :=
    (if x1 = 0 then
    some ((c_volume - c_sureBids))
    else
    some ((c_volume - c_sureOffers)))
def f_jm_min (x0 : Int32) (x1 : Int32) : Option (Int32) :=
    (if x1 < x0 then
    some (x1)
    else
    some (x0))
def f_c_measure_L27 (c_limits : Nat → Int32) (c_bids : Nat → Int32) (c_offers : Nat → Int32) (c_count : Int32) (c_meetingPrice : Int32) : Nat → Int32 → Int32 → Int32 → Int32 → Int32 → Int64 → Int32 → Option (Int32 × Int32 × Int32 × Int32 × Int32 × Int64)
  | 0, _, _, _, _, _, _, _ => none
  | n + 1, c_sureBids, c_sureOffers, c_priceBids, c_priceOffers, c_volume, c_worth, x3 =>
    (if c_count ≤ x3 then
    (f_jm_min (c_sureBids + c_priceBids) (c_sureOffers + c_priceOffers)).bind fun r1 =>
    (f_c_shared c_sureBids c_sureOffers r1 0).bind fun r2 =>
    (f_c_shared c_sureBids c_sureOffers r1 1).bind fun r3 =>
    some (c_sureBids, c_sureOffers, c_priceBids, c_priceOffers, r1, (c_worth + (((Int32.toInt64 r2) * (Int32.toInt64 c_meetingPrice)) - ((Int32.toInt64 r3) * (Int32.toInt64 c_meetingPrice)))))
    else
    if x3 < 0 ∨ 60 ≤ x3.toNatClampNeg then none else (if (c_limits x3.toNatClampNeg) ≤ c_meetingPrice then
    (if c_meetingPrice ≤ (c_limits x3.toNatClampNeg) then
    f_c_measure_L27 c_limits c_bids c_offers c_count c_meetingPrice n c_sureBids c_sureOffers (c_bids x3.toNatClampNeg) (c_offers x3.toNatClampNeg) c_volume c_worth (x3 + 1)
    else
    f_c_measure_L27 c_limits c_bids c_offers c_count c_meetingPrice n c_sureBids (c_sureOffers + (c_offers x3.toNatClampNeg)) c_priceBids c_priceOffers c_volume (c_worth - ((Int32.toInt64 (c_offers x3.toNatClampNeg)) * (Int32.toInt64 (c_limits x3.toNatClampNeg)))) (x3 + 1))
    else
    f_c_measure_L27 c_limits c_bids c_offers c_count c_meetingPrice n (c_sureBids + (c_bids x3.toNatClampNeg)) c_sureOffers c_priceBids c_priceOffers c_volume (c_worth + ((Int32.toInt64 (c_bids x3.toNatClampNeg)) * (Int32.toInt64 (c_limits x3.toNatClampNeg)))) (x3 + 1)))
def f_c_measure (c_limits : Nat → Int32) (c_bids : Nat → Int32) (c_offers : Nat → Int32) (c_count : Int32) (c_meetingPrice : Int32) (c_sureBids : Int32) (c_sureOffers : Int32) (c_priceBids : Int32) (c_priceOffers : Int32) (c_volume : Int32) (c_worth : Int64) (x1 : Int32) (x2 : Int32) : Option (Int32 × Int32 × Int32 × Int32 × Int32 × Int64) :=
    f_c_measure_L27 c_limits c_bids c_offers c_count c_meetingPrice 1000 x1 x2 0 0 c_volume 0 0
def f_mk_worthOfSet_L57 (bk_whens : Nat → Int32) (bk_sides : Nat → Int32) (bk_quantities : Nat → Int32) (bk_limits : Nat → Int32) (mk_blocks : Nat → Int32) (mk_blockBids : Nat → Int32) (mk_blockOffers : Nat → Int32) (mk_blockCount : Int32) (cv_limits : Nat → Nat → Int32) (cv_bids : Nat → Nat → Int32) (cv_offers : Nat → Nat → Int32) (cv_count : Nat → Int32) (cv_meetingPrice : Nat → Int32) (x1 : Int32) : Nat → (Nat → Int32) → (Nat → Int32) → (Nat → Int32) → (Nat → Int32) → (Nat → Int32) → (Nat → Int64) → Int64 → Int32 → Option (Int64 × (Nat → Int32) × (Nat → Int32) × (Nat → Int32) × (Nat → Int32) × (Nat → Int32) × (Nat → Int64))
  | 0, _, _, _, _, _, _, _, _ => none
  | n + 1, cv_sureBids, cv_sureOffers, cv_priceBids, cv_priceOffers, cv_volume, cv_worth, x2, x4 =>
    (if mk_blockCount ≤ x4 then
    some (x2, cv_sureBids, cv_sureOffers, cv_priceBids, cv_priceOffers, cv_volume, cv_worth)
    else
    (f_mk_isTaken x1 x4).bind fun r3 =>
    (if r3 = 0 then
    f_mk_worthOfSet_L57 bk_whens bk_sides bk_quantities bk_limits mk_blocks mk_blockBids mk_blockOffers mk_blockCount cv_limits cv_bids cv_offers cv_count cv_meetingPrice x1 n cv_sureBids cv_sureOffers cv_priceBids cv_priceOffers cv_volume cv_worth x2 (x4 + 1)
    else
    if x4 < 0 ∨ 8 ≤ x4.toNatClampNeg then none else (f_bk_worthOf bk_whens bk_sides bk_quantities bk_limits (mk_blocks x4.toNatClampNeg)).bind fun r5 =>
    f_mk_worthOfSet_L57 bk_whens bk_sides bk_quantities bk_limits mk_blocks mk_blockBids mk_blockOffers mk_blockCount cv_limits cv_bids cv_offers cv_count cv_meetingPrice x1 n cv_sureBids cv_sureOffers cv_priceBids cv_priceOffers cv_volume cv_worth (x2 + r5) (x4 + 1)))
def f_mk_worthOfSet_L5 (bk_whens : Nat → Int32) (bk_sides : Nat → Int32) (bk_quantities : Nat → Int32) (bk_limits : Nat → Int32) (mk_blocks : Nat → Int32) (mk_blockBids : Nat → Int32) (mk_blockOffers : Nat → Int32) (mk_blockCount : Int32) (cv_limits : Nat → Nat → Int32) (cv_bids : Nat → Nat → Int32) (cv_offers : Nat → Nat → Int32) (cv_count : Nat → Int32) (cv_meetingPrice : Nat → Int32) (x1 : Int32) : Nat → (Nat → Int32) → (Nat → Int32) → (Nat → Int32) → (Nat → Int32) → (Nat → Int32) → (Nat → Int64) → Int64 → Int32 → Option (Int64 × (Nat → Int32) × (Nat → Int32) × (Nat → Int32) × (Nat → Int32) × (Nat → Int32) × (Nat → Int64))
  | 0, _, _, _, _, _, _, _, _ => none
  | n + 1, cv_sureBids, cv_sureOffers, cv_priceBids, cv_priceOffers, cv_volume, cv_worth, x2, x4 =>
    (if 3 ≤ x4 then
    f_mk_worthOfSet_L57 bk_whens bk_sides bk_quantities bk_limits mk_blocks mk_blockBids mk_blockOffers mk_blockCount cv_limits cv_bids cv_offers cv_count cv_meetingPrice x1 1000 cv_sureBids cv_sureOffers cv_priceBids cv_priceOffers cv_volume cv_worth x2 0
    else
    if x4 < 0 ∨ 3 ≤ x4.toNatClampNeg then none else (f_c_measure (cv_limits x4.toNatClampNeg) (cv_bids x4.toNatClampNeg) (cv_offers x4.toNatClampNeg) (cv_count x4.toNatClampNeg) (cv_meetingPrice x4.toNatClampNeg) (cv_sureBids x4.toNatClampNeg) (cv_sureOffers x4.toNatClampNeg) (cv_priceBids x4.toNatClampNeg) (cv_priceOffers x4.toNatClampNeg) (cv_volume x4.toNatClampNeg) (cv_worth x4.toNatClampNeg) (mk_blockBids x4.toNatClampNeg) (mk_blockOffers x4.toNatClampNeg)).bind fun r2 =>
    f_mk_worthOfSet_L5 bk_whens bk_sides bk_quantities bk_limits mk_blocks mk_blockBids mk_blockOffers mk_blockCount cv_limits cv_bids cv_offers cv_count cv_meetingPrice x1 n (va_up cv_sureBids x4.toNatClampNeg r2.1) (va_up cv_sureOffers x4.toNatClampNeg r2.2.1) (va_up cv_priceBids x4.toNatClampNeg r2.2.2.1) (va_up cv_priceOffers x4.toNatClampNeg r2.2.2.2.1) (va_up cv_volume x4.toNatClampNeg r2.2.2.2.2.1) (va_up cv_worth x4.toNatClampNeg r2.2.2.2.2.2) (x2 + ((va_up cv_worth x4.toNatClampNeg r2.2.2.2.2.2) x4.toNatClampNeg)) (x4 + 1))
def f_mk_worthOfSet (bk_whens : Nat → Int32) (bk_sides : Nat → Int32) (bk_quantities : Nat → Int32) (bk_limits : Nat → Int32) (mk_blocks : Nat → Int32) (mk_blockBids : Nat → Int32) (mk_blockOffers : Nat → Int32) (mk_blockCount : Int32) (cv_limits : Nat → Nat → Int32) (cv_bids : Nat → Nat → Int32) (cv_offers : Nat → Nat → Int32) (cv_count : Nat → Int32) (cv_meetingPrice : Nat → Int32) (cv_sureBids : Nat → Int32) (cv_sureOffers : Nat → Int32) (cv_priceBids : Nat → Int32) (cv_priceOffers : Nat → Int32) (cv_volume : Nat → Int32) (cv_worth : Nat → Int64) (x1 : Int32) : Option (Int64 × (Nat → Int32) × (Nat → Int32) × (Nat → Int32) × (Nat → Int32) × (Nat → Int32) × (Nat → Int64)) :=
    f_mk_worthOfSet_L5 bk_whens bk_sides bk_quantities bk_limits mk_blocks mk_blockBids mk_blockOffers mk_blockCount cv_limits cv_bids cv_offers cv_count cv_meetingPrice x1 1000 cv_sureBids cv_sureOffers cv_priceBids cv_priceOffers cv_volume cv_worth 0 0
def f_mk_bestSet_L17 (bk_whens : Nat → Int32) (bk_sides : Nat → Int32) (bk_quantities : Nat → Int32) (bk_limits : Nat → Int32) (mk_blocks : Nat → Int32) (mk_blockCount : Int32) (cv_limits : Nat → Nat → Int32) (cv_bids : Nat → Nat → Int32) (cv_offers : Nat → Nat → Int32) (cv_count : Nat → Int32) (cv_allBids : Nat → Int32) (cv_allOffers : Nat → Int32) : Nat → (Nat → Int32) → (Nat → Int32) → (Nat → Int32) → (Nat → Int32) → (Nat → Int32) → (Nat → Int32) → (Nat → Int32) → (Nat → Int32) → (Nat → Int64) → Int32 → Int64 → Int32 → Option (Int32 × (Nat → Int32) × (Nat → Int32) × (Nat → Int32) × (Nat → Int32) × (Nat → Int32) × (Nat → Int32) × (Nat → Int32) × (Nat → Int32) × (Nat → Int64))
  | 0, _, _, _, _, _, _, _, _, _, _, _, _ => none
  | n + 1, mk_blockBids, mk_blockOffers, cv_meetingPrice, cv_sureBids, cv_sureOffers, cv_priceBids, cv_priceOffers, cv_volume, cv_worth, x1, x2, x4 =>
    (if (1 <<< (mk_blockCount &&& 31)) ≤ x4 then
    some (x1, mk_blockBids, mk_blockOffers, cv_meetingPrice, cv_sureBids, cv_sureOffers, cv_priceBids, cv_priceOffers, cv_volume, cv_worth)
    else
    (f_mk_isFit bk_whens bk_sides bk_quantities bk_limits mk_blocks mk_blockBids mk_blockOffers mk_blockCount cv_limits cv_bids cv_offers cv_count cv_allBids cv_allOffers cv_meetingPrice x4).bind fun r3 =>
    (if r3.1 = 0 then
    f_mk_bestSet_L17 bk_whens bk_sides bk_quantities bk_limits mk_blocks mk_blockCount cv_limits cv_bids cv_offers cv_count cv_allBids cv_allOffers n r3.2.1 r3.2.2.1 r3.2.2.2 cv_sureBids cv_sureOffers cv_priceBids cv_priceOffers cv_volume cv_worth x1 x2 (x4 + 1)
    else
    (f_mk_worthOfSet bk_whens bk_sides bk_quantities bk_limits mk_blocks r3.2.1 r3.2.2.1 mk_blockCount cv_limits cv_bids cv_offers cv_count r3.2.2.2 cv_sureBids cv_sureOffers cv_priceBids cv_priceOffers cv_volume cv_worth x4).bind fun r4 =>
    (if (lg_cmp r4.1 x2) ≤ 0 then
    f_mk_bestSet_L17 bk_whens bk_sides bk_quantities bk_limits mk_blocks mk_blockCount cv_limits cv_bids cv_offers cv_count cv_allBids cv_allOffers n r3.2.1 r3.2.2.1 r3.2.2.2 r4.2.1 r4.2.2.1 r4.2.2.2.1 r4.2.2.2.2.1 r4.2.2.2.2.2.1 r4.2.2.2.2.2.2 x1 x2 (x4 + 1)
    else
    f_mk_bestSet_L17 bk_whens bk_sides bk_quantities bk_limits mk_blocks mk_blockCount cv_limits cv_bids cv_offers cv_count cv_allBids cv_allOffers n r3.2.1 r3.2.2.1 r3.2.2.2 r4.2.1 r4.2.2.1 r4.2.2.2.1 r4.2.2.2.2.1 r4.2.2.2.2.2.1 r4.2.2.2.2.2.2 x4 r4.1 (x4 + 1))))
def f_mk_bestSet (bk_whens : Nat → Int32) (bk_sides : Nat → Int32) (bk_quantities : Nat → Int32) (bk_limits : Nat → Int32) (mk_blocks : Nat → Int32) (mk_blockBids : Nat → Int32) (mk_blockOffers : Nat → Int32) (mk_blockCount : Int32) (cv_limits : Nat → Nat → Int32) (cv_bids : Nat → Nat → Int32) (cv_offers : Nat → Nat → Int32) (cv_count : Nat → Int32) (cv_allBids : Nat → Int32) (cv_allOffers : Nat → Int32) (cv_meetingPrice : Nat → Int32) (cv_sureBids : Nat → Int32) (cv_sureOffers : Nat → Int32) (cv_priceBids : Nat → Int32) (cv_priceOffers : Nat → Int32) (cv_volume : Nat → Int32) (cv_worth : Nat → Int64) : Option (Int32 × (Nat → Int32) × (Nat → Int32) × (Nat → Int32) × (Nat → Int32) × (Nat → Int32) × (Nat → Int32) × (Nat → Int32) × (Nat → Int32) × (Nat → Int64)) :=
    (f_mk_findPrices bk_whens bk_sides bk_quantities mk_blocks mk_blockBids mk_blockOffers mk_blockCount cv_limits cv_bids cv_offers cv_count cv_allBids cv_allOffers cv_meetingPrice 0).bind fun r1 =>
    (f_mk_worthOfSet bk_whens bk_sides bk_quantities bk_limits mk_blocks r1.2.1 r1.2.2.1 mk_blockCount cv_limits cv_bids cv_offers cv_count r1.2.2.2 cv_sureBids cv_sureOffers cv_priceBids cv_priceOffers cv_volume cv_worth 0).bind fun r2 =>
    f_mk_bestSet_L17 bk_whens bk_sides bk_quantities bk_limits mk_blocks mk_blockCount cv_limits cv_bids cv_offers cv_count cv_allBids cv_allOffers 1000 r1.2.1 r1.2.2.1 r1.2.2.2 r2.2.1 r2.2.2.1 r2.2.2.2.1 r2.2.2.2.2.1 r2.2.2.2.2.2.1 r2.2.2.2.2.2.2 0 r2.1 1
def f_mk_isSure (bk_whens : Nat → Int32) (bk_sides : Nat → Int32) (bk_limits : Nat → Int32) (cv_meetingPrice : Nat → Int32) (x1 : Int32) : Option (Int32) :=
    if x1 < 0 ∨ 240 ≤ x1.toNatClampNeg then none else if (bk_whens x1.toNatClampNeg) < 0 ∨ 3 ≤ (bk_whens x1.toNatClampNeg).toNatClampNeg then none else (if (bk_sides x1.toNatClampNeg) = 0 then
    (if ((bk_limits x1.toNatClampNeg) - (cv_meetingPrice ((bk_whens x1.toNatClampNeg).toNatClampNeg))) ≤ 0 then
    some (0)
    else
    some (1))
    else
    (if 0 ≤ ((bk_limits x1.toNatClampNeg) - (cv_meetingPrice ((bk_whens x1.toNatClampNeg).toNatClampNeg))) then
    some (0)
    else
    some (1)))
def f_mk_giveWhole_b73 (bk_whens : Nat → Int32) (bk_sides : Nat → Int32) (bk_quantities : Nat → Int32) (bk_limits : Nat → Int32) (mk_entries : Nat → Int32) (mk_slots : Nat → Int32) (mk_entryCount : Int32) (mk_blockCount : Int32) (cv_meetingPrice : Nat → Int32) (x2 : Int32) (K5 : (Nat → Int32) → Int32 → Int32 → Option ((Nat → Int32))) (o_filled : Nat → Int32) (x3 : Int32) (x4 : Int32) (x5 : Int32) : Option ((Nat → Int32)) :=
    if x4 < 0 ∨ 60 ≤ x4.toNatClampNeg then none else (if x5 = 0 then
    if (mk_slots x4.toNatClampNeg) < 0 ∨ 60 ≤ (mk_slots x4.toNatClampNeg).toNatClampNeg then none else K5 (upd o_filled (mk_slots x4.toNatClampNeg).toNatClampNeg 0) x3 (x4 + 1)
    else
    if (mk_entries x4.toNatClampNeg) < 0 ∨ 240 ≤ (mk_entries x4.toNatClampNeg).toNatClampNeg then none else if (mk_slots x4.toNatClampNeg) < 0 ∨ 60 ≤ (mk_slots x4.toNatClampNeg).toNatClampNeg then none else K5 (upd o_filled (mk_slots x4.toNatClampNeg).toNatClampNeg (bk_quantities (mk_entries x4.toNatClampNeg).toNatClampNeg)) x3 (x4 + 1))
def f_mk_giveWhole_b52 (bk_whens : Nat → Int32) (bk_sides : Nat → Int32) (bk_quantities : Nat → Int32) (bk_limits : Nat → Int32) (mk_entries : Nat → Int32) (mk_slots : Nat → Int32) (mk_entryCount : Int32) (mk_blockCount : Int32) (cv_meetingPrice : Nat → Int32) (x2 : Int32) (K5 : (Nat → Int32) → Int32 → Int32 → Option ((Nat → Int32))) (o_filled : Nat → Int32) (x3 : Int32) (x4 : Int32) (s0 : Int32) : Option ((Nat → Int32)) :=
    f_mk_giveWhole_b73 bk_whens bk_sides bk_quantities bk_limits mk_entries mk_slots mk_entryCount mk_blockCount cv_meetingPrice x2 K5 o_filled (x3 + 1) x4 s0
def f_mk_giveWhole_b51 (bk_whens : Nat → Int32) (bk_sides : Nat → Int32) (bk_quantities : Nat → Int32) (bk_limits : Nat → Int32) (mk_entries : Nat → Int32) (mk_slots : Nat → Int32) (mk_entryCount : Int32) (mk_blockCount : Int32) (cv_meetingPrice : Nat → Int32) (x2 : Int32) (K5 : (Nat → Int32) → Int32 → Int32 → Option ((Nat → Int32))) (o_filled : Nat → Int32) (x3 : Int32) (x4 : Int32) : Option ((Nat → Int32)) :=
    f_mk_giveWhole_b52 bk_whens bk_sides bk_quantities bk_limits mk_entries mk_slots mk_entryCount mk_blockCount cv_meetingPrice x2 K5 o_filled x3 x4 0
def f_mk_giveWhole_L5 (bk_whens : Nat → Int32) (bk_sides : Nat → Int32) (bk_quantities : Nat → Int32) (bk_limits : Nat → Int32) (mk_entries : Nat → Int32) (mk_slots : Nat → Int32) (mk_entryCount : Int32) (mk_blockCount : Int32) (cv_meetingPrice : Nat → Int32) (x2 : Int32) : Nat → (Nat → Int32) → Int32 → Int32 → Option ((Nat → Int32))
  | 0, _, _, _ => none
  | n + 1, o_filled, x3, x4 =>
    (if mk_entryCount ≤ x4 then
    some (o_filled)
    else
    if x4 < 0 ∨ 60 ≤ x4.toNatClampNeg then none else (f_bk_isBlock bk_whens (mk_entries x4.toNatClampNeg)).bind fun r2 =>
    (if r2 = 0 then
    (f_mk_isSure bk_whens bk_sides bk_limits cv_meetingPrice (mk_entries x4.toNatClampNeg)).bind fun r3 =>
    f_mk_giveWhole_b73 bk_whens bk_sides bk_quantities bk_limits mk_entries mk_slots mk_entryCount mk_blockCount cv_meetingPrice x2 (f_mk_giveWhole_L5 bk_whens bk_sides bk_quantities bk_limits mk_entries mk_slots mk_entryCount mk_blockCount cv_meetingPrice x2 n) o_filled x3 x4 r3
    else
    (if mk_blockCount ≤ x3 then
    f_mk_giveWhole_b51 bk_whens bk_sides bk_quantities bk_limits mk_entries mk_slots mk_entryCount mk_blockCount cv_meetingPrice x2 (f_mk_giveWhole_L5 bk_whens bk_sides bk_quantities bk_limits mk_entries mk_slots mk_entryCount mk_blockCount cv_meetingPrice x2 n) o_filled x3 x4
    else
    (f_mk_isTaken x2 x3).bind fun r4 =>
    (if r4 = 0 then
    f_mk_giveWhole_b51 bk_whens bk_sides bk_quantities bk_limits mk_entries mk_slots mk_entryCount mk_blockCount cv_meetingPrice x2 (f_mk_giveWhole_L5 bk_whens bk_sides bk_quantities bk_limits mk_entries mk_slots mk_entryCount mk_blockCount cv_meetingPrice x2 n) o_filled x3 x4
    else
    f_mk_giveWhole_b52 bk_whens bk_sides bk_quantities bk_limits mk_entries mk_slots mk_entryCount mk_blockCount cv_meetingPrice x2 (f_mk_giveWhole_L5 bk_whens bk_sides bk_quantities bk_limits mk_entries mk_slots mk_entryCount mk_blockCount cv_meetingPrice x2 n) o_filled x3 x4 1))))
def f_mk_giveWhole (bk_whens : Nat → Int32) (bk_sides : Nat → Int32) (bk_quantities : Nat → Int32) (bk_limits : Nat → Int32) (mk_entries : Nat → Int32) (mk_slots : Nat → Int32) (mk_entryCount : Int32) (mk_blockCount : Int32) (cv_meetingPrice : Nat → Int32) (o_filled : Nat → Int32) (x2 : Int32) : Option ((Nat → Int32)) :=
    f_mk_giveWhole_L5 bk_whens bk_sides bk_quantities bk_limits mk_entries mk_slots mk_entryCount mk_blockCount cv_meetingPrice x2 1000 o_filled 0 0
def f_c_quantityAtPrice (c_priceBids : Int32) (c_priceOffers : Int32) (x1 : Int32) : Option (Int32) :=
    (if x1 = 0 then
    some (c_priceBids)
    else
    some (c_priceOffers))
def f_mk_greatestRemainder_L4 (mk_remainders : Nat → Int32) (mk_entryCount : Int32) : Nat → Int32 → Int32 → Option (Int32)
  | 0, _, _ => none
  | n + 1, x1, x2 =>
    (if mk_entryCount ≤ x2 then
    some (x1)
    else
    if x2 < 0 ∨ 60 ≤ x2.toNatClampNeg then none else if x1 < 0 ∨ 60 ≤ x1.toNatClampNeg then none else (if (mk_remainders x2.toNatClampNeg) ≤ (mk_remainders x1.toNatClampNeg) then
    f_mk_greatestRemainder_L4 mk_remainders mk_entryCount n x1 (x2 + 1)
    else
    f_mk_greatestRemainder_L4 mk_remainders mk_entryCount n x2 (x2 + 1)))
def f_mk_greatestRemainder (mk_remainders : Nat → Int32) (mk_entryCount : Int32) : Option (Int32) :=
    f_mk_greatestRemainder_L4 mk_remainders mk_entryCount 1000 0 1
def f_mk_isSharing (bk_whens : Nat → Int32) (bk_sides : Nat → Int32) (bk_limits : Nat → Int32) (cv_meetingPrice : Nat → Int32) (x1 : Int32) (x2 : Int32) (x3 : Int32) : Option (Int32) :=
    (f_bk_isBlock bk_whens x1).bind fun r1 =>
    (if r1 = 0 then
    if x1 < 0 ∨ 240 ≤ x1.toNatClampNeg then none else (if (bk_whens x1.toNatClampNeg) = x2 then
    (if (bk_sides x1.toNatClampNeg) = x3 then
    if x2 < 0 ∨ 3 ≤ x2.toNatClampNeg then none else (if (bk_limits x1.toNatClampNeg) = (cv_meetingPrice x2.toNatClampNeg) then
    some (1)
    else
    some (0))
    else
    some (0))
    else
    some (0))
    else
    some (0))
def f_mk_share_L138 (bk_whens : Nat → Int32) (bk_sides : Nat → Int32) (bk_quantities : Nat → Int32) (bk_limits : Nat → Int32) (mk_entries : Nat → Int32) (mk_slots : Nat → Int32) (mk_entryCount : Int32) (cv_meetingPrice : Nat → Int32) (cv_sureBids : Nat → Int32) (cv_sureOffers : Nat → Int32) (cv_priceBids : Nat → Int32) (cv_priceOffers : Nat → Int32) (cv_volume : Nat → Int32) : Nat → (Nat → Int32) → (Nat → Int32) → Int32 → Int32 → Option ((Nat → Int32) × (Nat → Int32))
  | 0, _, _, _, _ => none
  | n + 1, mk_remainders, o_filled, x6, x7 =>
    (if x6 ≤ x7 then
    some (mk_remainders, o_filled)
    else
    (if mk_entryCount ≤ x7 then
    some (mk_remainders, o_filled)
    else
    (f_mk_greatestRemainder mk_remainders mk_entryCount).bind fun r9 =>
    if r9 < 0 ∨ 60 ≤ r9.toNatClampNeg then none else if (mk_slots r9.toNatClampNeg) < 0 ∨ 60 ≤ (mk_slots r9.toNatClampNeg).toNatClampNeg then none else f_mk_share_L138 bk_whens bk_sides bk_quantities bk_limits mk_entries mk_slots mk_entryCount cv_meetingPrice cv_sureBids cv_sureOffers cv_priceBids cv_priceOffers cv_volume n (upd mk_remainders r9.toNatClampNeg (-1)) (upd o_filled (mk_slots r9.toNatClampNeg).toNatClampNeg ((o_filled (mk_slots r9.toNatClampNeg).toNatClampNeg) + 1)) x6 (x7 + 1)))
def f_mk_share_L37 (bk_whens : Nat → Int32) (bk_sides : Nat → Int32) (bk_quantities : Nat → Int32) (bk_limits : Nat → Int32) (mk_entries : Nat → Int32) (mk_slots : Nat → Int32) (mk_entryCount : Int32) (cv_meetingPrice : Nat → Int32) (cv_sureBids : Nat → Int32) (cv_sureOffers : Nat → Int32) (cv_priceBids : Nat → Int32) (cv_priceOffers : Nat → Int32) (cv_volume : Nat → Int32) (x2 : Int32) (x3 : Int32) : Nat → (Nat → Int32) → (Nat → Int32) → Int32 → Int32 → Int32 → Int32 → Option ((Nat → Int32) × (Nat → Int32))
  | 0, _, _, _, _, _, _ => none
  | n + 1, mk_remainders, o_filled, x4, x5, x6, x7 =>
    (if mk_entryCount ≤ x7 then
    f_mk_share_L138 bk_whens bk_sides bk_quantities bk_limits mk_entries mk_slots mk_entryCount cv_meetingPrice cv_sureBids cv_sureOffers cv_priceBids cv_priceOffers cv_volume 1000 mk_remainders o_filled x6 0
    else
    if x7 < 0 ∨ 60 ≤ x7.toNatClampNeg then none else (f_mk_isSharing bk_whens bk_sides bk_limits cv_meetingPrice (mk_entries x7.toNatClampNeg) x2 x3).bind fun r5 =>
    (if r5 = 0 then
    f_mk_share_L37 bk_whens bk_sides bk_quantities bk_limits mk_entries mk_slots mk_entryCount cv_meetingPrice cv_sureBids cv_sureOffers cv_priceBids cv_priceOffers cv_volume x2 x3 n (upd mk_remainders x7.toNatClampNeg (-1)) o_filled x4 x5 x6 (x7 + 1)
    else
    if (mk_entries x7.toNatClampNeg) < 0 ∨ 240 ≤ (mk_entries x7.toNatClampNeg).toNatClampNeg then none else if x5 = 0 then none else if (mk_slots x7.toNatClampNeg) < 0 ∨ 60 ≤ (mk_slots x7.toNatClampNeg).toNatClampNeg then none else f_mk_share_L37 bk_whens bk_sides bk_quantities bk_limits mk_entries mk_slots mk_entryCount cv_meetingPrice cv_sureBids cv_sureOffers cv_priceBids cv_priceOffers cv_volume x2 x3 n (upd (upd mk_remainders x7.toNatClampNeg (-1)) x7.toNatClampNeg (((bk_quantities (mk_entries x7.toNatClampNeg).toNatClampNeg) * x4) - ((bk_quantities (mk_entries x7.toNatClampNeg).toNatClampNeg) * x4) / x5 * x5)) (upd o_filled (mk_slots x7.toNatClampNeg).toNatClampNeg (((bk_quantities (mk_entries x7.toNatClampNeg).toNatClampNeg) * x4) / x5)) x4 x5 (x6 - (((bk_quantities (mk_entries x7.toNatClampNeg).toNatClampNeg) * x4) / x5)) (x7 + 1)))
def f_mk_share (bk_whens : Nat → Int32) (bk_sides : Nat → Int32) (bk_quantities : Nat → Int32) (bk_limits : Nat → Int32) (mk_entries : Nat → Int32) (mk_slots : Nat → Int32) (mk_remainders : Nat → Int32) (mk_entryCount : Int32) (cv_meetingPrice : Nat → Int32) (cv_sureBids : Nat → Int32) (cv_sureOffers : Nat → Int32) (cv_priceBids : Nat → Int32) (cv_priceOffers : Nat → Int32) (cv_volume : Nat → Int32) (o_filled : Nat → Int32) (x2 : Int32) (x3 : Int32) : Option ((Nat → Int32) × (Nat → Int32)) :=
    if x2 < 0 ∨ 3 ≤ x2.toNatClampNeg then none else (f_c_shared (cv_sureBids x2.toNatClampNeg) (cv_sureOffers x2.toNatClampNeg) (cv_volume x2.toNatClampNeg) x3).bind fun r2 =>
    (f_c_quantityAtPrice (cv_priceBids x2.toNatClampNeg) (cv_priceOffers x2.toNatClampNeg) x3).bind fun r3 =>
    (if 0 < r3 then
    f_mk_share_L37 bk_whens bk_sides bk_quantities bk_limits mk_entries mk_slots mk_entryCount cv_meetingPrice cv_sureBids cv_sureOffers cv_priceBids cv_priceOffers cv_volume x2 x3 1000 mk_remainders o_filled r2 r3 r2 0
    else
    some (mk_remainders, o_filled))
def f_mk_settleInto_L76 (bk_whens : Nat → Int32) (bk_sides : Nat → Int32) (bk_quantities : Nat → Int32) (bk_limits : Nat → Int32) (mk_entries : Nat → Int32) (mk_slots : Nat → Int32) (mk_blocks : Nat → Int32) (mk_entryCount : Int32) (mk_blockCount : Int32) (cv_limits : Nat → Nat → Int32) (cv_bids : Nat → Nat → Int32) (cv_offers : Nat → Nat → Int32) (cv_count : Nat → Int32) (cv_allBids : Nat → Int32) (cv_allOffers : Nat → Int32) : Nat → (Nat → Int32) → (Nat → Int32) → (Nat → Int32) → (Nat → Int32) → (Nat → Int32) → (Nat → Int32) → (Nat → Int32) → (Nat → Int32) → (Nat → Int32) → (Nat → Int64) → (Nat → Int32) → (Nat → Int32) → (Nat → Int32) → Int64 → Int32 → Int32 → Int32 → Option ((Nat → Int32) × (Nat → Int32) × (Nat → Int32) × (Nat → Int32) × (Nat → Int32) × (Nat → Int32) × (Nat → Int32) × (Nat → Int32) × (Nat → Int32) × (Nat → Int64) × (Nat → Int32) × (Nat → Int32) × (Nat → Int32) × Int64 × Int32 × Int32)
  | 0, _, _, _, _, _, _, _, _, _, _, _, _, _, _, _, _, _ => none
  | n + 1, mk_remainders, mk_blockBids, mk_blockOffers, cv_meetingPrice, cv_sureBids, cv_sureOffers, cv_priceBids, cv_priceOffers, cv_volume, cv_worth, o_prices, o_volumes, o_filled, o_worth, o_takenSet, o_isDone, x3 =>
    (if 3 ≤ x3 then
    some (mk_remainders, mk_blockBids, mk_blockOffers, cv_meetingPrice, cv_sureBids, cv_sureOffers, cv_priceBids, cv_priceOffers, cv_volume, cv_worth, o_prices, o_volumes, o_filled, o_worth, o_takenSet, 1)
    else
    (f_mk_share bk_whens bk_sides bk_quantities bk_limits mk_entries mk_slots mk_remainders mk_entryCount cv_meetingPrice cv_sureBids cv_sureOffers cv_priceBids cv_priceOffers cv_volume o_filled x3 0).bind fun r6 =>
    (f_mk_share bk_whens bk_sides bk_quantities bk_limits mk_entries mk_slots r6.1 mk_entryCount cv_meetingPrice cv_sureBids cv_sureOffers cv_priceBids cv_priceOffers cv_volume r6.2 x3 1).bind fun r7 =>
    f_mk_settleInto_L76 bk_whens bk_sides bk_quantities bk_limits mk_entries mk_slots mk_blocks mk_entryCount mk_blockCount cv_limits cv_bids cv_offers cv_count cv_allBids cv_allOffers n r7.1 mk_blockBids mk_blockOffers cv_meetingPrice cv_sureBids cv_sureOffers cv_priceBids cv_priceOffers cv_volume cv_worth o_prices o_volumes r7.2 o_worth o_takenSet o_isDone (x3 + 1))
def f_mk_settleInto_L27 (bk_whens : Nat → Int32) (bk_sides : Nat → Int32) (bk_quantities : Nat → Int32) (bk_limits : Nat → Int32) (mk_entries : Nat → Int32) (mk_slots : Nat → Int32) (mk_blocks : Nat → Int32) (mk_entryCount : Int32) (mk_blockCount : Int32) (cv_limits : Nat → Nat → Int32) (cv_bids : Nat → Nat → Int32) (cv_offers : Nat → Nat → Int32) (cv_count : Nat → Int32) (cv_allBids : Nat → Int32) (cv_allOffers : Nat → Int32) : Nat → (Nat → Int32) → (Nat → Int32) → (Nat → Int32) → (Nat → Int32) → (Nat → Int32) → (Nat → Int32) → (Nat → Int32) → (Nat → Int32) → (Nat → Int32) → (Nat → Int64) → (Nat → Int32) → (Nat → Int32) → (Nat → Int32) → Int64 → Int32 → Int32 → Int32 → Int32 → Option ((Nat → Int32) × (Nat → Int32) × (Nat → Int32) × (Nat → Int32) × (Nat → Int32) × (Nat → Int32) × (Nat → Int32) × (Nat → Int32) × (Nat → Int32) × (Nat → Int64) × (Nat → Int32) × (Nat → Int32) × (Nat → Int32) × Int64 × Int32 × Int32)
  | 0, _, _, _, _, _, _, _, _, _, _, _, _, _, _, _, _, _, _ => none
  | n + 1, mk_remainders, mk_blockBids, mk_blockOffers, cv_meetingPrice, cv_sureBids, cv_sureOffers, cv_priceBids, cv_priceOffers, cv_volume, cv_worth, o_prices, o_volumes, o_filled, o_worth, o_takenSet, o_isDone, x2, x3 =>
    (if 3 ≤ x3 then
    (f_mk_giveWhole bk_whens bk_sides bk_quantities bk_limits mk_entries mk_slots mk_entryCount mk_blockCount cv_meetingPrice o_filled x2).bind fun r4 =>
    f_mk_settleInto_L76 bk_whens bk_sides bk_quantities bk_limits mk_entries mk_slots mk_blocks mk_entryCount mk_blockCount cv_limits cv_bids cv_offers cv_count cv_allBids cv_allOffers 1000 mk_remainders mk_blockBids mk_blockOffers cv_meetingPrice cv_sureBids cv_sureOffers cv_priceBids cv_priceOffers cv_volume cv_worth o_prices o_volumes r4 o_worth o_takenSet o_isDone 0
    else
    if x3 < 0 ∨ 3 ≤ x3.toNatClampNeg then none else f_mk_settleInto_L27 bk_whens bk_sides bk_quantities bk_limits mk_entries mk_slots mk_blocks mk_entryCount mk_blockCount cv_limits cv_bids cv_offers cv_count cv_allBids cv_allOffers n mk_remainders mk_blockBids mk_blockOffers cv_meetingPrice cv_sureBids cv_sureOffers cv_priceBids cv_priceOffers cv_volume cv_worth (upd o_prices x3.toNatClampNeg (cv_meetingPrice x3.toNatClampNeg)) (upd o_volumes x3.toNatClampNeg (cv_volume x3.toNatClampNeg)) o_filled o_worth o_takenSet o_isDone x2 (x3 + 1))
def f_mk_settleInto (bk_whens : Nat → Int32) (bk_sides : Nat → Int32) (bk_quantities : Nat → Int32) (bk_limits : Nat → Int32) (mk_entries : Nat → Int32) (mk_slots : Nat → Int32) (mk_remainders : Nat → Int32) (mk_blocks : Nat → Int32) (mk_blockBids : Nat → Int32) (mk_blockOffers : Nat → Int32) (mk_entryCount : Int32) (mk_blockCount : Int32) (cv_limits : Nat → Nat → Int32) (cv_bids : Nat → Nat → Int32) (cv_offers : Nat → Nat → Int32) (cv_count : Nat → Int32) (cv_allBids : Nat → Int32) (cv_allOffers : Nat → Int32) (cv_meetingPrice : Nat → Int32) (cv_sureBids : Nat → Int32) (cv_sureOffers : Nat → Int32) (cv_priceBids : Nat → Int32) (cv_priceOffers : Nat → Int32) (cv_volume : Nat → Int32) (cv_worth : Nat → Int64) (o_prices : Nat → Int32) (o_volumes : Nat → Int32) (o_filled : Nat → Int32) (o_worth : Int64) (o_takenSet : Int32) (o_isDone : Int32) : Option ((Nat → Int32) × (Nat → Int32) × (Nat → Int32) × (Nat → Int32) × (Nat → Int32) × (Nat → Int32) × (Nat → Int32) × (Nat → Int32) × (Nat → Int32) × (Nat → Int64) × (Nat → Int32) × (Nat → Int32) × (Nat → Int32) × Int64 × Int32 × Int32) :=
    (f_mk_bestSet bk_whens bk_sides bk_quantities bk_limits mk_blocks mk_blockBids mk_blockOffers mk_blockCount cv_limits cv_bids cv_offers cv_count cv_allBids cv_allOffers cv_meetingPrice cv_sureBids cv_sureOffers cv_priceBids cv_priceOffers cv_volume cv_worth).bind fun r1 =>
    (f_mk_findPrices bk_whens bk_sides bk_quantities mk_blocks r1.2.1 r1.2.2.1 mk_blockCount cv_limits cv_bids cv_offers cv_count cv_allBids cv_allOffers r1.2.2.2.1 r1.1).bind fun r2 =>
    (f_mk_worthOfSet bk_whens bk_sides bk_quantities bk_limits mk_blocks r2.2.1 r2.2.2.1 mk_blockCount cv_limits cv_bids cv_offers cv_count r2.2.2.2 r1.2.2.2.2.1 r1.2.2.2.2.2.1 r1.2.2.2.2.2.2.1 r1.2.2.2.2.2.2.2.1 r1.2.2.2.2.2.2.2.2.1 r1.2.2.2.2.2.2.2.2.2 r1.1).bind fun r3 =>
    f_mk_settleInto_L27 bk_whens bk_sides bk_quantities bk_limits mk_entries mk_slots mk_blocks mk_entryCount mk_blockCount cv_limits cv_bids cv_offers cv_count cv_allBids cv_allOffers 1000 mk_remainders r2.2.1 r2.2.2.1 r2.2.2.2 r3.2.1 r3.2.2.1 r3.2.2.2.1 r3.2.2.2.2.1 r3.2.2.2.2.2.1 r3.2.2.2.2.2.2 o_prices o_volumes o_filled r3.1 r1.1 o_isDone r1.1 0
def f_x_clear (x_members : Int32) (bk_counts : Nat → Int32) (bk_whens : Nat → Int32) (bk_sides : Nat → Int32) (bk_quantities : Nat → Int32) (bk_limits : Nat → Int32) (ag_vectors : Nat → Int32) (ag_rounds : Int32) (mk_entries : Nat → Int32) (mk_slots : Nat → Int32) (mk_remainders : Nat → Int32) (mk_blocks : Nat → Int32) (mk_blockBids : Nat → Int32) (mk_blockOffers : Nat → Int32) (mk_entryCount : Int32) (mk_blockCount : Int32) (cv_limits : Nat → Nat → Int32) (cv_bids : Nat → Nat → Int32) (cv_offers : Nat → Nat → Int32) (cv_count : Nat → Int32) (cv_allBids : Nat → Int32) (cv_allOffers : Nat → Int32) (cv_meetingPrice : Nat → Int32) (cv_sureBids : Nat → Int32) (cv_sureOffers : Nat → Int32) (cv_priceBids : Nat → Int32) (cv_priceOffers : Nat → Int32) (cv_volume : Nat → Int32) (cv_worth : Nat → Int64) (oc_prices : Nat → Nat → Int32) (oc_volumes : Nat → Nat → Int32) (oc_filled : Nat → Nat → Int32) (oc_worth : Nat → Int64) (oc_takenSet : Nat → Int32) (oc_isDone : Nat → Int32) (x1 : Int32) : Option (Nat × Int32 × (Nat → Int32) × (Nat → Int32) × (Nat → Int32) × (Nat → Int32) × (Nat → Int32) × (Nat → Int32) × Int32 × Int32 × (Nat → Nat → Int32) × (Nat → Nat → Int32) × (Nat → Nat → Int32) × (Nat → Int32) × (Nat → Int32) × (Nat → Int32) × (Nat → Int32) × (Nat → Int32) × (Nat → Int32) × (Nat → Int32) × (Nat → Int32) × (Nat → Int32) × (Nat → Int64) × (Nat → Nat → Int32) × (Nat → Nat → Int32) × (Nat → Nat → Int32) × (Nat → Int64) × (Nat → Int32) × (Nat → Int32)) :=
    (f_x_isOperator x1).bind fun r1 =>
    (if r1 = 0 then
    some (1, 0, mk_entries, mk_slots, mk_remainders, mk_blocks, mk_blockBids, mk_blockOffers, mk_entryCount, mk_blockCount, cv_limits, cv_bids, cv_offers, cv_count, cv_allBids, cv_allOffers, cv_meetingPrice, cv_sureBids, cv_sureOffers, cv_priceBids, cv_priceOffers, cv_volume, cv_worth, oc_prices, oc_volumes, oc_filled, oc_worth, oc_takenSet, oc_isDone)
    else
    (f_ag_isOver ag_rounds).bind fun r2 =>
    (if r2 = 0 then
    some (2, 0, mk_entries, mk_slots, mk_remainders, mk_blocks, mk_blockBids, mk_blockOffers, mk_entryCount, mk_blockCount, cv_limits, cv_bids, cv_offers, cv_count, cv_allBids, cv_allOffers, cv_meetingPrice, cv_sureBids, cv_sureOffers, cv_priceBids, cv_priceOffers, cv_volume, cv_worth, oc_prices, oc_volumes, oc_filled, oc_worth, oc_takenSet, oc_isDone)
    else
    if x1 < 0 ∨ 4 ≤ x1.toNatClampNeg then none else (if (oc_isDone x1.toNatClampNeg) = 0 then
    (f_mk_load bk_counts bk_whens bk_sides bk_quantities bk_limits ag_vectors mk_entries mk_slots mk_blocks mk_entryCount mk_blockCount cv_limits cv_bids cv_offers cv_count cv_allBids cv_allOffers x1 x_members).bind fun r4 =>
    (f_mk_settleInto bk_whens bk_sides bk_quantities bk_limits r4.1 r4.2.1 mk_remainders r4.2.2.1 mk_blockBids mk_blockOffers r4.2.2.2.1 r4.2.2.2.2.1 r4.2.2.2.2.2.1 r4.2.2.2.2.2.2.1 r4.2.2.2.2.2.2.2.1 r4.2.2.2.2.2.2.2.2.1 r4.2.2.2.2.2.2.2.2.2.1 r4.2.2.2.2.2.2.2.2.2.2 cv_meetingPrice cv_sureBids cv_sureOffers cv_priceBids cv_priceOffers cv_volume cv_worth (oc_prices x1.toNatClampNeg) (oc_volumes x1.toNatClampNeg) (oc_filled x1.toNatClampNeg) (oc_worth x1.toNatClampNeg) (oc_takenSet x1.toNatClampNeg) (oc_isDone x1.toNatClampNeg)).bind fun r5 =>
    some (0, ((va_up oc_takenSet x1.toNatClampNeg r5.2.2.2.2.2.2.2.2.2.2.2.2.2.2.1) x1.toNatClampNeg), r4.1, r4.2.1, r5.1, r4.2.2.1, r5.2.1, r5.2.2.1, r4.2.2.2.1, r4.2.2.2.2.1, r4.2.2.2.2.2.1, r4.2.2.2.2.2.2.1, r4.2.2.2.2.2.2.2.1, r4.2.2.2.2.2.2.2.2.1, r4.2.2.2.2.2.2.2.2.2.1, r4.2.2.2.2.2.2.2.2.2.2, r5.2.2.2.1, r5.2.2.2.2.1, r5.2.2.2.2.2.1, r5.2.2.2.2.2.2.1, r5.2.2.2.2.2.2.2.1, r5.2.2.2.2.2.2.2.2.1, r5.2.2.2.2.2.2.2.2.2.1, (va_up oc_prices x1.toNatClampNeg r5.2.2.2.2.2.2.2.2.2.2.1), (va_up oc_volumes x1.toNatClampNeg r5.2.2.2.2.2.2.2.2.2.2.2.1), (va_up oc_filled x1.toNatClampNeg r5.2.2.2.2.2.2.2.2.2.2.2.2.1), (va_up oc_worth x1.toNatClampNeg r5.2.2.2.2.2.2.2.2.2.2.2.2.2.1), (va_up oc_takenSet x1.toNatClampNeg r5.2.2.2.2.2.2.2.2.2.2.2.2.2.2.1), (va_up oc_isDone x1.toNatClampNeg r5.2.2.2.2.2.2.2.2.2.2.2.2.2.2.2))
    else
    some (0, (oc_takenSet x1.toNatClampNeg), mk_entries, mk_slots, mk_remainders, mk_blocks, mk_blockBids, mk_blockOffers, mk_entryCount, mk_blockCount, cv_limits, cv_bids, cv_offers, cv_count, cv_allBids, cv_allOffers, cv_meetingPrice, cv_sureBids, cv_sureOffers, cv_priceBids, cv_priceOffers, cv_volume, cv_worth, oc_prices, oc_volumes, oc_filled, oc_worth, oc_takenSet, oc_isDone))))
def f_x_clearedBy (oc_isDone : Nat → Int32) (x1 : Int32) : Option (Nat) :=
    if x1 < 0 ∨ 4 ≤ x1.toNatClampNeg then none else (if (oc_isDone x1.toNatClampNeg) = 0 then
    some (2)
    else
    some (0))
def f_x_price_b14 (oc_prices : Nat → Nat → Int32) (oc_isDone : Nat → Int32) : Option (Nat × Int32) :=
    some (1, 0)
def f_x_price (oc_prices : Nat → Nat → Int32) (oc_isDone : Nat → Int32) (x1 : Int32) (x2 : Int32) : Option (Nat × Int32) :=
    (f_x_isOperator x1).bind fun r1 =>
    (if r1 = 0 then
    f_x_price_b14 oc_prices oc_isDone
    else
    (f_x_isHour x2).bind fun r2 =>
    (if r2 = 0 then
    f_x_price_b14 oc_prices oc_isDone
    else
    (f_x_clearedBy oc_isDone x1).bind fun r3 =>
    (if r3 = 0 then
    if 4 ≤ x1.toNatClampNeg then none else if x2 < 0 ∨ 3 ≤ x2.toNatClampNeg then none else some (0, ((oc_prices x1.toNatClampNeg) x2.toNatClampNeg))
    else
    some (r3, 0))))
def f_x_traded_b14 (oc_volumes : Nat → Nat → Int32) (oc_isDone : Nat → Int32) : Option (Nat × Int32) :=
    some (1, 0)
def f_x_traded (oc_volumes : Nat → Nat → Int32) (oc_isDone : Nat → Int32) (x1 : Int32) (x2 : Int32) : Option (Nat × Int32) :=
    (f_x_isOperator x1).bind fun r1 =>
    (if r1 = 0 then
    f_x_traded_b14 oc_volumes oc_isDone
    else
    (f_x_isHour x2).bind fun r2 =>
    (if r2 = 0 then
    f_x_traded_b14 oc_volumes oc_isDone
    else
    (f_x_clearedBy oc_isDone x1).bind fun r3 =>
    (if r3 = 0 then
    if 4 ≤ x1.toNatClampNeg then none else if x2 < 0 ∨ 3 ≤ x2.toNatClampNeg then none else some (0, ((oc_volumes x1.toNatClampNeg) x2.toNatClampNeg))
    else
    some (r3, 0))))
def f_x_fill_b25 (x_members : Int32) (bk_counts : Nat → Int32) (ag_vectors : Nat → Int32) (oc_filled : Nat → Nat → Int32) (oc_isDone : Nat → Int32) : Option (Nat × Int32) :=
    some (1, 0)
def f_x_fill (x_members : Int32) (bk_counts : Nat → Int32) (ag_vectors : Nat → Int32) (oc_filled : Nat → Nat → Int32) (oc_isDone : Nat → Int32) (x1 : Int32) (x2 : Int32) (x3 : Int32) : Option (Nat × Int32) :=
    (f_x_isOperator x1).bind fun r1 =>
    (if r1 = 0 then
    f_x_fill_b25 x_members bk_counts ag_vectors oc_filled oc_isDone
    else
    (f_x_isMember x_members x2).bind fun r2 =>
    (if r2 = 0 then
    f_x_fill_b25 x_members bk_counts ag_vectors oc_filled oc_isDone
    else
    (if x3 < 0 then
    f_x_fill_b25 x_members bk_counts ag_vectors oc_filled oc_isDone
    else
    (if x3 < 10 then
    (f_x_clearedBy oc_isDone x1).bind fun r3 =>
    (if r3 = 0 then
    if 4 ≤ x1.toNatClampNeg then none else (f_ag_agreedBook ag_vectors x1 x2).bind fun r5 =>
    if r5 < 0 ∨ 25 ≤ r5.toNatClampNeg then none else (if x3 < (bk_counts r5.toNatClampNeg) then
    if ((10 * x2) + x3) < 0 ∨ 60 ≤ ((10 * x2) + x3).toNatClampNeg then none else some (0, ((oc_filled x1.toNatClampNeg) ((10 * x2) + x3).toNatClampNeg))
    else
    some (1, 0))
    else
    some (r3, 0))
    else
    f_x_fill_b25 x_members bk_counts ag_vectors oc_filled oc_isDone))))
def f_x_welfare (oc_worth : Nat → Int64) (oc_isDone : Nat → Int32) (x1 : Int32) : Option (Nat × Int64) :=
    (f_x_isOperator x1).bind fun r1 =>
    (if r1 = 0 then
    some (1, 0)
    else
    (f_x_clearedBy oc_isDone x1).bind fun r2 =>
    (if r2 = 0 then
    if 4 ≤ x1.toNatClampNeg then none else some (0, (oc_worth x1.toNatClampNeg))
    else
    some (r2, 0)))
def f_x_meter_b27 (x_members : Int32) (x_metered : Nat → Int32) : Option (Nat × (Nat → Int32)) :=
    some (1, x_metered)
def f_x_meter (x_members : Int32) (x_metered : Nat → Int32) (x1 : Int32) (x2 : Int32) (x3 : Int32) : Option (Nat × (Nat → Int32)) :=
    (f_x_isMember x_members x1).bind fun r1 =>
    (if r1 = 0 then
    f_x_meter_b27 x_members x_metered
    else
    (f_x_isHour x2).bind fun r2 =>
    (if r2 = 0 then
    f_x_meter_b27 x_members x_metered
    else
    (if x3 < (-1000000) then
    f_x_meter_b27 x_members x_metered
    else
    (if x3 ≤ 1000000 then
    if ((3 * x1) + x2) < 0 ∨ 18 ≤ ((3 * x1) + x2).toNatClampNeg then none else some (0, (upd x_metered ((3 * x1) + x2).toNatClampNeg x3))
    else
    f_x_meter_b27 x_members x_metered))))
def f_x_soldLessBought_L6 (bk_counts : Nat → Int32) (bk_whens : Nat → Int32) (bk_sides : Nat → Int32) (o_filled : Nat → Int32) (x2 : Int32) (x3 : Int32) (x4 : Int32) : Nat → Int64 → Int32 → Option (Int64)
  | 0, _, _ => none
  | n + 1, x5, x7 =>
    if x2 < 0 ∨ 25 ≤ x2.toNatClampNeg then none else (if (bk_counts x2.toNatClampNeg) ≤ x7 then
    some (x5)
    else
    (f_bk_covers bk_whens ((10 * x2) + x7) x4).bind fun r2 =>
    (if r2 = 0 then
    f_x_soldLessBought_L6 bk_counts bk_whens bk_sides o_filled x2 x3 x4 n x5 (x7 + 1)
    else
    if ((10 * x3) + x7) < 0 ∨ 60 ≤ ((10 * x3) + x7).toNatClampNeg then none else if ((10 * x2) + x7) < 0 ∨ 240 ≤ ((10 * x2) + x7).toNatClampNeg then none else (if (bk_sides ((10 * x2) + x7).toNatClampNeg) = 1 then
    f_x_soldLessBought_L6 bk_counts bk_whens bk_sides o_filled x2 x3 x4 n (x5 + (Int32.toInt64 (o_filled ((10 * x3) + x7).toNatClampNeg))) (x7 + 1)
    else
    f_x_soldLessBought_L6 bk_counts bk_whens bk_sides o_filled x2 x3 x4 n (x5 + (Int32.toInt64 (-(o_filled ((10 * x3) + x7).toNatClampNeg)))) (x7 + 1))))
def f_x_soldLessBought (bk_counts : Nat → Int32) (bk_whens : Nat → Int32) (bk_sides : Nat → Int32) (o_filled : Nat → Int32) (x2 : Int32) (x3 : Int32) (x4 : Int32) : Option (Int64) :=
    f_x_soldLessBought_L6 bk_counts bk_whens bk_sides o_filled x2 x3 x4 1000 0 0
def f_x_accountOf_b84 (x_metered : Nat → Int32) (bk_counts : Nat → Int32) (bk_whens : Nat → Int32) (bk_sides : Nat → Int32) (ag_vectors : Nat → Int32) (o_prices : Nat → Int32) (o_filled : Nat → Int32) (x3 : Int32) (K17 : Int32 → Int64 → Int32 → Option (Int64)) (x4 : Int32) (x5 : Int64) (x7 : Int32) (x8 : Int64) (x10 : Int64) (s0 : Int64) : Option (Int64) :=
    if x7 < 0 ∨ 3 ≤ x7.toNatClampNeg then none else K17 x4 (x5 + (((Int32.toInt64 (o_prices x7.toNatClampNeg)) * x8) + (s0 * x10))) (x7 + 1)
def f_x_accountOf_L17 (x_metered : Nat → Int32) (bk_counts : Nat → Int32) (bk_whens : Nat → Int32) (bk_sides : Nat → Int32) (ag_vectors : Nat → Int32) (o_prices : Nat → Int32) (o_filled : Nat → Int32) (x3 : Int32) : Nat → Int32 → Int64 → Int32 → Option (Int64)
  | 0, _, _, _ => none
  | n + 1, x4, x5, x7 =>
    (if 3 ≤ x7 then
    some (x5)
    else
    (f_x_soldLessBought bk_counts bk_whens bk_sides o_filled x4 x3 x7).bind fun r2 =>
    if ((3 * x3) + x7) < 0 ∨ 18 ≤ ((3 * x3) + x7).toNatClampNeg then none else (if (lg_cmp ((Int32.toInt64 (x_metered ((3 * x3) + x7).toNatClampNeg)) - r2) 0) ≤ 0 then
    if x7 < 0 ∨ 3 ≤ x7.toNatClampNeg then none else f_x_accountOf_b84 x_metered bk_counts bk_whens bk_sides ag_vectors o_prices o_filled x3 (f_x_accountOf_L17 x_metered bk_counts bk_whens bk_sides ag_vectors o_prices o_filled x3 n) x4 x5 x7 r2 ((Int32.toInt64 (x_metered ((3 * x3) + x7).toNatClampNeg)) - r2) (Int32.toInt64 ((o_prices x7.toNatClampNeg) + 50))
    else
    if x7 < 0 ∨ 3 ≤ x7.toNatClampNeg then none else f_x_accountOf_b84 x_metered bk_counts bk_whens bk_sides ag_vectors o_prices o_filled x3 (f_x_accountOf_L17 x_metered bk_counts bk_whens bk_sides ag_vectors o_prices o_filled x3 n) x4 x5 x7 r2 ((Int32.toInt64 (x_metered ((3 * x3) + x7).toNatClampNeg)) - r2) (Int32.toInt64 ((o_prices x7.toNatClampNeg) - 50))))
def f_x_accountOf (x_metered : Nat → Int32) (bk_counts : Nat → Int32) (bk_whens : Nat → Int32) (bk_sides : Nat → Int32) (ag_vectors : Nat → Int32) (o_prices : Nat → Int32) (o_filled : Nat → Int32) (x2 : Int32) (x3 : Int32) : Option (Int64) :=
    (f_ag_agreedBook ag_vectors x2 x3).bind fun r1 =>
    f_x_accountOf_L17 x_metered bk_counts bk_whens bk_sides ag_vectors o_prices o_filled x3 1000 r1 0 0
def f_x_balance_L55 (x_members : Int32) (x_metered : Nat → Int32) (bk_counts : Nat → Int32) (bk_whens : Nat → Int32) (bk_sides : Nat → Int32) (ag_vectors : Nat → Int32) (oc_prices : Nat → Nat → Int32) (oc_filled : Nat → Nat → Int32) (oc_isDone : Nat → Int32) (x1 : Int32) : Nat → Int64 → Int32 → Option (Nat × Int64)
  | 0, _, _ => none
  | n + 1, x4, x6 =>
    (if x_members ≤ x6 then
    some (0, x4)
    else
    if 4 ≤ x1.toNatClampNeg then none else (f_x_accountOf x_metered bk_counts bk_whens bk_sides ag_vectors (oc_prices x1.toNatClampNeg) (oc_filled x1.toNatClampNeg) x1 x6).bind fun r7 =>
    f_x_balance_L55 x_members x_metered bk_counts bk_whens bk_sides ag_vectors oc_prices oc_filled oc_isDone x1 n (x4 - r7) (x6 + 1))
def f_x_balance_b30 (x_members : Int32) (x_metered : Nat → Int32) (bk_counts : Nat → Int32) (bk_whens : Nat → Int32) (bk_sides : Nat → Int32) (ag_vectors : Nat → Int32) (oc_prices : Nat → Nat → Int32) (oc_filled : Nat → Nat → Int32) (oc_isDone : Nat → Int32) (x1 : Int32) (x2 : Int32) : Option (Nat × Int64) :=
    (f_x_clearedBy oc_isDone x1).bind fun r3 =>
    (if r3 = 0 then
    if 4 ≤ x1.toNatClampNeg then none else (if x2 = (-1) then
    f_x_balance_L55 x_members x_metered bk_counts bk_whens bk_sides ag_vectors oc_prices oc_filled oc_isDone x1 1000 0 0
    else
    (f_x_accountOf x_metered bk_counts bk_whens bk_sides ag_vectors (oc_prices x1.toNatClampNeg) (oc_filled x1.toNatClampNeg) x1 x2).bind fun r5 =>
    some (0, r5))
    else
    some (r3, 0))
def f_x_balance_b20 (x_members : Int32) (x_metered : Nat → Int32) (bk_counts : Nat → Int32) (bk_whens : Nat → Int32) (bk_sides : Nat → Int32) (ag_vectors : Nat → Int32) (oc_prices : Nat → Nat → Int32) (oc_filled : Nat → Nat → Int32) (oc_isDone : Nat → Int32) : Option (Nat × Int64) :=
    some (1, 0)
def f_x_balance (x_members : Int32) (x_metered : Nat → Int32) (bk_counts : Nat → Int32) (bk_whens : Nat → Int32) (bk_sides : Nat → Int32) (ag_vectors : Nat → Int32) (oc_prices : Nat → Nat → Int32) (oc_filled : Nat → Nat → Int32) (oc_isDone : Nat → Int32) (x1 : Int32) (x2 : Int32) : Option (Nat × Int64) :=
    (f_x_isOperator x1).bind fun r1 =>
    (if r1 = 0 then
    f_x_balance_b20 x_members x_metered bk_counts bk_whens bk_sides ag_vectors oc_prices oc_filled oc_isDone
    else
    (if x2 = (-1) then
    f_x_balance_b30 x_members x_metered bk_counts bk_whens bk_sides ag_vectors oc_prices oc_filled oc_isDone x1 x2
    else
    (f_x_isMember x_members x2).bind fun r2 =>
    (if r2 = 0 then
    f_x_balance_b20 x_members x_metered bk_counts bk_whens bk_sides ag_vectors oc_prices oc_filled oc_isDone
    else
    f_x_balance_b30 x_members x_metered bk_counts bk_whens bk_sides ag_vectors oc_prices oc_filled oc_isDone x1 x2)))
def f_ag_forget_L60  : Nat → (Nat → Int32) → (Nat → Int32) → (Nat → Int32) → Int32 → Int32 → Int32 → Option ((Nat → Int32) × (Nat → Int32) × (Nat → Int32) × Int32 × Int32)
  | 0, _, _, _, _, _, _ => none
  | n + 1, ag_toldLies, ag_passedLies, ag_vectors, ag_liarOperator, ag_rounds, x1 =>
    (if 24 ≤ x1 then
    some (ag_toldLies, ag_passedLies, ag_vectors, ag_liarOperator, ag_rounds)
    else
    if x1 < 0 ∨ 24 ≤ x1.toNatClampNeg then none else f_ag_forget_L60 n ag_toldLies ag_passedLies (upd ag_vectors x1.toNatClampNeg 24) ag_liarOperator ag_rounds (x1 + 1))
def f_ag_forget_L36  : Nat → (Nat → Int32) → (Nat → Int32) → (Nat → Int32) → Int32 → Int32 → Int32 → Option ((Nat → Int32) × (Nat → Int32) × (Nat → Int32) × Int32 × Int32)
  | 0, _, _, _, _, _, _ => none
  | n + 1, ag_toldLies, ag_passedLies, ag_vectors, ag_liarOperator, ag_rounds, x1 =>
    (if 96 ≤ x1 then
    f_ag_forget_L60 1000 ag_toldLies ag_passedLies ag_vectors ag_liarOperator ag_rounds 0
    else
    if x1 < 0 ∨ 96 ≤ x1.toNatClampNeg then none else f_ag_forget_L36 n ag_toldLies (upd ag_passedLies x1.toNatClampNeg (-1)) ag_vectors ag_liarOperator ag_rounds (x1 + 1))
def f_ag_forget_L12  : Nat → (Nat → Int32) → (Nat → Int32) → (Nat → Int32) → Int32 → Int32 → Int32 → Option ((Nat → Int32) × (Nat → Int32) × (Nat → Int32) × Int32 × Int32)
  | 0, _, _, _, _, _, _ => none
  | n + 1, ag_toldLies, ag_passedLies, ag_vectors, ag_liarOperator, ag_rounds, x1 =>
    (if 24 ≤ x1 then
    f_ag_forget_L36 1000 ag_toldLies ag_passedLies ag_vectors ag_liarOperator ag_rounds 0
    else
    if x1 < 0 ∨ 24 ≤ x1.toNatClampNeg then none else f_ag_forget_L12 n (upd ag_toldLies x1.toNatClampNeg (-1)) ag_passedLies ag_vectors ag_liarOperator ag_rounds (x1 + 1))
def f_ag_forget (ag_toldLies : Nat → Int32) (ag_passedLies : Nat → Int32) (ag_vectors : Nat → Int32) (ag_liarOperator : Int32) (ag_rounds : Int32) : Option ((Nat → Int32) × (Nat → Int32) × (Nat → Int32) × Int32 × Int32) :=
    f_ag_forget_L12 1000 ag_toldLies ag_passedLies ag_vectors (-1) 0 0
def f_bk_empty_L2  : Nat → (Nat → Int32) → (Nat → Int64) → Int32 → Option ((Nat → Int32) × (Nat → Int64))
  | 0, _, _, _ => none
  | n + 1, bk_counts, bk_needs, x1 =>
    (if 25 ≤ x1 then
    some (bk_counts, bk_needs)
    else
    if x1 < 0 ∨ 25 ≤ x1.toNatClampNeg then none else f_bk_empty_L2 n (upd bk_counts x1.toNatClampNeg 0) (vp_updL bk_needs x1.toNatClampNeg 0) (x1 + 1))
def f_bk_empty (bk_counts : Nat → Int32) (bk_needs : Nat → Int64) : Option ((Nat → Int32) × (Nat → Int64)) :=
    f_bk_empty_L2 1000 bk_counts bk_needs 0
def f_x_nextDay_L73  : Nat → (Nat → Int32) → (Nat → Int32) → (Nat → Int32) → Int32 → (Nat → Int32) → (Nat → Int64) → (Nat → Int32) → (Nat → Int32) → (Nat → Int32) → Int32 → Int32 → (Nat → Int32) → Int32 → Option ((Nat → Int32) × (Nat → Int32) × (Nat → Int32) × Int32 × (Nat → Int32) × (Nat → Int64) × (Nat → Int32) × (Nat → Int32) × (Nat → Int32) × Int32 × Int32 × (Nat → Int32))
  | 0, _, _, _, _, _, _, _, _, _, _, _, _, _ => none
  | n + 1, x_hasSent, x_isSealed, x_metered, x_sealedCount, bk_counts, bk_needs, ag_toldLies, ag_passedLies, ag_vectors, ag_liarOperator, ag_rounds, oc_isDone, x1 =>
    (if 4 ≤ x1 then
    some (x_hasSent, x_isSealed, x_metered, x_sealedCount, bk_counts, bk_needs, ag_toldLies, ag_passedLies, ag_vectors, ag_liarOperator, ag_rounds, oc_isDone)
    else
    if x1 < 0 ∨ 4 ≤ x1.toNatClampNeg then none else f_x_nextDay_L73 n x_hasSent x_isSealed x_metered x_sealedCount bk_counts bk_needs ag_toldLies ag_passedLies ag_vectors ag_liarOperator ag_rounds (va_up oc_isDone x1.toNatClampNeg 0) (x1 + 1))
def f_x_nextDay_L35  : Nat → (Nat → Int32) → (Nat → Int32) → (Nat → Int32) → Int32 → (Nat → Int32) → (Nat → Int64) → (Nat → Int32) → (Nat → Int32) → (Nat → Int32) → Int32 → Int32 → (Nat → Int32) → Int32 → Option ((Nat → Int32) × (Nat → Int32) × (Nat → Int32) × Int32 × (Nat → Int32) × (Nat → Int64) × (Nat → Int32) × (Nat → Int32) × (Nat → Int32) × Int32 × Int32 × (Nat → Int32))
  | 0, _, _, _, _, _, _, _, _, _, _, _, _, _ => none
  | n + 1, x_hasSent, x_isSealed, x_metered, x_sealedCount, bk_counts, bk_needs, ag_toldLies, ag_passedLies, ag_vectors, ag_liarOperator, ag_rounds, oc_isDone, x1 =>
    (if 18 ≤ x1 then
    (f_bk_empty bk_counts bk_needs).bind fun r2 =>
    (f_ag_forget ag_toldLies ag_passedLies ag_vectors ag_liarOperator ag_rounds).bind fun r3 =>
    f_x_nextDay_L73 1000 x_hasSent x_isSealed x_metered x_sealedCount r2.1 r2.2 r3.1 r3.2.1 r3.2.2.1 r3.2.2.2.1 r3.2.2.2.2 oc_isDone 0
    else
    if x1 < 0 ∨ 18 ≤ x1.toNatClampNeg then none else f_x_nextDay_L35 n x_hasSent x_isSealed (upd x_metered x1.toNatClampNeg 0) x_sealedCount bk_counts bk_needs ag_toldLies ag_passedLies ag_vectors ag_liarOperator ag_rounds oc_isDone (x1 + 1))
def f_x_nextDay_L2  : Nat → (Nat → Int32) → (Nat → Int32) → (Nat → Int32) → Int32 → (Nat → Int32) → (Nat → Int64) → (Nat → Int32) → (Nat → Int32) → (Nat → Int32) → Int32 → Int32 → (Nat → Int32) → Int32 → Option ((Nat → Int32) × (Nat → Int32) × (Nat → Int32) × Int32 × (Nat → Int32) × (Nat → Int64) × (Nat → Int32) × (Nat → Int32) × (Nat → Int32) × Int32 × Int32 × (Nat → Int32))
  | 0, _, _, _, _, _, _, _, _, _, _, _, _, _ => none
  | n + 1, x_hasSent, x_isSealed, x_metered, x_sealedCount, bk_counts, bk_needs, ag_toldLies, ag_passedLies, ag_vectors, ag_liarOperator, ag_rounds, oc_isDone, x1 =>
    (if 6 ≤ x1 then
    f_x_nextDay_L35 1000 x_hasSent x_isSealed x_metered 0 bk_counts bk_needs ag_toldLies ag_passedLies ag_vectors ag_liarOperator ag_rounds oc_isDone 0
    else
    if x1 < 0 ∨ 6 ≤ x1.toNatClampNeg then none else f_x_nextDay_L2 n (upd x_hasSent x1.toNatClampNeg (vp_nar .boolean 0)) (upd x_isSealed x1.toNatClampNeg (vp_nar .boolean 0)) x_metered x_sealedCount bk_counts bk_needs ag_toldLies ag_passedLies ag_vectors ag_liarOperator ag_rounds oc_isDone (x1 + 1))
def f_x_nextDay (x_hasSent : Nat → Int32) (x_isSealed : Nat → Int32) (x_metered : Nat → Int32) (x_sealedCount : Int32) (bk_counts : Nat → Int32) (bk_needs : Nat → Int64) (ag_toldLies : Nat → Int32) (ag_passedLies : Nat → Int32) (ag_vectors : Nat → Int32) (ag_liarOperator : Int32) (ag_rounds : Int32) (oc_isDone : Nat → Int32) : Option ((Nat → Int32) × (Nat → Int32) × (Nat → Int32) × Int32 × (Nat → Int32) × (Nat → Int64) × (Nat → Int32) × (Nat → Int32) × (Nat → Int32) × Int32 × Int32 × (Nat → Int32)) :=
    f_x_nextDay_L2 1000 x_hasSent x_isSealed x_metered x_sealedCount bk_counts bk_needs ag_toldLies ag_passedLies ag_vectors ag_liarOperator ag_rounds oc_isDone 0
def f_m_thrown (m_thrown : Int32) : Option (Int32) :=
    some (m_thrown)
def f_m_throwing_b18 (m_thrown : Int32) (s1 : Int32) : Option (Int32 × Int32) :=
    (if s1 ≤ 0 then
    some (0, s1)
    else
    some (1, s1))
def f_m_throwing (m_thrown : Int32) (x1 : Int32) (x2 : Int32) : Option (Int32 × Int32) :=
    (if x1 = 0 then
    (if x2 = 0 then
    f_m_throwing_b18 m_thrown 0
    else
    f_m_throwing_b18 m_thrown 2)
    else
    f_m_throwing_b18 m_thrown 1)
def f_m_in (x0 : Int64) (x2 : Int64) (x4 : Int64) : Option (Int32) :=
    (if (lg_cmp x0 x2) < 0 then
    some (0)
    else
    (if 0 < (lg_cmp x0 x4) then
    some (0)
    else
    some (1)))
def f_m_isMember (m_n : Int32) (x1 : Int32) : Option (Int32) :=
    (f_m_in (Int32.toInt64 x1) 0 (Int32.toInt64 (m_n - 1))).bind fun r1 =>
    some ((vp_nar .boolean r1))
def f_m_forget_L109  : Nat → (Nat → Int32) → (Nat → Int64) → (Nat → Int32) → (Nat → Int32) → Int32 → Int32 → (Nat → Int32) → (Nat → Int32) → (Nat → Int32) → (Nat → Int32) → Int32 → Option ((Nat → Int32) × (Nat → Int64) × (Nat → Int32) × (Nat → Int32) × Int32 × Int32 × (Nat → Int32) × (Nat → Int32) × (Nat → Int32) × (Nat → Int32))
  | 0, _, _, _, _, _, _, _, _, _, _, _ => none
  | n + 1, m_many, m_need, m_sent, m_sealed, m_rounds, m_liar, m_told, m_passed, m_meters, m_cleared, x1 =>
    (if 4 ≤ x1 then
    some (m_many, m_need, m_sent, m_sealed, 0, (-1), m_told, m_passed, m_meters, m_cleared)
    else
    if x1 < 0 ∨ 4 ≤ x1.toNatClampNeg then none else f_m_forget_L109 n m_many m_need m_sent m_sealed m_rounds m_liar m_told m_passed m_meters (upd m_cleared x1.toNatClampNeg (vp_nar .boolean 0)) (x1 + 1))
def f_m_forget_L88  : Nat → (Nat → Int32) → (Nat → Int64) → (Nat → Int32) → (Nat → Int32) → Int32 → Int32 → (Nat → Int32) → (Nat → Int32) → (Nat → Int32) → (Nat → Int32) → Int32 → Option ((Nat → Int32) × (Nat → Int64) × (Nat → Int32) × (Nat → Int32) × Int32 × Int32 × (Nat → Int32) × (Nat → Int32) × (Nat → Int32) × (Nat → Int32))
  | 0, _, _, _, _, _, _, _, _, _, _, _ => none
  | n + 1, m_many, m_need, m_sent, m_sealed, m_rounds, m_liar, m_told, m_passed, m_meters, m_cleared, x1 =>
    (if 18 ≤ x1 then
    f_m_forget_L109 1000 m_many m_need m_sent m_sealed m_rounds m_liar m_told m_passed m_meters m_cleared 0
    else
    if x1 < 0 ∨ 18 ≤ x1.toNatClampNeg then none else f_m_forget_L88 n m_many m_need m_sent m_sealed m_rounds m_liar m_told m_passed (upd m_meters x1.toNatClampNeg 0) m_cleared (x1 + 1))
def f_m_forget_L60  : Nat → (Nat → Int32) → (Nat → Int64) → (Nat → Int32) → (Nat → Int32) → Int32 → Int32 → (Nat → Int32) → (Nat → Int32) → (Nat → Int32) → (Nat → Int32) → Int32 → Option ((Nat → Int32) × (Nat → Int64) × (Nat → Int32) × (Nat → Int32) × Int32 × Int32 × (Nat → Int32) × (Nat → Int32) × (Nat → Int32) × (Nat → Int32))
  | 0, _, _, _, _, _, _, _, _, _, _, _ => none
  | n + 1, m_many, m_need, m_sent, m_sealed, m_rounds, m_liar, m_told, m_passed, m_meters, m_cleared, x1 =>
    (if 6 ≤ x1 then
    f_m_forget_L88 1000 m_many m_need m_sent m_sealed m_rounds m_liar m_told m_passed m_meters m_cleared 0
    else
    if x1 < 0 ∨ 6 ≤ x1.toNatClampNeg then none else f_m_forget_L60 n m_many m_need (upd m_sent x1.toNatClampNeg (vp_nar .boolean 0)) (upd m_sealed x1.toNatClampNeg (vp_nar .boolean 0)) m_rounds m_liar m_told m_passed m_meters m_cleared (x1 + 1))
def f_m_forget_L38  : Nat → (Nat → Int32) → (Nat → Int64) → (Nat → Int32) → (Nat → Int32) → Int32 → Int32 → (Nat → Int32) → (Nat → Int32) → (Nat → Int32) → (Nat → Int32) → Int32 → Option ((Nat → Int32) × (Nat → Int64) × (Nat → Int32) × (Nat → Int32) × Int32 × Int32 × (Nat → Int32) × (Nat → Int32) × (Nat → Int32) × (Nat → Int32))
  | 0, _, _, _, _, _, _, _, _, _, _, _ => none
  | n + 1, m_many, m_need, m_sent, m_sealed, m_rounds, m_liar, m_told, m_passed, m_meters, m_cleared, x1 =>
    (if 96 ≤ x1 then
    f_m_forget_L60 1000 m_many m_need m_sent m_sealed m_rounds m_liar m_told m_passed m_meters m_cleared 0
    else
    if x1 < 0 ∨ 96 ≤ x1.toNatClampNeg then none else f_m_forget_L38 n m_many m_need m_sent m_sealed m_rounds m_liar m_told (upd m_passed x1.toNatClampNeg (-2)) m_meters m_cleared (x1 + 1))
def f_m_forget_L2  : Nat → (Nat → Int32) → (Nat → Int64) → (Nat → Int32) → (Nat → Int32) → Int32 → Int32 → (Nat → Int32) → (Nat → Int32) → (Nat → Int32) → (Nat → Int32) → Int32 → Option ((Nat → Int32) × (Nat → Int64) × (Nat → Int32) × (Nat → Int32) × Int32 × Int32 × (Nat → Int32) × (Nat → Int32) × (Nat → Int32) × (Nat → Int32))
  | 0, _, _, _, _, _, _, _, _, _, _, _ => none
  | n + 1, m_many, m_need, m_sent, m_sealed, m_rounds, m_liar, m_told, m_passed, m_meters, m_cleared, x1 =>
    (if 24 ≤ x1 then
    f_m_forget_L38 1000 m_many m_need m_sent m_sealed m_rounds m_liar m_told m_passed m_meters m_cleared 0
    else
    if x1 < 0 ∨ 24 ≤ x1.toNatClampNeg then none else f_m_forget_L2 n (upd m_many x1.toNatClampNeg 0) (vp_updL m_need x1.toNatClampNeg 0) m_sent m_sealed m_rounds m_liar (upd m_told x1.toNatClampNeg (-2)) m_passed m_meters m_cleared (x1 + 1))
def f_m_forget (m_many : Nat → Int32) (m_need : Nat → Int64) (m_sent : Nat → Int32) (m_sealed : Nat → Int32) (m_rounds : Int32) (m_liar : Int32) (m_told : Nat → Int32) (m_passed : Nat → Int32) (m_meters : Nat → Int32) (m_cleared : Nat → Int32) : Option ((Nat → Int32) × (Nat → Int64) × (Nat → Int32) × (Nat → Int32) × Int32 × Int32 × (Nat → Int32) × (Nat → Int32) × (Nat → Int32) × (Nat → Int32)) :=
    f_m_forget_L2 1000 m_many m_need m_sent m_sealed m_rounds m_liar m_told m_passed m_meters m_cleared 0
def f_m_nextDay (m_thrown : Int32) (m_many : Nat → Int32) (m_need : Nat → Int64) (m_sent : Nat → Int32) (m_sealed : Nat → Int32) (m_rounds : Int32) (m_liar : Int32) (m_told : Nat → Int32) (m_passed : Nat → Int32) (m_meters : Nat → Int32) (m_cleared : Nat → Int32) : Option (Int32 × (Nat → Int32) × (Nat → Int64) × (Nat → Int32) × (Nat → Int32) × Int32 × Int32 × (Nat → Int32) × (Nat → Int32) × (Nat → Int32) × (Nat → Int32)) :=
    (f_m_forget m_many m_need m_sent m_sealed m_rounds m_liar m_told m_passed m_meters m_cleared).bind fun r1 =>
    some (0, r1.1, r1.2.1, r1.2.2.1, r1.2.2.2.1, r1.2.2.2.2.1, r1.2.2.2.2.2.1, r1.2.2.2.2.2.2.1, r1.2.2.2.2.2.2.2.1, r1.2.2.2.2.2.2.2.2.1, r1.2.2.2.2.2.2.2.2.2)
def f_m_collateral_b55 (m_n : Int32) (m_sent : Nat → Int32) (m_sealed : Nat → Int32) (x1 : Int32) (x2 : Int32) (m_thrown : Int32) (m_collateral : Nat → Int32) (s1 : Int32) (s2 : Int32) : Option (Int32 × (Nat → Int32)) :=
    (f_m_throwing m_thrown s1 s2).bind fun r4 =>
    (if r4.1 = 0 then
    if x1 < 0 ∨ 6 ≤ x1.toNatClampNeg then none else some (r4.2, (upd m_collateral x1.toNatClampNeg x2))
    else
    some (r4.2, m_collateral))
def f_m_collateral_b50 (m_n : Int32) (m_sent : Nat → Int32) (m_sealed : Nat → Int32) (x1 : Int32) (x2 : Int32) (m_thrown : Int32) (m_collateral : Nat → Int32) (s1 : Int32) : Option (Int32 × (Nat → Int32)) :=
    f_m_collateral_b55 m_n m_sent m_sealed x1 x2 m_thrown m_collateral s1 1
def f_m_collateral_b54 (m_n : Int32) (m_sent : Nat → Int32) (m_sealed : Nat → Int32) (x1 : Int32) (x2 : Int32) (m_thrown : Int32) (m_collateral : Nat → Int32) (s1 : Int32) : Option (Int32 × (Nat → Int32)) :=
    f_m_collateral_b55 m_n m_sent m_sealed x1 x2 m_thrown m_collateral s1 0
def f_m_collateral_b25 (m_n : Int32) (m_sent : Nat → Int32) (m_sealed : Nat → Int32) (x1 : Int32) (x2 : Int32) (m_thrown : Int32) (m_collateral : Nat → Int32) (s0 : Int32) : Option (Int32 × (Nat → Int32)) :=
    (if s0 = 0 then
    if x1 < 0 ∨ 6 ≤ x1.toNatClampNeg then none else (if (m_sent x1.toNatClampNeg) = 0 then
    (if (m_sealed x1.toNatClampNeg) = 0 then
    f_m_collateral_b54 m_n m_sent m_sealed x1 x2 m_thrown m_collateral s0
    else
    f_m_collateral_b50 m_n m_sent m_sealed x1 x2 m_thrown m_collateral s0)
    else
    f_m_collateral_b50 m_n m_sent m_sealed x1 x2 m_thrown m_collateral s0)
    else
    f_m_collateral_b54 m_n m_sent m_sealed x1 x2 m_thrown m_collateral s0)
def f_m_collateral_b20 (m_n : Int32) (m_sent : Nat → Int32) (m_sealed : Nat → Int32) (x1 : Int32) (x2 : Int32) (m_thrown : Int32) (m_collateral : Nat → Int32) : Option (Int32 × (Nat → Int32)) :=
    f_m_collateral_b25 m_n m_sent m_sealed x1 x2 m_thrown m_collateral 1
def f_m_collateral (m_thrown : Int32) (m_n : Int32) (m_collateral : Nat → Int32) (m_sent : Nat → Int32) (m_sealed : Nat → Int32) (x1 : Int32) (x2 : Int32) : Option (Int32 × (Nat → Int32)) :=
    (f_m_isMember m_n x1).bind fun r1 =>
    (if r1 = 0 then
    f_m_collateral_b20 m_n m_sent m_sealed x1 x2 m_thrown m_collateral
    else
    (f_m_in (Int32.toInt64 x2) 0 1000000000).bind fun r2 =>
    (if r2 = 0 then
    f_m_collateral_b20 m_n m_sent m_sealed x1 x2 m_thrown m_collateral
    else
    f_m_collateral_b25 m_n m_sent m_sealed x1 x2 m_thrown m_collateral 0))
def f_m_send_b91 (m_collateral : Nat → Int32) (x1 : Int32) (x2 : Int32) (x3 : Int32) (x4 : Int32) (x5 : Int32) (x6 : Int32) (x7 : Int32) (K66 : (Nat → Int32) → (Nat → Int64) → (Nat → Int32) → (Nat → Int32) → (Nat → Int32) → (Nat → Int32) → (Nat → Int32) → (Nat → Int32) → Int32 → Int64 → Int32 → Option (Int32 × (Nat → Int32) × (Nat → Int64) × (Nat → Int32) × (Nat → Int32) × (Nat → Int32) × (Nat → Int32) × (Nat → Int32) × (Nat → Int32))) (m_many : Nat → Int32) (m_need : Nat → Int64) (m_isBlock : Nat → Int32) (m_hours : Nat → Int32) (m_side : Nat → Int32) (m_quantity : Nat → Int32) (m_limit : Nat → Int32) (m_sent : Nat → Int32) (x9 : Int32) (x10 : Int64) (x12 : Int32) (x13 : Int32) : Option (Int32 × (Nat → Int32) × (Nat → Int64) × (Nat → Int32) × (Nat → Int32) × (Nat → Int32) × (Nat → Int32) × (Nat → Int32) × (Nat → Int32)) :=
    if x13 < 0 ∨ 24 ≤ x13.toNatClampNeg then none else (if 10 ≤ (m_many x13.toNatClampNeg) then
    K66 m_many m_need m_isBlock m_hours m_side m_quantity m_limit m_sent x9 x10 (x12 + 1)
    else
    if x1 < 0 ∨ 6 ≤ x1.toNatClampNeg then none else (if 0 < (lg_cmp ((m_need x13.toNatClampNeg) + x10) (Int32.toInt64 (m_collateral x1.toNatClampNeg))) then
    K66 m_many m_need m_isBlock m_hours m_side m_quantity m_limit m_sent x9 x10 (x12 + 1)
    else
    if ((10 * x13) + (m_many x13.toNatClampNeg)) < 0 ∨ 240 ≤ ((10 * x13) + (m_many x13.toNatClampNeg)).toNatClampNeg then none else K66 (upd m_many x13.toNatClampNeg ((m_many x13.toNatClampNeg) + 1)) (vp_updL m_need x13.toNatClampNeg ((m_need x13.toNatClampNeg) + x10)) (upd m_isBlock ((10 * x13) + (m_many x13.toNatClampNeg)).toNatClampNeg (vp_nar .boolean x3)) (upd m_hours ((10 * x13) + (m_many x13.toNatClampNeg)).toNatClampNeg x4) (upd m_side ((10 * x13) + (m_many x13.toNatClampNeg)).toNatClampNeg x5) (upd m_quantity ((10 * x13) + (m_many x13.toNatClampNeg)).toNatClampNeg x6) (upd m_limit ((10 * x13) + (m_many x13.toNatClampNeg)).toNatClampNeg x7) m_sent (x9 + 1) x10 (x12 + 1)))
def f_m_send_L66 (m_collateral : Nat → Int32) (x1 : Int32) (x2 : Int32) (x3 : Int32) (x4 : Int32) (x5 : Int32) (x6 : Int32) (x7 : Int32) : Nat → (Nat → Int32) → (Nat → Int64) → (Nat → Int32) → (Nat → Int32) → (Nat → Int32) → (Nat → Int32) → (Nat → Int32) → (Nat → Int32) → Int32 → Int64 → Int32 → Option (Int32 × (Nat → Int32) × (Nat → Int64) × (Nat → Int32) × (Nat → Int32) × (Nat → Int32) × (Nat → Int32) × (Nat → Int32) × (Nat → Int32))
  | 0, _, _, _, _, _, _, _, _, _, _, _ => none
  | n + 1, m_many, m_need, m_isBlock, m_hours, m_side, m_quantity, m_limit, m_sent, x9, x10, x12 =>
    (if 4 ≤ x12 then
    some (x9, m_many, m_need, m_isBlock, m_hours, m_side, m_quantity, m_limit, m_sent)
    else
    (if x2 = (-1) then
    f_m_send_b91 m_collateral x1 x2 x3 x4 x5 x6 x7 (f_m_send_L66 m_collateral x1 x2 x3 x4 x5 x6 x7 n) m_many m_need m_isBlock m_hours m_side m_quantity m_limit m_sent x9 x10 x12 ((4 * x1) + x12)
    else
    (if x2 = x12 then
    f_m_send_b91 m_collateral x1 x2 x3 x4 x5 x6 x7 (f_m_send_L66 m_collateral x1 x2 x3 x4 x5 x6 x7 n) m_many m_need m_isBlock m_hours m_side m_quantity m_limit m_sent x9 x10 x12 ((4 * x1) + x12)
    else
    f_m_send_L66 m_collateral x1 x2 x3 x4 x5 x6 x7 n m_many m_need m_isBlock m_hours m_side m_quantity m_limit m_sent x9 x10 (x12 + 1))))
def f_m_send_b61 (m_collateral : Nat → Int32) (x1 : Int32) (x2 : Int32) (x3 : Int32) (x4 : Int32) (x5 : Int32) (x6 : Int32) (x7 : Int32) (m_many : Nat → Int32) (m_need : Nat → Int64) (m_isBlock : Nat → Int32) (m_hours : Nat → Int32) (m_side : Nat → Int32) (m_quantity : Nat → Int32) (m_limit : Nat → Int32) (m_sent : Nat → Int32) (x9 : Int32) (s0 : Int64) : Option (Int32 × (Nat → Int32) × (Nat → Int64) × (Nat → Int32) × (Nat → Int32) × (Nat → Int32) × (Nat → Int32) × (Nat → Int32) × (Nat → Int32)) :=
    f_m_send_L66 m_collateral x1 x2 x3 x4 x5 x6 x7 1000 m_many m_need m_isBlock m_hours m_side m_quantity m_limit m_sent x9 s0 0
def f_m_send_b60 (m_collateral : Nat → Int32) (x1 : Int32) (x2 : Int32) (x3 : Int32) (x4 : Int32) (x5 : Int32) (x6 : Int32) (x7 : Int32) (m_many : Nat → Int32) (m_need : Nat → Int64) (m_isBlock : Nat → Int32) (m_hours : Nat → Int32) (m_side : Nat → Int32) (m_quantity : Nat → Int32) (m_limit : Nat → Int32) (m_sent : Nat → Int32) (x9 : Int32) : Option (Int32 × (Nat → Int32) × (Nat → Int64) × (Nat → Int32) × (Nat → Int32) × (Nat → Int32) × (Nat → Int32) × (Nat → Int32) × (Nat → Int32)) :=
    f_m_send_b61 m_collateral x1 x2 x3 x4 x5 x6 x7 m_many m_need m_isBlock m_hours m_side m_quantity m_limit m_sent x9 0
def f_m_send_b34 (m_collateral : Nat → Int32) (x1 : Int32) (x2 : Int32) (x3 : Int32) (x4 : Int32) (x5 : Int32) (x6 : Int32) (x7 : Int32) (x8 : Int32) (m_many : Nat → Int32) (m_need : Nat → Int64) (m_isBlock : Nat → Int32) (m_hours : Nat → Int32) (m_side : Nat → Int32) (m_quantity : Nat → Int32) (m_limit : Nat → Int32) (m_sent : Nat → Int32) (x9 : Int32) : Option (Int32 × (Nat → Int32) × (Nat → Int64) × (Nat → Int32) × (Nat → Int32) × (Nat → Int32) × (Nat → Int32) × (Nat → Int32) × (Nat → Int32)) :=
    (if x5 = 1 then
    (if 0 ≤ x7 then
    f_m_send_b60 m_collateral x1 x2 x3 x4 x5 x6 x7 m_many m_need m_isBlock m_hours m_side m_quantity m_limit m_sent x9
    else
    f_m_send_b61 m_collateral x1 x2 x3 x4 x5 x6 x7 m_many m_need m_isBlock m_hours m_side m_quantity m_limit m_sent x9 (((-(Int32.toInt64 x6)) * (Int32.toInt64 x7)) * (Int32.toInt64 x8)))
    else
    f_m_send_b60 m_collateral x1 x2 x3 x4 x5 x6 x7 m_many m_need m_isBlock m_hours m_side m_quantity m_limit m_sent x9)
def f_m_send (m_collateral : Nat → Int32) (m_many : Nat → Int32) (m_need : Nat → Int64) (m_isBlock : Nat → Int32) (m_hours : Nat → Int32) (m_side : Nat → Int32) (m_quantity : Nat → Int32) (m_limit : Nat → Int32) (m_sent : Nat → Int32) (x1 : Int32) (x2 : Int32) (x3 : Int32) (x4 : Int32) (x5 : Int32) (x6 : Int32) (x7 : Int32) (x8 : Int32) : Option (Int32 × (Nat → Int32) × (Nat → Int64) × (Nat → Int32) × (Nat → Int32) × (Nat → Int32) × (Nat → Int32) × (Nat → Int32) × (Nat → Int32)) :=
    if x1 < 0 ∨ 6 ≤ x1.toNatClampNeg then none else (if x5 = 0 then
    (if x7 ≤ 0 then
    f_m_send_b34 m_collateral x1 x2 x3 x4 x5 x6 x7 x8 m_many m_need m_isBlock m_hours m_side m_quantity m_limit (upd m_sent x1.toNatClampNeg (vp_nar .boolean 1)) 0
    else
    f_m_send_b61 m_collateral x1 x2 x3 x4 x5 x6 x7 m_many m_need m_isBlock m_hours m_side m_quantity m_limit (upd m_sent x1.toNatClampNeg (vp_nar .boolean 1)) 0 (((Int32.toInt64 x6) * (Int32.toInt64 x7)) * (Int32.toInt64 x8)))
    else
    f_m_send_b34 m_collateral x1 x2 x3 x4 x5 x6 x7 x8 m_many m_need m_isBlock m_hours m_side m_quantity m_limit (upd m_sent x1.toNatClampNeg (vp_nar .boolean 1)) 0)
def f_m_isBad_b60 (m_n : Int32) : Option (Int32) :=
    some (1)
def f_m_isBad (m_n : Int32) (x1 : Int32) (x2 : Int32) (x3 : Int32) (x4 : Int32) (x5 : Int32) : Option (Int32) :=
    (f_m_isMember m_n x1).bind fun r1 =>
    (if r1 = 0 then
    f_m_isBad_b60 m_n
    else
    (f_m_in (Int32.toInt64 x2) (-1) 3).bind fun r2 =>
    (if r2 = 0 then
    f_m_isBad_b60 m_n
    else
    (f_m_in (Int32.toInt64 x3) 0 1).bind fun r3 =>
    (if r3 = 0 then
    f_m_isBad_b60 m_n
    else
    (f_m_in (Int32.toInt64 x4) 1 1000).bind fun r4 =>
    (if r4 = 0 then
    f_m_isBad_b60 m_n
    else
    (f_m_in (Int32.toInt64 x5) (-5000) 40000).bind fun r5 =>
    (if r5 = 0 then
    f_m_isBad_b60 m_n
    else
    some (0))))))
def f_m_order_b56 (m_n : Int32) (m_collateral : Nat → Int32) (m_sealed : Nat → Int32) (x1 : Int32) (x2 : Int32) (x3 : Int32) (x4 : Int32) (x5 : Int32) (x6 : Int32) (m_thrown : Int32) (m_many : Nat → Int32) (m_need : Nat → Int64) (m_isBlock : Nat → Int32) (m_hours : Nat → Int32) (m_side : Nat → Int32) (m_quantity : Nat → Int32) (m_limit : Nat → Int32) (m_sent : Nat → Int32) (s1 : Int32) (s2 : Int32) : Option (Int32 × Int32 × (Nat → Int32) × (Nat → Int64) × (Nat → Int32) × (Nat → Int32) × (Nat → Int32) × (Nat → Int32) × (Nat → Int32) × (Nat → Int32)) :=
    (f_m_throwing m_thrown s1 s2).bind fun r4 =>
    (if r4.1 = 0 then
    (f_m_send m_collateral m_many m_need m_isBlock m_hours m_side m_quantity m_limit m_sent x1 x2 0 x3 x4 x5 x6 1).bind fun r5 =>
    some (r5.1, r4.2, r5.2.1, r5.2.2.1, r5.2.2.2.1, r5.2.2.2.2.1, r5.2.2.2.2.2.1, r5.2.2.2.2.2.2.1, r5.2.2.2.2.2.2.2.1, r5.2.2.2.2.2.2.2.2)
    else
    some (0, r4.2, m_many, m_need, m_isBlock, m_hours, m_side, m_quantity, m_limit, m_sent))
def f_m_order_b55 (m_n : Int32) (m_collateral : Nat → Int32) (m_sealed : Nat → Int32) (x1 : Int32) (x2 : Int32) (x3 : Int32) (x4 : Int32) (x5 : Int32) (x6 : Int32) (m_thrown : Int32) (m_many : Nat → Int32) (m_need : Nat → Int64) (m_isBlock : Nat → Int32) (m_hours : Nat → Int32) (m_side : Nat → Int32) (m_quantity : Nat → Int32) (m_limit : Nat → Int32) (m_sent : Nat → Int32) (s1 : Int32) : Option (Int32 × Int32 × (Nat → Int32) × (Nat → Int64) × (Nat → Int32) × (Nat → Int32) × (Nat → Int32) × (Nat → Int32) × (Nat → Int32) × (Nat → Int32)) :=
    f_m_order_b56 m_n m_collateral m_sealed x1 x2 x3 x4 x5 x6 m_thrown m_many m_need m_isBlock m_hours m_side m_quantity m_limit m_sent s1 0
def f_m_order_b32 (m_n : Int32) (m_collateral : Nat → Int32) (m_sealed : Nat → Int32) (x1 : Int32) (x2 : Int32) (x3 : Int32) (x4 : Int32) (x5 : Int32) (x6 : Int32) (m_thrown : Int32) (m_many : Nat → Int32) (m_need : Nat → Int64) (m_isBlock : Nat → Int32) (m_hours : Nat → Int32) (m_side : Nat → Int32) (m_quantity : Nat → Int32) (m_limit : Nat → Int32) (m_sent : Nat → Int32) (s0 : Int32) : Option (Int32 × Int32 × (Nat → Int32) × (Nat → Int64) × (Nat → Int32) × (Nat → Int32) × (Nat → Int32) × (Nat → Int32) × (Nat → Int32) × (Nat → Int32)) :=
    (if s0 = 0 then
    if x1 < 0 ∨ 6 ≤ x1.toNatClampNeg then none else (if (m_sealed x1.toNatClampNeg) = 0 then
    f_m_order_b55 m_n m_collateral m_sealed x1 x2 x3 x4 x5 x6 m_thrown m_many m_need m_isBlock m_hours m_side m_quantity m_limit m_sent s0
    else
    f_m_order_b56 m_n m_collateral m_sealed x1 x2 x3 x4 x5 x6 m_thrown m_many m_need m_isBlock m_hours m_side m_quantity m_limit m_sent s0 1)
    else
    f_m_order_b55 m_n m_collateral m_sealed x1 x2 x3 x4 x5 x6 m_thrown m_many m_need m_isBlock m_hours m_side m_quantity m_limit m_sent s0)
def f_m_order_b27 (m_n : Int32) (m_collateral : Nat → Int32) (m_sealed : Nat → Int32) (x1 : Int32) (x2 : Int32) (x3 : Int32) (x4 : Int32) (x5 : Int32) (x6 : Int32) (m_thrown : Int32) (m_many : Nat → Int32) (m_need : Nat → Int64) (m_isBlock : Nat → Int32) (m_hours : Nat → Int32) (m_side : Nat → Int32) (m_quantity : Nat → Int32) (m_limit : Nat → Int32) (m_sent : Nat → Int32) : Option (Int32 × Int32 × (Nat → Int32) × (Nat → Int64) × (Nat → Int32) × (Nat → Int32) × (Nat → Int32) × (Nat → Int32) × (Nat → Int32) × (Nat → Int32)) :=
    f_m_order_b32 m_n m_collateral m_sealed x1 x2 x3 x4 x5 x6 m_thrown m_many m_need m_isBlock m_hours m_side m_quantity m_limit m_sent 1
def f_m_order (m_thrown : Int32) (m_n : Int32) (m_collateral : Nat → Int32) (m_many : Nat → Int32) (m_need : Nat → Int64) (m_isBlock : Nat → Int32) (m_hours : Nat → Int32) (m_side : Nat → Int32) (m_quantity : Nat → Int32) (m_limit : Nat → Int32) (m_sent : Nat → Int32) (m_sealed : Nat → Int32) (x1 : Int32) (x2 : Int32) (x3 : Int32) (x4 : Int32) (x5 : Int32) (x6 : Int32) : Option (Int32 × Int32 × (Nat → Int32) × (Nat → Int64) × (Nat → Int32) × (Nat → Int32) × (Nat → Int32) × (Nat → Int32) × (Nat → Int32) × (Nat → Int32)) :=
    (f_m_isBad m_n x1 x2 x4 x5 x6).bind fun r1 =>
    (if r1 = 0 then
    (f_m_in (Int32.toInt64 x3) 0 2).bind fun r2 =>
    (if r2 = 0 then
    f_m_order_b27 m_n m_collateral m_sealed x1 x2 x3 x4 x5 x6 m_thrown m_many m_need m_isBlock m_hours m_side m_quantity m_limit m_sent
    else
    f_m_order_b32 m_n m_collateral m_sealed x1 x2 x3 x4 x5 x6 m_thrown m_many m_need m_isBlock m_hours m_side m_quantity m_limit m_sent 0)
    else
    f_m_order_b27 m_n m_collateral m_sealed x1 x2 x3 x4 x5 x6 m_thrown m_many m_need m_isBlock m_hours m_side m_quantity m_limit m_sent)
def f_m_block_b64 (m_n : Int32) (m_collateral : Nat → Int32) (m_sealed : Nat → Int32) (x1 : Int32) (x2 : Int32) (x3 : Int32) (x4 : Int32) (x5 : Int32) (x6 : Int32) (m_thrown : Int32) (m_many : Nat → Int32) (m_need : Nat → Int64) (m_isBlock : Nat → Int32) (m_hours : Nat → Int32) (m_side : Nat → Int32) (m_quantity : Nat → Int32) (m_limit : Nat → Int32) (m_sent : Nat → Int32) (s1 : Int32) (s2 : Int32) : Option (Int32 × Int32 × (Nat → Int32) × (Nat → Int64) × (Nat → Int32) × (Nat → Int32) × (Nat → Int32) × (Nat → Int32) × (Nat → Int32) × (Nat → Int32)) :=
    (f_m_throwing m_thrown s1 s2).bind fun r3 =>
    (if r3.1 = 0 then
    (f_m_send m_collateral m_many m_need m_isBlock m_hours m_side m_quantity m_limit m_sent x1 x2 1 x3 x4 x5 x6 (((x3 - x3 / 4 * 4) - (x3 / 4)) + 1)).bind fun r4 =>
    some (r4.1, r3.2, r4.2.1, r4.2.2.1, r4.2.2.2.1, r4.2.2.2.2.1, r4.2.2.2.2.2.1, r4.2.2.2.2.2.2.1, r4.2.2.2.2.2.2.2.1, r4.2.2.2.2.2.2.2.2)
    else
    some (0, r3.2, m_many, m_need, m_isBlock, m_hours, m_side, m_quantity, m_limit, m_sent))
def f_m_block_b63 (m_n : Int32) (m_collateral : Nat → Int32) (m_sealed : Nat → Int32) (x1 : Int32) (x2 : Int32) (x3 : Int32) (x4 : Int32) (x5 : Int32) (x6 : Int32) (m_thrown : Int32) (m_many : Nat → Int32) (m_need : Nat → Int64) (m_isBlock : Nat → Int32) (m_hours : Nat → Int32) (m_side : Nat → Int32) (m_quantity : Nat → Int32) (m_limit : Nat → Int32) (m_sent : Nat → Int32) (s1 : Int32) : Option (Int32 × Int32 × (Nat → Int32) × (Nat → Int64) × (Nat → Int32) × (Nat → Int32) × (Nat → Int32) × (Nat → Int32) × (Nat → Int32) × (Nat → Int32)) :=
    f_m_block_b64 m_n m_collateral m_sealed x1 x2 x3 x4 x5 x6 m_thrown m_many m_need m_isBlock m_hours m_side m_quantity m_limit m_sent s1 0
def f_m_block_b40 (m_n : Int32) (m_collateral : Nat → Int32) (m_sealed : Nat → Int32) (x1 : Int32) (x2 : Int32) (x3 : Int32) (x4 : Int32) (x5 : Int32) (x6 : Int32) (m_thrown : Int32) (m_many : Nat → Int32) (m_need : Nat → Int64) (m_isBlock : Nat → Int32) (m_hours : Nat → Int32) (m_side : Nat → Int32) (m_quantity : Nat → Int32) (m_limit : Nat → Int32) (m_sent : Nat → Int32) (s0 : Int32) : Option (Int32 × Int32 × (Nat → Int32) × (Nat → Int64) × (Nat → Int32) × (Nat → Int32) × (Nat → Int32) × (Nat → Int32) × (Nat → Int32) × (Nat → Int32)) :=
    (if s0 = 0 then
    if x1 < 0 ∨ 6 ≤ x1.toNatClampNeg then none else (if (m_sealed x1.toNatClampNeg) = 0 then
    f_m_block_b63 m_n m_collateral m_sealed x1 x2 x3 x4 x5 x6 m_thrown m_many m_need m_isBlock m_hours m_side m_quantity m_limit m_sent s0
    else
    f_m_block_b64 m_n m_collateral m_sealed x1 x2 x3 x4 x5 x6 m_thrown m_many m_need m_isBlock m_hours m_side m_quantity m_limit m_sent s0 1)
    else
    f_m_block_b63 m_n m_collateral m_sealed x1 x2 x3 x4 x5 x6 m_thrown m_many m_need m_isBlock m_hours m_side m_quantity m_limit m_sent s0)
def f_m_block_b35 (m_n : Int32) (m_collateral : Nat → Int32) (m_sealed : Nat → Int32) (x1 : Int32) (x2 : Int32) (x3 : Int32) (x4 : Int32) (x5 : Int32) (x6 : Int32) (m_thrown : Int32) (m_many : Nat → Int32) (m_need : Nat → Int64) (m_isBlock : Nat → Int32) (m_hours : Nat → Int32) (m_side : Nat → Int32) (m_quantity : Nat → Int32) (m_limit : Nat → Int32) (m_sent : Nat → Int32) : Option (Int32 × Int32 × (Nat → Int32) × (Nat → Int64) × (Nat → Int32) × (Nat → Int32) × (Nat → Int32) × (Nat → Int32) × (Nat → Int32) × (Nat → Int32)) :=
    f_m_block_b40 m_n m_collateral m_sealed x1 x2 x3 x4 x5 x6 m_thrown m_many m_need m_isBlock m_hours m_side m_quantity m_limit m_sent 1
def f_m_block (m_thrown : Int32) (m_n : Int32) (m_collateral : Nat → Int32) (m_many : Nat → Int32) (m_need : Nat → Int64) (m_isBlock : Nat → Int32) (m_hours : Nat → Int32) (m_side : Nat → Int32) (m_quantity : Nat → Int32) (m_limit : Nat → Int32) (m_sent : Nat → Int32) (m_sealed : Nat → Int32) (x1 : Int32) (x2 : Int32) (x3 : Int32) (x4 : Int32) (x5 : Int32) (x6 : Int32) : Option (Int32 × Int32 × (Nat → Int32) × (Nat → Int64) × (Nat → Int32) × (Nat → Int32) × (Nat → Int32) × (Nat → Int32) × (Nat → Int32) × (Nat → Int32)) :=
    (f_m_isBad m_n x1 x2 x4 x5 x6).bind fun r1 =>
    (if r1 = 0 then
    (if x3 < 0 then
    f_m_block_b35 m_n m_collateral m_sealed x1 x2 x3 x4 x5 x6 m_thrown m_many m_need m_isBlock m_hours m_side m_quantity m_limit m_sent
    else
    (if 2 < (x3 - x3 / 4 * 4) then
    f_m_block_b35 m_n m_collateral m_sealed x1 x2 x3 x4 x5 x6 m_thrown m_many m_need m_isBlock m_hours m_side m_quantity m_limit m_sent
    else
    (if (x3 / 4) ≤ (x3 - x3 / 4 * 4) then
    f_m_block_b40 m_n m_collateral m_sealed x1 x2 x3 x4 x5 x6 m_thrown m_many m_need m_isBlock m_hours m_side m_quantity m_limit m_sent 0
    else
    f_m_block_b35 m_n m_collateral m_sealed x1 x2 x3 x4 x5 x6 m_thrown m_many m_need m_isBlock m_hours m_side m_quantity m_limit m_sent)))
    else
    f_m_block_b35 m_n m_collateral m_sealed x1 x2 x3 x4 x5 x6 m_thrown m_many m_need m_isBlock m_hours m_side m_quantity m_limit m_sent)
def f_m_sealedOnes_L4 (m_n : Int32) (m_sealed : Nat → Int32) : Nat → Int32 → Int32 → Option (Int32)
  | 0, _, _ => none
  | n + 1, x1, x2 =>
    (if m_n ≤ x2 then
    some (x1)
    else
    if x2 < 0 ∨ 6 ≤ x2.toNatClampNeg then none else (if (m_sealed x2.toNatClampNeg) = 0 then
    f_m_sealedOnes_L4 m_n m_sealed n (x1 + 0) (x2 + 1)
    else
    f_m_sealedOnes_L4 m_n m_sealed n (x1 + 1) (x2 + 1)))
def f_m_sealedOnes (m_n : Int32) (m_sealed : Nat → Int32) : Option (Int32) :=
    f_m_sealedOnes_L4 m_n m_sealed 1000 0 0
def f_m_seal_b34 (m_n : Int32) (x1 : Int32) (m_thrown : Int32) (m_sealed : Nat → Int32) (s1 : Int32) (s2 : Int32) : Option (Int32 × Int32 × (Nat → Int32)) :=
    (f_m_throwing m_thrown s1 s2).bind fun r3 =>
    (if r3.1 = 0 then
    if x1 < 0 ∨ 6 ≤ x1.toNatClampNeg then none else (f_m_sealedOnes m_n (upd m_sealed x1.toNatClampNeg (vp_nar .boolean 1))).bind fun r5 =>
    some (r5, r3.2, (upd m_sealed x1.toNatClampNeg (vp_nar .boolean 1)))
    else
    some (0, r3.2, m_sealed))
def f_m_seal_b33 (m_n : Int32) (x1 : Int32) (m_thrown : Int32) (m_sealed : Nat → Int32) (s1 : Int32) : Option (Int32 × Int32 × (Nat → Int32)) :=
    f_m_seal_b34 m_n x1 m_thrown m_sealed s1 0
def f_m_seal_b13 (m_n : Int32) (x1 : Int32) (m_thrown : Int32) (m_sealed : Nat → Int32) (s0 : Int32) : Option (Int32 × Int32 × (Nat → Int32)) :=
    (if s0 = 0 then
    if x1 < 0 ∨ 6 ≤ x1.toNatClampNeg then none else (if (m_sealed x1.toNatClampNeg) = 0 then
    f_m_seal_b33 m_n x1 m_thrown m_sealed s0
    else
    f_m_seal_b34 m_n x1 m_thrown m_sealed s0 1)
    else
    f_m_seal_b33 m_n x1 m_thrown m_sealed s0)
def f_m_seal (m_thrown : Int32) (m_n : Int32) (m_sealed : Nat → Int32) (x1 : Int32) : Option (Int32 × Int32 × (Nat → Int32)) :=
    (f_m_isMember m_n x1).bind fun r1 =>
    (if r1 = 0 then
    f_m_seal_b13 m_n x1 m_thrown m_sealed 1
    else
    f_m_seal_b13 m_n x1 m_thrown m_sealed 0)
def f_m_liar_b43 (m_rounds : Int32) (x1 : Int32) (m_thrown : Int32) (m_liar : Int32) (s1 : Int32) (s2 : Int32) : Option (Int32 × Int32) :=
    (f_m_throwing m_thrown s1 s2).bind fun r2 =>
    (if r2.1 = 0 then
    some (r2.2, x1)
    else
    some (r2.2, m_liar))
def f_m_liar_b38 (m_rounds : Int32) (x1 : Int32) (m_thrown : Int32) (m_liar : Int32) (s1 : Int32) : Option (Int32 × Int32) :=
    f_m_liar_b43 m_rounds x1 m_thrown m_liar s1 1
def f_m_liar_b42 (m_rounds : Int32) (x1 : Int32) (m_thrown : Int32) (m_liar : Int32) (s1 : Int32) : Option (Int32 × Int32) :=
    f_m_liar_b43 m_rounds x1 m_thrown m_liar s1 0
def f_m_liar_b17 (m_rounds : Int32) (x1 : Int32) (m_thrown : Int32) (m_liar : Int32) (s0 : Int32) : Option (Int32 × Int32) :=
    (if s0 = 0 then
    (if 0 ≤ m_liar then
    f_m_liar_b38 m_rounds x1 m_thrown m_liar s0
    else
    (if m_rounds ≤ 0 then
    f_m_liar_b42 m_rounds x1 m_thrown m_liar s0
    else
    f_m_liar_b38 m_rounds x1 m_thrown m_liar s0))
    else
    f_m_liar_b42 m_rounds x1 m_thrown m_liar s0)
def f_m_liar (m_thrown : Int32) (m_rounds : Int32) (m_liar : Int32) (x1 : Int32) : Option (Int32 × Int32) :=
    (f_m_in (Int32.toInt64 x1) 0 3).bind fun r1 =>
    (if r1 = 0 then
    f_m_liar_b17 m_rounds x1 m_thrown m_liar 1
    else
    f_m_liar_b17 m_rounds x1 m_thrown m_liar 0)
def f_m_tell_b167 (m_n : Int32) (m_rounds : Int32) (m_liar : Int32) (x1 : Int32) (x2 : Int32) (x3 : Int32) (x4 : Int32) (m_thrown : Int32) (m_told : Nat → Int32) (m_passed : Nat → Int32) (x6 : Int32) (s1 : Int32) : Option (Int32 × (Nat → Int32) × (Nat → Int32)) :=
    (f_m_throwing m_thrown s1 x6).bind fun r6 =>
    (if r6.1 = 0 then
    (if m_rounds = 1 then
    if ((6 * x1) + x3) < 0 ∨ 24 ≤ ((6 * x1) + x3).toNatClampNeg then none else some (r6.2, (upd m_told ((6 * x1) + x3).toNatClampNeg x4), m_passed)
    else
    if (((24 * x1) + (6 * x2)) + x3) < 0 ∨ 96 ≤ (((24 * x1) + (6 * x2)) + x3).toNatClampNeg then none else some (r6.2, m_told, (upd m_passed (((24 * x1) + (6 * x2)) + x3).toNatClampNeg x4)))
    else
    some (r6.2, m_told, m_passed))
def f_m_tell_b162 (m_n : Int32) (m_rounds : Int32) (m_liar : Int32) (x1 : Int32) (x2 : Int32) (x3 : Int32) (x4 : Int32) (m_thrown : Int32) (m_told : Nat → Int32) (m_passed : Nat → Int32) (x6 : Int32) : Option (Int32 × (Nat → Int32) × (Nat → Int32)) :=
    f_m_tell_b167 m_n m_rounds m_liar x1 x2 x3 x4 m_thrown m_told m_passed x6 1
def f_m_tell_b149 (m_n : Int32) (m_rounds : Int32) (m_liar : Int32) (x1 : Int32) (x2 : Int32) (x3 : Int32) (x4 : Int32) (m_thrown : Int32) (m_told : Nat → Int32) (m_passed : Nat → Int32) (x5 : Int32) (x6 : Int32) (s0 : Int32) : Option (Int32 × (Nat → Int32) × (Nat → Int32)) :=
    (if x5 = 0 then
    (if s0 = 0 then
    f_m_tell_b167 m_n m_rounds m_liar x1 x2 x3 x4 m_thrown m_told m_passed x6 0
    else
    f_m_tell_b162 m_n m_rounds m_liar x1 x2 x3 x4 m_thrown m_told m_passed x6)
    else
    f_m_tell_b162 m_n m_rounds m_liar x1 x2 x3 x4 m_thrown m_told m_passed x6)
def f_m_tell_b144 (m_n : Int32) (m_rounds : Int32) (m_liar : Int32) (x1 : Int32) (x2 : Int32) (x3 : Int32) (x4 : Int32) (m_thrown : Int32) (m_told : Nat → Int32) (m_passed : Nat → Int32) (x5 : Int32) (x6 : Int32) : Option (Int32 × (Nat → Int32) × (Nat → Int32)) :=
    f_m_tell_b149 m_n m_rounds m_liar x1 x2 x3 x4 m_thrown m_told m_passed x5 x6 1
def f_m_tell_b148 (m_n : Int32) (m_rounds : Int32) (m_liar : Int32) (x1 : Int32) (x2 : Int32) (x3 : Int32) (x4 : Int32) (m_thrown : Int32) (m_told : Nat → Int32) (m_passed : Nat → Int32) (x5 : Int32) (x6 : Int32) : Option (Int32 × (Nat → Int32) × (Nat → Int32)) :=
    f_m_tell_b149 m_n m_rounds m_liar x1 x2 x3 x4 m_thrown m_told m_passed x5 x6 0
def f_m_tell_b92 (m_n : Int32) (m_rounds : Int32) (m_liar : Int32) (x1 : Int32) (x2 : Int32) (x3 : Int32) (x4 : Int32) (m_thrown : Int32) (m_told : Nat → Int32) (m_passed : Nat → Int32) (x5 : Int32) (s0 : Int32) : Option (Int32 × (Nat → Int32) × (Nat → Int32)) :=
    (if x5 = 0 then
    (if s0 = 0 then
    (if x1 = m_liar then
    f_m_tell_b144 m_n m_rounds m_liar x1 x2 x3 x4 m_thrown m_told m_passed x5 s0
    else
    (if m_rounds = 1 then
    (if x2 = m_liar then
    f_m_tell_b148 m_n m_rounds m_liar x1 x2 x3 x4 m_thrown m_told m_passed x5 s0
    else
    f_m_tell_b144 m_n m_rounds m_liar x1 x2 x3 x4 m_thrown m_told m_passed x5 s0)
    else
    (if x2 = m_liar then
    f_m_tell_b144 m_n m_rounds m_liar x1 x2 x3 x4 m_thrown m_told m_passed x5 s0
    else
    (if x2 = x1 then
    f_m_tell_b144 m_n m_rounds m_liar x1 x2 x3 x4 m_thrown m_told m_passed x5 s0
    else
    f_m_tell_b148 m_n m_rounds m_liar x1 x2 x3 x4 m_thrown m_told m_passed x5 s0))))
    else
    f_m_tell_b148 m_n m_rounds m_liar x1 x2 x3 x4 m_thrown m_told m_passed x5 s0)
    else
    f_m_tell_b148 m_n m_rounds m_liar x1 x2 x3 x4 m_thrown m_told m_passed x5 s0)
def f_m_tell_b87 (m_n : Int32) (m_rounds : Int32) (m_liar : Int32) (x1 : Int32) (x2 : Int32) (x3 : Int32) (x4 : Int32) (m_thrown : Int32) (m_told : Nat → Int32) (m_passed : Nat → Int32) (x5 : Int32) : Option (Int32 × (Nat → Int32) × (Nat → Int32)) :=
    f_m_tell_b92 m_n m_rounds m_liar x1 x2 x3 x4 m_thrown m_told m_passed x5 1
def f_m_tell_b91 (m_n : Int32) (m_rounds : Int32) (m_liar : Int32) (x1 : Int32) (x2 : Int32) (x3 : Int32) (x4 : Int32) (m_thrown : Int32) (m_told : Nat → Int32) (m_passed : Nat → Int32) (x5 : Int32) : Option (Int32 × (Nat → Int32) × (Nat → Int32)) :=
    f_m_tell_b92 m_n m_rounds m_liar x1 x2 x3 x4 m_thrown m_told m_passed x5 0
def f_m_tell_b58 (m_n : Int32) (m_rounds : Int32) (m_liar : Int32) (x1 : Int32) (x2 : Int32) (x3 : Int32) (x4 : Int32) (m_thrown : Int32) (m_told : Nat → Int32) (m_passed : Nat → Int32) (s0 : Int32) : Option (Int32 × (Nat → Int32) × (Nat → Int32)) :=
    (if s0 = 0 then
    (if m_liar < 0 then
    f_m_tell_b87 m_n m_rounds m_liar x1 x2 x3 x4 m_thrown m_told m_passed s0
    else
    (f_m_in (Int32.toInt64 m_rounds) 1 2).bind fun r5 =>
    (if r5 = 0 then
    f_m_tell_b87 m_n m_rounds m_liar x1 x2 x3 x4 m_thrown m_told m_passed s0
    else
    f_m_tell_b91 m_n m_rounds m_liar x1 x2 x3 x4 m_thrown m_told m_passed s0))
    else
    f_m_tell_b91 m_n m_rounds m_liar x1 x2 x3 x4 m_thrown m_told m_passed s0)
def f_m_tell_b53 (m_n : Int32) (m_rounds : Int32) (m_liar : Int32) (x1 : Int32) (x2 : Int32) (x3 : Int32) (x4 : Int32) (m_thrown : Int32) (m_told : Nat → Int32) (m_passed : Nat → Int32) : Option (Int32 × (Nat → Int32) × (Nat → Int32)) :=
    f_m_tell_b58 m_n m_rounds m_liar x1 x2 x3 x4 m_thrown m_told m_passed 1
def f_m_tell (m_thrown : Int32) (m_n : Int32) (m_rounds : Int32) (m_liar : Int32) (m_told : Nat → Int32) (m_passed : Nat → Int32) (x1 : Int32) (x2 : Int32) (x3 : Int32) (x4 : Int32) : Option (Int32 × (Nat → Int32) × (Nat → Int32)) :=
    (f_m_in (Int32.toInt64 x1) 0 3).bind fun r1 =>
    (if r1 = 0 then
    f_m_tell_b53 m_n m_rounds m_liar x1 x2 x3 x4 m_thrown m_told m_passed
    else
    (f_m_in (Int32.toInt64 x2) 0 3).bind fun r2 =>
    (if r2 = 0 then
    f_m_tell_b53 m_n m_rounds m_liar x1 x2 x3 x4 m_thrown m_told m_passed
    else
    (f_m_isMember m_n x3).bind fun r3 =>
    (if r3 = 0 then
    f_m_tell_b53 m_n m_rounds m_liar x1 x2 x3 x4 m_thrown m_told m_passed
    else
    (f_m_in (Int32.toInt64 x4) (-1) (Int32.toInt64 ((4 * m_n) - 1))).bind fun r4 =>
    (if r4 = 0 then
    f_m_tell_b53 m_n m_rounds m_liar x1 x2 x3 x4 m_thrown m_told m_passed
    else
    f_m_tell_b58 m_n m_rounds m_liar x1 x2 x3 x4 m_thrown m_told m_passed 0))))
def f_m_size (m_many : Nat → Int32) (x1 : Int32) : Option (Int32) :=
    (if 0 ≤ x1 then
    if x1 < 0 ∨ 24 ≤ x1.toNatClampNeg then none else some ((m_many x1.toNatClampNeg))
    else
    some (0))
def f_m_alike_L22 (m_many : Nat → Int32) (m_isBlock : Nat → Int32) (m_hours : Nat → Int32) (m_side : Nat → Int32) (m_quantity : Nat → Int32) (m_limit : Nat → Int32) (x1 : Int32) (x2 : Int32) : Nat → Int32 → Int32 → Option (Int32)
  | 0, _, _ => none
  | n + 1, x3, x4 =>
    (f_m_size m_many x1).bind fun r3 =>
    (if r3 ≤ x4 then
    some ((vp_nar .boolean x3))
    else
    (if x3 = 0 then
    some ((vp_nar .boolean x3))
    else
    if ((10 * x1) + x4) < 0 ∨ 240 ≤ ((10 * x1) + x4).toNatClampNeg then none else if ((10 * x2) + x4) < 0 ∨ 240 ≤ ((10 * x2) + x4).toNatClampNeg then none else (if (m_isBlock ((10 * x1) + x4).toNatClampNeg) = (m_isBlock ((10 * x2) + x4).toNatClampNeg) then
    (if (m_hours ((10 * x1) + x4).toNatClampNeg) = (m_hours ((10 * x2) + x4).toNatClampNeg) then
    (if (m_side ((10 * x1) + x4).toNatClampNeg) = (m_side ((10 * x2) + x4).toNatClampNeg) then
    (if (m_quantity ((10 * x1) + x4).toNatClampNeg) = (m_quantity ((10 * x2) + x4).toNatClampNeg) then
    (if (m_limit ((10 * x1) + x4).toNatClampNeg) = (m_limit ((10 * x2) + x4).toNatClampNeg) then
    f_m_alike_L22 m_many m_isBlock m_hours m_side m_quantity m_limit x1 x2 n 1 (x4 + 1)
    else
    f_m_alike_L22 m_many m_isBlock m_hours m_side m_quantity m_limit x1 x2 n 0 (x4 + 1))
    else
    f_m_alike_L22 m_many m_isBlock m_hours m_side m_quantity m_limit x1 x2 n 0 (x4 + 1))
    else
    f_m_alike_L22 m_many m_isBlock m_hours m_side m_quantity m_limit x1 x2 n 0 (x4 + 1))
    else
    f_m_alike_L22 m_many m_isBlock m_hours m_side m_quantity m_limit x1 x2 n 0 (x4 + 1))
    else
    f_m_alike_L22 m_many m_isBlock m_hours m_side m_quantity m_limit x1 x2 n 0 (x4 + 1))))
def f_m_alike_b18 (m_many : Nat → Int32) (m_isBlock : Nat → Int32) (m_hours : Nat → Int32) (m_side : Nat → Int32) (m_quantity : Nat → Int32) (m_limit : Nat → Int32) (x1 : Int32) (x2 : Int32) (s0 : Int32) : Option (Int32) :=
    f_m_alike_L22 m_many m_isBlock m_hours m_side m_quantity m_limit x1 x2 1000 s0 0
def f_m_alike (m_many : Nat → Int32) (m_isBlock : Nat → Int32) (m_hours : Nat → Int32) (m_side : Nat → Int32) (m_quantity : Nat → Int32) (m_limit : Nat → Int32) (x1 : Int32) (x2 : Int32) : Option (Int32) :=
    (f_m_size m_many x1).bind fun r1 =>
    (f_m_size m_many x2).bind fun r2 =>
    (if r1 = r2 then
    f_m_alike_b18 m_many m_isBlock m_hours m_side m_quantity m_limit x1 x2 1
    else
    f_m_alike_b18 m_many m_isBlock m_hours m_side m_quantity m_limit x1 x2 0)
def f_m_toldTo (m_liar : Int32) (m_told : Nat → Int32) (x1 : Int32) (x2 : Int32) (x3 : Int32) : Option (Int32) :=
    (if x1 = m_liar then
    if ((6 * x2) + x3) < 0 ∨ 24 ≤ ((6 * x2) + x3).toNatClampNeg then none else (if (m_told ((6 * x2) + x3).toNatClampNeg) = (-2) then
    some (((4 * x3) + x1))
    else
    some ((m_told ((6 * x2) + x3).toNatClampNeg)))
    else
    some (((4 * x3) + x1)))
def f_m_passedTo_b44 (m_liar : Int32) (m_told : Nat → Int32) (m_passed : Nat → Int32) (x1 : Int32) (x2 : Int32) (x4 : Int32) : Option (Int32) :=
    (f_m_toldTo m_liar m_told x2 x1 x4).bind fun r2 =>
    some (r2)
def f_m_passedTo (m_liar : Int32) (m_told : Nat → Int32) (m_passed : Nat → Int32) (x1 : Int32) (x2 : Int32) (x3 : Int32) (x4 : Int32) : Option (Int32) :=
    (if x1 = m_liar then
    if (((24 * x3) + (6 * x2)) + x4) < 0 ∨ 96 ≤ (((24 * x3) + (6 * x2)) + x4).toNatClampNeg then none else (if (m_passed (((24 * x3) + (6 * x2)) + x4).toNatClampNeg) = (-2) then
    f_m_passedTo_b44 m_liar m_told m_passed x1 x2 x4
    else
    some ((m_passed (((24 * x3) + (6 * x2)) + x4).toNatClampNeg)))
    else
    f_m_passedTo_b44 m_liar m_told m_passed x1 x2 x4)
def f_m_word_b73 (m_many : Nat → Int32) (m_isBlock : Nat → Int32) (m_hours : Nat → Int32) (m_side : Nat → Int32) (m_quantity : Nat → Int32) (m_limit : Nat → Int32) (m_liar : Int32) (m_told : Nat → Int32) (m_passed : Nat → Int32) (x1 : Int32) (x2 : Int32) (x3 : Int32) (K32 : Int32 → Int32 → Int32 → Int32 → Int32 → Option (Int32)) (x4 : Int32) (x6 : Int32) (x7 : Int32) (x8 : Int32) (x9 : Int32) (s0 : Int32) : Option (Int32) :=
    (if x7 = 0 then
    K32 x4 s0 x9 0 (x8 + 1)
    else
    K32 x4 s0 x6 0 (x8 + 1))
def f_m_word_b120 (m_many : Nat → Int32) (m_isBlock : Nat → Int32) (m_hours : Nat → Int32) (m_side : Nat → Int32) (m_quantity : Nat → Int32) (m_limit : Nat → Int32) (m_liar : Int32) (m_told : Nat → Int32) (m_passed : Nat → Int32) (x4 : Int32) : Option (Int32) :=
    some (x4)
def f_m_word_L32 (m_many : Nat → Int32) (m_isBlock : Nat → Int32) (m_hours : Nat → Int32) (m_side : Nat → Int32) (m_quantity : Nat → Int32) (m_limit : Nat → Int32) (m_liar : Int32) (m_told : Nat → Int32) (m_passed : Nat → Int32) (x1 : Int32) (x2 : Int32) (x3 : Int32) : Nat → Int32 → Int32 → Int32 → Int32 → Int32 → Option (Int32)
  | 0, _, _, _, _, _ => none
  | n + 1, x4, x5, x6, x7, x8 =>
    (if 4 ≤ x8 then
    (f_m_alike m_many m_isBlock m_hours m_side m_quantity m_limit x4 x5).bind fun r2 =>
    (if r2 = 0 then
    (f_m_alike m_many m_isBlock m_hours m_side m_quantity m_limit x4 x6).bind fun r3 =>
    (if r3 = 0 then
    (f_m_alike m_many m_isBlock m_hours m_side m_quantity m_limit x5 x6).bind fun r4 =>
    (if r4 = 0 then
    some ((-1))
    else
    some (x5))
    else
    f_m_word_b120 m_many m_isBlock m_hours m_side m_quantity m_limit m_liar m_told m_passed x4)
    else
    f_m_word_b120 m_many m_isBlock m_hours m_side m_quantity m_limit m_liar m_told m_passed x4)
    else
    (if x8 = x1 then
    f_m_word_L32 m_many m_isBlock m_hours m_side m_quantity m_limit m_liar m_told m_passed x1 x2 x3 n x4 x5 x6 x7 (x8 + 1)
    else
    (if x8 = x2 then
    f_m_word_L32 m_many m_isBlock m_hours m_side m_quantity m_limit m_liar m_told m_passed x1 x2 x3 n x4 x5 x6 x7 (x8 + 1)
    else
    (f_m_passedTo m_liar m_told m_passed x8 x2 x1 x3).bind fun r5 =>
    (if x7 = 0 then
    f_m_word_b73 m_many m_isBlock m_hours m_side m_quantity m_limit m_liar m_told m_passed x1 x2 x3 (f_m_word_L32 m_many m_isBlock m_hours m_side m_quantity m_limit m_liar m_told m_passed x1 x2 x3 n) x4 x6 x7 x8 r5 x5
    else
    f_m_word_b73 m_many m_isBlock m_hours m_side m_quantity m_limit m_liar m_told m_passed x1 x2 x3 (f_m_word_L32 m_many m_isBlock m_hours m_side m_quantity m_limit m_liar m_told m_passed x1 x2 x3 n) x4 x6 x7 x8 r5 r5))))
def f_m_word (m_many : Nat → Int32) (m_isBlock : Nat → Int32) (m_hours : Nat → Int32) (m_side : Nat → Int32) (m_quantity : Nat → Int32) (m_limit : Nat → Int32) (m_liar : Int32) (m_told : Nat → Int32) (m_passed : Nat → Int32) (x1 : Int32) (x2 : Int32) (x3 : Int32) : Option (Int32) :=
    (if x1 = x2 then
    some (((4 * x3) + x2))
    else
    (f_m_toldTo m_liar m_told x2 x1 x3).bind fun r1 =>
    f_m_word_L32 m_many m_isBlock m_hours m_side m_quantity m_limit m_liar m_told m_passed x1 x2 x3 1000 r1 (-1) (-1) 1 0)
def f_m_vote_L27 (m_many : Nat → Int32) (m_isBlock : Nat → Int32) (m_hours : Nat → Int32) (m_side : Nat → Int32) (m_quantity : Nat → Int32) (m_limit : Nat → Int32) (m_liar : Int32) (m_told : Nat → Int32) (m_passed : Nat → Int32) (x1 : Int32) (x2 : Int32) (K5 : Int32 → Int32 → Option (Int32)) : Nat → Int32 → Int32 → Int32 → Int32 → Int32 → Option (Int32)
  | 0, _, _, _, _, _ => none
  | n + 1, x3, x4, x5, x6, x7 =>
    (if 4 ≤ x7 then
    (if x6 ≤ 2 then
    K5 x3 (x4 + 1)
    else
    K5 x5 (x4 + 1))
    else
    (f_m_word m_many m_isBlock m_hours m_side m_quantity m_limit m_liar m_told m_passed x1 x7 x2).bind fun r2 =>
    (f_m_alike m_many m_isBlock m_hours m_side m_quantity m_limit x5 r2).bind fun r3 =>
    (if r3 = 0 then
    f_m_vote_L27 m_many m_isBlock m_hours m_side m_quantity m_limit m_liar m_told m_passed x1 x2 K5 n x3 x4 x5 (x6 + 0) (x7 + 1)
    else
    f_m_vote_L27 m_many m_isBlock m_hours m_side m_quantity m_limit m_liar m_told m_passed x1 x2 K5 n x3 x4 x5 (x6 + 1) (x7 + 1)))
def f_m_vote_L5 (m_many : Nat → Int32) (m_isBlock : Nat → Int32) (m_hours : Nat → Int32) (m_side : Nat → Int32) (m_quantity : Nat → Int32) (m_limit : Nat → Int32) (m_liar : Int32) (m_told : Nat → Int32) (m_passed : Nat → Int32) (x1 : Int32) (x2 : Int32) : Nat → Int32 → Int32 → Option (Int32)
  | 0, _, _ => none
  | n + 1, x3, x4 =>
    (if 4 ≤ x4 then
    some (x3)
    else
    (f_m_word m_many m_isBlock m_hours m_side m_quantity m_limit m_liar m_told m_passed x1 x4 x2).bind fun r1 =>
    f_m_vote_L27 m_many m_isBlock m_hours m_side m_quantity m_limit m_liar m_told m_passed x1 x2 (f_m_vote_L5 m_many m_isBlock m_hours m_side m_quantity m_limit m_liar m_told m_passed x1 x2 n) 1000 x3 x4 r1 0 0)
def f_m_vote (m_many : Nat → Int32) (m_isBlock : Nat → Int32) (m_hours : Nat → Int32) (m_side : Nat → Int32) (m_quantity : Nat → Int32) (m_limit : Nat → Int32) (m_liar : Int32) (m_told : Nat → Int32) (m_passed : Nat → Int32) (x1 : Int32) (x2 : Int32) : Option (Int32) :=
    f_m_vote_L5 m_many m_isBlock m_hours m_side m_quantity m_limit m_liar m_told m_passed x1 x2 1000 (-1) 0
def f_m_round_L61 (m_n : Int32) (m_many : Nat → Int32) (m_isBlock : Nat → Int32) (m_hours : Nat → Int32) (m_side : Nat → Int32) (m_quantity : Nat → Int32) (m_limit : Nat → Int32) (m_sealed : Nat → Int32) (m_liar : Int32) (m_told : Nat → Int32) (m_passed : Nat → Int32) (K54 : Int32 → Int32 → (Nat → Int32) → Int32 → Option (Int32 × Int32 × Int32 × (Nat → Int32))) : Nat → Int32 → Int32 → (Nat → Int32) → Int32 → Int32 → Option (Int32 × Int32 × Int32 × (Nat → Int32))
  | 0, _, _, _, _, _ => none
  | n + 1, m_thrown, m_rounds, m_vectors, x1, x2 =>
    (if m_n ≤ x2 then
    K54 m_thrown m_rounds m_vectors (x1 + 1)
    else
    (f_m_vote m_many m_isBlock m_hours m_side m_quantity m_limit m_liar m_told m_passed x1 x2).bind fun r3 =>
    if ((6 * x1) + x2) < 0 ∨ 24 ≤ ((6 * x1) + x2).toNatClampNeg then none else f_m_round_L61 m_n m_many m_isBlock m_hours m_side m_quantity m_limit m_sealed m_liar m_told m_passed K54 n m_thrown m_rounds (upd m_vectors ((6 * x1) + x2).toNatClampNeg r3) x1 (x2 + 1))
def f_m_round_L54 (m_n : Int32) (m_many : Nat → Int32) (m_isBlock : Nat → Int32) (m_hours : Nat → Int32) (m_side : Nat → Int32) (m_quantity : Nat → Int32) (m_limit : Nat → Int32) (m_sealed : Nat → Int32) (m_liar : Int32) (m_told : Nat → Int32) (m_passed : Nat → Int32) : Nat → Int32 → Int32 → (Nat → Int32) → Int32 → Option (Int32 × Int32 × Int32 × (Nat → Int32))
  | 0, _, _, _, _ => none
  | n + 1, m_thrown, m_rounds, m_vectors, x1 =>
    (if 4 ≤ x1 then
    some (m_rounds, m_thrown, m_rounds, m_vectors)
    else
    f_m_round_L61 m_n m_many m_isBlock m_hours m_side m_quantity m_limit m_sealed m_liar m_told m_passed (f_m_round_L54 m_n m_many m_isBlock m_hours m_side m_quantity m_limit m_sealed m_liar m_told m_passed n) 1000 m_thrown m_rounds m_vectors x1 0)
def f_m_round_b25 (m_n : Int32) (m_many : Nat → Int32) (m_isBlock : Nat → Int32) (m_hours : Nat → Int32) (m_side : Nat → Int32) (m_quantity : Nat → Int32) (m_limit : Nat → Int32) (m_sealed : Nat → Int32) (m_liar : Int32) (m_told : Nat → Int32) (m_passed : Nat → Int32) (m_thrown : Int32) (m_rounds : Int32) (m_vectors : Nat → Int32) (s1 : Int32) : Option (Int32 × Int32 × Int32 × (Nat → Int32)) :=
    (f_m_throwing m_thrown s1 0).bind fun r2 =>
    (if r2.1 = 0 then
    (if (m_rounds + 1) = 3 then
    f_m_round_L54 m_n m_many m_isBlock m_hours m_side m_quantity m_limit m_sealed m_liar m_told m_passed 1000 r2.2 (m_rounds + 1) m_vectors 0
    else
    some ((m_rounds + 1), r2.2, (m_rounds + 1), m_vectors))
    else
    some (0, r2.2, m_rounds, m_vectors))
def f_m_round_b20 (m_n : Int32) (m_many : Nat → Int32) (m_isBlock : Nat → Int32) (m_hours : Nat → Int32) (m_side : Nat → Int32) (m_quantity : Nat → Int32) (m_limit : Nat → Int32) (m_sealed : Nat → Int32) (m_liar : Int32) (m_told : Nat → Int32) (m_passed : Nat → Int32) (m_thrown : Int32) (m_rounds : Int32) (m_vectors : Nat → Int32) : Option (Int32 × Int32 × Int32 × (Nat → Int32)) :=
    f_m_round_b25 m_n m_many m_isBlock m_hours m_side m_quantity m_limit m_sealed m_liar m_told m_passed m_thrown m_rounds m_vectors 1
def f_m_round (m_thrown : Int32) (m_n : Int32) (m_many : Nat → Int32) (m_isBlock : Nat → Int32) (m_hours : Nat → Int32) (m_side : Nat → Int32) (m_quantity : Nat → Int32) (m_limit : Nat → Int32) (m_sealed : Nat → Int32) (m_rounds : Int32) (m_liar : Int32) (m_told : Nat → Int32) (m_passed : Nat → Int32) (m_vectors : Nat → Int32) : Option (Int32 × Int32 × Int32 × (Nat → Int32)) :=
    (f_m_sealedOnes m_n m_sealed).bind fun r1 =>
    (if r1 < m_n then
    f_m_round_b20 m_n m_many m_isBlock m_hours m_side m_quantity m_limit m_sealed m_liar m_told m_passed m_thrown m_rounds m_vectors
    else
    (if m_rounds = 3 then
    f_m_round_b20 m_n m_many m_isBlock m_hours m_side m_quantity m_limit m_sealed m_liar m_told m_passed m_thrown m_rounds m_vectors
    else
    f_m_round_b25 m_n m_many m_isBlock m_hours m_side m_quantity m_limit m_sealed m_liar m_told m_passed m_thrown m_rounds m_vectors 0))
def f_m_vector_b162 (m_n : Int32) (m_many : Nat → Int32) (m_isBlock : Nat → Int32) (m_hours : Nat → Int32) (m_side : Nat → Int32) (m_quantity : Nat → Int32) (m_limit : Nat → Int32) (m_rounds : Int32) (m_vectors : Nat → Int32) (m_thrown : Int32) (s0 : Int32) (s1 : Int32) : Option (Int32 × Int32) :=
    some ((s0 + s1), m_thrown)
def f_m_vector_b113 (m_n : Int32) (m_many : Nat → Int32) (m_isBlock : Nat → Int32) (m_hours : Nat → Int32) (m_side : Nat → Int32) (m_quantity : Nat → Int32) (m_limit : Nat → Int32) (m_rounds : Int32) (m_vectors : Nat → Int32) (x3 : Int32) (x4 : Int32) (m_thrown : Int32) (x5 : Int32) (s1 : Int32) : Option (Int32 × Int32) :=
    (if s1 ≤ 0 then
    (if x4 = 0 then
    if ((10 * x5) + x3) < 0 ∨ 240 ≤ ((10 * x5) + x3).toNatClampNeg then none else (if (m_isBlock ((10 * x5) + x3).toNatClampNeg) = 0 then
    f_m_vector_b162 m_n m_many m_isBlock m_hours m_side m_quantity m_limit m_rounds m_vectors s1 (m_hours ((10 * x5) + x3).toNatClampNeg) 0
    else
    f_m_vector_b162 m_n m_many m_isBlock m_hours m_side m_quantity m_limit m_rounds m_vectors s1 (m_hours ((10 * x5) + x3).toNatClampNeg) 100)
    else
    (if x4 = 1 then
    if ((10 * x5) + x3) < 0 ∨ 240 ≤ ((10 * x5) + x3).toNatClampNeg then none else some ((m_side ((10 * x5) + x3).toNatClampNeg), s1)
    else
    (if x4 = 2 then
    if ((10 * x5) + x3) < 0 ∨ 240 ≤ ((10 * x5) + x3).toNatClampNeg then none else some ((m_quantity ((10 * x5) + x3).toNatClampNeg), s1)
    else
    if ((10 * x5) + x3) < 0 ∨ 240 ≤ ((10 * x5) + x3).toNatClampNeg then none else some ((m_limit ((10 * x5) + x3).toNatClampNeg), s1))))
    else
    some (0, s1))
def f_m_vector_b51 (m_n : Int32) (m_many : Nat → Int32) (m_isBlock : Nat → Int32) (m_hours : Nat → Int32) (m_side : Nat → Int32) (m_quantity : Nat → Int32) (m_limit : Nat → Int32) (m_rounds : Int32) (m_vectors : Nat → Int32) (x1 : Int32) (x2 : Int32) (x3 : Int32) (x4 : Int32) (m_thrown : Int32) (s1 : Int32) : Option (Int32 × Int32) :=
    (if s1 ≤ 0 then
    if ((6 * x1) + x2) < 0 ∨ 24 ≤ ((6 * x1) + x2).toNatClampNeg then none else (if x4 = 4 then
    (f_m_size m_many (m_vectors ((6 * x1) + x2).toNatClampNeg)).bind fun r7 =>
    some (r7, s1)
    else
    (f_m_size m_many (m_vectors ((6 * x1) + x2).toNatClampNeg)).bind fun r5 =>
    (f_m_in (Int32.toInt64 x3) 0 (Int32.toInt64 (r5 - 1))).bind fun r6 =>
    (if r6 = 0 then
    f_m_vector_b113 m_n m_many m_isBlock m_hours m_side m_quantity m_limit m_rounds m_vectors x3 x4 s1 (m_vectors ((6 * x1) + x2).toNatClampNeg) 1
    else
    f_m_vector_b113 m_n m_many m_isBlock m_hours m_side m_quantity m_limit m_rounds m_vectors x3 x4 s1 (m_vectors ((6 * x1) + x2).toNatClampNeg) 0))
    else
    some (0, s1))
def f_m_vector_b46 (m_n : Int32) (m_many : Nat → Int32) (m_isBlock : Nat → Int32) (m_hours : Nat → Int32) (m_side : Nat → Int32) (m_quantity : Nat → Int32) (m_limit : Nat → Int32) (m_rounds : Int32) (m_vectors : Nat → Int32) (x1 : Int32) (x2 : Int32) (x3 : Int32) (x4 : Int32) (m_thrown : Int32) : Option (Int32 × Int32) :=
    f_m_vector_b51 m_n m_many m_isBlock m_hours m_side m_quantity m_limit m_rounds m_vectors x1 x2 x3 x4 m_thrown 1
def f_m_vector (m_thrown : Int32) (m_n : Int32) (m_many : Nat → Int32) (m_isBlock : Nat → Int32) (m_hours : Nat → Int32) (m_side : Nat → Int32) (m_quantity : Nat → Int32) (m_limit : Nat → Int32) (m_rounds : Int32) (m_vectors : Nat → Int32) (x1 : Int32) (x2 : Int32) (x3 : Int32) (x4 : Int32) : Option (Int32 × Int32) :=
    (if 3 ≤ m_rounds then
    (f_m_in (Int32.toInt64 x1) 0 3).bind fun r1 =>
    (if r1 = 0 then
    f_m_vector_b46 m_n m_many m_isBlock m_hours m_side m_quantity m_limit m_rounds m_vectors x1 x2 x3 x4 m_thrown
    else
    (f_m_isMember m_n x2).bind fun r2 =>
    (if r2 = 0 then
    f_m_vector_b46 m_n m_many m_isBlock m_hours m_side m_quantity m_limit m_rounds m_vectors x1 x2 x3 x4 m_thrown
    else
    (f_m_in (Int32.toInt64 x4) 0 4).bind fun r3 =>
    (if r3 = 0 then
    f_m_vector_b46 m_n m_many m_isBlock m_hours m_side m_quantity m_limit m_rounds m_vectors x1 x2 x3 x4 m_thrown
    else
    f_m_vector_b51 m_n m_many m_isBlock m_hours m_side m_quantity m_limit m_rounds m_vectors x1 x2 x3 x4 m_thrown 0)))
    else
    f_m_vector_b51 m_n m_many m_isBlock m_hours m_side m_quantity m_limit m_rounds m_vectors x1 x2 x3 x4 m_thrown 2)
def f_m_gather_L35 (m_n : Int32) (m_many : Nat → Int32) (m_isBlock : Nat → Int32) (m_vectors : Nat → Int32) (x1 : Int32) (K12 : (Nat → Int32) → (Nat → Int32) → Int32 → (Nat → Int32) → (Nat → Int32) → Int32 → Int32 → Option ((Nat → Int32) × (Nat → Int32) × Int32 × (Nat → Int32) × (Nat → Int32) × Int32)) : Nat → (Nat → Int32) → (Nat → Int32) → Int32 → (Nat → Int32) → (Nat → Int32) → Int32 → Int32 → Int32 → Int32 → Option ((Nat → Int32) × (Nat → Int32) × Int32 × (Nat → Int32) × (Nat → Int32) × Int32)
  | 0, _, _, _, _, _, _, _, _, _ => none
  | n + 1, m_orderEntry, m_orderFill, m_orders, m_blockEntry, m_blockFill, m_blocks, x2, x3, x4 =>
    (f_m_size m_many x3).bind fun r2 =>
    (if r2 ≤ x4 then
    K12 m_orderEntry m_orderFill m_orders m_blockEntry m_blockFill m_blocks (x2 + 1)
    else
    if ((10 * x3) + x4) < 0 ∨ 240 ≤ ((10 * x3) + x4).toNatClampNeg then none else (if (m_isBlock ((10 * x3) + x4).toNatClampNeg) = 0 then
    if m_orders < 0 ∨ 60 ≤ m_orders.toNatClampNeg then none else f_m_gather_L35 m_n m_many m_isBlock m_vectors x1 K12 n (upd m_orderEntry m_orders.toNatClampNeg ((10 * x3) + x4)) (upd m_orderFill m_orders.toNatClampNeg (((60 * x1) + (10 * x2)) + x4)) (m_orders + 1) m_blockEntry m_blockFill m_blocks x2 x3 (x4 + 1)
    else
    (if 8 ≤ m_blocks then
    f_m_gather_L35 m_n m_many m_isBlock m_vectors x1 K12 n m_orderEntry m_orderFill m_orders m_blockEntry m_blockFill m_blocks x2 x3 (x4 + 1)
    else
    if m_blocks < 0 ∨ 8 ≤ m_blocks.toNatClampNeg then none else f_m_gather_L35 m_n m_many m_isBlock m_vectors x1 K12 n m_orderEntry m_orderFill m_orders (upd m_blockEntry m_blocks.toNatClampNeg ((10 * x3) + x4)) (upd m_blockFill m_blocks.toNatClampNeg (((60 * x1) + (10 * x2)) + x4)) (m_blocks + 1) x2 x3 (x4 + 1))))
def f_m_gather_L12 (m_n : Int32) (m_many : Nat → Int32) (m_isBlock : Nat → Int32) (m_vectors : Nat → Int32) (x1 : Int32) : Nat → (Nat → Int32) → (Nat → Int32) → Int32 → (Nat → Int32) → (Nat → Int32) → Int32 → Int32 → Option ((Nat → Int32) × (Nat → Int32) × Int32 × (Nat → Int32) × (Nat → Int32) × Int32)
  | 0, _, _, _, _, _, _, _ => none
  | n + 1, m_orderEntry, m_orderFill, m_orders, m_blockEntry, m_blockFill, m_blocks, x2 =>
    (if m_n ≤ x2 then
    some (m_orderEntry, m_orderFill, m_orders, m_blockEntry, m_blockFill, m_blocks)
    else
    if ((6 * x1) + x2) < 0 ∨ 24 ≤ ((6 * x1) + x2).toNatClampNeg then none else f_m_gather_L35 m_n m_many m_isBlock m_vectors x1 (f_m_gather_L12 m_n m_many m_isBlock m_vectors x1 n) 1000 m_orderEntry m_orderFill m_orders m_blockEntry m_blockFill m_blocks x2 (m_vectors ((6 * x1) + x2).toNatClampNeg) 0)
def f_m_gather (m_n : Int32) (m_many : Nat → Int32) (m_isBlock : Nat → Int32) (m_vectors : Nat → Int32) (m_orderEntry : Nat → Int32) (m_orderFill : Nat → Int32) (m_orders : Int32) (m_blockEntry : Nat → Int32) (m_blockFill : Nat → Int32) (m_blocks : Int32) (x1 : Int32) : Option ((Nat → Int32) × (Nat → Int32) × Int32 × (Nat → Int32) × (Nat → Int32) × Int32) :=
    f_m_gather_L12 m_n m_many m_isBlock m_vectors x1 1000 m_orderEntry m_orderFill 0 m_blockEntry m_blockFill 0 0
def f_m_covers (x0 : Int32) (x1 : Int32) : Option (Int32) :=
    (if x1 < (x0 / 4) then
    some (0)
    else
    (if (x0 - x0 / 4 * 4) < x1 then
    some (0)
    else
    some (1)))
def f_m_volume_b177 (m_hours : Nat → Int32) (m_side : Nat → Int32) (m_quantity : Nat → Int32) (m_limit : Nat → Int32) (m_orderEntry : Nat → Int32) (m_orders : Int32) (m_blockEntry : Nat → Int32) (m_blocks : Int32) (x2 : Int32) (x3 : Int32) (x4 : Int32) (x5 : Int32) (K85 : Int32 → Int32 → Option (Int32)) (x6 : Int32) (x7 : Int32) (x8 : Int32) (s0 : Int32) : Option (Int32) :=
    (if s0 = 0 then
    K85 (x6 + 0) (x7 + 1)
    else
    if x8 < 0 ∨ 240 ≤ x8.toNatClampNeg then none else K85 (x6 + (m_quantity x8.toNatClampNeg)) (x7 + 1))
def f_m_volume_b172 (m_hours : Nat → Int32) (m_side : Nat → Int32) (m_quantity : Nat → Int32) (m_limit : Nat → Int32) (m_orderEntry : Nat → Int32) (m_orders : Int32) (m_blockEntry : Nat → Int32) (m_blocks : Int32) (x2 : Int32) (x3 : Int32) (x4 : Int32) (x5 : Int32) (K85 : Int32 → Int32 → Option (Int32)) (x6 : Int32) (x7 : Int32) (x8 : Int32) : Option (Int32) :=
    f_m_volume_b177 m_hours m_side m_quantity m_limit m_orderEntry m_orders m_blockEntry m_blocks x2 x3 x4 x5 K85 x6 x7 x8 1
def f_m_volume_b176 (m_hours : Nat → Int32) (m_side : Nat → Int32) (m_quantity : Nat → Int32) (m_limit : Nat → Int32) (m_orderEntry : Nat → Int32) (m_orders : Int32) (m_blockEntry : Nat → Int32) (m_blocks : Int32) (x2 : Int32) (x3 : Int32) (x4 : Int32) (x5 : Int32) (K85 : Int32 → Int32 → Option (Int32)) (x6 : Int32) (x7 : Int32) (x8 : Int32) : Option (Int32) :=
    f_m_volume_b177 m_hours m_side m_quantity m_limit m_orderEntry m_orders m_blockEntry m_blocks x2 x3 x4 x5 K85 x6 x7 x8 0
def f_m_volume_b156 (m_hours : Nat → Int32) (m_side : Nat → Int32) (m_quantity : Nat → Int32) (m_limit : Nat → Int32) (m_orderEntry : Nat → Int32) (m_orders : Int32) (m_blockEntry : Nat → Int32) (m_blocks : Int32) (x2 : Int32) (x3 : Int32) (x4 : Int32) (x5 : Int32) (K85 : Int32 → Int32 → Option (Int32)) (x6 : Int32) (x7 : Int32) (x8 : Int32) : Option (Int32) :=
    (if x5 = 0 then
    f_m_volume_b176 m_hours m_side m_quantity m_limit m_orderEntry m_orders m_blockEntry m_blocks x2 x3 x4 x5 K85 x6 x7 x8
    else
    if x8 < 0 ∨ 240 ≤ x8.toNatClampNeg then none else (if (m_limit x8.toNatClampNeg) = x3 then
    f_m_volume_b172 m_hours m_side m_quantity m_limit m_orderEntry m_orders m_blockEntry m_blocks x2 x3 x4 x5 K85 x6 x7 x8
    else
    f_m_volume_b176 m_hours m_side m_quantity m_limit m_orderEntry m_orders m_blockEntry m_blocks x2 x3 x4 x5 K85 x6 x7 x8))
def f_m_volume_L85 (m_hours : Nat → Int32) (m_side : Nat → Int32) (m_quantity : Nat → Int32) (m_limit : Nat → Int32) (m_orderEntry : Nat → Int32) (m_orders : Int32) (m_blockEntry : Nat → Int32) (m_blocks : Int32) (x2 : Int32) (x3 : Int32) (x4 : Int32) (x5 : Int32) : Nat → Int32 → Int32 → Option (Int32)
  | 0, _, _ => none
  | n + 1, x6, x7 =>
    (if m_orders ≤ x7 then
    some (x6)
    else
    if x7 < 0 ∨ 60 ≤ x7.toNatClampNeg then none else if (m_orderEntry x7.toNatClampNeg) < 0 ∨ 240 ≤ (m_orderEntry x7.toNatClampNeg).toNatClampNeg then none else (if (m_side (m_orderEntry x7.toNatClampNeg).toNatClampNeg) = x4 then
    (if (m_hours (m_orderEntry x7.toNatClampNeg).toNatClampNeg) = x2 then
    (if x4 = 0 then
    (if (m_limit (m_orderEntry x7.toNatClampNeg).toNatClampNeg) ≤ x3 then
    f_m_volume_b156 m_hours m_side m_quantity m_limit m_orderEntry m_orders m_blockEntry m_blocks x2 x3 x4 x5 (f_m_volume_L85 m_hours m_side m_quantity m_limit m_orderEntry m_orders m_blockEntry m_blocks x2 x3 x4 x5 n) x6 x7 (m_orderEntry x7.toNatClampNeg)
    else
    f_m_volume_b172 m_hours m_side m_quantity m_limit m_orderEntry m_orders m_blockEntry m_blocks x2 x3 x4 x5 (f_m_volume_L85 m_hours m_side m_quantity m_limit m_orderEntry m_orders m_blockEntry m_blocks x2 x3 x4 x5 n) x6 x7 (m_orderEntry x7.toNatClampNeg))
    else
    (if (m_limit (m_orderEntry x7.toNatClampNeg).toNatClampNeg) < x3 then
    f_m_volume_b172 m_hours m_side m_quantity m_limit m_orderEntry m_orders m_blockEntry m_blocks x2 x3 x4 x5 (f_m_volume_L85 m_hours m_side m_quantity m_limit m_orderEntry m_orders m_blockEntry m_blocks x2 x3 x4 x5 n) x6 x7 (m_orderEntry x7.toNatClampNeg)
    else
    f_m_volume_b156 m_hours m_side m_quantity m_limit m_orderEntry m_orders m_blockEntry m_blocks x2 x3 x4 x5 (f_m_volume_L85 m_hours m_side m_quantity m_limit m_orderEntry m_orders m_blockEntry m_blocks x2 x3 x4 x5 n) x6 x7 (m_orderEntry x7.toNatClampNeg)))
    else
    f_m_volume_b176 m_hours m_side m_quantity m_limit m_orderEntry m_orders m_blockEntry m_blocks x2 x3 x4 x5 (f_m_volume_L85 m_hours m_side m_quantity m_limit m_orderEntry m_orders m_blockEntry m_blocks x2 x3 x4 x5 n) x6 x7 (m_orderEntry x7.toNatClampNeg))
    else
    f_m_volume_b176 m_hours m_side m_quantity m_limit m_orderEntry m_orders m_blockEntry m_blocks x2 x3 x4 x5 (f_m_volume_L85 m_hours m_side m_quantity m_limit m_orderEntry m_orders m_blockEntry m_blocks x2 x3 x4 x5 n) x6 x7 (m_orderEntry x7.toNatClampNeg)))
def f_m_volume_L6 (m_hours : Nat → Int32) (m_side : Nat → Int32) (m_quantity : Nat → Int32) (m_limit : Nat → Int32) (m_orderEntry : Nat → Int32) (m_orders : Int32) (m_blockEntry : Nat → Int32) (m_blocks : Int32) (x1 : Int32) (x2 : Int32) (x3 : Int32) (x4 : Int32) (x5 : Int32) : Nat → Int32 → Int32 → Option (Int32)
  | 0, _, _ => none
  | n + 1, x6, x7 =>
    (if m_blocks ≤ x7 then
    f_m_volume_L85 m_hours m_side m_quantity m_limit m_orderEntry m_orders m_blockEntry m_blocks x2 x3 x4 x5 1000 x6 0
    else
    if x7 < 0 ∨ 8 ≤ x7.toNatClampNeg then none else (if ((x1 >>> (x7 &&& 31)) &&& 1) = 1 then
    if (m_blockEntry x7.toNatClampNeg) < 0 ∨ 240 ≤ (m_blockEntry x7.toNatClampNeg).toNatClampNeg then none else (if (m_side (m_blockEntry x7.toNatClampNeg).toNatClampNeg) = x4 then
    (f_m_covers (m_hours (m_blockEntry x7.toNatClampNeg).toNatClampNeg) x2).bind fun r3 =>
    (if r3 = 0 then
    f_m_volume_L6 m_hours m_side m_quantity m_limit m_orderEntry m_orders m_blockEntry m_blocks x1 x2 x3 x4 x5 n (x6 + 0) (x7 + 1)
    else
    f_m_volume_L6 m_hours m_side m_quantity m_limit m_orderEntry m_orders m_blockEntry m_blocks x1 x2 x3 x4 x5 n (x6 + (m_quantity (m_blockEntry x7.toNatClampNeg).toNatClampNeg)) (x7 + 1))
    else
    f_m_volume_L6 m_hours m_side m_quantity m_limit m_orderEntry m_orders m_blockEntry m_blocks x1 x2 x3 x4 x5 n (x6 + 0) (x7 + 1))
    else
    f_m_volume_L6 m_hours m_side m_quantity m_limit m_orderEntry m_orders m_blockEntry m_blocks x1 x2 x3 x4 x5 n (x6 + 0) (x7 + 1)))
def f_m_volume (m_hours : Nat → Int32) (m_side : Nat → Int32) (m_quantity : Nat → Int32) (m_limit : Nat → Int32) (m_orderEntry : Nat → Int32) (m_orders : Int32) (m_blockEntry : Nat → Int32) (m_blocks : Int32) (x1 : Int32) (x2 : Int32) (x3 : Int32) (x4 : Int32) (x5 : Int32) : Option (Int32) :=
    f_m_volume_L6 m_hours m_side m_quantity m_limit m_orderEntry m_orders m_blockEntry m_blocks x1 x2 x3 x4 x5 1000 0 0
def f_m_least_L8 (m_hours : Nat → Int32) (m_side : Nat → Int32) (m_quantity : Nat → Int32) (m_limit : Nat → Int32) (m_orderEntry : Nat → Int32) (m_orders : Int32) (m_blockEntry : Nat → Int32) (m_blocks : Int32) (x1 : Int32) (x2 : Int32) : Nat → Int32 → Int32 → Option (Int32)
  | 0, _, _ => none
  | n + 1, x3, x4 =>
    (if x4 ≤ x3 then
    some (x3)
    else
    (f_m_volume m_hours m_side m_quantity m_limit m_orderEntry m_orders m_blockEntry m_blocks x1 x2 (x3 + ((x4 - x3) / 2)) 0 0).bind fun r1 =>
    (f_m_volume m_hours m_side m_quantity m_limit m_orderEntry m_orders m_blockEntry m_blocks x1 x2 (x3 + ((x4 - x3) / 2)) 1 1).bind fun r2 =>
    (if r2 < r1 then
    f_m_least_L8 m_hours m_side m_quantity m_limit m_orderEntry m_orders m_blockEntry m_blocks x1 x2 n ((x3 + ((x4 - x3) / 2)) + 1) x4
    else
    f_m_least_L8 m_hours m_side m_quantity m_limit m_orderEntry m_orders m_blockEntry m_blocks x1 x2 n x3 (x3 + ((x4 - x3) / 2))))
def f_m_least (m_hours : Nat → Int32) (m_side : Nat → Int32) (m_quantity : Nat → Int32) (m_limit : Nat → Int32) (m_orderEntry : Nat → Int32) (m_orders : Int32) (m_blockEntry : Nat → Int32) (m_blocks : Int32) (x1 : Int32) (x2 : Int32) : Option (Int32) :=
    f_m_least_L8 m_hours m_side m_quantity m_limit m_orderEntry m_orders m_blockEntry m_blocks x1 x2 1000 (-5000) 40001
def f_m_greatest_L8 (m_hours : Nat → Int32) (m_side : Nat → Int32) (m_quantity : Nat → Int32) (m_limit : Nat → Int32) (m_orderEntry : Nat → Int32) (m_orders : Int32) (m_blockEntry : Nat → Int32) (m_blocks : Int32) (x1 : Int32) (x2 : Int32) : Nat → Int32 → Int32 → Option (Int32)
  | 0, _, _ => none
  | n + 1, x3, x4 =>
    (if x4 ≤ x3 then
    some (x3)
    else
    (f_m_volume m_hours m_side m_quantity m_limit m_orderEntry m_orders m_blockEntry m_blocks x1 x2 (x3 + (((x4 - x3) + 1) / 2)) 1 0).bind fun r1 =>
    (f_m_volume m_hours m_side m_quantity m_limit m_orderEntry m_orders m_blockEntry m_blocks x1 x2 (x3 + (((x4 - x3) + 1) / 2)) 0 1).bind fun r2 =>
    (if r2 < r1 then
    f_m_greatest_L8 m_hours m_side m_quantity m_limit m_orderEntry m_orders m_blockEntry m_blocks x1 x2 n x3 ((x3 + (((x4 - x3) + 1) / 2)) - 1)
    else
    f_m_greatest_L8 m_hours m_side m_quantity m_limit m_orderEntry m_orders m_blockEntry m_blocks x1 x2 n (x3 + (((x4 - x3) + 1) / 2)) x4))
def f_m_greatest (m_hours : Nat → Int32) (m_side : Nat → Int32) (m_quantity : Nat → Int32) (m_limit : Nat → Int32) (m_orderEntry : Nat → Int32) (m_orders : Int32) (m_blockEntry : Nat → Int32) (m_blocks : Int32) (x1 : Int32) (x2 : Int32) : Option (Int32) :=
    f_m_greatest_L8 m_hours m_side m_quantity m_limit m_orderEntry m_orders m_blockEntry m_blocks x1 x2 1000 (-5001) 40000
def f_m_floorHalf (x0 : Int32) : Option (Int32) :=
    (if x0 < 0 then
    some ((-((1 - x0) / 2)))
    else
    some ((x0 / 2)))
def f_m_share_b238 (m_hours : Nat → Int32) (m_side : Nat → Int32) (m_quantity : Nat → Int32) (m_limit : Nat → Int32) (m_orderEntry : Nat → Int32) (m_orders : Int32) (m_blockEntry : Nat → Int32) (m_blocks : Int32) (m_price : Nat → Int32) (m_trade : Nat → Int32) (x2 : Int32) (x3 : Int32) (K59 : (Nat → Int32) → (Nat → Int64) → Int32 → Int64 → Int64 → Int64 → Int32 → Option ((Nat → Int32) × (Nat → Int64))) (m_filled : Nat → Int32) (m_rest : Nat → Int64) (x4 : Int32) (x5 : Int64) (x7 : Int64) (x9 : Int64) (x11 : Int32) (x13 : Int32) (s1 : Int32) (s2 : Int64) : Option ((Nat → Int32) × (Nat → Int64)) :=
    if s1 < 0 ∨ 60 ≤ s1.toNatClampNeg then none else (if x13 = 0 then
    K59 m_filled (vp_updL m_rest s1.toNatClampNeg s2) x4 (x5 - 0) x7 x9 (x11 + 1)
    else
    if x11 < 0 ∨ 60 ≤ x11.toNatClampNeg then none else K59 m_filled (vp_updL m_rest s1.toNatClampNeg s2) x4 (x5 - (Int32.toInt64 (m_filled x11.toNatClampNeg))) x7 x9 (x11 + 1))
def f_m_share_b206 (m_hours : Nat → Int32) (m_side : Nat → Int32) (m_quantity : Nat → Int32) (m_limit : Nat → Int32) (m_orderEntry : Nat → Int32) (m_orders : Int32) (m_blockEntry : Nat → Int32) (m_blocks : Int32) (m_price : Nat → Int32) (m_trade : Nat → Int32) (x2 : Int32) (x3 : Int32) (K59 : (Nat → Int32) → (Nat → Int64) → Int32 → Int64 → Int64 → Int64 → Int32 → Option ((Nat → Int32) × (Nat → Int64))) (m_filled : Nat → Int32) (m_rest : Nat → Int64) (x4 : Int32) (x5 : Int64) (x7 : Int64) (x9 : Int64) (x11 : Int32) (x12 : Int32) (x13 : Int32) (s1 : Int32) (s2 : Int32) : Option ((Nat → Int32) × (Nat → Int64)) :=
    if s1 < 0 ∨ 60 ≤ s1.toNatClampNeg then none else (if x13 = 0 then
    f_m_share_b238 m_hours m_side m_quantity m_limit m_orderEntry m_orders m_blockEntry m_blocks m_price m_trade x2 x3 K59 (upd m_filled s1.toNatClampNeg s2) m_rest x4 x5 x7 x9 x11 x13 x11 (-1)
    else
    if x12 < 0 ∨ 240 ≤ x12.toNatClampNeg then none else if x9 = 0 then none else f_m_share_b238 m_hours m_side m_quantity m_limit m_orderEntry m_orders m_blockEntry m_blocks m_price m_trade x2 x3 K59 (upd m_filled s1.toNatClampNeg s2) m_rest x4 x5 x7 x9 x11 x13 x11 (((Int32.toInt64 (m_quantity x12.toNatClampNeg)) * x7) - ((Int32.toInt64 (m_quantity x12.toNatClampNeg)) * x7) / x9 * x9))
def f_m_share_b159 (m_hours : Nat → Int32) (m_side : Nat → Int32) (m_quantity : Nat → Int32) (m_limit : Nat → Int32) (m_orderEntry : Nat → Int32) (m_orders : Int32) (m_blockEntry : Nat → Int32) (m_blocks : Int32) (m_price : Nat → Int32) (m_trade : Nat → Int32) (x2 : Int32) (x3 : Int32) (K59 : (Nat → Int32) → (Nat → Int64) → Int32 → Int64 → Int64 → Int64 → Int32 → Option ((Nat → Int32) × (Nat → Int64))) (m_filled : Nat → Int32) (m_rest : Nat → Int64) (x4 : Int32) (x5 : Int64) (x7 : Int64) (x9 : Int64) (x11 : Int32) (x12 : Int32) (x13 : Int32) (s0 : Int32) : Option ((Nat → Int32) × (Nat → Int64)) :=
    (if s0 = 0 then
    (if x13 = 0 then
    f_m_share_b206 m_hours m_side m_quantity m_limit m_orderEntry m_orders m_blockEntry m_blocks m_price m_trade x2 x3 K59 m_filled m_rest x4 x5 x7 x9 x11 x12 x13 x11 0
    else
    if x12 < 0 ∨ 240 ≤ x12.toNatClampNeg then none else if x9 = 0 then none else f_m_share_b206 m_hours m_side m_quantity m_limit m_orderEntry m_orders m_blockEntry m_blocks m_price m_trade x2 x3 K59 m_filled m_rest x4 x5 x7 x9 x11 x12 x13 x11 (Int64.toInt32 (((Int32.toInt64 (m_quantity x12.toNatClampNeg)) * x7) / x9)))
    else
    if x12 < 0 ∨ 240 ≤ x12.toNatClampNeg then none else f_m_share_b206 m_hours m_side m_quantity m_limit m_orderEntry m_orders m_blockEntry m_blocks m_price m_trade x2 x3 K59 m_filled m_rest x4 x5 x7 x9 x11 x12 x13 x11 (m_quantity x12.toNatClampNeg))
def f_m_share_b116 (m_hours : Nat → Int32) (m_side : Nat → Int32) (m_quantity : Nat → Int32) (m_limit : Nat → Int32) (m_orderEntry : Nat → Int32) (m_orders : Int32) (m_blockEntry : Nat → Int32) (m_blocks : Int32) (m_price : Nat → Int32) (m_trade : Nat → Int32) (x2 : Int32) (x3 : Int32) (K59 : (Nat → Int32) → (Nat → Int64) → Int32 → Int64 → Int64 → Int64 → Int32 → Option ((Nat → Int32) × (Nat → Int64))) (m_filled : Nat → Int32) (m_rest : Nat → Int64) (x4 : Int32) (x5 : Int64) (x7 : Int64) (x9 : Int64) (x11 : Int32) (x12 : Int32) (s0 : Int32) : Option ((Nat → Int32) × (Nat → Int64)) :=
    (if x3 = 0 then
    if x12 < 0 ∨ 240 ≤ x12.toNatClampNeg then none else (if (m_limit x12.toNatClampNeg) ≤ x4 then
    f_m_share_b159 m_hours m_side m_quantity m_limit m_orderEntry m_orders m_blockEntry m_blocks m_price m_trade x2 x3 K59 m_filled m_rest x4 x5 x7 x9 x11 x12 s0 0
    else
    f_m_share_b159 m_hours m_side m_quantity m_limit m_orderEntry m_orders m_blockEntry m_blocks m_price m_trade x2 x3 K59 m_filled m_rest x4 x5 x7 x9 x11 x12 s0 1)
    else
    if x12 < 0 ∨ 240 ≤ x12.toNatClampNeg then none else (if x4 ≤ (m_limit x12.toNatClampNeg) then
    f_m_share_b159 m_hours m_side m_quantity m_limit m_orderEntry m_orders m_blockEntry m_blocks m_price m_trade x2 x3 K59 m_filled m_rest x4 x5 x7 x9 x11 x12 s0 0
    else
    f_m_share_b159 m_hours m_side m_quantity m_limit m_orderEntry m_orders m_blockEntry m_blocks m_price m_trade x2 x3 K59 m_filled m_rest x4 x5 x7 x9 x11 x12 s0 1))
def f_m_share_b360 (m_hours : Nat → Int32) (m_side : Nat → Int32) (m_quantity : Nat → Int32) (m_limit : Nat → Int32) (m_orderEntry : Nat → Int32) (m_orders : Int32) (m_blockEntry : Nat → Int32) (m_blocks : Int32) (m_price : Nat → Int32) (m_trade : Nat → Int32) (x2 : Int32) (x3 : Int32) (K267 : (Nat → Int32) → (Nat → Int64) → Int64 → Option ((Nat → Int32) × (Nat → Int64))) (K280 : (Nat → Int32) → (Nat → Int64) → Int64 → Int32 → Int32 → Option ((Nat → Int32) × (Nat → Int64))) (m_filled : Nat → Int32) (m_rest : Nat → Int64) (x5 : Int64) (x11 : Int32) (x12 : Int32) (s0 : Int32) : Option ((Nat → Int32) × (Nat → Int64)) :=
    (if s0 = 0 then
    K280 m_filled m_rest x5 x11 (x12 + 1)
    else
    K280 m_filled m_rest x5 x12 (x12 + 1))
def f_m_share_b355 (m_hours : Nat → Int32) (m_side : Nat → Int32) (m_quantity : Nat → Int32) (m_limit : Nat → Int32) (m_orderEntry : Nat → Int32) (m_orders : Int32) (m_blockEntry : Nat → Int32) (m_blocks : Int32) (m_price : Nat → Int32) (m_trade : Nat → Int32) (x2 : Int32) (x3 : Int32) (K267 : (Nat → Int32) → (Nat → Int64) → Int64 → Option ((Nat → Int32) × (Nat → Int64))) (K280 : (Nat → Int32) → (Nat → Int64) → Int64 → Int32 → Int32 → Option ((Nat → Int32) × (Nat → Int64))) (m_filled : Nat → Int32) (m_rest : Nat → Int64) (x5 : Int64) (x11 : Int32) (x12 : Int32) : Option ((Nat → Int32) × (Nat → Int64)) :=
    f_m_share_b360 m_hours m_side m_quantity m_limit m_orderEntry m_orders m_blockEntry m_blocks m_price m_trade x2 x3 K267 K280 m_filled m_rest x5 x11 x12 1
def f_m_share_b359 (m_hours : Nat → Int32) (m_side : Nat → Int32) (m_quantity : Nat → Int32) (m_limit : Nat → Int32) (m_orderEntry : Nat → Int32) (m_orders : Int32) (m_blockEntry : Nat → Int32) (m_blocks : Int32) (m_price : Nat → Int32) (m_trade : Nat → Int32) (x2 : Int32) (x3 : Int32) (K267 : (Nat → Int32) → (Nat → Int64) → Int64 → Option ((Nat → Int32) × (Nat → Int64))) (K280 : (Nat → Int32) → (Nat → Int64) → Int64 → Int32 → Int32 → Option ((Nat → Int32) × (Nat → Int64))) (m_filled : Nat → Int32) (m_rest : Nat → Int64) (x5 : Int64) (x11 : Int32) (x12 : Int32) : Option ((Nat → Int32) × (Nat → Int64)) :=
    f_m_share_b360 m_hours m_side m_quantity m_limit m_orderEntry m_orders m_blockEntry m_blocks m_price m_trade x2 x3 K267 K280 m_filled m_rest x5 x11 x12 0
def f_m_share_L280 (m_hours : Nat → Int32) (m_side : Nat → Int32) (m_quantity : Nat → Int32) (m_limit : Nat → Int32) (m_orderEntry : Nat → Int32) (m_orders : Int32) (m_blockEntry : Nat → Int32) (m_blocks : Int32) (m_price : Nat → Int32) (m_trade : Nat → Int32) (x2 : Int32) (x3 : Int32) (K267 : (Nat → Int32) → (Nat → Int64) → Int64 → Option ((Nat → Int32) × (Nat → Int64))) : Nat → (Nat → Int32) → (Nat → Int64) → Int64 → Int32 → Int32 → Option ((Nat → Int32) × (Nat → Int64))
  | 0, _, _, _, _, _ => none
  | n + 1, m_filled, m_rest, x5, x11, x12 =>
    (if m_orders ≤ x12 then
    if x11 < 0 ∨ 60 ≤ x11.toNatClampNeg then none else K267 (upd m_filled x11.toNatClampNeg ((m_filled x11.toNatClampNeg) + 1)) (vp_updL m_rest x11.toNatClampNeg (-1)) (x5 - 1)
    else
    if x12 < 0 ∨ 60 ≤ x12.toNatClampNeg then none else if (m_orderEntry x12.toNatClampNeg) < 0 ∨ 240 ≤ (m_orderEntry x12.toNatClampNeg).toNatClampNeg then none else (if (m_side (m_orderEntry x12.toNatClampNeg).toNatClampNeg) = x3 then
    (if (m_hours (m_orderEntry x12.toNatClampNeg).toNatClampNeg) = x2 then
    (if (lg_cmp (m_rest x12.toNatClampNeg) 0) < 0 then
    f_m_share_b359 m_hours m_side m_quantity m_limit m_orderEntry m_orders m_blockEntry m_blocks m_price m_trade x2 x3 K267 (f_m_share_L280 m_hours m_side m_quantity m_limit m_orderEntry m_orders m_blockEntry m_blocks m_price m_trade x2 x3 K267 n) m_filled m_rest x5 x11 x12
    else
    (if x11 < 0 then
    f_m_share_b355 m_hours m_side m_quantity m_limit m_orderEntry m_orders m_blockEntry m_blocks m_price m_trade x2 x3 K267 (f_m_share_L280 m_hours m_side m_quantity m_limit m_orderEntry m_orders m_blockEntry m_blocks m_price m_trade x2 x3 K267 n) m_filled m_rest x5 x11 x12
    else
    if x11 < 0 ∨ 60 ≤ x11.toNatClampNeg then none else (if (lg_cmp (m_rest x12.toNatClampNeg) (m_rest x11.toNatClampNeg)) ≤ 0 then
    f_m_share_b359 m_hours m_side m_quantity m_limit m_orderEntry m_orders m_blockEntry m_blocks m_price m_trade x2 x3 K267 (f_m_share_L280 m_hours m_side m_quantity m_limit m_orderEntry m_orders m_blockEntry m_blocks m_price m_trade x2 x3 K267 n) m_filled m_rest x5 x11 x12
    else
    f_m_share_b355 m_hours m_side m_quantity m_limit m_orderEntry m_orders m_blockEntry m_blocks m_price m_trade x2 x3 K267 (f_m_share_L280 m_hours m_side m_quantity m_limit m_orderEntry m_orders m_blockEntry m_blocks m_price m_trade x2 x3 K267 n) m_filled m_rest x5 x11 x12)))
    else
    f_m_share_b359 m_hours m_side m_quantity m_limit m_orderEntry m_orders m_blockEntry m_blocks m_price m_trade x2 x3 K267 (f_m_share_L280 m_hours m_side m_quantity m_limit m_orderEntry m_orders m_blockEntry m_blocks m_price m_trade x2 x3 K267 n) m_filled m_rest x5 x11 x12)
    else
    f_m_share_b359 m_hours m_side m_quantity m_limit m_orderEntry m_orders m_blockEntry m_blocks m_price m_trade x2 x3 K267 (f_m_share_L280 m_hours m_side m_quantity m_limit m_orderEntry m_orders m_blockEntry m_blocks m_price m_trade x2 x3 K267 n) m_filled m_rest x5 x11 x12))
def f_m_share_L267 (m_hours : Nat → Int32) (m_side : Nat → Int32) (m_quantity : Nat → Int32) (m_limit : Nat → Int32) (m_orderEntry : Nat → Int32) (m_orders : Int32) (m_blockEntry : Nat → Int32) (m_blocks : Int32) (m_price : Nat → Int32) (m_trade : Nat → Int32) (x2 : Int32) (x3 : Int32) : Nat → (Nat → Int32) → (Nat → Int64) → Int64 → Option ((Nat → Int32) × (Nat → Int64))
  | 0, _, _, _ => none
  | n + 1, m_filled, m_rest, x5 =>
    (if (lg_cmp x5 0) ≤ 0 then
    some (m_filled, m_rest)
    else
    f_m_share_L280 m_hours m_side m_quantity m_limit m_orderEntry m_orders m_blockEntry m_blocks m_price m_trade x2 x3 (f_m_share_L267 m_hours m_side m_quantity m_limit m_orderEntry m_orders m_blockEntry m_blocks m_price m_trade x2 x3 n) 1000 m_filled m_rest x5 (-1) 0)
def f_m_share_L59 (m_hours : Nat → Int32) (m_side : Nat → Int32) (m_quantity : Nat → Int32) (m_limit : Nat → Int32) (m_orderEntry : Nat → Int32) (m_orders : Int32) (m_blockEntry : Nat → Int32) (m_blocks : Int32) (m_price : Nat → Int32) (m_trade : Nat → Int32) (x2 : Int32) (x3 : Int32) : Nat → (Nat → Int32) → (Nat → Int64) → Int32 → Int64 → Int64 → Int64 → Int32 → Option ((Nat → Int32) × (Nat → Int64))
  | 0, _, _, _, _, _, _, _ => none
  | n + 1, m_filled, m_rest, x4, x5, x7, x9, x11 =>
    (if m_orders ≤ x11 then
    f_m_share_L267 m_hours m_side m_quantity m_limit m_orderEntry m_orders m_blockEntry m_blocks m_price m_trade x2 x3 1000 m_filled m_rest x5
    else
    if x11 < 0 ∨ 60 ≤ x11.toNatClampNeg then none else if (m_orderEntry x11.toNatClampNeg) < 0 ∨ 240 ≤ (m_orderEntry x11.toNatClampNeg).toNatClampNeg then none else (if (m_side (m_orderEntry x11.toNatClampNeg).toNatClampNeg) = x3 then
    (if (m_hours (m_orderEntry x11.toNatClampNeg).toNatClampNeg) = x2 then
    (if (m_limit (m_orderEntry x11.toNatClampNeg).toNatClampNeg) = x4 then
    f_m_share_b116 m_hours m_side m_quantity m_limit m_orderEntry m_orders m_blockEntry m_blocks m_price m_trade x2 x3 (f_m_share_L59 m_hours m_side m_quantity m_limit m_orderEntry m_orders m_blockEntry m_blocks m_price m_trade x2 x3 n) m_filled m_rest x4 x5 x7 x9 x11 (m_orderEntry x11.toNatClampNeg) 1
    else
    f_m_share_b116 m_hours m_side m_quantity m_limit m_orderEntry m_orders m_blockEntry m_blocks m_price m_trade x2 x3 (f_m_share_L59 m_hours m_side m_quantity m_limit m_orderEntry m_orders m_blockEntry m_blocks m_price m_trade x2 x3 n) m_filled m_rest x4 x5 x7 x9 x11 (m_orderEntry x11.toNatClampNeg) 0)
    else
    f_m_share_L59 m_hours m_side m_quantity m_limit m_orderEntry m_orders m_blockEntry m_blocks m_price m_trade x2 x3 n m_filled m_rest x4 x5 x7 x9 (x11 + 1))
    else
    f_m_share_L59 m_hours m_side m_quantity m_limit m_orderEntry m_orders m_blockEntry m_blocks m_price m_trade x2 x3 n m_filled m_rest x4 x5 x7 x9 (x11 + 1)))
def f_m_share (m_hours : Nat → Int32) (m_side : Nat → Int32) (m_quantity : Nat → Int32) (m_limit : Nat → Int32) (m_orderEntry : Nat → Int32) (m_orders : Int32) (m_blockEntry : Nat → Int32) (m_blocks : Int32) (m_price : Nat → Int32) (m_trade : Nat → Int32) (m_filled : Nat → Int32) (m_rest : Nat → Int64) (x1 : Int32) (x2 : Int32) (x3 : Int32) : Option ((Nat → Int32) × (Nat → Int64)) :=
    if x2 < 0 ∨ 3 ≤ x2.toNatClampNeg then none else (f_m_volume m_hours m_side m_quantity m_limit m_orderEntry m_orders m_blockEntry m_blocks x1 x2 (m_price x2.toNatClampNeg) x3 0).bind fun r2 =>
    (f_m_volume m_hours m_side m_quantity m_limit m_orderEntry m_orders m_blockEntry m_blocks x1 x2 (m_price x2.toNatClampNeg) x3 1).bind fun r3 =>
    (f_m_volume m_hours m_side m_quantity m_limit m_orderEntry m_orders m_blockEntry m_blocks x1 x2 (m_price x2.toNatClampNeg) x3 0).bind fun r4 =>
    f_m_share_L59 m_hours m_side m_quantity m_limit m_orderEntry m_orders m_blockEntry m_blocks m_price m_trade x2 x3 1000 m_filled m_rest (m_price x2.toNatClampNeg) (Int32.toInt64 ((m_trade x2.toNatClampNeg) - r2)) (Int32.toInt64 ((m_trade x2.toNatClampNeg) - r2)) (Int32.toInt64 (r3 - r4)) 0
def f_m_fits_b206 (m_hours : Nat → Int32) (m_side : Nat → Int32) (m_quantity : Nat → Int32) (m_limit : Nat → Int32) (m_orderEntry : Nat → Int32) (m_orders : Int32) (m_blockEntry : Nat → Int32) (m_blocks : Int32) (x1 : Int32) (K103 : (Nat → Int32) → (Nat → Int32) → (Nat → Int32) → (Nat → Int64) → Int32 → Option (Int32 × (Nat → Int32) × (Nat → Int32) × (Nat → Int32) × (Nat → Int64))) (m_price : Nat → Int32) (m_trade : Nat → Int32) (m_filled : Nat → Int32) (m_rest : Nat → Int64) (x2 : Int32) (s0 : Int32) : Option (Int32 × (Nat → Int32) × (Nat → Int32) × (Nat → Int32) × (Nat → Int64)) :=
    (if ((x1 >>> (x2 &&& 31)) &&& 1) = 1 then
    (if s0 = 0 then
    K103 m_price m_trade m_filled m_rest (x2 + 1)
    else
    some (0, m_price, m_trade, m_filled, m_rest))
    else
    K103 m_price m_trade m_filled m_rest (x2 + 1))
def f_m_fits_L124 (m_hours : Nat → Int32) (m_side : Nat → Int32) (m_quantity : Nat → Int32) (m_limit : Nat → Int32) (m_orderEntry : Nat → Int32) (m_orders : Int32) (m_blockEntry : Nat → Int32) (m_blocks : Int32) (x1 : Int32) (K103 : (Nat → Int32) → (Nat → Int32) → (Nat → Int32) → (Nat → Int64) → Int32 → Option (Int32 × (Nat → Int32) × (Nat → Int32) × (Nat → Int32) × (Nat → Int64))) : Nat → (Nat → Int32) → (Nat → Int32) → (Nat → Int32) → (Nat → Int64) → Int32 → Int32 → Int32 → Int32 → Option (Int32 × (Nat → Int32) × (Nat → Int32) × (Nat → Int32) × (Nat → Int64))
  | 0, _, _, _, _, _, _, _, _ => none
  | n + 1, m_price, m_trade, m_filled, m_rest, x2, x3, x4, x5 =>
    (if 3 ≤ x5 then
    if x3 < 0 ∨ 240 ≤ x3.toNatClampNeg then none else (if (m_side x3.toNatClampNeg) = 1 then
    (if 0 ≤ x4 then
    f_m_fits_b206 m_hours m_side m_quantity m_limit m_orderEntry m_orders m_blockEntry m_blocks x1 K103 m_price m_trade m_filled m_rest x2 0
    else
    f_m_fits_b206 m_hours m_side m_quantity m_limit m_orderEntry m_orders m_blockEntry m_blocks x1 K103 m_price m_trade m_filled m_rest x2 1)
    else
    (if x4 ≤ 0 then
    f_m_fits_b206 m_hours m_side m_quantity m_limit m_orderEntry m_orders m_blockEntry m_blocks x1 K103 m_price m_trade m_filled m_rest x2 0
    else
    f_m_fits_b206 m_hours m_side m_quantity m_limit m_orderEntry m_orders m_blockEntry m_blocks x1 K103 m_price m_trade m_filled m_rest x2 1))
    else
    if x3 < 0 ∨ 240 ≤ x3.toNatClampNeg then none else (f_m_covers (m_hours x3.toNatClampNeg) x5).bind fun r10 =>
    (if r10 = 0 then
    f_m_fits_L124 m_hours m_side m_quantity m_limit m_orderEntry m_orders m_blockEntry m_blocks x1 K103 n m_price m_trade m_filled m_rest x2 x3 (x4 + 0) (x5 + 1)
    else
    if x5 < 0 ∨ 3 ≤ x5.toNatClampNeg then none else f_m_fits_L124 m_hours m_side m_quantity m_limit m_orderEntry m_orders m_blockEntry m_blocks x1 K103 n m_price m_trade m_filled m_rest x2 x3 (x4 + ((m_price x5.toNatClampNeg) - (m_limit x3.toNatClampNeg))) (x5 + 1)))
def f_m_fits_L232 (m_hours : Nat → Int32) (m_side : Nat → Int32) (m_quantity : Nat → Int32) (m_limit : Nat → Int32) (m_orderEntry : Nat → Int32) (m_orders : Int32) (m_blockEntry : Nat → Int32) (m_blocks : Int32) (x1 : Int32) : Nat → (Nat → Int32) → (Nat → Int32) → (Nat → Int32) → (Nat → Int64) → Int32 → Option (Int32 × (Nat → Int32) × (Nat → Int32) × (Nat → Int32) × (Nat → Int64))
  | 0, _, _, _, _, _ => none
  | n + 1, m_price, m_trade, m_filled, m_rest, x2 =>
    (if 3 ≤ x2 then
    some (1, m_price, m_trade, m_filled, m_rest)
    else
    (f_m_share m_hours m_side m_quantity m_limit m_orderEntry m_orders m_blockEntry m_blocks m_price m_trade m_filled m_rest x1 x2 0).bind fun r12 =>
    (f_m_share m_hours m_side m_quantity m_limit m_orderEntry m_orders m_blockEntry m_blocks m_price m_trade r12.1 r12.2 x1 x2 1).bind fun r13 =>
    f_m_fits_L232 m_hours m_side m_quantity m_limit m_orderEntry m_orders m_blockEntry m_blocks x1 n m_price m_trade r13.1 r13.2 (x2 + 1))
def f_m_fits_L103 (m_hours : Nat → Int32) (m_side : Nat → Int32) (m_quantity : Nat → Int32) (m_limit : Nat → Int32) (m_orderEntry : Nat → Int32) (m_orders : Int32) (m_blockEntry : Nat → Int32) (m_blocks : Int32) (x1 : Int32) : Nat → (Nat → Int32) → (Nat → Int32) → (Nat → Int32) → (Nat → Int64) → Int32 → Option (Int32 × (Nat → Int32) × (Nat → Int32) × (Nat → Int32) × (Nat → Int64))
  | 0, _, _, _, _, _ => none
  | n + 1, m_price, m_trade, m_filled, m_rest, x2 =>
    (if m_blocks ≤ x2 then
    f_m_fits_L232 m_hours m_side m_quantity m_limit m_orderEntry m_orders m_blockEntry m_blocks x1 1000 m_price m_trade m_filled m_rest 0
    else
    if x2 < 0 ∨ 8 ≤ x2.toNatClampNeg then none else f_m_fits_L124 m_hours m_side m_quantity m_limit m_orderEntry m_orders m_blockEntry m_blocks x1 (f_m_fits_L103 m_hours m_side m_quantity m_limit m_orderEntry m_orders m_blockEntry m_blocks x1 n) 1000 m_price m_trade m_filled m_rest x2 (m_blockEntry x2.toNatClampNeg) 0 0)
def f_m_fits_L2 (m_hours : Nat → Int32) (m_side : Nat → Int32) (m_quantity : Nat → Int32) (m_limit : Nat → Int32) (m_orderEntry : Nat → Int32) (m_orders : Int32) (m_blockEntry : Nat → Int32) (m_blocks : Int32) (x1 : Int32) : Nat → (Nat → Int32) → (Nat → Int32) → (Nat → Int32) → (Nat → Int64) → Int32 → Option (Int32 × (Nat → Int32) × (Nat → Int32) × (Nat → Int32) × (Nat → Int64))
  | 0, _, _, _, _, _ => none
  | n + 1, m_price, m_trade, m_filled, m_rest, x2 =>
    (if 3 ≤ x2 then
    f_m_fits_L103 m_hours m_side m_quantity m_limit m_orderEntry m_orders m_blockEntry m_blocks x1 1000 m_price m_trade m_filled m_rest 0
    else
    (f_m_least m_hours m_side m_quantity m_limit m_orderEntry m_orders m_blockEntry m_blocks x1 x2).bind fun r1 =>
    (f_m_greatest m_hours m_side m_quantity m_limit m_orderEntry m_orders m_blockEntry m_blocks x1 x2).bind fun r2 =>
    (if r1 ≤ r2 then
    (f_m_floorHalf (r1 + r2)).bind fun r3 =>
    if x2 < 0 ∨ 3 ≤ x2.toNatClampNeg then none else (f_m_volume m_hours m_side m_quantity m_limit m_orderEntry m_orders m_blockEntry m_blocks x1 x2 ((upd m_price x2.toNatClampNeg r3) x2.toNatClampNeg) 0 1).bind fun r5 =>
    (f_m_volume m_hours m_side m_quantity m_limit m_orderEntry m_orders m_blockEntry m_blocks x1 x2 ((upd m_price x2.toNatClampNeg r3) x2.toNatClampNeg) 1 1).bind fun r6 =>
    (if r6 ≤ r5 then
    f_m_fits_L2 m_hours m_side m_quantity m_limit m_orderEntry m_orders m_blockEntry m_blocks x1 n (upd m_price x2.toNatClampNeg r3) (upd m_trade x2.toNatClampNeg r6) m_filled m_rest (x2 + 1)
    else
    f_m_fits_L2 m_hours m_side m_quantity m_limit m_orderEntry m_orders m_blockEntry m_blocks x1 n (upd m_price x2.toNatClampNeg r3) (upd m_trade x2.toNatClampNeg r5) m_filled m_rest (x2 + 1))
    else
    some (0, m_price, m_trade, m_filled, m_rest)))
def f_m_fits (m_hours : Nat → Int32) (m_side : Nat → Int32) (m_quantity : Nat → Int32) (m_limit : Nat → Int32) (m_orderEntry : Nat → Int32) (m_orders : Int32) (m_blockEntry : Nat → Int32) (m_blocks : Int32) (m_price : Nat → Int32) (m_trade : Nat → Int32) (m_filled : Nat → Int32) (m_rest : Nat → Int64) (x1 : Int32) : Option (Int32 × (Nat → Int32) × (Nat → Int32) × (Nat → Int32) × (Nat → Int64)) :=
    f_m_fits_L2 m_hours m_side m_quantity m_limit m_orderEntry m_orders m_blockEntry m_blocks x1 1000 m_price m_trade m_filled m_rest 0
def f_m_welfareOf_L72 (m_hours : Nat → Int32) (m_side : Nat → Int32) (m_quantity : Nat → Int32) (m_limit : Nat → Int32) (m_orderEntry : Nat → Int32) (m_orders : Int32) (m_blockEntry : Nat → Int32) (m_blocks : Int32) (m_filled : Nat → Int32) (x1 : Int32) : Nat → Int64 → Int32 → Option (Int64)
  | 0, _, _ => none
  | n + 1, x2, x4 =>
    (if m_blocks ≤ x4 then
    some (x2)
    else
    if x4 < 0 ∨ 8 ≤ x4.toNatClampNeg then none else if (m_blockEntry x4.toNatClampNeg) < 0 ∨ 240 ≤ (m_blockEntry x4.toNatClampNeg).toNatClampNeg then none else (if ((x1 >>> (x4 &&& 31)) &&& 1) = 0 then
    f_m_welfareOf_L72 m_hours m_side m_quantity m_limit m_orderEntry m_orders m_blockEntry m_blocks m_filled x1 n (x2 + 0) (x4 + 1)
    else
    (if (m_side (m_blockEntry x4.toNatClampNeg).toNatClampNeg) = 0 then
    f_m_welfareOf_L72 m_hours m_side m_quantity m_limit m_orderEntry m_orders m_blockEntry m_blocks m_filled x1 n (x2 + (((Int32.toInt64 (m_quantity (m_blockEntry x4.toNatClampNeg).toNatClampNeg)) * (Int32.toInt64 (m_limit (m_blockEntry x4.toNatClampNeg).toNatClampNeg))) * (Int32.toInt64 ((((m_hours (m_blockEntry x4.toNatClampNeg).toNatClampNeg) - (m_hours (m_blockEntry x4.toNatClampNeg).toNatClampNeg) / 4 * 4) - ((m_hours (m_blockEntry x4.toNatClampNeg).toNatClampNeg) / 4)) + 1)))) (x4 + 1)
    else
    f_m_welfareOf_L72 m_hours m_side m_quantity m_limit m_orderEntry m_orders m_blockEntry m_blocks m_filled x1 n (x2 + (-(((Int32.toInt64 (m_quantity (m_blockEntry x4.toNatClampNeg).toNatClampNeg)) * (Int32.toInt64 (m_limit (m_blockEntry x4.toNatClampNeg).toNatClampNeg))) * (Int32.toInt64 ((((m_hours (m_blockEntry x4.toNatClampNeg).toNatClampNeg) - (m_hours (m_blockEntry x4.toNatClampNeg).toNatClampNeg) / 4 * 4) - ((m_hours (m_blockEntry x4.toNatClampNeg).toNatClampNeg) / 4)) + 1))))) (x4 + 1))))
def f_m_welfareOf_L5 (m_hours : Nat → Int32) (m_side : Nat → Int32) (m_quantity : Nat → Int32) (m_limit : Nat → Int32) (m_orderEntry : Nat → Int32) (m_orders : Int32) (m_blockEntry : Nat → Int32) (m_blocks : Int32) (m_filled : Nat → Int32) (x1 : Int32) : Nat → Int64 → Int32 → Option (Int64)
  | 0, _, _ => none
  | n + 1, x2, x4 =>
    (if m_orders ≤ x4 then
    f_m_welfareOf_L72 m_hours m_side m_quantity m_limit m_orderEntry m_orders m_blockEntry m_blocks m_filled x1 1000 x2 0
    else
    if x4 < 0 ∨ 60 ≤ x4.toNatClampNeg then none else if (m_orderEntry x4.toNatClampNeg) < 0 ∨ 240 ≤ (m_orderEntry x4.toNatClampNeg).toNatClampNeg then none else (if (m_side (m_orderEntry x4.toNatClampNeg).toNatClampNeg) = 0 then
    f_m_welfareOf_L5 m_hours m_side m_quantity m_limit m_orderEntry m_orders m_blockEntry m_blocks m_filled x1 n (x2 + ((Int32.toInt64 (m_filled x4.toNatClampNeg)) * (Int32.toInt64 (m_limit (m_orderEntry x4.toNatClampNeg).toNatClampNeg)))) (x4 + 1)
    else
    f_m_welfareOf_L5 m_hours m_side m_quantity m_limit m_orderEntry m_orders m_blockEntry m_blocks m_filled x1 n (x2 + (-((Int32.toInt64 (m_filled x4.toNatClampNeg)) * (Int32.toInt64 (m_limit (m_orderEntry x4.toNatClampNeg).toNatClampNeg))))) (x4 + 1)))
def f_m_welfareOf (m_hours : Nat → Int32) (m_side : Nat → Int32) (m_quantity : Nat → Int32) (m_limit : Nat → Int32) (m_orderEntry : Nat → Int32) (m_orders : Int32) (m_blockEntry : Nat → Int32) (m_blocks : Int32) (m_filled : Nat → Int32) (x1 : Int32) : Option (Int64) :=
    f_m_welfareOf_L5 m_hours m_side m_quantity m_limit m_orderEntry m_orders m_blockEntry m_blocks m_filled x1 1000 0 0
def f_m_clear_L252 (m_n : Int32) (m_many : Nat → Int32) (m_isBlock : Nat → Int32) (m_hours : Nat → Int32) (m_side : Nat → Int32) (m_quantity : Nat → Int32) (m_limit : Nat → Int32) (m_rounds : Int32) (m_vectors : Nat → Int32) : Nat → Int32 → (Nat → Int32) → (Nat → Int32) → (Nat → Int32) → (Nat → Int32) → (Nat → Int64) → (Nat → Int32) → (Nat → Int32) → Int32 → (Nat → Int32) → (Nat → Int32) → Int32 → (Nat → Int32) → (Nat → Int32) → (Nat → Int32) → (Nat → Int64) → Int32 → Int32 → Option (Int32 × Int32 × (Nat → Int32) × (Nat → Int32) × (Nat → Int32) × (Nat → Int32) × (Nat → Int64) × (Nat → Int32) × (Nat → Int32) × Int32 × (Nat → Int32) × (Nat → Int32) × Int32 × (Nat → Int32) × (Nat → Int32) × (Nat → Int32) × (Nat → Int64))
  | 0, _, _, _, _, _, _, _, _, _, _, _, _, _, _, _, _, _, _ => none
  | n + 1, m_thrown, m_cleared, m_prices, m_trades, m_fills, m_welfares, m_orderEntry, m_orderFill, m_orders, m_blockEntry, m_blockFill, m_blocks, m_price, m_trade, m_filled, m_rest, x3, x6 =>
    (if m_blocks ≤ x6 then
    some (x3, m_thrown, m_cleared, m_prices, m_trades, m_fills, m_welfares, m_orderEntry, m_orderFill, m_orders, m_blockEntry, m_blockFill, m_blocks, m_price, m_trade, m_filled, m_rest)
    else
    if x6 < 0 ∨ 8 ≤ x6.toNatClampNeg then none else (if ((x3 >>> (x6 &&& 31)) &&& 1) = 1 then
    if (m_blockEntry x6.toNatClampNeg) < 0 ∨ 240 ≤ (m_blockEntry x6.toNatClampNeg).toNatClampNeg then none else if (m_blockFill x6.toNatClampNeg) < 0 ∨ 240 ≤ (m_blockFill x6.toNatClampNeg).toNatClampNeg then none else f_m_clear_L252 m_n m_many m_isBlock m_hours m_side m_quantity m_limit m_rounds m_vectors n m_thrown m_cleared m_prices m_trades (upd m_fills (m_blockFill x6.toNatClampNeg).toNatClampNeg (m_quantity (m_blockEntry x6.toNatClampNeg).toNatClampNeg)) m_welfares m_orderEntry m_orderFill m_orders m_blockEntry m_blockFill m_blocks m_price m_trade m_filled m_rest x3 (x6 + 1)
    else
    if (m_blockFill x6.toNatClampNeg) < 0 ∨ 240 ≤ (m_blockFill x6.toNatClampNeg).toNatClampNeg then none else f_m_clear_L252 m_n m_many m_isBlock m_hours m_side m_quantity m_limit m_rounds m_vectors n m_thrown m_cleared m_prices m_trades (upd m_fills (m_blockFill x6.toNatClampNeg).toNatClampNeg 0) m_welfares m_orderEntry m_orderFill m_orders m_blockEntry m_blockFill m_blocks m_price m_trade m_filled m_rest x3 (x6 + 1)))
def f_m_clear_L215 (m_n : Int32) (m_many : Nat → Int32) (m_isBlock : Nat → Int32) (m_hours : Nat → Int32) (m_side : Nat → Int32) (m_quantity : Nat → Int32) (m_limit : Nat → Int32) (m_rounds : Int32) (m_vectors : Nat → Int32) : Nat → Int32 → (Nat → Int32) → (Nat → Int32) → (Nat → Int32) → (Nat → Int32) → (Nat → Int64) → (Nat → Int32) → (Nat → Int32) → Int32 → (Nat → Int32) → (Nat → Int32) → Int32 → (Nat → Int32) → (Nat → Int32) → (Nat → Int32) → (Nat → Int64) → Int32 → Int32 → Option (Int32 × Int32 × (Nat → Int32) × (Nat → Int32) × (Nat → Int32) × (Nat → Int32) × (Nat → Int64) × (Nat → Int32) × (Nat → Int32) × Int32 × (Nat → Int32) × (Nat → Int32) × Int32 × (Nat → Int32) × (Nat → Int32) × (Nat → Int32) × (Nat → Int64))
  | 0, _, _, _, _, _, _, _, _, _, _, _, _, _, _, _, _, _, _ => none
  | n + 1, m_thrown, m_cleared, m_prices, m_trades, m_fills, m_welfares, m_orderEntry, m_orderFill, m_orders, m_blockEntry, m_blockFill, m_blocks, m_price, m_trade, m_filled, m_rest, x3, x6 =>
    (if m_orders ≤ x6 then
    f_m_clear_L252 m_n m_many m_isBlock m_hours m_side m_quantity m_limit m_rounds m_vectors 1000 m_thrown m_cleared m_prices m_trades m_fills m_welfares m_orderEntry m_orderFill m_orders m_blockEntry m_blockFill m_blocks m_price m_trade m_filled m_rest x3 0
    else
    if x6 < 0 ∨ 60 ≤ x6.toNatClampNeg then none else if (m_orderFill x6.toNatClampNeg) < 0 ∨ 240 ≤ (m_orderFill x6.toNatClampNeg).toNatClampNeg then none else f_m_clear_L215 m_n m_many m_isBlock m_hours m_side m_quantity m_limit m_rounds m_vectors n m_thrown m_cleared m_prices m_trades (upd m_fills (m_orderFill x6.toNatClampNeg).toNatClampNeg (m_filled x6.toNatClampNeg)) m_welfares m_orderEntry m_orderFill m_orders m_blockEntry m_blockFill m_blocks m_price m_trade m_filled m_rest x3 (x6 + 1))
def f_m_clear_L186 (m_n : Int32) (m_many : Nat → Int32) (m_isBlock : Nat → Int32) (m_hours : Nat → Int32) (m_side : Nat → Int32) (m_quantity : Nat → Int32) (m_limit : Nat → Int32) (m_rounds : Int32) (m_vectors : Nat → Int32) (x1 : Int32) : Nat → Int32 → (Nat → Int32) → (Nat → Int32) → (Nat → Int32) → (Nat → Int32) → (Nat → Int64) → (Nat → Int32) → (Nat → Int32) → Int32 → (Nat → Int32) → (Nat → Int32) → Int32 → (Nat → Int32) → (Nat → Int32) → (Nat → Int32) → (Nat → Int64) → Int32 → Int32 → Option (Int32 × Int32 × (Nat → Int32) × (Nat → Int32) × (Nat → Int32) × (Nat → Int32) × (Nat → Int64) × (Nat → Int32) × (Nat → Int32) × Int32 × (Nat → Int32) × (Nat → Int32) × Int32 × (Nat → Int32) × (Nat → Int32) × (Nat → Int32) × (Nat → Int64))
  | 0, _, _, _, _, _, _, _, _, _, _, _, _, _, _, _, _, _, _ => none
  | n + 1, m_thrown, m_cleared, m_prices, m_trades, m_fills, m_welfares, m_orderEntry, m_orderFill, m_orders, m_blockEntry, m_blockFill, m_blocks, m_price, m_trade, m_filled, m_rest, x3, x6 =>
    (if 60 ≤ x6 then
    f_m_clear_L215 m_n m_many m_isBlock m_hours m_side m_quantity m_limit m_rounds m_vectors 1000 m_thrown m_cleared m_prices m_trades m_fills m_welfares m_orderEntry m_orderFill m_orders m_blockEntry m_blockFill m_blocks m_price m_trade m_filled m_rest x3 0
    else
    if ((60 * x1) + x6) < 0 ∨ 240 ≤ ((60 * x1) + x6).toNatClampNeg then none else f_m_clear_L186 m_n m_many m_isBlock m_hours m_side m_quantity m_limit m_rounds m_vectors x1 n m_thrown m_cleared m_prices m_trades (upd m_fills ((60 * x1) + x6).toNatClampNeg 0) m_welfares m_orderEntry m_orderFill m_orders m_blockEntry m_blockFill m_blocks m_price m_trade m_filled m_rest x3 (x6 + 1))
def f_m_clear_L135 (m_n : Int32) (m_many : Nat → Int32) (m_isBlock : Nat → Int32) (m_hours : Nat → Int32) (m_side : Nat → Int32) (m_quantity : Nat → Int32) (m_limit : Nat → Int32) (m_rounds : Int32) (m_vectors : Nat → Int32) (x1 : Int32) : Nat → Int32 → (Nat → Int32) → (Nat → Int32) → (Nat → Int32) → (Nat → Int32) → (Nat → Int64) → (Nat → Int32) → (Nat → Int32) → Int32 → (Nat → Int32) → (Nat → Int32) → Int32 → (Nat → Int32) → (Nat → Int32) → (Nat → Int32) → (Nat → Int64) → Int32 → Int32 → Option (Int32 × Int32 × (Nat → Int32) × (Nat → Int32) × (Nat → Int32) × (Nat → Int32) × (Nat → Int64) × (Nat → Int32) × (Nat → Int32) × Int32 × (Nat → Int32) × (Nat → Int32) × Int32 × (Nat → Int32) × (Nat → Int32) × (Nat → Int32) × (Nat → Int64))
  | 0, _, _, _, _, _, _, _, _, _, _, _, _, _, _, _, _, _, _ => none
  | n + 1, m_thrown, m_cleared, m_prices, m_trades, m_fills, m_welfares, m_orderEntry, m_orderFill, m_orders, m_blockEntry, m_blockFill, m_blocks, m_price, m_trade, m_filled, m_rest, x3, x6 =>
    (if 3 ≤ x6 then
    f_m_clear_L186 m_n m_many m_isBlock m_hours m_side m_quantity m_limit m_rounds m_vectors x1 1000 m_thrown m_cleared m_prices m_trades m_fills m_welfares m_orderEntry m_orderFill m_orders m_blockEntry m_blockFill m_blocks m_price m_trade m_filled m_rest x3 0
    else
    if x6 < 0 ∨ 3 ≤ x6.toNatClampNeg then none else if ((3 * x1) + x6) < 0 ∨ 12 ≤ ((3 * x1) + x6).toNatClampNeg then none else f_m_clear_L135 m_n m_many m_isBlock m_hours m_side m_quantity m_limit m_rounds m_vectors x1 n m_thrown m_cleared (upd m_prices ((3 * x1) + x6).toNatClampNeg (m_price x6.toNatClampNeg)) (upd m_trades ((3 * x1) + x6).toNatClampNeg (m_trade x6.toNatClampNeg)) m_fills m_welfares m_orderEntry m_orderFill m_orders m_blockEntry m_blockFill m_blocks m_price m_trade m_filled m_rest x3 (x6 + 1))
def f_m_clear_L58 (m_n : Int32) (m_many : Nat → Int32) (m_isBlock : Nat → Int32) (m_hours : Nat → Int32) (m_side : Nat → Int32) (m_quantity : Nat → Int32) (m_limit : Nat → Int32) (m_rounds : Int32) (m_vectors : Nat → Int32) (x1 : Int32) : Nat → Int32 → (Nat → Int32) → (Nat → Int32) → (Nat → Int32) → (Nat → Int32) → (Nat → Int64) → (Nat → Int32) → (Nat → Int32) → Int32 → (Nat → Int32) → (Nat → Int32) → Int32 → (Nat → Int32) → (Nat → Int32) → (Nat → Int32) → (Nat → Int64) → Int32 → Int64 → Int32 → Option (Int32 × Int32 × (Nat → Int32) × (Nat → Int32) × (Nat → Int32) × (Nat → Int32) × (Nat → Int64) × (Nat → Int32) × (Nat → Int32) × Int32 × (Nat → Int32) × (Nat → Int32) × Int32 × (Nat → Int32) × (Nat → Int32) × (Nat → Int32) × (Nat → Int64))
  | 0, _, _, _, _, _, _, _, _, _, _, _, _, _, _, _, _, _, _, _ => none
  | n + 1, m_thrown, m_cleared, m_prices, m_trades, m_fills, m_welfares, m_orderEntry, m_orderFill, m_orders, m_blockEntry, m_blockFill, m_blocks, m_price, m_trade, m_filled, m_rest, x3, x4, x6 =>
    (if (1 <<< (m_blocks &&& 31)) ≤ x6 then
    (f_m_fits m_hours m_side m_quantity m_limit m_orderEntry m_orders m_blockEntry m_blocks m_price m_trade m_filled m_rest x3).bind fun r4 =>
    if x1 < 0 ∨ 4 ≤ x1.toNatClampNeg then none else f_m_clear_L135 m_n m_many m_isBlock m_hours m_side m_quantity m_limit m_rounds m_vectors x1 1000 m_thrown (upd m_cleared x1.toNatClampNeg (vp_nar .boolean 1)) m_prices m_trades m_fills (vp_updL m_welfares x1.toNatClampNeg x4) m_orderEntry m_orderFill m_orders m_blockEntry m_blockFill m_blocks r4.2.1 r4.2.2.1 r4.2.2.2.1 r4.2.2.2.2 x3 0
    else
    (f_m_fits m_hours m_side m_quantity m_limit m_orderEntry m_orders m_blockEntry m_blocks m_price m_trade m_filled m_rest x6).bind fun r6 =>
    (if r6.1 = 0 then
    f_m_clear_L58 m_n m_many m_isBlock m_hours m_side m_quantity m_limit m_rounds m_vectors x1 n m_thrown m_cleared m_prices m_trades m_fills m_welfares m_orderEntry m_orderFill m_orders m_blockEntry m_blockFill m_blocks r6.2.1 r6.2.2.1 r6.2.2.2.1 r6.2.2.2.2 x3 x4 (x6 + 1)
    else
    (f_m_welfareOf m_hours m_side m_quantity m_limit m_orderEntry m_orders m_blockEntry m_blocks r6.2.2.2.1 x6).bind fun r7 =>
    (if x3 < 0 then
    f_m_clear_L58 m_n m_many m_isBlock m_hours m_side m_quantity m_limit m_rounds m_vectors x1 n m_thrown m_cleared m_prices m_trades m_fills m_welfares m_orderEntry m_orderFill m_orders m_blockEntry m_blockFill m_blocks r6.2.1 r6.2.2.1 r6.2.2.2.1 r6.2.2.2.2 x6 r7 (x6 + 1)
    else
    (if (lg_cmp r7 x4) ≤ 0 then
    f_m_clear_L58 m_n m_many m_isBlock m_hours m_side m_quantity m_limit m_rounds m_vectors x1 n m_thrown m_cleared m_prices m_trades m_fills m_welfares m_orderEntry m_orderFill m_orders m_blockEntry m_blockFill m_blocks r6.2.1 r6.2.2.1 r6.2.2.2.1 r6.2.2.2.2 x3 x4 (x6 + 1)
    else
    f_m_clear_L58 m_n m_many m_isBlock m_hours m_side m_quantity m_limit m_rounds m_vectors x1 n m_thrown m_cleared m_prices m_trades m_fills m_welfares m_orderEntry m_orderFill m_orders m_blockEntry m_blockFill m_blocks r6.2.1 r6.2.2.1 r6.2.2.2.1 r6.2.2.2.2 x6 r7 (x6 + 1)))))
def f_m_clear_b37 (m_n : Int32) (m_many : Nat → Int32) (m_isBlock : Nat → Int32) (m_hours : Nat → Int32) (m_side : Nat → Int32) (m_quantity : Nat → Int32) (m_limit : Nat → Int32) (m_rounds : Int32) (m_vectors : Nat → Int32) (x1 : Int32) (m_thrown : Int32) (m_cleared : Nat → Int32) (m_prices : Nat → Int32) (m_trades : Nat → Int32) (m_fills : Nat → Int32) (m_welfares : Nat → Int64) (m_orderEntry : Nat → Int32) (m_orderFill : Nat → Int32) (m_orders : Int32) (m_blockEntry : Nat → Int32) (m_blockFill : Nat → Int32) (m_blocks : Int32) (m_price : Nat → Int32) (m_trade : Nat → Int32) (m_filled : Nat → Int32) (m_rest : Nat → Int64) (s1 : Int32) (s2 : Int32) : Option (Int32 × Int32 × (Nat → Int32) × (Nat → Int32) × (Nat → Int32) × (Nat → Int32) × (Nat → Int64) × (Nat → Int32) × (Nat → Int32) × Int32 × (Nat → Int32) × (Nat → Int32) × Int32 × (Nat → Int32) × (Nat → Int32) × (Nat → Int32) × (Nat → Int64)) :=
    (f_m_throwing m_thrown s1 s2).bind fun r2 =>
    (if r2.1 = 0 then
    (f_m_gather m_n m_many m_isBlock m_vectors m_orderEntry m_orderFill m_orders m_blockEntry m_blockFill m_blocks x1).bind fun r3 =>
    f_m_clear_L58 m_n m_many m_isBlock m_hours m_side m_quantity m_limit m_rounds m_vectors x1 1000 r2.2 m_cleared m_prices m_trades m_fills m_welfares r3.1 r3.2.1 r3.2.2.1 r3.2.2.2.1 r3.2.2.2.2.1 r3.2.2.2.2.2 m_price m_trade m_filled m_rest (-1) 0 0
    else
    some (0, r2.2, m_cleared, m_prices, m_trades, m_fills, m_welfares, m_orderEntry, m_orderFill, m_orders, m_blockEntry, m_blockFill, m_blocks, m_price, m_trade, m_filled, m_rest))
def f_m_clear_b36 (m_n : Int32) (m_many : Nat → Int32) (m_isBlock : Nat → Int32) (m_hours : Nat → Int32) (m_side : Nat → Int32) (m_quantity : Nat → Int32) (m_limit : Nat → Int32) (m_rounds : Int32) (m_vectors : Nat → Int32) (x1 : Int32) (m_thrown : Int32) (m_cleared : Nat → Int32) (m_prices : Nat → Int32) (m_trades : Nat → Int32) (m_fills : Nat → Int32) (m_welfares : Nat → Int64) (m_orderEntry : Nat → Int32) (m_orderFill : Nat → Int32) (m_orders : Int32) (m_blockEntry : Nat → Int32) (m_blockFill : Nat → Int32) (m_blocks : Int32) (m_price : Nat → Int32) (m_trade : Nat → Int32) (m_filled : Nat → Int32) (m_rest : Nat → Int64) (s1 : Int32) : Option (Int32 × Int32 × (Nat → Int32) × (Nat → Int32) × (Nat → Int32) × (Nat → Int32) × (Nat → Int64) × (Nat → Int32) × (Nat → Int32) × Int32 × (Nat → Int32) × (Nat → Int32) × Int32 × (Nat → Int32) × (Nat → Int32) × (Nat → Int32) × (Nat → Int64)) :=
    f_m_clear_b37 m_n m_many m_isBlock m_hours m_side m_quantity m_limit m_rounds m_vectors x1 m_thrown m_cleared m_prices m_trades m_fills m_welfares m_orderEntry m_orderFill m_orders m_blockEntry m_blockFill m_blocks m_price m_trade m_filled m_rest s1 0
def f_m_clear_b17 (m_n : Int32) (m_many : Nat → Int32) (m_isBlock : Nat → Int32) (m_hours : Nat → Int32) (m_side : Nat → Int32) (m_quantity : Nat → Int32) (m_limit : Nat → Int32) (m_rounds : Int32) (m_vectors : Nat → Int32) (x1 : Int32) (m_thrown : Int32) (m_cleared : Nat → Int32) (m_prices : Nat → Int32) (m_trades : Nat → Int32) (m_fills : Nat → Int32) (m_welfares : Nat → Int64) (m_orderEntry : Nat → Int32) (m_orderFill : Nat → Int32) (m_orders : Int32) (m_blockEntry : Nat → Int32) (m_blockFill : Nat → Int32) (m_blocks : Int32) (m_price : Nat → Int32) (m_trade : Nat → Int32) (m_filled : Nat → Int32) (m_rest : Nat → Int64) (s0 : Int32) : Option (Int32 × Int32 × (Nat → Int32) × (Nat → Int32) × (Nat → Int32) × (Nat → Int32) × (Nat → Int64) × (Nat → Int32) × (Nat → Int32) × Int32 × (Nat → Int32) × (Nat → Int32) × Int32 × (Nat → Int32) × (Nat → Int32) × (Nat → Int32) × (Nat → Int64)) :=
    (if s0 = 0 then
    (if 3 ≤ m_rounds then
    f_m_clear_b36 m_n m_many m_isBlock m_hours m_side m_quantity m_limit m_rounds m_vectors x1 m_thrown m_cleared m_prices m_trades m_fills m_welfares m_orderEntry m_orderFill m_orders m_blockEntry m_blockFill m_blocks m_price m_trade m_filled m_rest s0
    else
    f_m_clear_b37 m_n m_many m_isBlock m_hours m_side m_quantity m_limit m_rounds m_vectors x1 m_thrown m_cleared m_prices m_trades m_fills m_welfares m_orderEntry m_orderFill m_orders m_blockEntry m_blockFill m_blocks m_price m_trade m_filled m_rest s0 1)
    else
    f_m_clear_b36 m_n m_many m_isBlock m_hours m_side m_quantity m_limit m_rounds m_vectors x1 m_thrown m_cleared m_prices m_trades m_fills m_welfares m_orderEntry m_orderFill m_orders m_blockEntry m_blockFill m_blocks m_price m_trade m_filled m_rest s0)
def f_m_clear (m_thrown : Int32) (m_n : Int32) (m_many : Nat → Int32) (m_isBlock : Nat → Int32) (m_hours : Nat → Int32) (m_side : Nat → Int32) (m_quantity : Nat → Int32) (m_limit : Nat → Int32) (m_rounds : Int32) (m_vectors : Nat → Int32) (m_cleared : Nat → Int32) (m_prices : Nat → Int32) (m_trades : Nat → Int32) (m_fills : Nat → Int32) (m_welfares : Nat → Int64) (m_orderEntry : Nat → Int32) (m_orderFill : Nat → Int32) (m_orders : Int32) (m_blockEntry : Nat → Int32) (m_blockFill : Nat → Int32) (m_blocks : Int32) (m_price : Nat → Int32) (m_trade : Nat → Int32) (m_filled : Nat → Int32) (m_rest : Nat → Int64) (x1 : Int32) : Option (Int32 × Int32 × (Nat → Int32) × (Nat → Int32) × (Nat → Int32) × (Nat → Int32) × (Nat → Int64) × (Nat → Int32) × (Nat → Int32) × Int32 × (Nat → Int32) × (Nat → Int32) × Int32 × (Nat → Int32) × (Nat → Int32) × (Nat → Int32) × (Nat → Int64)) :=
    (f_m_in (Int32.toInt64 x1) 0 3).bind fun r1 =>
    (if r1 = 0 then
    f_m_clear_b17 m_n m_many m_isBlock m_hours m_side m_quantity m_limit m_rounds m_vectors x1 m_thrown m_cleared m_prices m_trades m_fills m_welfares m_orderEntry m_orderFill m_orders m_blockEntry m_blockFill m_blocks m_price m_trade m_filled m_rest 1
    else
    f_m_clear_b17 m_n m_many m_isBlock m_hours m_side m_quantity m_limit m_rounds m_vectors x1 m_thrown m_cleared m_prices m_trades m_fills m_welfares m_orderEntry m_orderFill m_orders m_blockEntry m_blockFill m_blocks m_price m_trade m_filled m_rest 0)
def f_m_isUncleared_b20 (m_cleared : Nat → Int32) (m_thrown : Int32) (s1 : Int32) (s2 : Int32) : Option (Int32 × Int32) :=
    (f_m_throwing m_thrown s1 s2).bind fun r2 =>
    some ((vp_nar .boolean r2.1), r2.2)
def f_m_isUncleared_b19 (m_cleared : Nat → Int32) (m_thrown : Int32) (s1 : Int32) : Option (Int32 × Int32) :=
    f_m_isUncleared_b20 m_cleared m_thrown s1 0
def f_m_isUncleared (m_thrown : Int32) (m_cleared : Nat → Int32) (x1 : Int32) (x2 : Int32) : Option (Int32 × Int32) :=
    (if x1 = 0 then
    if x2 < 0 ∨ 4 ≤ x2.toNatClampNeg then none else (if (m_cleared x2.toNatClampNeg) = 0 then
    f_m_isUncleared_b20 m_cleared m_thrown x1 1
    else
    f_m_isUncleared_b19 m_cleared m_thrown x1)
    else
    f_m_isUncleared_b19 m_cleared m_thrown x1)
def f_m_price_b30 (m_cleared : Nat → Int32) (m_prices : Nat → Int32) (x1 : Int32) (x2 : Int32) (m_thrown : Int32) (s1 : Int32) : Option (Int32 × Int32) :=
    (f_m_isUncleared m_thrown m_cleared s1 x1).bind fun r3 =>
    (if r3.1 = 0 then
    if ((3 * x1) + x2) < 0 ∨ 12 ≤ ((3 * x1) + x2).toNatClampNeg then none else some ((m_prices ((3 * x1) + x2).toNatClampNeg), r3.2)
    else
    some (0, r3.2))
def f_m_price_b25 (m_cleared : Nat → Int32) (m_prices : Nat → Int32) (x1 : Int32) (x2 : Int32) (m_thrown : Int32) : Option (Int32 × Int32) :=
    f_m_price_b30 m_cleared m_prices x1 x2 m_thrown 1
def f_m_price (m_thrown : Int32) (m_cleared : Nat → Int32) (m_prices : Nat → Int32) (x1 : Int32) (x2 : Int32) : Option (Int32 × Int32) :=
    (f_m_in (Int32.toInt64 x1) 0 3).bind fun r1 =>
    (if r1 = 0 then
    f_m_price_b25 m_cleared m_prices x1 x2 m_thrown
    else
    (f_m_in (Int32.toInt64 x2) 0 2).bind fun r2 =>
    (if r2 = 0 then
    f_m_price_b25 m_cleared m_prices x1 x2 m_thrown
    else
    f_m_price_b30 m_cleared m_prices x1 x2 m_thrown 0))
def f_m_traded_b30 (m_cleared : Nat → Int32) (m_trades : Nat → Int32) (x1 : Int32) (x2 : Int32) (m_thrown : Int32) (s1 : Int32) : Option (Int32 × Int32) :=
    (f_m_isUncleared m_thrown m_cleared s1 x1).bind fun r3 =>
    (if r3.1 = 0 then
    if ((3 * x1) + x2) < 0 ∨ 12 ≤ ((3 * x1) + x2).toNatClampNeg then none else some ((m_trades ((3 * x1) + x2).toNatClampNeg), r3.2)
    else
    some (0, r3.2))
def f_m_traded_b25 (m_cleared : Nat → Int32) (m_trades : Nat → Int32) (x1 : Int32) (x2 : Int32) (m_thrown : Int32) : Option (Int32 × Int32) :=
    f_m_traded_b30 m_cleared m_trades x1 x2 m_thrown 1
def f_m_traded (m_thrown : Int32) (m_cleared : Nat → Int32) (m_trades : Nat → Int32) (x1 : Int32) (x2 : Int32) : Option (Int32 × Int32) :=
    (f_m_in (Int32.toInt64 x1) 0 3).bind fun r1 =>
    (if r1 = 0 then
    f_m_traded_b25 m_cleared m_trades x1 x2 m_thrown
    else
    (f_m_in (Int32.toInt64 x2) 0 2).bind fun r2 =>
    (if r2 = 0 then
    f_m_traded_b25 m_cleared m_trades x1 x2 m_thrown
    else
    f_m_traded_b30 m_cleared m_trades x1 x2 m_thrown 0))
def f_m_fill_b72 (m_n : Int32) (m_many : Nat → Int32) (m_vectors : Nat → Int32) (m_cleared : Nat → Int32) (m_fills : Nat → Int32) (x1 : Int32) (x2 : Int32) (x3 : Int32) (m_thrown : Int32) (s1 : Int32) : Option (Int32 × Int32) :=
    (f_m_throwing m_thrown s1 0).bind fun r7 =>
    (if r7.1 = 0 then
    if (((60 * x1) + (10 * x2)) + x3) < 0 ∨ 240 ≤ (((60 * x1) + (10 * x2)) + x3).toNatClampNeg then none else some ((m_fills (((60 * x1) + (10 * x2)) + x3).toNatClampNeg), r7.2)
    else
    some (0, r7.2))
def f_m_fill_b38 (m_n : Int32) (m_many : Nat → Int32) (m_vectors : Nat → Int32) (m_cleared : Nat → Int32) (m_fills : Nat → Int32) (x1 : Int32) (x2 : Int32) (x3 : Int32) (m_thrown : Int32) (s1 : Int32) : Option (Int32 × Int32) :=
    (f_m_isUncleared m_thrown m_cleared s1 x1).bind fun r4 =>
    (if r4.1 = 0 then
    if ((6 * x1) + x2) < 0 ∨ 24 ≤ ((6 * x1) + x2).toNatClampNeg then none else (f_m_size m_many (m_vectors ((6 * x1) + x2).toNatClampNeg)).bind fun r6 =>
    (if x3 < r6 then
    f_m_fill_b72 m_n m_many m_vectors m_cleared m_fills x1 x2 x3 r4.2 0
    else
    f_m_fill_b72 m_n m_many m_vectors m_cleared m_fills x1 x2 x3 r4.2 1)
    else
    some (0, r4.2))
def f_m_fill_b33 (m_n : Int32) (m_many : Nat → Int32) (m_vectors : Nat → Int32) (m_cleared : Nat → Int32) (m_fills : Nat → Int32) (x1 : Int32) (x2 : Int32) (x3 : Int32) (m_thrown : Int32) : Option (Int32 × Int32) :=
    f_m_fill_b38 m_n m_many m_vectors m_cleared m_fills x1 x2 x3 m_thrown 1
def f_m_fill (m_thrown : Int32) (m_n : Int32) (m_many : Nat → Int32) (m_vectors : Nat → Int32) (m_cleared : Nat → Int32) (m_fills : Nat → Int32) (x1 : Int32) (x2 : Int32) (x3 : Int32) : Option (Int32 × Int32) :=
    (f_m_in (Int32.toInt64 x1) 0 3).bind fun r1 =>
    (if r1 = 0 then
    f_m_fill_b33 m_n m_many m_vectors m_cleared m_fills x1 x2 x3 m_thrown
    else
    (f_m_isMember m_n x2).bind fun r2 =>
    (if r2 = 0 then
    f_m_fill_b33 m_n m_many m_vectors m_cleared m_fills x1 x2 x3 m_thrown
    else
    (f_m_in (Int32.toInt64 x3) 0 9).bind fun r3 =>
    (if r3 = 0 then
    f_m_fill_b33 m_n m_many m_vectors m_cleared m_fills x1 x2 x3 m_thrown
    else
    f_m_fill_b38 m_n m_many m_vectors m_cleared m_fills x1 x2 x3 m_thrown 0)))
def f_m_welfare_b18 (m_cleared : Nat → Int32) (m_welfares : Nat → Int64) (x1 : Int32) (m_thrown : Int32) (s1 : Int32) : Option (Int64 × Int32) :=
    (f_m_isUncleared m_thrown m_cleared s1 x1).bind fun r2 =>
    (if r2.1 = 0 then
    if x1 < 0 ∨ 4 ≤ x1.toNatClampNeg then none else some ((m_welfares x1.toNatClampNeg), r2.2)
    else
    some (0, r2.2))
def f_m_welfare (m_thrown : Int32) (m_cleared : Nat → Int32) (m_welfares : Nat → Int64) (x1 : Int32) : Option (Int64 × Int32) :=
    (f_m_in (Int32.toInt64 x1) 0 3).bind fun r1 =>
    (if r1 = 0 then
    f_m_welfare_b18 m_cleared m_welfares x1 m_thrown 1
    else
    f_m_welfare_b18 m_cleared m_welfares x1 m_thrown 0)
def f_m_meter_b40 (m_n : Int32) (x1 : Int32) (x2 : Int32) (x3 : Int32) (m_thrown : Int32) (m_meters : Nat → Int32) (s1 : Int32) : Option (Int32 × (Nat → Int32)) :=
    (f_m_throwing m_thrown s1 0).bind fun r4 =>
    (if r4.1 = 0 then
    if ((3 * x1) + x2) < 0 ∨ 18 ≤ ((3 * x1) + x2).toNatClampNeg then none else some (r4.2, (upd m_meters ((3 * x1) + x2).toNatClampNeg x3))
    else
    some (r4.2, m_meters))
def f_m_meter_b35 (m_n : Int32) (x1 : Int32) (x2 : Int32) (x3 : Int32) (m_thrown : Int32) (m_meters : Nat → Int32) : Option (Int32 × (Nat → Int32)) :=
    f_m_meter_b40 m_n x1 x2 x3 m_thrown m_meters 1
def f_m_meter (m_thrown : Int32) (m_n : Int32) (m_meters : Nat → Int32) (x1 : Int32) (x2 : Int32) (x3 : Int32) : Option (Int32 × (Nat → Int32)) :=
    (f_m_isMember m_n x1).bind fun r1 =>
    (if r1 = 0 then
    f_m_meter_b35 m_n x1 x2 x3 m_thrown m_meters
    else
    (f_m_in (Int32.toInt64 x2) 0 2).bind fun r2 =>
    (if r2 = 0 then
    f_m_meter_b35 m_n x1 x2 x3 m_thrown m_meters
    else
    (f_m_in (Int32.toInt64 x3) (-1000000) 1000000).bind fun r3 =>
    (if r3 = 0 then
    f_m_meter_b35 m_n x1 x2 x3 m_thrown m_meters
    else
    f_m_meter_b40 m_n x1 x2 x3 m_thrown m_meters 0)))
def f_m_net_b80 (m_many : Nat → Int32) (m_isBlock : Nat → Int32) (m_hours : Nat → Int32) (m_side : Nat → Int32) (m_vectors : Nat → Int32) (m_fills : Nat → Int32) (x1 : Int32) (x2 : Int32) (x3 : Int32) (K19 : Int32 → Int64 → Int32 → Option (Int64)) (x4 : Int32) (x5 : Int64) (x7 : Int32) (x8 : Int32) (s0 : Int32) : Option (Int64) :=
    if (((60 * x1) + (10 * x2)) + x7) < 0 ∨ 240 ≤ (((60 * x1) + (10 * x2)) + x7).toNatClampNeg then none else (if s0 = 0 then
    K19 x4 (x5 + 0) (x7 + 1)
    else
    if x8 < 0 ∨ 240 ≤ x8.toNatClampNeg then none else (if (m_side x8.toNatClampNeg) = 1 then
    K19 x4 (x5 + (Int32.toInt64 (m_fills (((60 * x1) + (10 * x2)) + x7).toNatClampNeg))) (x7 + 1)
    else
    K19 x4 (x5 + (Int32.toInt64 (-(m_fills (((60 * x1) + (10 * x2)) + x7).toNatClampNeg)))) (x7 + 1)))
def f_m_net_L19 (m_many : Nat → Int32) (m_isBlock : Nat → Int32) (m_hours : Nat → Int32) (m_side : Nat → Int32) (m_vectors : Nat → Int32) (m_fills : Nat → Int32) (x1 : Int32) (x2 : Int32) (x3 : Int32) : Nat → Int32 → Int64 → Int32 → Option (Int64)
  | 0, _, _, _ => none
  | n + 1, x4, x5, x7 =>
    (f_m_size m_many x4).bind fun r2 =>
    (if r2 ≤ x7 then
    some (x5)
    else
    if ((10 * x4) + x7) < 0 ∨ 240 ≤ ((10 * x4) + x7).toNatClampNeg then none else (if (m_isBlock ((10 * x4) + x7).toNatClampNeg) = 0 then
    (if (m_hours ((10 * x4) + x7).toNatClampNeg) = x3 then
    f_m_net_b80 m_many m_isBlock m_hours m_side m_vectors m_fills x1 x2 x3 (f_m_net_L19 m_many m_isBlock m_hours m_side m_vectors m_fills x1 x2 x3 n) x4 x5 x7 ((10 * x4) + x7) 1
    else
    f_m_net_b80 m_many m_isBlock m_hours m_side m_vectors m_fills x1 x2 x3 (f_m_net_L19 m_many m_isBlock m_hours m_side m_vectors m_fills x1 x2 x3 n) x4 x5 x7 ((10 * x4) + x7) 0)
    else
    (f_m_covers (m_hours ((10 * x4) + x7).toNatClampNeg) x3).bind fun r4 =>
    f_m_net_b80 m_many m_isBlock m_hours m_side m_vectors m_fills x1 x2 x3 (f_m_net_L19 m_many m_isBlock m_hours m_side m_vectors m_fills x1 x2 x3 n) x4 x5 x7 ((10 * x4) + x7) r4))
def f_m_net (m_many : Nat → Int32) (m_isBlock : Nat → Int32) (m_hours : Nat → Int32) (m_side : Nat → Int32) (m_vectors : Nat → Int32) (m_fills : Nat → Int32) (x1 : Int32) (x2 : Int32) (x3 : Int32) : Option (Int64) :=
    if ((6 * x1) + x2) < 0 ∨ 24 ≤ ((6 * x1) + x2).toNatClampNeg then none else f_m_net_L19 m_many m_isBlock m_hours m_side m_vectors m_fills x1 x2 x3 1000 (m_vectors ((6 * x1) + x2).toNatClampNeg) 0 0
def f_m_balanceOf_L5 (m_many : Nat → Int32) (m_isBlock : Nat → Int32) (m_hours : Nat → Int32) (m_side : Nat → Int32) (m_vectors : Nat → Int32) (m_meters : Nat → Int32) (m_prices : Nat → Int32) (m_fills : Nat → Int32) (x1 : Int32) (x2 : Int32) : Nat → Int64 → Int32 → Option (Int64)
  | 0, _, _ => none
  | n + 1, x3, x5 =>
    (if 3 ≤ x5 then
    some (x3)
    else
    if ((3 * x1) + x5) < 0 ∨ 12 ≤ ((3 * x1) + x5).toNatClampNeg then none else (f_m_net m_many m_isBlock m_hours m_side m_vectors m_fills x1 x2 x5).bind fun r2 =>
    if ((3 * x2) + x5) < 0 ∨ 18 ≤ ((3 * x2) + x5).toNatClampNeg then none else (if (lg_cmp ((Int32.toInt64 (m_meters ((3 * x2) + x5).toNatClampNeg)) - r2) 0) ≤ 0 then
    f_m_balanceOf_L5 m_many m_isBlock m_hours m_side m_vectors m_meters m_prices m_fills x1 x2 n (x3 + (((Int32.toInt64 (m_prices ((3 * x1) + x5).toNatClampNeg)) * r2) + (((Int32.toInt64 (m_meters ((3 * x2) + x5).toNatClampNeg)) - r2) * ((Int32.toInt64 (m_prices ((3 * x1) + x5).toNatClampNeg)) + 50)))) (x5 + 1)
    else
    f_m_balanceOf_L5 m_many m_isBlock m_hours m_side m_vectors m_meters m_prices m_fills x1 x2 n (x3 + (((Int32.toInt64 (m_prices ((3 * x1) + x5).toNatClampNeg)) * r2) + (((Int32.toInt64 (m_meters ((3 * x2) + x5).toNatClampNeg)) - r2) * ((Int32.toInt64 (m_prices ((3 * x1) + x5).toNatClampNeg)) - 50)))) (x5 + 1)))
def f_m_balanceOf (m_many : Nat → Int32) (m_isBlock : Nat → Int32) (m_hours : Nat → Int32) (m_side : Nat → Int32) (m_vectors : Nat → Int32) (m_meters : Nat → Int32) (m_prices : Nat → Int32) (m_fills : Nat → Int32) (x1 : Int32) (x2 : Int32) : Option (Int64) :=
    f_m_balanceOf_L5 m_many m_isBlock m_hours m_side m_vectors m_meters m_prices m_fills x1 x2 1000 0 0
def f_m_balance_L61 (m_n : Int32) (m_many : Nat → Int32) (m_isBlock : Nat → Int32) (m_hours : Nat → Int32) (m_side : Nat → Int32) (m_vectors : Nat → Int32) (m_meters : Nat → Int32) (m_cleared : Nat → Int32) (m_prices : Nat → Int32) (m_fills : Nat → Int32) (x1 : Int32) : Nat → Int32 → Int64 → Int32 → Option (Int64 × Int32)
  | 0, _, _, _ => none
  | n + 1, m_thrown, x3, x5 =>
    (if m_n ≤ x5 then
    some ((-x3), m_thrown)
    else
    (f_m_balanceOf m_many m_isBlock m_hours m_side m_vectors m_meters m_prices m_fills x1 x5).bind fun r5 =>
    f_m_balance_L61 m_n m_many m_isBlock m_hours m_side m_vectors m_meters m_cleared m_prices m_fills x1 n m_thrown (x3 + r5) (x5 + 1))
def f_m_balance_b36 (m_n : Int32) (m_many : Nat → Int32) (m_isBlock : Nat → Int32) (m_hours : Nat → Int32) (m_side : Nat → Int32) (m_vectors : Nat → Int32) (m_meters : Nat → Int32) (m_cleared : Nat → Int32) (m_prices : Nat → Int32) (m_fills : Nat → Int32) (x1 : Int32) (x2 : Int32) (m_thrown : Int32) (s1 : Int32) : Option (Int64 × Int32) :=
    (f_m_isUncleared m_thrown m_cleared s1 x1).bind fun r3 =>
    (if r3.1 = 0 then
    (if x2 < 0 then
    f_m_balance_L61 m_n m_many m_isBlock m_hours m_side m_vectors m_meters m_cleared m_prices m_fills x1 1000 r3.2 0 0
    else
    (f_m_balanceOf m_many m_isBlock m_hours m_side m_vectors m_meters m_prices m_fills x1 x2).bind fun r4 =>
    some (r4, r3.2))
    else
    some (0, r3.2))
def f_m_balance_b31 (m_n : Int32) (m_many : Nat → Int32) (m_isBlock : Nat → Int32) (m_hours : Nat → Int32) (m_side : Nat → Int32) (m_vectors : Nat → Int32) (m_meters : Nat → Int32) (m_cleared : Nat → Int32) (m_prices : Nat → Int32) (m_fills : Nat → Int32) (x1 : Int32) (x2 : Int32) (m_thrown : Int32) : Option (Int64 × Int32) :=
    f_m_balance_b36 m_n m_many m_isBlock m_hours m_side m_vectors m_meters m_cleared m_prices m_fills x1 x2 m_thrown 1
def f_m_balance (m_thrown : Int32) (m_n : Int32) (m_many : Nat → Int32) (m_isBlock : Nat → Int32) (m_hours : Nat → Int32) (m_side : Nat → Int32) (m_vectors : Nat → Int32) (m_meters : Nat → Int32) (m_cleared : Nat → Int32) (m_prices : Nat → Int32) (m_fills : Nat → Int32) (x1 : Int32) (x2 : Int32) : Option (Int64 × Int32) :=
    (f_m_in (Int32.toInt64 x1) 0 3).bind fun r1 =>
    (if r1 = 0 then
    f_m_balance_b31 m_n m_many m_isBlock m_hours m_side m_vectors m_meters m_cleared m_prices m_fills x1 x2 m_thrown
    else
    (f_m_in (Int32.toInt64 x2) (-1) (Int32.toInt64 (m_n - 1))).bind fun r2 =>
    (if r2 = 0 then
    f_m_balance_b31 m_n m_many m_isBlock m_hours m_side m_vectors m_meters m_cleared m_prices m_fills x1 x2 m_thrown
    else
    f_m_balance_b36 m_n m_many m_isBlock m_hours m_side m_vectors m_meters m_cleared m_prices m_fills x1 x2 m_thrown 0))
