theorem lin {c : Int} {a b : Int32} (h : -2147483648 ≤ c * a.toInt + b.toInt ∧ c * a.toInt + b.toInt < 2147483648) : (i3 c * a + b).toInt = c * a.toInt + b.toInt := by
  have e : i3 c * a + b = i3 (c * a.toInt + b.toInt) := by rw [← i3_add, ← i3_mul, ← i3_of, ← i3_of]
  rw [e, i3_toInt h]
theorem lin_cl {c : Int} {a b : Int32} (h : 0 ≤ c * a.toInt + b.toInt ∧ c * a.toInt + b.toInt < 2147483648) : (i3 c * a + b).toNatClampNeg = (c * a.toInt + b.toInt).toNat := by
  show (i3 c * a + b).toInt.toNat = _
  rw [lin (by omega)]
theorem hr3 {p : Int32} (hp : isHr p) : ¬ (p < 0 ∨ 3 ≤ p.toNatClampNeg) := ix_ok (by omega)
theorem op3 {p : Int32} (hp : isOp p) : ¬ 4 ≤ p.toNatClampNeg := fun q => opix hp (Or.inr q)
theorem step_liar (x : SX) (m : SM) (a1 : Int32) (hI : Inv x m) : ∃ c x' m', St_liar x m a1 c x' m' ∧ Inv x' m' := by
  obtain ⟨hn, hc, hs, hm, hb, ⟨r1, r2, r3, r4, r5⟩, ht, hv, ho⟩ := hI
  by_cases h1 : isOp a1
  · by_cases h2 : x.ag_liarOperator = -1
    · have h2' : ¬ (0 ≤ m.m_liar) := by rw [← r1, h2]; decide
      by_cases h3 : x.ag_rounds ≤ 0
      · have hx : f_law_liar x.ag_liarOperator x.ag_rounds a1 = some (0, a1) := by
          simp only [f_law_liar, f_x_liar, f_ag_hasLiar, x_op, if_pos h1, Option.bind_some, if_neg n10, if_pos h2, if_pos h3, ite_true]
        have hm' : f_m_liar m.m_thrown m.m_rounds m.m_liar a1 = some (0, a1) := by
          simp only [f_m_liar, f_m_liar_b17, f_m_liar_b42, f_m_liar_b43, m_op, if_pos h1, Option.bind_some, if_neg n10, if_neg h2', ← r3, if_pos h3, m_thr, ite_true]
        refine ⟨_, _, _, ⟨_, _, hx, hm', rfl, rfl, rfl, rfl⟩, Inv_mk hn hc hs hm hb ⟨rfl, ?_, r3, r4, r5⟩ ht hv ho⟩
        show -1 ≤ a1.toInt ∧ a1.toInt ≤ 3
        omega
      · have hx : f_law_liar x.ag_liarOperator x.ag_rounds a1 = some (2, x.ag_liarOperator) := by
          simp only [f_law_liar, f_x_liar, f_x_liar_b37, f_ag_hasLiar, x_op, if_pos h1, Option.bind_some, if_neg n10, if_pos h2, if_neg h3, ite_true, if_neg k20, if_neg k21]
        have hm' : f_m_liar m.m_thrown m.m_rounds m.m_liar a1 = some (2, m.m_liar) := by
          simp only [f_m_liar, f_m_liar_b17, f_m_liar_b38, f_m_liar_b43, m_op, if_pos h1, Option.bind_some, if_neg n10, if_neg h2', ← r3, if_neg h3, m_thr, ite_true]
        exact ⟨_, _, _, ⟨_, _, hx, hm', rfl, rfl, rfl, rfl⟩, Inv_mk hn hc hs hm hb ⟨r1, r2, r3, r4, r5⟩ ht hv ho⟩
    · have h2' : 0 ≤ m.m_liar := by
        rw [← r1, Int32.le_iff_toInt_le]
        have : x.ag_liarOperator.toInt ≠ -1 := fun q => h2 (Int32.toInt_inj.mp (q.trans (by rfl)))
        show 0 ≤ x.ag_liarOperator.toInt
        omega
      have hx : f_law_liar x.ag_liarOperator x.ag_rounds a1 = some (2, x.ag_liarOperator) := by
        simp only [f_law_liar, f_x_liar, f_x_liar_b37, f_ag_hasLiar, x_op, if_pos h1, Option.bind_some, if_neg n10, if_neg h2, if_neg k20, if_neg k21]
      have hm' : f_m_liar m.m_thrown m.m_rounds m.m_liar a1 = some (2, m.m_liar) := by
        simp only [f_m_liar, f_m_liar_b17, f_m_liar_b38, f_m_liar_b43, m_op, if_pos h1, Option.bind_some, if_neg n10, if_pos h2', m_thr, ite_true]
      exact ⟨_, _, _, ⟨_, _, hx, hm', rfl, rfl, rfl, rfl⟩, Inv_mk hn hc hs hm hb ⟨r1, r2, r3, r4, r5⟩ ht hv ho⟩
  · have hx : f_law_liar x.ag_liarOperator x.ag_rounds a1 = some (1, x.ag_liarOperator) := by
      simp only [f_law_liar, f_x_liar, x_op, if_neg h1, Option.bind_some, if_neg k10, ite_true]
    have hm' : f_m_liar m.m_thrown m.m_rounds m.m_liar a1 = some (1, m.m_liar) := by
      simp only [f_m_liar, f_m_liar_b17, f_m_liar_b42, f_m_liar_b43, m_op, if_neg h1, Option.bind_some, if_neg n10, m_thr, ite_true]
    exact ⟨_, _, _, ⟨_, _, hx, hm', rfl, rfl, rfl, rfl⟩, Inv_mk hn hc hs hm hb ⟨r1, r2, r3, r4, r5⟩ ht hv ho⟩
theorem step_collateral (x : SX) (m : SM) (a1 a2 : Int32) (hI : Inv x m) : ∃ c x' m', St_collateral x m a1 a2 c x' m' ∧ Inv x' m' := by
  obtain ⟨hn, ⟨hc1, hc2⟩, ⟨hs1, hs2, hs3⟩, hm, hb, hr, ht, hv, ho⟩ := hI
  have hin : f_m_in a2.toInt64 0 1000000000 = some (if 0 ≤ a2.toInt ∧ a2.toInt ≤ 1000000000 then 1 else 0) := m_in rfl rfl
  have e1 : (a2 < 0) ↔ a2.toInt < 0 := Int32.lt_iff_toInt_lt
  have e2 : (a2 ≤ 1000000000) ↔ a2.toInt ≤ 1000000000 := Int32.le_iff_toInt_le
  by_cases h1 : isMem x.x_members a1
  · have hix := mem6 hn h1
    by_cases h2 : 0 ≤ a2.toInt ∧ a2.toInt ≤ 1000000000
    · have g1 : ¬ a2 < 0 := by rw [e1]; omega
      have g2 : a2 ≤ 1000000000 := by rw [e2]; omega
      by_cases h3 : x.x_hasSent a1.toNatClampNeg = 0
      · by_cases h4 : x.x_isSealed a1.toNatClampNeg = 0
        · have hx : f_law_collateral x.x_members x.x_collaterals x.x_hasSent x.x_isSealed a1 a2 = some (0, upd x.x_collaterals a1.toNatClampNeg a2) := by
            simp only [f_law_collateral, f_x_collateral, x_mem, if_pos h1, Option.bind_some, if_neg n10, if_neg hix, if_neg g1, if_pos g2, if_pos h3, if_pos h4, ite_true]
          have hm' : f_m_collateral m.m_thrown m.m_n m.m_collateral m.m_sent m.m_sealed a1 a2 = some (0, upd m.m_collateral a1.toNatClampNeg a2) := by
            simp only [f_m_collateral, f_m_collateral_b25, f_m_collateral_b54, f_m_collateral_b55, m_mem hn, hin, if_pos h1, if_pos h2, Option.bind_some, if_neg n10, if_neg hix, ← hs1, ← hs2, if_pos h3, if_pos h4, m_thr, ite_true]
          refine ⟨_, _, _, ⟨_, _, hx, hm', rfl, rfl, rfl, rfl⟩, Inv_mk hn ⟨?_, fun k => ?_⟩ ⟨hs1, hs2, hs3⟩ hm hb hr ht hv ho⟩
          · show upd x.x_collaterals _ _ = upd m.m_collateral _ _
            rw [hc1]
          · show 0 ≤ (upd x.x_collaterals a1.toNatClampNeg a2 k).toInt ∧ (upd x.x_collaterals a1.toNatClampNeg a2 k).toInt ≤ 1000000000
            rw [updf]
            split
            · exact h2
            · exact hc2 k
        · have hx : f_law_collateral x.x_members x.x_collaterals x.x_hasSent x.x_isSealed a1 a2 = some (2, x.x_collaterals) := by
            simp only [f_law_collateral, f_x_collateral, f_x_collateral_b46, x_mem, if_pos h1, Option.bind_some, if_neg n10, if_neg hix, if_neg g1, if_pos g2, if_pos h3, if_neg h4, if_neg k20, if_neg k21]
          have hm' : f_m_collateral m.m_thrown m.m_n m.m_collateral m.m_sent m.m_sealed a1 a2 = some (2, m.m_collateral) := by
            simp only [f_m_collateral, f_m_collateral_b25, f_m_collateral_b50, f_m_collateral_b55, m_mem hn, hin, if_pos h1, if_pos h2, Option.bind_some, if_neg n10, if_neg hix, ← hs1, ← hs2, if_pos h3, if_neg h4, m_thr, ite_true]
          exact ⟨_, _, _, ⟨_, _, hx, hm', rfl, rfl, rfl, rfl⟩, Inv_mk hn ⟨hc1, hc2⟩ ⟨hs1, hs2, hs3⟩ hm hb hr ht hv ho⟩
      · have hx : f_law_collateral x.x_members x.x_collaterals x.x_hasSent x.x_isSealed a1 a2 = some (2, x.x_collaterals) := by
          simp only [f_law_collateral, f_x_collateral, f_x_collateral_b46, x_mem, if_pos h1, Option.bind_some, if_neg n10, if_neg hix, if_neg g1, if_pos g2, if_neg h3, if_neg k20, if_neg k21]
        have hm' : f_m_collateral m.m_thrown m.m_n m.m_collateral m.m_sent m.m_sealed a1 a2 = some (2, m.m_collateral) := by
          simp only [f_m_collateral, f_m_collateral_b25, f_m_collateral_b50, f_m_collateral_b55, m_mem hn, hin, if_pos h1, if_pos h2, Option.bind_some, if_neg n10, if_neg hix, ← hs1, ← hs2, if_neg h3, m_thr, ite_true]
        exact ⟨_, _, _, ⟨_, _, hx, hm', rfl, rfl, rfl, rfl⟩, Inv_mk hn ⟨hc1, hc2⟩ ⟨hs1, hs2, hs3⟩ hm hb hr ht hv ho⟩
    · have hx : f_law_collateral x.x_members x.x_collaterals x.x_hasSent x.x_isSealed a1 a2 = some (1, x.x_collaterals) := by
        by_cases g1 : a2 < 0
        · simp only [f_law_collateral, f_x_collateral, f_x_collateral_b18, x_mem, if_pos h1, Option.bind_some, if_neg n10, if_pos g1, if_neg k10, ite_true]
        · have g2 : ¬ a2 ≤ 1000000000 := by rw [e1] at g1; rw [e2]; omega
          simp only [f_law_collateral, f_x_collateral, f_x_collateral_b18, x_mem, if_pos h1, Option.bind_some, if_neg n10, if_neg g1, if_neg g2, if_neg k10, ite_true]
      have hm' : f_m_collateral m.m_thrown m.m_n m.m_collateral m.m_sent m.m_sealed a1 a2 = some (1, m.m_collateral) := by
        simp only [f_m_collateral, f_m_collateral_b20, f_m_collateral_b25, f_m_collateral_b54, f_m_collateral_b55, m_mem hn, hin, if_pos h1, if_neg h2, Option.bind_some, if_neg n10, m_thr, ite_true]
      exact ⟨_, _, _, ⟨_, _, hx, hm', rfl, rfl, rfl, rfl⟩, Inv_mk hn ⟨hc1, hc2⟩ ⟨hs1, hs2, hs3⟩ hm hb hr ht hv ho⟩
  · have hx : f_law_collateral x.x_members x.x_collaterals x.x_hasSent x.x_isSealed a1 a2 = some (1, x.x_collaterals) := by
      simp only [f_law_collateral, f_x_collateral, f_x_collateral_b18, x_mem, if_neg h1, Option.bind_some, if_neg k10, ite_true]
    have hm' : f_m_collateral m.m_thrown m.m_n m.m_collateral m.m_sent m.m_sealed a1 a2 = some (1, m.m_collateral) := by
      simp only [f_m_collateral, f_m_collateral_b20, f_m_collateral_b25, f_m_collateral_b54, f_m_collateral_b55, m_mem hn, if_neg h1, Option.bind_some, if_neg n10, m_thr, ite_true]
    exact ⟨_, _, _, ⟨_, _, hx, hm', rfl, rfl, rfl, rfl⟩, Inv_mk hn ⟨hc1, hc2⟩ ⟨hs1, hs2, hs3⟩ hm hb hr ht hv ho⟩
theorem step_meter (x : SX) (m : SM) (a1 a2 a3 : Int32) (hI : Inv x m) : ∃ c x' m', St_meter x m a1 a2 a3 c x' m' ∧ Inv x' m' := by
  obtain ⟨hn, hc, hs, ⟨hm1, hm2⟩, hb, hr, ht, hv, ho⟩ := hI
  have hn' := hn
  obtain ⟨-, hn1, hn2⟩ := hn'
  have hin : f_m_in a3.toInt64 (-1000000) 1000000 = some (if -1000000 ≤ a3.toInt ∧ a3.toInt ≤ 1000000 then 1 else 0) := m_in rfl rfl
  have e1 : (a3 < -1000000) ↔ a3.toInt < -1000000 := Int32.lt_iff_toInt_lt
  have e2 : (a3 ≤ 1000000) ↔ a3.toInt ≤ 1000000 := Int32.le_iff_toInt_le
  by_cases h1 : isMem x.x_members a1
  · by_cases h2 : isHr a2
    · by_cases h3 : -1000000 ≤ a3.toInt ∧ a3.toInt ≤ 1000000
      · have g1 : ¬ a3 < -1000000 := by rw [e1]; omega
        have g2 : a3 ≤ 1000000 := by rw [e2]; omega
        have hix : ¬ (3 * a1 + a2 < 0 ∨ 18 ≤ (3 * a1 + a2).toNatClampNeg) := ix_ok (by rw [show (3 : Int32) = i3 3 from rfl, lin (by omega)]; omega)
        have hx : f_law_meter x.x_members x.x_metered a1 a2 a3 = some (0, upd x.x_metered (3 * a1 + a2).toNatClampNeg a3) := by
          simp only [f_law_meter, f_x_meter, x_mem, x_hour, if_pos h1, if_pos h2, Option.bind_some, if_neg n10, if_neg hix, if_neg g1, if_pos g2, ite_true]
        have hm' : f_m_meter m.m_thrown m.m_n m.m_meters a1 a2 a3 = some (0, upd m.m_meters (3 * a1 + a2).toNatClampNeg a3) := by
          simp only [f_m_meter, f_m_meter_b40, m_mem hn, m_hour, hin, if_pos h1, if_pos h2, if_pos h3, Option.bind_some, if_neg n10, if_neg hix, m_thr, ite_true]
        refine ⟨_, _, _, ⟨_, _, hx, hm', rfl, rfl, rfl, rfl⟩, Inv_mk hn hc hs ⟨?_, fun k => ?_⟩ hb hr ht hv ho⟩
        · show upd x.x_metered _ _ = upd m.m_meters _ _
          rw [hm1]
        · show -1000000 ≤ (upd x.x_metered (3 * a1 + a2).toNatClampNeg a3 k).toInt ∧ (upd x.x_metered (3 * a1 + a2).toNatClampNeg a3 k).toInt ≤ 1000000
          rw [updf]
          split
          · exact h3
          · exact hm2 k
      · have hx : f_law_meter x.x_members x.x_metered a1 a2 a3 = some (1, x.x_metered) := by
          by_cases g1 : a3 < -1000000
          · simp only [f_law_meter, f_x_meter, f_x_meter_b27, x_mem, x_hour, if_pos h1, if_pos h2, Option.bind_some, if_neg n10, if_pos g1, if_neg k10]
          · have g2 : ¬ a3 ≤ 1000000 := by rw [e1] at g1; rw [e2]; omega
            simp only [f_law_meter, f_x_meter, f_x_meter_b27, x_mem, x_hour, if_pos h1, if_pos h2, Option.bind_some, if_neg n10, if_neg g1, if_neg g2, if_neg k10]
        have hm' : f_m_meter m.m_thrown m.m_n m.m_meters a1 a2 a3 = some (1, m.m_meters) := by
          simp only [f_m_meter, f_m_meter_b35, f_m_meter_b40, m_mem hn, m_hour, hin, if_pos h1, if_pos h2, if_neg h3, Option.bind_some, if_neg n10, m_thr, ite_true]
        exact ⟨_, _, _, ⟨_, _, hx, hm', rfl, rfl, rfl, rfl⟩, Inv_mk hn hc hs ⟨hm1, hm2⟩ hb hr ht hv ho⟩
    · have hx : f_law_meter x.x_members x.x_metered a1 a2 a3 = some (1, x.x_metered) := by
        simp only [f_law_meter, f_x_meter, f_x_meter_b27, x_mem, x_hour, if_pos h1, if_neg h2, Option.bind_some, if_neg n10, if_neg k10, ite_true]
      have hm' : f_m_meter m.m_thrown m.m_n m.m_meters a1 a2 a3 = some (1, m.m_meters) := by
        simp only [f_m_meter, f_m_meter_b35, f_m_meter_b40, m_mem hn, m_hour, if_pos h1, if_neg h2, Option.bind_some, if_neg n10, m_thr, ite_true]
      exact ⟨_, _, _, ⟨_, _, hx, hm', rfl, rfl, rfl, rfl⟩, Inv_mk hn hc hs ⟨hm1, hm2⟩ hb hr ht hv ho⟩
  · have hx : f_law_meter x.x_members x.x_metered a1 a2 a3 = some (1, x.x_metered) := by
      simp only [f_law_meter, f_x_meter, f_x_meter_b27, x_mem, if_neg h1, Option.bind_some, if_neg k10, ite_true]
    have hm' : f_m_meter m.m_thrown m.m_n m.m_meters a1 a2 a3 = some (1, m.m_meters) := by
      simp only [f_m_meter, f_m_meter_b35, f_m_meter_b40, m_mem hn, if_neg h1, Option.bind_some, if_neg n10, m_thr, ite_true]
    exact ⟨_, _, _, ⟨_, _, hx, hm', rfl, rfl, rfl, rfl⟩, Inv_mk hn hc hs ⟨hm1, hm2⟩ hb hr ht hv ho⟩
