theorem m_unc0 {t : Int32} {f : Nat → Int32} {a : Int32} : f_m_isUncleared t f 1 a = some (1, 1) := by
  simp only [f_m_isUncleared, f_m_isUncleared_b19, f_m_isUncleared_b20, if_neg n10, m_thr, Option.bind_some, nar1]
theorem m_unc {t : Int32} {f : Nat → Int32} {a : Int32} (h : isOp a) : f_m_isUncleared t f 0 a = some (if f a.toNatClampNeg = 0 then (1, 2) else (0, 0)) := by
  simp only [f_m_isUncleared, if_neg (opix h), ite_true]
  split
  · simp only [f_m_isUncleared_b20, if_neg n10, m_thr, Option.bind_some, nar1, ite_true]
  · simp only [f_m_isUncleared_b19, f_m_isUncleared_b20, m_thr, Option.bind_some, nar0, ite_true]
theorem x_clb {f : Nat → Int32} {a : Int32} (h : isOp a) : f_x_clearedBy f a = some (if f a.toNatClampNeg = 0 then 2 else 0) := by
  simp only [f_x_clearedBy, if_neg (opix h)]
  split <;> rfl
theorem op_cl {a : Int32} (h : isOp a) : a.toNatClampNeg < 4 := by show a.toInt.toNat < 4; omega
theorem ix12 {a b : Int32} (h1 : isOp a) (h2 : isHr b) : ¬ (3 * a + b < 0 ∨ 12 ≤ (3 * a + b).toNatClampNeg) := ix_ok (by rw [show (3 : Int32) = i3 3 from rfl, lin (by omega)]; omega)
theorem cl12 {a b : Int32} (h1 : isOp a) (h2 : isHr b) : (3 * a + b).toNatClampNeg = 3 * a.toNatClampNeg + b.toNatClampNeg := by
  rw [show (3 : Int32) = i3 3 from rfl, lin_cl (by omega)]
  show _ = 3 * a.toInt.toNat + b.toInt.toNat
  omega
theorem step_price (x : SX) (m : SM) (a1 a2 : Int32) (hI : Inv x m) : ∃ c x' m', St_price x m a1 a2 c x' m' ∧ Inv x' m' := by
  obtain ⟨hn, hc, hs, hm, hb, hr, ht, hv, ho⟩ := hI
  have ho' := ho
  obtain ⟨ho1, ho2⟩ := ho'
  by_cases h1 : isOp a1
  · by_cases h2 : isHr a2
    · by_cases h3 : x.oc_isDone a1.toNatClampNeg = 0
      · have hx : f_law_price x.oc_prices x.oc_isDone m.m_out a1 a2 = some (2, m.m_out) := by
          simp only [f_law_price, f_x_price, x_op, x_hour, x_clb h1, if_pos h1, if_pos h2, if_pos h3, Option.bind_some, if_neg n10, if_neg k20, if_neg k21]
        have hm' : f_m_price m.m_thrown m.m_cleared m.m_prices a1 a2 = some (0, 2) := by
          simp only [f_m_price, f_m_price_b30, m_op, m_hour, m_unc h1, if_pos h1, if_pos h2, Option.bind_some, if_neg n10, ← ho1, if_pos h3]
        exact ⟨_, _, _, ⟨_, _, hx, hm', rfl, fun q => absurd q n20, rfl, rfl, rfl⟩, hn, hc, hs, hm, hb, hr, ht, hv, ho⟩
      · have hx : f_law_price x.oc_prices x.oc_isDone m.m_out a1 a2 = some (0, vp_updL m.m_out 0 (Int32.toInt64 (x.oc_prices a1.toNatClampNeg a2.toNatClampNeg))) := by
          simp only [f_law_price, f_x_price, x_op, x_hour, x_clb h1, if_pos h1, if_pos h2, if_neg h3, Option.bind_some, if_neg n10, if_neg (op3 h1), if_neg (hr3 h2), ite_true]
        have hm' : f_m_price m.m_thrown m.m_cleared m.m_prices a1 a2 = some (x.oc_prices a1.toNatClampNeg a2.toNatClampNeg, 0) := by
          simp only [f_m_price, f_m_price_b30, m_op, m_hour, m_unc h1, if_pos h1, if_pos h2, Option.bind_some, if_neg n10, ← ho1, if_neg h3, if_neg (ix12 h1 h2), ite_true]
          rw [cl12 h1 h2, ((ho2 _ (op_cl h1) h3).2.2.2.2.1 _ (show a2.toNatClampNeg < 3 by show a2.toInt.toNat < 3; omega)).2.1]
        exact ⟨_, _, _, ⟨_, _, hx, hm', rfl, fun _ => rfl, rfl, rfl, rfl⟩, hn, hc, hs, hm, hb, hr, ht, hv, ho⟩
    · have hx : f_law_price x.oc_prices x.oc_isDone m.m_out a1 a2 = some (1, m.m_out) := by
        simp only [f_law_price, f_x_price, f_x_price_b14, x_op, x_hour, if_pos h1, if_neg h2, Option.bind_some, if_neg n10, if_neg k10, ite_true]
      have hm' : f_m_price m.m_thrown m.m_cleared m.m_prices a1 a2 = some (0, 1) := by
        simp only [f_m_price, f_m_price_b25, f_m_price_b30, m_op, m_hour, m_unc0, if_pos h1, if_neg h2, Option.bind_some, if_neg n10, ite_true]
      exact ⟨_, _, _, ⟨_, _, hx, hm', rfl, fun q => absurd q n10, rfl, rfl, rfl⟩, hn, hc, hs, hm, hb, hr, ht, hv, ho⟩
  · have hx : f_law_price x.oc_prices x.oc_isDone m.m_out a1 a2 = some (1, m.m_out) := by
      simp only [f_law_price, f_x_price, f_x_price_b14, x_op, if_neg h1, Option.bind_some, if_neg k10, ite_true]
    have hm' : f_m_price m.m_thrown m.m_cleared m.m_prices a1 a2 = some (0, 1) := by
      simp only [f_m_price, f_m_price_b25, f_m_price_b30, m_op, m_unc0, if_neg h1, Option.bind_some, if_neg n10, ite_true]
    exact ⟨_, _, _, ⟨_, _, hx, hm', rfl, fun q => absurd q n10, rfl, rfl, rfl⟩, hn, hc, hs, hm, hb, hr, ht, hv, ho⟩
theorem step_traded (x : SX) (m : SM) (a1 a2 : Int32) (hI : Inv x m) : ∃ c x' m', St_traded x m a1 a2 c x' m' ∧ Inv x' m' := by
  obtain ⟨hn, hc, hs, hm, hb, hr, ht, hv, ho⟩ := hI
  have ho' := ho
  obtain ⟨ho1, ho2⟩ := ho'
  by_cases h1 : isOp a1
  · by_cases h2 : isHr a2
    · by_cases h3 : x.oc_isDone a1.toNatClampNeg = 0
      · have hx : f_law_traded x.oc_volumes x.oc_isDone m.m_out a1 a2 = some (2, m.m_out) := by
          simp only [f_law_traded, f_x_traded, x_op, x_hour, x_clb h1, if_pos h1, if_pos h2, if_pos h3, Option.bind_some, if_neg n10, if_neg k20, if_neg k21]
        have hm' : f_m_traded m.m_thrown m.m_cleared m.m_trades a1 a2 = some (0, 2) := by
          simp only [f_m_traded, f_m_traded_b30, m_op, m_hour, m_unc h1, if_pos h1, if_pos h2, Option.bind_some, if_neg n10, ← ho1, if_pos h3]
        exact ⟨_, _, _, ⟨_, _, hx, hm', rfl, fun q => absurd q n20, rfl, rfl, rfl⟩, Inv_mk hn hc hs hm hb hr ht hv ho⟩
      · have hx : f_law_traded x.oc_volumes x.oc_isDone m.m_out a1 a2 = some (0, vp_updL m.m_out 0 (Int32.toInt64 (x.oc_volumes a1.toNatClampNeg a2.toNatClampNeg))) := by
          simp only [f_law_traded, f_x_traded, x_op, x_hour, x_clb h1, if_pos h1, if_pos h2, if_neg h3, Option.bind_some, if_neg n10, if_neg (op3 h1), if_neg (hr3 h2), ite_true]
        have hm' : f_m_traded m.m_thrown m.m_cleared m.m_trades a1 a2 = some (x.oc_volumes a1.toNatClampNeg a2.toNatClampNeg, 0) := by
          simp only [f_m_traded, f_m_traded_b30, m_op, m_hour, m_unc h1, if_pos h1, if_pos h2, Option.bind_some, if_neg n10, ← ho1, if_neg h3, if_neg (ix12 h1 h2), ite_true]
          rw [cl12 h1 h2, ((ho2 _ (op_cl h1) h3).2.2.2.2.1 _ (show a2.toNatClampNeg < 3 by show a2.toInt.toNat < 3; omega)).2.2.2]
        exact ⟨_, _, _, ⟨_, _, hx, hm', rfl, fun _ => rfl, rfl, rfl, rfl⟩, Inv_mk hn hc hs hm hb hr ht hv ho⟩
    · have hx : f_law_traded x.oc_volumes x.oc_isDone m.m_out a1 a2 = some (1, m.m_out) := by
        simp only [f_law_traded, f_x_traded, f_x_traded_b14, x_op, x_hour, if_pos h1, if_neg h2, Option.bind_some, if_neg n10, if_neg k10, ite_true]
      have hm' : f_m_traded m.m_thrown m.m_cleared m.m_trades a1 a2 = some (0, 1) := by
        simp only [f_m_traded, f_m_traded_b25, f_m_traded_b30, m_op, m_hour, m_unc0, if_pos h1, if_neg h2, Option.bind_some, if_neg n10, ite_true]
      exact ⟨_, _, _, ⟨_, _, hx, hm', rfl, fun q => absurd q n10, rfl, rfl, rfl⟩, Inv_mk hn hc hs hm hb hr ht hv ho⟩
  · have hx : f_law_traded x.oc_volumes x.oc_isDone m.m_out a1 a2 = some (1, m.m_out) := by
      simp only [f_law_traded, f_x_traded, f_x_traded_b14, x_op, if_neg h1, Option.bind_some, if_neg k10, ite_true]
    have hm' : f_m_traded m.m_thrown m.m_cleared m.m_trades a1 a2 = some (0, 1) := by
      simp only [f_m_traded, f_m_traded_b25, f_m_traded_b30, m_op, m_unc0, if_neg h1, Option.bind_some, if_neg n10, ite_true]
    exact ⟨_, _, _, ⟨_, _, hx, hm', rfl, fun q => absurd q n10, rfl, rfl, rfl⟩, Inv_mk hn hc hs hm hb hr ht hv ho⟩
theorem step_welfare (x : SX) (m : SM) (a1 : Int32) (hI : Inv x m) : ∃ c x' m', St_welfare x m a1 c x' m' ∧ Inv x' m' := by
  obtain ⟨hn, hc, hs, hm, hb, hr, ht, hv, ho⟩ := hI
  have ho' := ho
  obtain ⟨ho1, ho2⟩ := ho'
  by_cases h1 : isOp a1
  · by_cases h3 : x.oc_isDone a1.toNatClampNeg = 0
    · have hx : f_law_welfare x.oc_worth x.oc_isDone m.m_out a1 = some (2, m.m_out) := by
        simp only [f_law_welfare, f_x_welfare, x_op, x_clb h1, if_pos h1, if_pos h3, Option.bind_some, if_neg n10, if_neg k20, if_neg k21]
      have hm' : f_m_welfare m.m_thrown m.m_cleared m.m_welfares a1 = some (0, 2) := by
        simp only [f_m_welfare, f_m_welfare_b18, m_op, m_unc h1, if_pos h1, Option.bind_some, if_neg n10, ← ho1, if_pos h3]
      exact ⟨_, _, _, ⟨_, _, hx, hm', rfl, fun q => absurd q n20, rfl, rfl, rfl⟩, Inv_mk hn hc hs hm hb hr ht hv ho⟩
    · have hx : f_law_welfare x.oc_worth x.oc_isDone m.m_out a1 = some (0, vp_updL m.m_out 0 (x.oc_worth a1.toNatClampNeg)) := by
        simp only [f_law_welfare, f_x_welfare, x_op, x_clb h1, if_pos h1, if_neg h3, Option.bind_some, if_neg n10, if_neg (op3 h1), ite_true]
      have hm' : f_m_welfare m.m_thrown m.m_cleared m.m_welfares a1 = some (x.oc_worth a1.toNatClampNeg, 0) := by
        simp only [f_m_welfare, f_m_welfare_b18, m_op, m_unc h1, if_pos h1, Option.bind_some, if_neg n10, ← ho1, if_neg h3, if_neg (opix h1), ite_true]
        rw [(ho2 _ (op_cl h1) h3).2.2.2.1]
      exact ⟨_, _, _, ⟨_, _, hx, hm', rfl, fun _ => rfl, rfl, rfl, rfl⟩, Inv_mk hn hc hs hm hb hr ht hv ho⟩
  · have hx : f_law_welfare x.oc_worth x.oc_isDone m.m_out a1 = some (1, m.m_out) := by
      simp only [f_law_welfare, f_x_welfare, x_op, if_neg h1, Option.bind_some, if_neg k10, ite_true]
    have hm' : f_m_welfare m.m_thrown m.m_cleared m.m_welfares a1 = some (0, 1) := by
      simp only [f_m_welfare, f_m_welfare_b18, m_op, m_unc0, if_neg h1, Option.bind_some, if_neg n10, ite_true]
    exact ⟨_, _, _, ⟨_, _, hx, hm', rfl, fun q => absurd q n10, rfl, rfl, rfl⟩, Inv_mk hn hc hs hm hb hr ht hv ho⟩
