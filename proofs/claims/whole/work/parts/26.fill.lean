theorem mem_el {n : Nat} {cnt : Nat → Nat} {cont : Nat → Nat → En} {p i : Nat} (hp : p < n) (hi : i < cnt p) : cont p i ∈ elist n cnt cont :=
  List.mem_flatMap.mpr ⟨p, List.mem_range.mpr hp, List.mem_map.mpr ⟨i, List.mem_range.mpr hi, rfl⟩⟩
theorem iv_fill {E : List En} {o : Nat} {op ov of' : Nat → Int32} {ow : Int64} {ot : Int32} {mp mt mf : Nat → Int32} {mw : Nat → Int64} (h : iv_o1 E o op ov of' ow ot mp mt mf mw) (e : En) (he : e ∈ E) : mf (60 * o + en_s e) = of' (en_s e) := by
  obtain ⟨-, -, -, -, h5, h6⟩ := h
  cases hb : en_b e with
  | false => exact (h5 e (List.mem_filter.mpr ⟨he, by rw [hb]; rfl⟩)).2
  | true =>
    obtain ⟨k, hk⟩ := List.getElem?_of_mem (List.mem_filter.mpr ⟨he, hb⟩)
    exact (h6 k e hk).2
theorem step_fill (x : SX) (m : SM) (a1 a2 a3 : Int32) (hI : Inv x m) : ∃ c x' m', St_fill x m a1 a2 a3 c x' m' ∧ Inv x' m' := by
  obtain ⟨hn, hc, hs, hm, hb, hr, ht, hv, ho⟩ := hI
  have ho' := ho
  obtain ⟨ho1, ho2⟩ := ho'
  have bad : f_law_fill x.x_members x.bk_counts x.ag_vectors x.oc_filled x.oc_isDone m.m_out a1 a2 a3 = some (1, m.m_out) → f_m_fill m.m_thrown m.m_n m.m_many m.m_vectors m.m_cleared m.m_fills a1 a2 a3 = some (0, 1) → ∃ c x' m', St_fill x m a1 a2 a3 c x' m' ∧ Inv x' m' :=
    fun hx hm' => ⟨_, _, _, ⟨_, _, hx, hm', rfl, fun q => absurd q n10, rfl, rfl, rfl⟩, Inv_mk hn hc hs hm hb hr ht hv ho⟩
  by_cases h1 : isOp a1
  case neg =>
    exact bad (by simp only [f_law_fill, f_x_fill, f_x_fill_b25, x_op, if_neg h1, Option.bind_some, if_neg k10, ite_true]) (by simp only [f_m_fill, f_m_fill_b33, f_m_fill_b38, m_op, m_unc0, if_neg h1, Option.bind_some, if_neg n10, ite_true])
  by_cases h2 : isMem x.x_members a2
  case neg =>
    exact bad (by simp only [f_law_fill, f_x_fill, f_x_fill_b25, x_op, x_mem, if_pos h1, if_neg h2, Option.bind_some, if_neg n10, if_neg k10, ite_true]) (by simp only [f_m_fill, f_m_fill_b33, f_m_fill_b38, m_op, m_mem hn, m_unc0, if_pos h1, if_neg h2, Option.bind_some, if_neg n10, ite_true])
  have hin : f_m_in a3.toInt64 0 9 = some (if 0 ≤ a3.toInt ∧ a3.toInt ≤ 9 then 1 else 0) := m_in rfl rfl
  have e1 : (a3 < 0) ↔ a3.toInt < 0 := Int32.lt_iff_toInt_lt
  have e2 : (a3 < 10) ↔ a3.toInt < 10 := Int32.lt_iff_toInt_lt
  by_cases h4 : 0 ≤ a3.toInt ∧ a3.toInt ≤ 9
  case neg =>
    refine bad ?_ (by simp only [f_m_fill, f_m_fill_b33, f_m_fill_b38, m_op, m_mem hn, hin, m_unc0, if_pos h1, if_pos h2, if_neg h4, Option.bind_some, if_neg n10, ite_true])
    by_cases g : a3 < 0
    · simp only [f_law_fill, f_x_fill, f_x_fill_b25, x_op, x_mem, if_pos h1, if_pos h2, if_pos g, Option.bind_some, if_neg n10, if_neg k10, ite_true]
    · have g2 : ¬ a3 < 10 := by rw [e1] at g; rw [e2]; omega
      simp only [f_law_fill, f_x_fill, f_x_fill_b25, x_op, x_mem, if_pos h1, if_pos h2, if_neg g, if_neg g2, Option.bind_some, if_neg n10, if_neg k10, ite_true]
  have g1 : ¬ a3 < 0 := by rw [e1]; omega
  have g2 : a3 < 10 := by rw [e2]; omega
  by_cases h3 : x.oc_isDone a1.toNatClampNeg = 0
  · have hx : f_law_fill x.x_members x.bk_counts x.ag_vectors x.oc_filled x.oc_isDone m.m_out a1 a2 a3 = some (2, m.m_out) := by
      simp only [f_law_fill, f_x_fill, x_op, x_mem, x_clb h1, if_pos h1, if_pos h2, if_neg g1, if_pos g2, if_pos h3, Option.bind_some, if_neg n10, if_neg k20, if_neg k21]
    have hm' : f_m_fill m.m_thrown m.m_n m.m_many m.m_vectors m.m_cleared m.m_fills a1 a2 a3 = some (0, 2) := by
      simp only [f_m_fill, f_m_fill_b38, m_op, m_mem hn, hin, m_unc h1, if_pos h1, if_pos h2, if_pos h4, ← ho1, if_pos h3, Option.bind_some, if_neg n10]
    exact ⟨_, _, _, ⟨_, _, hx, hm', rfl, fun q => absurd q n20, rfl, rfl, rfl⟩, Inv_mk hn hc hs hm hb hr ht hv ho⟩
  obtain ⟨h0, hO⟩ := ho2 _ (op_cl h1) h3
  have hag := x_agreed (v := x.ag_vectors) hn h1 h2
  have hix := ix24 hn h1 h2
  have hcl := cl24 hn h1 h2
  have n2 := hn
  obtain ⟨-, n2, n3⟩ := n2
  have hp : a2.toNatClampNeg < x.x_members.toInt.toNat := by show a2.toInt.toNat < _; omega
  have hq := hv h0 a1.toNatClampNeg a2.toNatClampNeg (op_cl h1) hp
  rw [← hcl] at hq hag
  have hsz := m_size hb.1.1 hq
  have h25 := book25 hq
  have e4 : (a3 < x.bk_counts (x.ag_vectors (6 * a1 + a2).toNatClampNeg).toNatClampNeg) ↔ a3.toInt < (x.bk_counts (x.ag_vectors (6 * a1 + a2).toNatClampNeg).toNatClampNeg).toInt := Int32.lt_iff_toInt_lt
  have h60 : ¬ (10 * a2 + a3 < 0 ∨ 60 ≤ (10 * a2 + a3).toNatClampNeg) := ix_ok (by rw [show (10 : Int32) = i3 10 from rfl, lin (by omega)]; omega)
  by_cases h6 : a3 < x.bk_counts (x.ag_vectors (6 * a1 + a2).toNatClampNeg).toNatClampNeg
  case neg =>
    exact bad (by simp only [f_law_fill, f_x_fill, x_op, x_mem, x_clb h1, hag, if_pos h1, if_pos h2, if_neg g1, if_pos g2, if_neg h3, if_neg (op3 h1), if_neg h25, if_neg h6, Option.bind_some, if_neg n10, if_neg k10, ite_true]) (by simp only [f_m_fill, f_m_fill_b38, f_m_fill_b72, m_op, m_mem hn, hin, m_unc h1, hsz, m_thr, if_pos h1, if_pos h2, if_pos h4, ← ho1, if_neg h3, if_neg hix, if_neg h6, Option.bind_some, if_neg n10, ite_true])
  have e5 : (60 * a1 + 10 * a2 + a3).toInt = 60 * a1.toInt + 10 * a2.toInt + a3.toInt := by
    have e : 60 * a1 + 10 * a2 + a3 = i3 (60 * a1.toInt + 10 * a2.toInt + a3.toInt) := by
      rw [← i3_add, ← i3_add, ← i3_mul, ← i3_mul, ← i3_of, ← i3_of, ← i3_of]
      rfl
    rw [e, i3_toInt (by omega)]
  have h240 : ¬ (60 * a1 + 10 * a2 + a3 < 0 ∨ 240 ≤ (60 * a1 + 10 * a2 + a3).toNatClampNeg) := ix_ok (by rw [e5]; omega)
  have hx : f_law_fill x.x_members x.bk_counts x.ag_vectors x.oc_filled x.oc_isDone m.m_out a1 a2 a3 = some (0, vp_updL m.m_out 0 (Int32.toInt64 (x.oc_filled a1.toNatClampNeg (10 * a2 + a3).toNatClampNeg))) := by
    simp only [f_law_fill, f_x_fill, x_op, x_mem, x_clb h1, hag, if_pos h1, if_pos h2, if_neg g1, if_pos g2, if_neg h3, if_neg (op3 h1), if_neg h25, if_pos h6, if_neg h60, Option.bind_some, if_neg n10, ite_true]
  have hm' : f_m_fill m.m_thrown m.m_n m.m_many m.m_vectors m.m_cleared m.m_fills a1 a2 a3 = some (x.oc_filled a1.toNatClampNeg (10 * a2 + a3).toNatClampNeg, 0) := by
    simp only [f_m_fill, f_m_fill_b38, f_m_fill_b72, m_op, m_mem hn, hin, m_unc h1, hsz, m_thr, if_pos h1, if_pos h2, if_pos h4, ← ho1, if_neg h3, if_neg hix, if_pos h6, if_neg h240, Option.bind_some, if_neg n10, ite_true]
    have z1 : (10 * a2 + a3).toNatClampNeg = 10 * a2.toNatClampNeg + a3.toInt.toNat := by
      rw [show (10 : Int32) = i3 10 from rfl, lin_cl (by omega)]
      show _ = 10 * a2.toInt.toNat + _
      omega
    have z2 : (60 * a1 + 10 * a2 + a3).toNatClampNeg = 60 * a1.toNatClampNeg + (10 * a2.toNatClampNeg + a3.toInt.toNat) := by
      show (60 * a1 + 10 * a2 + a3).toInt.toNat = 60 * a1.toInt.toNat + (10 * a2.toInt.toNat + _)
      rw [e5]
      omega
    rw [z1, z2]
    have hmem := mem_el (n := x.x_members.toInt.toNat) (cnt := fun p => (x.bk_counts (x.ag_vectors (6 * a1.toNatClampNeg + p)).toInt.toNat).toInt.toNat) (cont := fun p i => en_at x.bk_whens x.bk_sides x.bk_quantities x.bk_limits (10 * p + i) (10 * (x.ag_vectors (6 * a1.toNatClampNeg + p)).toInt.toNat + i)) (p := a2.toNatClampNeg) (i := a3.toInt.toNat) hp (by
      show a3.toInt.toNat < (x.bk_counts (x.ag_vectors (6 * a1.toNatClampNeg + a2.toNatClampNeg)).toInt.toNat).toInt.toNat
      rw [← hcl]
      have := e4.mp h6
      show a3.toInt.toNat < (x.bk_counts (x.ag_vectors (6 * a1 + a2).toNatClampNeg).toNatClampNeg).toInt.toNat
      omega)
    have := iv_fill hO _ hmem
    exact congrArg (fun z => some (z, (0 : Int32))) this
  exact ⟨_, _, _, ⟨_, _, hx, hm', rfl, fun _ => rfl, rfl, rfl, rfl⟩, Inv_mk hn hc hs hm hb hr ht hv ho⟩
