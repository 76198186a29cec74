abbrev isIt (n p : Int32) : Prop := -1 ≤ p.toInt ∧ p.toInt < 4 * n.toInt
theorem mul4 {n : Int32} (h1 : 1 ≤ n.toInt) (h2 : n.toInt ≤ 6) : (4 * n).toInt = 4 * n.toInt := by
  rw [show (4 : Int32) = i3 4 from rfl]
  have e : i3 4 * n = i3 (4 * n.toInt) := by rw [← i3_mul, ← i3_of]
  rw [e, i3_toInt (by omega)]
theorem x_item {n m p : Int32} (h : iv_n n m) : f_x_isItem n p = some (if isIt n p then 1 else 0) := by
  obtain ⟨rfl, h1, h2⟩ := h
  unfold f_x_isItem
  simp only [Int32.lt_iff_toInt_lt, Int32.le_iff_toInt_le, mul4 h1 h2, show (-1 : Int32).toInt = -1 from rfl]
  repeat' split
  all_goals first | rfl | (exfalso; omega)
theorem m_item {n m p : Int32} (h : iv_n n m) : f_m_in p.toInt64 (-1) (Int32.toInt64 (4 * m - 1)) = some (if isIt n p then 1 else 0) := by
  obtain ⟨rfl, h1, h2⟩ := h
  rw [m_in (a := -1) (b := 4 * n.toInt - 1) rfl (by
    rw [Int32.toInt_toInt64, Int32.toInt_sub, mul4 h1 h2, show (1 : Int32).toInt = 1 from rfl, Int.bmod_eq_of_le (by omega) (by omega)])]
  congr 1
  repeat' split
  all_goals first | rfl | (exfalso; omega)
theorem m_r12 {r : Int32} (h0 : 0 ≤ r.toInt) (h3 : r.toInt ≤ 3) : f_m_in r.toInt64 1 2 = some (if r = 1 ∨ r = 2 then 1 else 0) := by
  rw [m_in (a := 1) (b := 2) rfl rfl]
  have e1 : r = 1 ↔ r.toInt = 1 := by rw [← Int32.toInt_inj]; exact Iff.rfl
  have e2 : r = 2 ↔ r.toInt = 2 := by rw [← Int32.toInt_inj]; exact Iff.rfl
  simp only [e1, e2]
  congr 1
  repeat' split
  all_goals first | rfl | (exfalso; omega)
theorem upd_lie {n : Int32} {f g : Nat → Int32} {N j : Nat} {c d : Int32} (h : ∀ k, k < N → lieq n (f k) (g k)) (hcd : lieq n c d) : ∀ k, k < N → lieq n (upd f j c k) (upd g j d k) := by
  intro k hk
  rw [updf, updf]
  split
  · exact hcd
  · exact h k hk
theorem lieq_item {n p : Int32} (h : isIt n p) : lieq n (if p = -1 then 24 else p) p := by
  by_cases q : p = -1
  · rw [if_pos q]
    exact Or.inr (Or.inl ⟨rfl, q⟩)
  · rw [if_neg q]
    have : p.toInt ≠ -1 := fun z => q (Int32.toInt_inj.mp (z.trans (by rfl)))
    exact Or.inr (Or.inr ⟨rfl, by omega, h.2⟩)
theorem step_tell (x : SX) (m : SM) (a1 a2 a3 a4 : Int32) (hI : Inv x m) : ∃ c x' m', St_tell x m a1 a2 a3 a4 c x' m' ∧ Inv x' m' := by
  obtain ⟨hn, hc, hs, hm, hb, hr, ht, hv, ho⟩ := hI
  have hr' := hr
  obtain ⟨r1, r2, r3, r4, r5⟩ := hr'
  have hn' := hn
  obtain ⟨-, n1, n2⟩ := hn'
  have bad : f_law_tell x.x_members x.ag_toldLies x.ag_passedLies x.ag_liarOperator x.ag_rounds a1 a2 a3 a4 = some (1, x.ag_toldLies, x.ag_passedLies) → f_m_tell m.m_thrown m.m_n m.m_rounds m.m_liar m.m_told m.m_passed a1 a2 a3 a4 = some (1, m.m_told, m.m_passed) → ∃ c x' m', St_tell x m a1 a2 a3 a4 c x' m' ∧ Inv x' m' :=
    fun hx hm' => ⟨_, _, _, ⟨_, _, hx, hm', rfl, rfl, rfl, rfl⟩, Inv_mk hn hc hs hm hb hr ht hv ho⟩
  have late : f_law_tell x.x_members x.ag_toldLies x.ag_passedLies x.ag_liarOperator x.ag_rounds a1 a2 a3 a4 = some (2, x.ag_toldLies, x.ag_passedLies) → f_m_tell m.m_thrown m.m_n m.m_rounds m.m_liar m.m_told m.m_passed a1 a2 a3 a4 = some (2, m.m_told, m.m_passed) → ∃ c x' m', St_tell x m a1 a2 a3 a4 c x' m' ∧ Inv x' m' :=
    fun hx hm' => ⟨_, _, _, ⟨_, _, hx, hm', rfl, rfl, rfl, rfl⟩, Inv_mk hn hc hs hm hb hr ht hv ho⟩
  by_cases h1 : isOp a1
  case neg =>
    exact bad (by simp only [f_law_tell, f_x_tell, f_x_tell_b31, x_op, if_neg h1, Option.bind_some, if_neg k10, ite_true]) (by simp only [f_m_tell, f_m_tell_b53, f_m_tell_b58, f_m_tell_b91, f_m_tell_b92, f_m_tell_b148, f_m_tell_b149, f_m_tell_b162, f_m_tell_b167, m_op, if_neg h1, Option.bind_some, if_neg n10, ite_true, m_thr])
  by_cases h2 : isOp a2
  case neg =>
    exact bad (by simp only [f_law_tell, f_x_tell, f_x_tell_b31, x_op, if_pos h1, if_neg h2, Option.bind_some, if_neg n10, if_neg k10, ite_true]) (by simp only [f_m_tell, f_m_tell_b53, f_m_tell_b58, f_m_tell_b91, f_m_tell_b92, f_m_tell_b148, f_m_tell_b149, f_m_tell_b162, f_m_tell_b167, m_op, if_pos h1, if_neg h2, Option.bind_some, if_neg n10, ite_true, m_thr])
  by_cases h3 : isMem x.x_members a3
  case neg =>
    exact bad (by simp only [f_law_tell, f_x_tell, f_x_tell_b31, x_op, x_mem, if_pos h1, if_pos h2, if_neg h3, Option.bind_some, if_neg n10, if_neg k10, ite_true]) (by simp only [f_m_tell, f_m_tell_b53, f_m_tell_b58, f_m_tell_b91, f_m_tell_b92, f_m_tell_b148, f_m_tell_b149, f_m_tell_b162, f_m_tell_b167, m_op, m_mem hn, if_pos h1, if_pos h2, if_neg h3, Option.bind_some, if_neg n10, ite_true, m_thr])
  by_cases h4 : isIt x.x_members a4
  case neg =>
    exact bad (by simp only [f_law_tell, f_x_tell, f_x_tell_b31, x_op, x_mem, x_item hn, if_pos h1, if_pos h2, if_pos h3, if_neg h4, Option.bind_some, if_neg n10, if_neg k10, ite_true]) (by simp only [f_m_tell, f_m_tell_b53, f_m_tell_b58, f_m_tell_b91, f_m_tell_b92, f_m_tell_b148, f_m_tell_b149, f_m_tell_b162, f_m_tell_b167, m_op, m_mem hn, m_item hn, if_pos h1, if_pos h2, if_pos h3, if_neg h4, Option.bind_some, if_neg n10, ite_true, m_thr])
  by_cases h5 : x.ag_liarOperator = -1
  case pos =>
    have h5' : m.m_liar < 0 := by rw [← r1, h5]; decide
    exact late (by simp only [f_law_tell, f_x_tell, f_x_tell_b61, f_ag_hasLiar, x_op, x_mem, x_item hn, if_pos h1, if_pos h2, if_pos h3, if_pos h4, if_pos h5, Option.bind_some, if_neg n10, if_neg k20, if_neg k21, ite_true]) (by simp only [f_m_tell, f_m_tell_b58, f_m_tell_b87, f_m_tell_b92, f_m_tell_b148, f_m_tell_b149, f_m_tell_b167, m_op, m_mem hn, m_item hn, if_pos h1, if_pos h2, if_pos h3, if_pos h4, if_pos h5', Option.bind_some, if_neg n10, ite_true, m_thr])
  have h5' : ¬ m.m_liar < 0 := by
    rw [← r1, Int32.lt_iff_toInt_lt]
    have : x.ag_liarOperator.toInt ≠ -1 := fun q => h5 (Int32.toInt_inj.mp (q.trans (by rfl)))
    show ¬ x.ag_liarOperator.toInt < 0
    omega
  have hrr := m_r12 r4.1 r4.2
  rw [r3] at hrr
  by_cases h6 : x.ag_rounds = 1 ∨ x.ag_rounds = 2
  case neg =>
    have g1 : ¬ x.ag_rounds = 1 := fun q => h6 (Or.inl q)
    have g2 : ¬ x.ag_rounds = 2 := fun q => h6 (Or.inr q)
    have h6' : ¬ (m.m_rounds = 1 ∨ m.m_rounds = 2) := by rw [← r3]; exact h6
    exact late (by simp only [f_law_tell, f_x_tell, f_x_tell_b61, f_ag_hasLiar, f_ag_isTellingNext, x_op, x_mem, x_item hn, if_pos h1, if_pos h2, if_pos h3, if_pos h4, if_neg h5, if_neg g1, if_neg g2, Option.bind_some, if_neg n10, if_neg k20, if_neg k21, ite_true]) (by simp only [f_m_tell, f_m_tell_b58, f_m_tell_b87, f_m_tell_b92, f_m_tell_b148, f_m_tell_b149, f_m_tell_b167, m_op, m_mem hn, m_item hn, hrr, if_pos h1, if_pos h2, if_pos h3, if_pos h4, if_neg h5', if_neg h6', Option.bind_some, if_neg n10, ite_true, m_thr])
  have h6' : m.m_rounds = 1 ∨ m.m_rounds = 2 := by rw [← r3]; exact h6
  have hT : f_ag_isTellingNext x.ag_rounds = some 1 := by
    rcases h6 with q | q
    · simp only [f_ag_isTellingNext, f_ag_isTellingNext_b16, if_pos q]
    · by_cases q1 : x.ag_rounds = 1
      · simp only [f_ag_isTellingNext, f_ag_isTellingNext_b16, if_pos q1]
      · simp only [f_ag_isTellingNext, f_ag_isTellingNext_b16, if_neg q1, if_pos q]
  have hX : f_law_tell x.x_members x.ag_toldLies x.ag_passedLies x.ag_liarOperator x.ag_rounds a1 a2 a3 a4 = ((f_ag_mayLie x.ag_liarOperator x.ag_rounds a1 a2).bind fun r7 => if r7 = 0 then some (1, x.ag_toldLies, x.ag_passedLies) else (f_ag_setLie x.ag_toldLies x.ag_passedLies x.ag_rounds a1 a2 a3 (if a4 = -1 then 24 else a4)).bind fun r8 => some (0, r8.1, r8.2)) := by
    simp only [f_law_tell, f_x_tell, f_x_tell_b113, f_ag_hasLiar, hT, x_op, x_mem, x_item hn, if_pos h1, if_pos h2, if_pos h3, if_pos h4, if_neg h5, Option.bind_some, if_neg n10, ite_true]
    cases hml : f_ag_mayLie x.ag_liarOperator x.ag_rounds a1 a2 with
    | none => rfl
    | some v =>
      simp only [Option.bind_some]
      by_cases hv0 : v = 0
      · simp only [if_pos hv0, Option.bind_some, if_neg k10, ite_true]
      · simp only [if_neg hv0]
        by_cases h4' : a4 = -1
        · simp only [if_pos h4']
          cases f_ag_setLie x.ag_toldLies x.ag_passedLies x.ag_rounds a1 a2 a3 24 with
          | none => rfl
          | some w => simp only [Option.bind_some, ite_true]
        · simp only [if_neg h4']
          cases f_ag_setLie x.ag_toldLies x.ag_passedLies x.ag_rounds a1 a2 a3 a4 with
          | none => rfl
          | some w => simp only [Option.bind_some, ite_true]
  have other : f_ag_mayLie x.ag_liarOperator x.ag_rounds a1 a2 = some 0 → f_m_tell m.m_thrown m.m_n m.m_rounds m.m_liar m.m_told m.m_passed a1 a2 a3 a4 = some (1, m.m_told, m.m_passed) → ∃ c x' m', St_tell x m a1 a2 a3 a4 c x' m' ∧ Inv x' m' :=
    fun hl hm' => bad (by rw [hX, hl]; simp only [Option.bind_some, ite_true]) hm'
  have hlie := lieq_item h4
  by_cases h7 : a1 = x.ag_liarOperator
  case pos =>
    have h7' : a1 = m.m_liar := h7.trans r1
    exact other (by simp only [f_ag_mayLie, if_pos h7]) (by simp only [f_m_tell, f_m_tell_b58, f_m_tell_b91, f_m_tell_b92, f_m_tell_b144, f_m_tell_b149, f_m_tell_b162, f_m_tell_b167, m_op, m_mem hn, m_item hn, hrr, if_pos h1, if_pos h2, if_pos h3, if_pos h4, if_neg h5', if_pos h6', if_pos h7', Option.bind_some, if_neg n10, ite_true, m_thr])
  have h7' : ¬ a1 = m.m_liar := fun q => h7 (q.trans r1.symm)
  by_cases h8 : x.ag_rounds = 1
  · have h8' : m.m_rounds = 1 := r3.symm.trans h8
    by_cases h9 : a2 = x.ag_liarOperator
    case neg =>
      have h9' : ¬ a2 = m.m_liar := fun q => h9 (q.trans r1.symm)
      exact other (by simp only [f_ag_mayLie, if_neg h7, if_pos h8, if_neg h9]) (by simp only [f_m_tell, f_m_tell_b58, f_m_tell_b91, f_m_tell_b92, f_m_tell_b144, f_m_tell_b149, f_m_tell_b162, f_m_tell_b167, m_op, m_mem hn, m_item hn, hrr, if_pos h1, if_pos h2, if_pos h3, if_pos h4, if_neg h5', if_pos h6', if_neg h7', if_pos h8', if_neg h9', Option.bind_some, if_neg n10, ite_true, m_thr])
    have h9' : a2 = m.m_liar := h9.trans r1
    have hix : ¬ (6 * a1 + a3 < 0 ∨ 24 ≤ (6 * a1 + a3).toNatClampNeg) := ix_ok (by rw [show (6 : Int32) = i3 6 from rfl, lin (by omega)]; omega)
    have hx : f_law_tell x.x_members x.ag_toldLies x.ag_passedLies x.ag_liarOperator x.ag_rounds a1 a2 a3 a4 = some (0, upd x.ag_toldLies (6 * a1 + a3).toNatClampNeg (if a4 = -1 then 24 else a4), x.ag_passedLies) := by
      rw [hX]
      simp only [f_ag_mayLie, f_ag_setLie, f_ag_toldPlace, if_neg h7, if_pos h8, if_pos h9, Option.bind_some, if_neg n10, if_neg hix]
    have hm' : f_m_tell m.m_thrown m.m_n m.m_rounds m.m_liar m.m_told m.m_passed a1 a2 a3 a4 = some (0, upd m.m_told (6 * a1 + a3).toNatClampNeg a4, m.m_passed) := by
      simp only [f_m_tell, f_m_tell_b58, f_m_tell_b91, f_m_tell_b92, f_m_tell_b148, f_m_tell_b149, f_m_tell_b167, m_op, m_mem hn, m_item hn, hrr, if_pos h1, if_pos h2, if_pos h3, if_pos h4, if_neg h5', if_pos h6', if_neg h7', if_pos h8', if_pos h9', Option.bind_some, if_neg n10, ite_true, m_thr, if_neg hix]
    exact ⟨_, _, _, ⟨_, _, hx, hm', rfl, rfl, rfl, rfl⟩, Inv_mk hn hc hs hm hb hr ⟨upd_lie ht.1 hlie, ht.2⟩ hv ho⟩
  · have h8' : ¬ m.m_rounds = 1 := fun q => h8 (r3.trans q)
    by_cases h9 : a2 = x.ag_liarOperator
    case pos =>
      have h9' : a2 = m.m_liar := h9.trans r1
      exact other (by simp only [f_ag_mayLie, if_neg h7, if_neg h8, if_pos h9]) (by simp only [f_m_tell, f_m_tell_b58, f_m_tell_b91, f_m_tell_b92, f_m_tell_b144, f_m_tell_b149, f_m_tell_b162, f_m_tell_b167, m_op, m_mem hn, m_item hn, hrr, if_pos h1, if_pos h2, if_pos h3, if_pos h4, if_neg h5', if_pos h6', if_neg h7', if_neg h8', if_pos h9', Option.bind_some, if_neg n10, ite_true, m_thr])
    have h9' : ¬ a2 = m.m_liar := fun q => h9 (q.trans r1.symm)
    by_cases h10 : a2 = a1
    case pos =>
      exact other (by simp only [f_ag_mayLie, if_neg h7, if_neg h8, if_neg h9, if_pos h10]) (by simp only [f_m_tell, f_m_tell_b58, f_m_tell_b91, f_m_tell_b92, f_m_tell_b144, f_m_tell_b149, f_m_tell_b162, f_m_tell_b167, m_op, m_mem hn, m_item hn, hrr, if_pos h1, if_pos h2, if_pos h3, if_pos h4, if_neg h5', if_pos h6', if_neg h7', if_neg h8', if_neg h9', if_pos h10, Option.bind_some, if_neg n10, ite_true, m_thr])
    have e1 : (6 * (4 * a1 + a2) + a3).toInt = 24 * a1.toInt + 6 * a2.toInt + a3.toInt := by
      have e2 : (4 * a1 + a2).toInt = 4 * a1.toInt + a2.toInt := by rw [show (4 : Int32) = i3 4 from rfl, lin (by omega)]
      rw [show (6 : Int32) = i3 6 from rfl, lin (by rw [e2]; omega), e2]
      omega
    have e3 : 24 * a1 + 6 * a2 + a3 = 6 * (4 * a1 + a2) + a3 := by
      have e2 : 24 * a1 + 6 * a2 + a3 = i3 (24 * a1.toInt + 6 * a2.toInt + a3.toInt) := by
        rw [← i3_add, ← i3_add, ← i3_mul, ← i3_mul, ← i3_of, ← i3_of, ← i3_of]
        rfl
      rw [e2, ← e1, ← i3_of]
    have hix : ¬ (6 * (4 * a1 + a2) + a3 < 0 ∨ 96 ≤ (6 * (4 * a1 + a2) + a3).toNatClampNeg) := ix_ok (by rw [e1]; omega)
    have hx : f_law_tell x.x_members x.ag_toldLies x.ag_passedLies x.ag_liarOperator x.ag_rounds a1 a2 a3 a4 = some (0, x.ag_toldLies, upd x.ag_passedLies (6 * (4 * a1 + a2) + a3).toNatClampNeg (if a4 = -1 then 24 else a4)) := by
      rw [hX]
      simp only [f_ag_mayLie, f_ag_setLie, f_ag_passedPlace, if_neg h7, if_neg h8, if_neg h9, if_neg h10, Option.bind_some, if_neg n10, if_neg hix]
    have hm' : f_m_tell m.m_thrown m.m_n m.m_rounds m.m_liar m.m_told m.m_passed a1 a2 a3 a4 = some (0, m.m_told, upd m.m_passed (6 * (4 * a1 + a2) + a3).toNatClampNeg a4) := by
      simp only [f_m_tell, f_m_tell_b58, f_m_tell_b91, f_m_tell_b92, f_m_tell_b148, f_m_tell_b149, f_m_tell_b167, m_op, m_mem hn, m_item hn, hrr, if_pos h1, if_pos h2, if_pos h3, if_pos h4, if_neg h5', if_pos h6', if_neg h7', if_neg h8', if_neg h9', if_neg h10, Option.bind_some, if_neg n10, ite_true, m_thr, e3, if_neg hix]
    exact ⟨_, _, _, ⟨_, _, hx, hm', rfl, rfl, rfl, rfl⟩, Inv_mk hn hc hs hm hb hr ⟨ht.1, upd_lie ht.2 hlie⟩ hv ho⟩
