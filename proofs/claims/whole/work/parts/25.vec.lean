theorem i3n (x : Int32) {z : Int} (hz : -2147483648 ≤ z ∧ z < 2147483648) : x = i3 z ↔ x.toInt = z := by
  rw [← Int32.toInt_inj, i3_toInt hz]
theorem x_over {r : Int32} (h0 : 0 ≤ r.toInt ∧ r.toInt ≤ 3) : f_ag_isOver r = some (if r = 3 then 1 else 0) := by
  have e : r = 3 ↔ r.toInt = 3 := i3n r (z := 3) (by omega)
  unfold f_ag_isOver
  simp only [Int32.lt_iff_toInt_lt, show (3 : Int32).toInt = 3 from rfl, e]
  repeat' split
  all_goals first | rfl | (exfalso; omega)
theorem ix24 {n m a b : Int32} (hn : iv_n n m) (h1 : isOp a) (h2 : isMem n b) : ¬ (6 * a + b < 0 ∨ 24 ≤ (6 * a + b).toNatClampNeg) := by
  obtain ⟨-, n1, n2⟩ := hn
  exact ix_ok (by rw [show (6 : Int32) = i3 6 from rfl, lin (by omega)]; omega)
theorem cl24 {n m a b : Int32} (hn : iv_n n m) (h1 : isOp a) (h2 : isMem n b) : (6 * a + b).toNatClampNeg = 6 * a.toNatClampNeg + b.toNatClampNeg := by
  obtain ⟨-, n1, n2⟩ := hn
  rw [show (6 : Int32) = i3 6 from rfl, lin_cl (by omega)]
  show _ = 6 * a.toInt.toNat + b.toInt.toNat
  omega
theorem x_agreed {n m a b : Int32} {v : Nat → Int32} (hn : iv_n n m) (h1 : isOp a) (h2 : isMem n b) : f_ag_agreedBook v a b = some (v (6 * a.toNatClampNeg + b.toNatClampNeg)) := by
  simp only [f_ag_agreedBook, f_ag_vectorPlace, Option.bind_some, if_neg (ix24 hn h1 h2)]
  rw [cl24 hn h1 h2]
theorem m_size {c c' : Nat → Int32} {w d q l : Nat → Int32} {a b : Int32} (hc : c = c') (h : bkq c w d q l a b) : f_m_size c' b = some (c a.toNatClampNeg) := by
  obtain ⟨h1, h2, h3, h4⟩ := h
  subst hc
  unfold f_m_size
  have e : (0 ≤ b) ↔ 0 ≤ b.toInt := Int32.le_iff_toInt_le
  by_cases hb : 0 ≤ b.toInt
  · rw [if_pos (e.mpr hb), if_neg (ix_ok (by omega))]
    congr 1
    rw [if_neg (by omega)] at h3
    exact h3.symm
  · rw [if_neg (fun z => hb (e.mp z))]
    congr 1
    rw [if_pos (by omega)] at h3
    exact h3.symm
theorem book25 {c w d q l : Nat → Int32} {a b : Int32} (h : bkq c w d q l a b) : ¬ (a < 0 ∨ 25 ≤ a.toNatClampNeg) := ix_ok (by have := h.1; omega)
/-- an entry of a vector, in class and reference -/
theorem bk_use {c c' : Nat → Int32} {e e' : Nat → Int64} {w ib hs d d' q q' l l' : Nat → Int32} {a b i : Int32} (hb : iv_b c c' e e' w ib hs d d' q q' l l') (h : bkq c w d q l a b) (h0 : 0 ≤ i.toInt) (h1 : i.toInt < (c a.toNatClampNeg).toInt) :
    (0 ≤ b.toInt ∧ a.toInt < 24 ∧ i.toInt < 10) ∧ (10 * a + i).toNatClampNeg = 10 * a.toNatClampNeg + i.toNatClampNeg ∧ (10 * b + i).toNatClampNeg = 10 * b.toNatClampNeg + i.toNatClampNeg ∧ ¬ (10 * a + i < 0 ∨ 240 ≤ (10 * a + i).toNatClampNeg) ∧ ¬ (10 * b + i < 0 ∨ 240 ≤ (10 * b + i).toNatClampNeg) ∧
    w (10 * a + i).toNatClampNeg = hs (10 * b + i).toNatClampNeg + (if ib (10 * b + i).toNatClampNeg = 0 then 0 else 100) ∧ d (10 * a + i).toNatClampNeg = d' (10 * b + i).toNatClampNeg ∧ q (10 * a + i).toNatClampNeg = q' (10 * b + i).toNatClampNeg ∧ l (10 * a + i).toNatClampNeg = l' (10 * b + i).toNatClampNeg := by
  obtain ⟨⟨rfl, rfl, rfl, rfl, rfl⟩, hw, -, hc10, hc24, -, -⟩ := hb
  obtain ⟨h2, h3, h4, h5⟩ := h
  have ha : a.toNatClampNeg = a.toInt.toNat := rfl
  have hi : i.toNatClampNeg = i.toInt.toNat := rfl
  have hbn : b.toNatClampNeg = b.toInt.toNat := rfl
  rw [ha] at h1
  have c1 := (hc10 a.toInt.toNat).2
  have hb0 : 0 ≤ b.toInt := by
    by_cases z : b.toInt < 0
    · rw [if_pos z] at h4
      rw [h4] at h1
      exact absurd h1 (by show ¬ i.toInt < 0; omega)
    · omega
  have ha24 : a.toInt < 24 := by
    by_cases z : a.toInt < 24
    · exact z
    · have := (hc24 a.toInt.toNat (by omega)).1
      rw [this] at h1
      exact absurd h1 (by show ¬ i.toInt < 0; omega)
  have e1 : (10 * a + i).toNatClampNeg = 10 * a.toInt.toNat + i.toInt.toNat := by rw [show (10 : Int32) = i3 10 from rfl, lin_cl (by omega)]; omega
  have e2 : (10 * b + i).toNatClampNeg = 10 * b.toInt.toNat + i.toInt.toNat := by rw [show (10 : Int32) = i3 10 from rfl, lin_cl (by omega)]; omega
  have e3 := h5 i.toInt.toNat (by omega)
  have f1 : w (10 * a.toInt.toNat + i.toInt.toNat) = w (10 * b.toInt.toNat + i.toInt.toNat) := Int32.toInt_inj.mp (congrArg en_w e3)
  have f2 : d (10 * a.toInt.toNat + i.toInt.toNat) = d (10 * b.toInt.toNat + i.toInt.toNat) := Int32.toInt_inj.mp (congrArg en_d e3)
  have f3 : q (10 * a.toInt.toNat + i.toInt.toNat) = q (10 * b.toInt.toNat + i.toInt.toNat) := Int32.toInt_inj.mp (congrArg en_q e3)
  have f4 : l (10 * a.toInt.toNat + i.toInt.toNat) = l (10 * b.toInt.toNat + i.toInt.toNat) := Int32.toInt_inj.mp (congrArg en_l e3)
  refine ⟨⟨hb0, ha24, by omega⟩, by rw [e1, ha, hi], by rw [e2, hbn, hi], ?_, ?_, ?_, ?_, ?_, ?_⟩
  · exact ix_ok (by rw [show (10 : Int32) = i3 10 from rfl, lin (by omega)]; omega)
  · exact ix_ok (by rw [show (10 : Int32) = i3 10 from rfl, lin (by omega)]; omega)
  · rw [e1, e2, f1, hw]
  · rw [e1, e2, f2]
  · rw [e1, e2, f3]
  · rw [e1, e2, f4]
theorem m_inc {c i : Int32} (h : 0 ≤ c.toInt ∧ c.toInt ≤ 10) : f_m_in i.toInt64 0 (Int32.toInt64 (c - 1)) = some (if 0 ≤ i.toInt ∧ i.toInt < c.toInt then 1 else 0) := by
  rw [m_in (a := 0) (b := c.toInt - 1) rfl (by
    rw [Int32.toInt_toInt64, Int32.toInt_sub, show (1 : Int32).toInt = 1 from rfl, Int.bmod_eq_of_le (by omega) (by omega)])]
  congr 1
  repeat' split
  all_goals first | rfl | (exfalso; omega)
theorem n3r {r : Int32} (h0 : 0 ≤ r.toInt ∧ r.toInt ≤ 3) : (3 ≤ r) ↔ r = 3 := by
  have e : r = 3 ↔ r.toInt = 3 := i3n r (z := 3) (by omega)
  rw [Int32.le_iff_toInt_le, e]
  show 3 ≤ r.toInt ↔ _
  omega
theorem le10 : ¬ (1 : Int32) ≤ 0 := by decide
theorem le20 : ¬ (2 : Int32) ≤ 0 := by decide
theorem le00 : (0 : Int32) ≤ 0 := by decide
theorem step_vector (x : SX) (m : SM) (a1 a2 a3 a4 : Int32) (hI : Inv x m) : ∃ c x' m', St_vector x m a1 a2 a3 a4 c x' m' ∧ Inv x' m' := by
  obtain ⟨hn, hc, hs, hm, hb, hr, ht, hv, ho⟩ := hI
  have hr' := hr
  obtain ⟨r1, r2, r3, r4, r5⟩ := hr'
  have bad : f_law_vector x.x_members x.bk_counts x.bk_whens x.bk_sides x.bk_quantities x.bk_limits x.ag_vectors x.ag_rounds m.m_out a1 a2 a3 a4 = some (1, m.m_out) → f_m_vector m.m_thrown m.m_n m.m_many m.m_isBlock m.m_hours m.m_side m.m_quantity m.m_limit m.m_rounds m.m_vectors a1 a2 a3 a4 = some (0, 1) → ∃ c x' m', St_vector x m a1 a2 a3 a4 c x' m' ∧ Inv x' m' :=
    fun hx hm' => ⟨_, _, _, ⟨_, _, hx, hm', rfl, fun q => absurd q n10, rfl, rfl, rfl⟩, Inv_mk hn hc hs hm hb hr ht hv ho⟩
  have good : ∀ v : Int32, f_law_vector x.x_members x.bk_counts x.bk_whens x.bk_sides x.bk_quantities x.bk_limits x.ag_vectors x.ag_rounds m.m_out a1 a2 a3 a4 = some (0, vp_updL m.m_out 0 v.toInt64) → f_m_vector m.m_thrown m.m_n m.m_many m.m_isBlock m.m_hours m.m_side m.m_quantity m.m_limit m.m_rounds m.m_vectors a1 a2 a3 a4 = some (v, 0) → ∃ c x' m', St_vector x m a1 a2 a3 a4 c x' m' ∧ Inv x' m' :=
    fun v hx hm' => ⟨_, _, _, ⟨_, _, hx, hm', rfl, fun _ => rfl, rfl, rfl, rfl⟩, Inv_mk hn hc hs hm hb hr ht hv ho⟩
  have hov := x_over r4
  have h3 := n3r r4
  by_cases h0 : x.ag_rounds = 3
  case neg =>
    have h0' : ¬ 3 ≤ m.m_rounds := by rw [← r3, h3]; exact h0
    have hx : f_law_vector x.x_members x.bk_counts x.bk_whens x.bk_sides x.bk_quantities x.bk_limits x.ag_vectors x.ag_rounds m.m_out a1 a2 a3 a4 = some (2, m.m_out) := by
      simp only [f_law_vector, f_x_vector, hov, if_neg h0, Option.bind_some, if_neg k20, if_neg k21, ite_true]
    have hm' : f_m_vector m.m_thrown m.m_n m.m_many m.m_isBlock m.m_hours m.m_side m.m_quantity m.m_limit m.m_rounds m.m_vectors a1 a2 a3 a4 = some (0, 2) := by
      simp only [f_m_vector, f_m_vector_b51, if_neg h0', if_neg le20]
    exact ⟨_, _, _, ⟨_, _, hx, hm', rfl, fun q => absurd q n20, rfl, rfl, rfl⟩, Inv_mk hn hc hs hm hb hr ht hv ho⟩
  have h0' : 3 ≤ m.m_rounds := by rw [← r3, h3]; exact h0
  have hin : f_m_in a4.toInt64 0 4 = some (if 0 ≤ a4.toInt ∧ a4.toInt ≤ 4 then 1 else 0) := m_in rfl rfl
  by_cases h1 : isOp a1
  case neg =>
    exact bad (by simp only [f_law_vector, f_x_vector, f_x_vector_b46, hov, x_op, if_pos h0, if_neg h1, Option.bind_some, if_neg n10, if_neg k10, ite_true]) (by simp only [f_m_vector, f_m_vector_b46, f_m_vector_b51, m_op, if_pos h0', if_neg h1, Option.bind_some, if_neg le10, ite_true])
  by_cases h2 : isMem x.x_members a2
  case neg =>
    exact bad (by simp only [f_law_vector, f_x_vector, f_x_vector_b46, hov, x_op, x_mem, if_pos h0, if_pos h1, if_neg h2, Option.bind_some, if_neg n10, if_neg k10, ite_true]) (by simp only [f_m_vector, f_m_vector_b46, f_m_vector_b51, m_op, m_mem hn, if_pos h0', if_pos h1, if_neg h2, Option.bind_some, if_neg n10, if_neg le10, ite_true])
  have e1 : (a4 < 0) ↔ a4.toInt < 0 := Int32.lt_iff_toInt_lt
  have e2 : (a4 ≤ 4) ↔ a4.toInt ≤ 4 := Int32.le_iff_toInt_le
  by_cases h4 : 0 ≤ a4.toInt ∧ a4.toInt ≤ 4
  case neg =>
    refine bad ?_ (by simp only [f_m_vector, f_m_vector_b46, f_m_vector_b51, m_op, m_mem hn, hin, if_pos h0', if_pos h1, if_pos h2, if_neg h4, Option.bind_some, if_neg n10, if_neg le10, ite_true])
    by_cases g : a4 < 0
    · simp only [f_law_vector, f_x_vector, f_x_vector_b46, hov, x_op, x_mem, if_pos h0, if_pos h1, if_pos h2, if_pos g, Option.bind_some, if_neg n10, if_neg k10, ite_true]
    · have g2 : ¬ a4 ≤ 4 := by rw [e1] at g; rw [e2]; omega
      simp only [f_law_vector, f_x_vector, f_x_vector_b46, hov, x_op, x_mem, if_pos h0, if_pos h1, if_pos h2, if_neg g, if_neg g2, Option.bind_some, if_neg n10, if_neg k10, ite_true]
  have g1 : ¬ a4 < 0 := by rw [e1]; omega
  have g2 : a4 ≤ 4 := by rw [e2]; omega
  have hag := x_agreed (v := x.ag_vectors) hn h1 h2
  have hix := ix24 hn h1 h2
  have hcl := cl24 hn h1 h2
  have n2 := hn
  obtain ⟨-, n2, n3⟩ := n2
  have hq := hv h0 a1.toNatClampNeg a2.toNatClampNeg (op_cl h1) (by show a2.toInt.toNat < _; omega)
  rw [← hcl] at hq hag
  have hsz := m_size hb.1.1 hq
  have h25 := book25 hq
  have hcn := hb.2.2.2.1 (x.ag_vectors (6 * a1 + a2).toNatClampNeg).toNatClampNeg
  have hinc := m_inc (i := a3) hcn
  by_cases h5 : a4 = 4
  · exact good (x.bk_counts (x.ag_vectors (6 * a1 + a2).toNatClampNeg).toNatClampNeg) (by simp only [f_law_vector, f_x_vector, hov, hag, x_op, x_mem, if_pos h0, if_pos h1, if_pos h2, if_neg g1, if_pos g2, if_pos h5, if_neg h25, Option.bind_some, if_neg n10, ite_true]) (by simp only [f_m_vector, f_m_vector_b51, m_op, m_mem hn, hin, hsz, if_pos h0', if_pos h1, if_pos h2, if_pos h4, if_pos h5, if_neg hix, Option.bind_some, if_neg n10, if_pos le00])
  have e3 : (a3 < 0) ↔ a3.toInt < 0 := Int32.lt_iff_toInt_lt
  have e4 : (a3 < x.bk_counts (x.ag_vectors (6 * a1 + a2).toNatClampNeg).toNatClampNeg) ↔ a3.toInt < (x.bk_counts (x.ag_vectors (6 * a1 + a2).toNatClampNeg).toNatClampNeg).toInt := Int32.lt_iff_toInt_lt
  by_cases h6 : 0 ≤ a3.toInt ∧ a3.toInt < (x.bk_counts (x.ag_vectors (6 * a1 + a2).toNatClampNeg).toNatClampNeg).toInt
  case neg =>
    refine bad ?_ (by simp only [f_m_vector, f_m_vector_b51, f_m_vector_b113, m_op, m_mem hn, hin, hsz, hinc, if_pos h0', if_pos h1, if_pos h2, if_pos h4, if_neg h5, if_neg h6, if_neg hix, Option.bind_some, if_neg n10, if_neg le10, if_pos le00, ite_true])
    by_cases g : a3 < 0
    · simp only [f_law_vector, f_x_vector, f_x_vector_b102, hov, hag, x_op, x_mem, if_pos h0, if_pos h1, if_pos h2, if_neg g1, if_pos g2, if_neg h5, if_pos g, Option.bind_some, if_neg n10, if_neg k10, ite_true]
    · have g3 : ¬ a3 < x.bk_counts (x.ag_vectors (6 * a1 + a2).toNatClampNeg).toNatClampNeg := by rw [e3] at g; rw [e4]; omega
      simp only [f_law_vector, f_x_vector, f_x_vector_b102, hov, hag, x_op, x_mem, if_pos h0, if_pos h1, if_pos h2, if_neg g1, if_pos g2, if_neg h5, if_neg g, if_neg g3, if_neg h25, Option.bind_some, if_neg n10, if_neg k10, ite_true]
  have g3 : ¬ a3 < 0 := by rw [e3]; omega
  have g4 := e4.mpr h6.2
  obtain ⟨-, -, -, u1, u2, u3, u4, u5, u6⟩ := bk_use hb hq h6.1 h6.2
  have f0 : a4 = 0 ↔ a4.toInt = 0 := i3n a4 (z := 0) (by omega)
  have f1 : a4 = 1 ↔ a4.toInt = 1 := i3n a4 (z := 1) (by omega)
  have f2 : a4 = 2 ↔ a4.toInt = 2 := i3n a4 (z := 2) (by omega)
  by_cases h7 : a4 = 0
  · refine good (x.bk_whens (10 * x.ag_vectors (6 * a1 + a2).toNatClampNeg + a3).toNatClampNeg) (by simp only [f_law_vector, f_x_vector, f_bk_detail, hov, hag, x_op, x_mem, if_pos h0, if_pos h1, if_pos h2, if_neg g1, if_pos g2, if_neg h5, if_neg g3, if_pos g4, if_neg h25, if_pos h7, if_neg u1, Option.bind_some, if_neg n10, ite_true]) ?_
    rw [u3]
    by_cases h8 : m.m_isBlock (10 * m.m_vectors (6 * a1 + a2).toNatClampNeg + a3).toNatClampNeg = 0
    · simp only [f_m_vector, f_m_vector_b51, f_m_vector_b113, f_m_vector_b162, m_op, m_mem hn, hin, hsz, hinc, if_pos h0', if_pos h1, if_pos h2, if_pos h4, if_neg h5, if_pos h6, if_neg hix, if_pos h7, if_neg u2, if_pos h8, Option.bind_some, if_neg n10, if_pos le00]
    · simp only [f_m_vector, f_m_vector_b51, f_m_vector_b113, f_m_vector_b162, m_op, m_mem hn, hin, hsz, hinc, if_pos h0', if_pos h1, if_pos h2, if_pos h4, if_neg h5, if_pos h6, if_neg hix, if_pos h7, if_neg u2, if_neg h8, Option.bind_some, if_neg n10, if_pos le00]
  by_cases h8 : a4 = 1
  · exact good (x.bk_sides (10 * x.ag_vectors (6 * a1 + a2).toNatClampNeg + a3).toNatClampNeg) (by simp only [f_law_vector, f_x_vector, f_bk_detail, hov, hag, x_op, x_mem, if_pos h0, if_pos h1, if_pos h2, if_neg g1, if_pos g2, if_neg h5, if_neg g3, if_pos g4, if_neg h25, if_neg h7, if_pos h8, if_neg u1, Option.bind_some, if_neg n10, ite_true]) (by rw [u4]; simp only [f_m_vector, f_m_vector_b51, f_m_vector_b113, m_op, m_mem hn, hin, hsz, hinc, if_pos h0', if_pos h1, if_pos h2, if_pos h4, if_neg h5, if_pos h6, if_neg hix, if_neg h7, if_pos h8, if_neg u2, Option.bind_some, if_neg n10, if_pos le00])
  by_cases h9 : a4 = 2
  · exact good (x.bk_quantities (10 * x.ag_vectors (6 * a1 + a2).toNatClampNeg + a3).toNatClampNeg) (by simp only [f_law_vector, f_x_vector, f_bk_detail, hov, hag, x_op, x_mem, if_pos h0, if_pos h1, if_pos h2, if_neg g1, if_pos g2, if_neg h5, if_neg g3, if_pos g4, if_neg h25, if_neg h7, if_neg h8, if_pos h9, if_neg u1, Option.bind_some, if_neg n10, ite_true]) (by rw [u5]; simp only [f_m_vector, f_m_vector_b51, f_m_vector_b113, m_op, m_mem hn, hin, hsz, hinc, if_pos h0', if_pos h1, if_pos h2, if_pos h4, if_neg h5, if_pos h6, if_neg hix, if_neg h7, if_neg h8, if_pos h9, if_neg u2, Option.bind_some, if_neg n10, if_pos le00])
  · exact good (x.bk_limits (10 * x.ag_vectors (6 * a1 + a2).toNatClampNeg + a3).toNatClampNeg) (by simp only [f_law_vector, f_x_vector, f_bk_detail, hov, hag, x_op, x_mem, if_pos h0, if_pos h1, if_pos h2, if_neg g1, if_pos g2, if_neg h5, if_neg g3, if_pos g4, if_neg h25, if_neg h7, if_neg h8, if_neg h9, if_neg u1, Option.bind_some, if_neg n10, ite_true]) (by rw [u6]; simp only [f_m_vector, f_m_vector_b51, f_m_vector_b113, m_op, m_mem hn, hin, hsz, hinc, if_pos h0', if_pos h1, if_pos h2, if_pos h4, if_neg h5, if_pos h6, if_neg hix, if_neg h7, if_neg h8, if_neg h9, if_neg u2, Option.bind_some, if_neg n10, if_pos le00])
