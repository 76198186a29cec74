abbrev okBid (n p op s q l : Int32) : Prop := isMem n p ∧ (-1 ≤ op.toInt ∧ op.toInt ≤ 3) ∧ (0 ≤ s.toInt ∧ s.toInt ≤ 1) ∧ (1 ≤ q.toInt ∧ q.toInt ≤ 1000) ∧ (-5000 ≤ l.toInt ∧ l.toInt ≤ 40000)
theorem m_bad {n m p op s q l : Int32} (h : iv_n n m) : f_m_isBad m p op s q l = some (if okBid n p op s q l then 0 else 1) := by
  have i1 := m_in (x := op) (lo := -1) (hi := 3) (a := -1) (b := 3) (by decide) (by decide)
  have i2 := m_in (x := s) (lo := 0) (hi := 1) (a := 0) (b := 1) (by decide) (by decide)
  have i3' := m_in (x := q) (lo := 1) (hi := 1000) (a := 1) (b := 1000) (by decide) (by decide)
  have i4 := m_in (x := l) (lo := -5000) (hi := 40000) (a := -5000) (b := 40000) (by decide) (by decide)
  unfold f_m_isBad f_m_isBad_b60
  simp only [m_mem h, i1, i2, i3', i4, Option.bind_some]
  by_cases h1 : isMem n p
  · rw [if_pos h1, if_neg n10]
    by_cases h2 : -1 ≤ op.toInt ∧ op.toInt ≤ 3
    · rw [if_pos h2, if_neg n10]
      by_cases h3 : 0 ≤ s.toInt ∧ s.toInt ≤ 1
      · rw [if_pos h3, if_neg n10]
        by_cases h4 : 1 ≤ q.toInt ∧ q.toInt ≤ 1000
        · rw [if_pos h4, if_neg n10]
          by_cases h5 : -5000 ≤ l.toInt ∧ l.toInt ≤ 40000
          · rw [if_pos h5, if_neg n10, if_pos ⟨h1, h2, h3, h4, h5⟩]
          · rw [if_neg h5, if_pos rfl, if_neg (fun z => h5 z.2.2.2.2)]
        · rw [if_neg h4, if_pos rfl, if_neg (fun z => h4 z.2.2.2.1)]
      · rw [if_neg h3, if_pos rfl, if_neg (fun z => h3 z.2.2.1)]
    · rw [if_neg h2, if_pos rfl, if_neg (fun z => h2 z.2.1)]
  · rw [if_neg h1, if_pos rfl, if_neg (fun z => h1 z.1)]
theorem x_bid (s q l : Int32) : f_x_isBid s q l = some (if (0 ≤ s.toInt ∧ s.toInt ≤ 1) ∧ (1 ≤ q.toInt ∧ q.toInt ≤ 1000) ∧ (-5000 ≤ l.toInt ∧ l.toInt ≤ 40000) then 1 else 0) := by
  have e0 : s = 0 ↔ s.toInt = 0 := i3n s (z := 0) (by omega)
  have e1 : s = 1 ↔ s.toInt = 1 := i3n s (z := 1) (by omega)
  unfold f_x_isBid f_x_isBid_b9
  simp only [e0, e1, Int32.lt_iff_toInt_lt, show (1 : Int32).toInt = 1 from rfl, show (1000 : Int32).toInt = 1000 from rfl, show (-5000 : Int32).toInt = -5000 from by decide, show (40000 : Int32).toInt = 40000 from rfl]
  repeat' split
  all_goals first | rfl | (exfalso; omega)
theorem x_send {n n' : Int32} {coll hst sl c : Nat → Int32} {e : Nat → Int64} {w d q l : Nat → Int32} {p op W s Q L : Int32} (hn : iv_n n n') : f_x_send n coll hst sl c e w d q l p op W s Q L = if okBid n p op s Q L then (if sl p.toNatClampNeg = 0 then f_x_send_L74 n coll sl p op W s Q L 1000 (upd hst p.toNatClampNeg 1) c e w d q l 0 0 else some (2, 0, hst, c, e, w, d, q, l)) else some (1, 0, hst, c, e, w, d, q, l) := by
  unfold f_x_send f_x_send_b20 f_x_send_b32
  simp only [x_mem, x_bid, x_op, Option.bind_some, nar1]
  by_cases h1 : isMem n p
  · rw [if_pos h1, if_neg n10]
    have e1 : op = -1 ↔ op.toInt = -1 := by rw [show (-1 : Int32) = i3 (-1) from by decide]; exact i3n op (by omega)
    have hrest : ∀ h2 : -1 ≤ op.toInt ∧ op.toInt ≤ 3, (if (if (0 ≤ s.toInt ∧ s.toInt ≤ 1) ∧ (1 ≤ Q.toInt ∧ Q.toInt ≤ 1000) ∧ (-5000 ≤ L.toInt ∧ L.toInt ≤ 40000) then (1 : Int32) else 0) = 0 then some (1, 0, hst, c, e, w, d, q, l) else if p < 0 ∨ 6 ≤ p.toNatClampNeg then none else if sl p.toNatClampNeg = 0 then f_x_send_L74 n coll sl p op W s Q L 1000 (upd hst p.toNatClampNeg 1) c e w d q l 0 0 else some (2, 0, hst, c, e, w, d, q, l)) = if okBid n p op s Q L then (if sl p.toNatClampNeg = 0 then f_x_send_L74 n coll sl p op W s Q L 1000 (upd hst p.toNatClampNeg 1) c e w d q l 0 0 else some (2, 0, hst, c, e, w, d, q, l)) else some (1, 0, hst, c, e, w, d, q, l) := by
      intro h2
      by_cases h3 : (0 ≤ s.toInt ∧ s.toInt ≤ 1) ∧ (1 ≤ Q.toInt ∧ Q.toInt ≤ 1000) ∧ (-5000 ≤ L.toInt ∧ L.toInt ≤ 40000)
      · rw [if_pos h3, if_neg n10, if_neg (mem6 hn h1), if_pos (show okBid n p op s Q L from ⟨h1, h2, h3⟩)]
      · rw [if_neg h3, if_pos rfl, if_neg (fun z : okBid n p op s Q L => h3 z.2.2)]
    by_cases h2 : op = -1
    · rw [if_pos h2]
      exact hrest (by have := e1.mp h2; omega)
    · rw [if_neg h2]
      have h2' : ¬ op.toInt = -1 := fun z => h2 (e1.mpr z)
      by_cases h3 : isOp op
      · rw [if_pos h3, if_neg n10]
        exact hrest (by omega)
      · rw [if_neg h3, if_pos rfl, if_neg (fun z : okBid n p op s Q L => h3 ⟨by have := z.2.1; omega, by have := z.2.1; omega⟩)]
  · rw [if_neg h1, if_pos rfl, if_neg (fun z : okBid n p op s Q L => h1 z.1)]
theorem m_send {coll c : Nat → Int32} {e : Nat → Int64} {ib hs d q l snt : Nat → Int32} {p op bl h s Q L ln : Int32} {N : Int} (hp6 : ¬ (p < 0 ∨ 6 ≤ p.toNatClampNeg)) (hs1 : s.toInt = 0 ∨ s.toInt = 1) (hln : ln = i3 N) (hN : -2147483648 ≤ N ∧ N < 2147483648) :
    f_m_send coll c e ib hs d q l snt p op bl h s Q L ln = f_m_send_L66 coll p op bl h s Q L 1000 c e ib hs d q l (upd snt p.toNatClampNeg 1) 0 (i6 (needN s.toInt Q.toInt L.toInt N)) 0 := by
  subst hln
  have e0 : s = 0 ↔ s.toInt = 0 := i3n s (z := 0) (by omega)
  have e1 : s = 1 ↔ s.toInt = 1 := i3n s (z := 1) (by omega)
  have l0 : L ≤ 0 ↔ L.toInt ≤ 0 := Int32.le_iff_toInt_le
  have l1 : 0 ≤ L ↔ 0 ≤ L.toInt := Int32.le_iff_toInt_le
  have qv : Int32.toInt64 Q = i6 Q.toInt := (Int64.ofInt_int32ToInt Q).symm
  have lv : Int32.toInt64 L = i6 L.toInt := (Int64.ofInt_int32ToInt L).symm
  unfold f_m_send f_m_send_b34 f_m_send_b60 f_m_send_b61 needN costN
  rw [if_neg hp6, nar1, qv, lv, i3_long hN]
  rcases hs1 with z | z
  · have z2 : ¬ s = 1 := fun y => by have := e1.mp y; omega
    rw [if_pos (e0.mpr z), if_neg z2, if_pos z]
    by_cases y : L ≤ 0
    · rw [if_pos y, if_neg (by have := l0.mp y; omega), Int.mul_zero, Int.zero_mul]
      rfl
    · rw [if_neg y, if_pos (Int.not_le.mp (fun u => y (l0.mpr u))), i6_mul, i6_mul]
  · have z2 : ¬ s = 0 := fun y => by have := e0.mp y; omega
    have z3 : ¬ s.toInt = 0 := by omega
    rw [if_neg z2, if_pos (e1.mpr z), if_neg z3]
    by_cases y : 0 ≤ L
    · rw [if_pos y, if_neg (by have := l1.mp y; omega), Int.mul_zero, Int.zero_mul]
      rfl
    · rw [if_neg y, if_pos (Int.not_le.mp (fun u => y (l1.mpr u))), i6_neg, i6_mul, i6_mul]
      rw [show Q.toInt * -L.toInt = -Q.toInt * L.toInt by rw [Int.mul_neg, Int.neg_mul]]
abbrev okSp (h : Int32) : Prop := h.toInt = 0 ∨ h.toInt = 1 ∨ h.toInt = 2 ∨ h.toInt = 5 ∨ h.toInt = 6 ∨ h.toInt = 10
theorem q4 {h : Int32} (h0 : 0 ≤ h.toInt) : h / 4 = i3 (h.toInt / 4) ∧ h - h / 4 * 4 = i3 (h.toInt % 4) := by
  have hb : h.toInt < 2147483648 := Int32.toInt_lt h
  have e1 : h / 4 = i3 (h.toInt / 4) := by
    have := i3_div (a := h.toInt) (b := 4) (by omega)
    rw [← i3_of h, Int.tdiv_eq_ediv_of_nonneg h0] at this
    exact this
  refine ⟨e1, ?_⟩
  rw [e1, show (4 : Int32) = i3 4 from rfl, i3_mul]
  conv => lhs; lhs; rw [i3_of h]
  rw [i3_sub]
  congr 1
  omega
theorem x_span (h : Int32) : f_x_isSpan h = some (if okSp h then 1 else 0) := by
  unfold f_x_isSpan
  by_cases h0 : h < 0
  · have : h.toInt < 0 := Int32.lt_iff_toInt_lt.mp h0
    rw [if_pos h0, if_neg (by omega)]
  · have h0' : 0 ≤ h.toInt := Int.not_lt.mp (fun z => h0 (Int32.lt_iff_toInt_lt.mpr z))
    have hb : h.toInt < 2147483648 := Int32.toInt_lt h
    obtain ⟨e1, e2⟩ := q4 h0'
    simp only [if_neg h0, x_hour, Option.bind_some, e2]
    rw [e1]
    simp only [Int32.lt_iff_toInt_lt, i3_toInt (z := h.toInt / 4) (by omega), i3_toInt (z := h.toInt % 4) (by omega)]
    by_cases y1 : isHr (i3 (h.toInt / 4))
    · rw [if_pos y1, if_neg n10]
      by_cases y2 : isHr (i3 (h.toInt % 4))
      · rw [if_pos y2, if_neg n10]
        unfold isHr at y1 y2
        rw [i3_toInt (by omega)] at y1 y2
        by_cases y3 : h.toInt % 4 < h.toInt / 4
        · rw [if_pos y3, if_neg (by omega)]
        · rw [if_neg y3, if_pos (by omega)]
      · rw [if_neg y2, if_pos rfl]
        unfold isHr at y2
        rw [i3_toInt (by omega)] at y2
        rw [if_neg (by omega)]
    · rw [if_neg y1, if_pos rfl]
      unfold isHr at y1
      rw [i3_toInt (by omega)] at y1
      rw [if_neg (by omega)]
/-- the reference's own way of asking for a span -/
theorem m_span {α : Type} (h : Int32) (A B : Option α) : (if h < 0 then A else (if 2 < (h - h / 4 * 4) then A else (if (h / 4) ≤ (h - h / 4 * 4) then B else A))) = if okSp h then B else A := by
  by_cases h0 : h < 0
  · have : h.toInt < 0 := Int32.lt_iff_toInt_lt.mp h0
    rw [if_pos h0, if_neg (by omega)]
  · have h0' : 0 ≤ h.toInt := Int.not_lt.mp (fun z => h0 (Int32.lt_iff_toInt_lt.mpr z))
    have hb : h.toInt < 2147483648 := Int32.toInt_lt h
    obtain ⟨e1, e2⟩ := q4 h0'
    rw [if_neg h0, e2, e1]
    simp only [Int32.lt_iff_toInt_lt, Int32.le_iff_toInt_le, i3_toInt (z := h.toInt / 4) (by omega), i3_toInt (z := h.toInt % 4) (by omega), show (2 : Int32).toInt = 2 from rfl]
    repeat' split
    all_goals first | rfl | (exfalso; omega)
theorem sp_len {h : Int32} (hs : okSp h) : (h - h / 4 * 4) - (h / 4) + 1 = i3 (lnH (100 + h).toInt) ∧ okW (100 + h).toInt ∧ (100 + h).toInt = 100 + h.toInt := by
  obtain ⟨e1, e2⟩ := q4 (h := h) (by omega)
  have e3 : (100 + h).toInt = 100 + h.toInt := by rw [Int32.toInt_add, show (100 : Int32).toInt = 100 from rfl, Int.bmod_eq_of_le (by omega) (by omega)]
  refine ⟨?_, by rw [e3]; unfold okW; omega, e3⟩
  rw [e2, e1, show (1 : Int32) = i3 1 from rfl, i3_sub, i3_add, e3]
  unfold lnH lsH fsH
  rw [if_neg (by omega), if_neg (by omega)]
  congr 1
  omega
theorem send_both {n n' p op W bl h s Q L : Int32} {coll sl snt hst c : Nat → Int32} {e : Nat → Int64} {w ib hs d q l : Nat → Int32} (hn : iv_n n n') (hbid : okBid n p op s Q L) (hsl : sl p.toNatClampNeg = 0) (hcol : ∀ k, 0 ≤ (coll k).toInt ∧ (coll k).toInt ≤ 1000000000) (hW : W = h + (if bl = 0 then 0 else 100)) (hbl : bl = 0 ∨ bl = 1) (hok : okW W.toInt) (hh : (bl = 0 ∧ 0 ≤ h.toInt ∧ h.toInt ≤ 2) ∨ (bl = 1 ∧ 0 ≤ h.toInt ∧ h.toInt ≤ 10)) (hb : iv_b c c e e w ib hs d d q q l l) :
    ∃ (c2 : Nat → Int32) (e2 : Nat → Int64) (w2 ib2 hs2 d2 q2 l2 : Nat → Int32) (T2 : Int32), iv_b c2 c2 e2 e2 w2 ib2 hs2 d2 d2 q2 q2 l2 l2 ∧
      f_x_send n coll hst sl c e w d q l p op W s Q L = some (0, T2, upd hst p.toNatClampNeg 1, c2, e2, w2, d2, q2, l2) ∧
      f_m_send coll c e ib hs d q l snt p op bl h s Q L (i3 (lnH W.toInt)) = some (T2, c2, e2, ib2, hs2, d2, q2, l2, upd snt p.toNatClampNeg 1) := by
  have hs01 : s.toInt = 0 ∨ s.toInt = 1 := by have := hbid.2.2.1; omega
  obtain ⟨c2, e2, w2, ib2, hs2, d2, q2, l2, T2, k1, k2, k3⟩ := send_loop (sl := sl) (snt := upd snt p.toNatClampNeg 1) (hst := upd hst p.toNatClampNeg 1) (op := op) hn hbid.1 hcol hW hbl hok hs01 hbid.2.2.2.1 hbid.2.2.2.2 hh 4 0 rfl 1000 1000 (by omega) (by omega) c e w ib hs d q l 0 hb
  refine ⟨c2, e2, w2, ib2, hs2, d2, q2, l2, T2, k1, ?_, ?_⟩
  · rw [x_send hn, if_pos hbid, if_pos hsl]
    exact k2
  · have hl := lnH_bd hok
    rw [m_send (N := lnH W.toInt) (mem6 hn hbid.1) hs01 rfl (by omega)]
    exact k3
theorem r_zero {n a b r s : Int32} {f : Nat → Int32} {p : Int32} (h : iv_r n a b r s f) (hp : isMem n p) (hf : f p.toNatClampNeg = 0) : r = 0 := by
  obtain ⟨-, -, -, -, h5⟩ := h
  by_cases z : r = 0
  · exact z
  · exact absurd hf (h5 z p.toNatClampNeg (by show p.toInt.toNat < _; omega))
theorem step_order (x : SX) (m : SM) (a1 a2 a3 a4 a5 a6 : Int32) (hI : Inv x m) : ∃ c x' m', St_order x m a1 a2 a3 a4 a5 a6 c x' m' ∧ Inv x' m' := by
  obtain ⟨hn, hc, ⟨hs1, hs2, hs3⟩, hm, hb, hr, ht, hv, ho⟩ := id hI
  have hbad : (¬ isHr a3 ∨ ¬ okBid x.x_members a1 a2 a4 a5 a6) → ∃ c x' m', St_order x m a1 a2 a3 a4 a5 a6 c x' m' ∧ Inv x' m' := by
    intro hor
    have hx : f_law_order x.x_members x.x_collaterals x.x_hasSent x.x_isSealed x.bk_counts x.bk_needs x.bk_whens x.bk_sides x.bk_quantities x.bk_limits m.m_out a1 a2 a3 a4 a5 a6 = some (1, x.x_hasSent, x.bk_counts, x.bk_needs, x.bk_whens, x.bk_sides, x.bk_quantities, x.bk_limits, m.m_out) := by
      unfold f_law_order f_x_order
      rw [x_hour, Option.bind_some]
      by_cases h1 : isHr a3
      · have h2 : ¬ okBid x.x_members a1 a2 a4 a5 a6 := hor.resolve_left (fun z => z h1)
        rw [if_pos h1, if_neg n10, x_send hn, if_neg h2]
        rfl
      · rw [if_neg h1, if_pos rfl]
        rfl
    have hm' : f_m_order m.m_thrown m.m_n m.m_collateral m.m_many m.m_need m.m_isBlock m.m_hours m.m_side m.m_quantity m.m_limit m.m_sent m.m_sealed a1 a2 a3 a4 a5 a6 = some (0, 1, m.m_many, m.m_need, m.m_isBlock, m.m_hours, m.m_side, m.m_quantity, m.m_limit, m.m_sent) := by
      unfold f_m_order f_m_order_b27 f_m_order_b32 f_m_order_b55 f_m_order_b56
      by_cases h2 : okBid x.x_members a1 a2 a4 a5 a6
      · have h1 : ¬ isHr a3 := hor.resolve_right (fun z => z h2)
        simp only [m_bad hn, if_pos h2, m_hour, if_neg h1, Option.bind_some, ite_true, if_neg n10, m_thr]
      · simp only [m_bad hn, if_neg h2, Option.bind_some, if_neg n10, m_thr]
    exact ⟨_, _, _, ⟨_, _, hx, hm', rfl, fun q => absurd q n10, rfl, rfl, rfl⟩, Inv_mk hn hc ⟨hs1, hs2, hs3⟩ hm hb hr ht hv ho⟩
  by_cases h1 : isHr a3
  · by_cases h2 : okBid x.x_members a1 a2 a4 a5 a6
    · have hix := mem6 hn h2.1
      by_cases h3 : x.x_isSealed a1.toNatClampNeg = 0
      · have hr0 := r_zero hr h2.1 h3
        obtain ⟨b1, b2, b3, b4, b5⟩ := hb.1
        obtain ⟨c2, e2, w2, ib2, hs2', d2, q2, l2, T2, k1, k2, k3⟩ := send_both (sl := x.x_isSealed) (snt := m.m_sent) (hst := x.x_hasSent) (W := a3) (bl := 0) (h := a3) hn h2 h3 hc.2 (by rw [if_pos rfl, Int32.add_zero]) (Or.inl rfl) (by unfold okW; omega) (Or.inl ⟨rfl, by omega, by omega⟩) (show iv_b x.bk_counts x.bk_counts x.bk_needs x.bk_needs x.bk_whens m.m_isBlock m.m_hours x.bk_sides x.bk_sides x.bk_quantities x.bk_quantities x.bk_limits x.bk_limits from ⟨⟨rfl, rfl, rfl, rfl, rfl⟩, hb.2⟩)
        have hln : (1 : Int32) = i3 (lnH a3.toInt) := by
          unfold lnH lsH fsH
          rw [if_pos (by omega), if_pos (by omega), Int.sub_self]
          rfl
        rw [← hln] at k3
        have hx : f_law_order x.x_members x.x_collaterals x.x_hasSent x.x_isSealed x.bk_counts x.bk_needs x.bk_whens x.bk_sides x.bk_quantities x.bk_limits m.m_out a1 a2 a3 a4 a5 a6 = some (0, upd x.x_hasSent a1.toNatClampNeg 1, c2, e2, w2, d2, q2, l2, vp_updL m.m_out 0 (Int32.toInt64 T2)) := by
          unfold f_law_order f_x_order
          rw [x_hour, if_pos h1, Option.bind_some, if_neg n10, k2]
          rfl
        have hm' : f_m_order m.m_thrown m.m_n m.m_collateral m.m_many m.m_need m.m_isBlock m.m_hours m.m_side m.m_quantity m.m_limit m.m_sent m.m_sealed a1 a2 a3 a4 a5 a6 = some (T2, 0, c2, e2, ib2, hs2', d2, q2, l2, upd m.m_sent a1.toNatClampNeg 1) := by
          unfold f_m_order f_m_order_b27 f_m_order_b32 f_m_order_b55 f_m_order_b56
          rw [← b1, ← b2, ← b3, ← b4, ← b5, ← hc.1, ← hs2]
          simp only [m_bad hn, if_pos h2, m_hour, if_pos h1, Option.bind_some, ite_true, if_neg n10, m_thr, if_neg hix, if_pos h3, k3]
        refine ⟨_, _, _, ⟨_, _, hx, hm', rfl, fun _ => rfl, rfl, rfl, rfl⟩, Inv_mk hn hc ⟨?_, hs2, hs3⟩ hm k1 hr ht ?_ ?_⟩
        · show upd x.x_hasSent _ 1 = upd m.m_sent _ 1
          rw [hs1]
        · intro q
          exact absurd (hr0.symm.trans q) (by decide)
        · refine ⟨ho.1, fun o ho4 hd => ?_⟩
          exact absurd (hr0.symm.trans (ho.2 o ho4 hd).1) (by decide)
      · have hx : f_law_order x.x_members x.x_collaterals x.x_hasSent x.x_isSealed x.bk_counts x.bk_needs x.bk_whens x.bk_sides x.bk_quantities x.bk_limits m.m_out a1 a2 a3 a4 a5 a6 = some (2, x.x_hasSent, x.bk_counts, x.bk_needs, x.bk_whens, x.bk_sides, x.bk_quantities, x.bk_limits, m.m_out) := by
          unfold f_law_order f_x_order
          rw [x_hour, if_pos h1, Option.bind_some, if_neg n10, x_send hn, if_pos h2, if_neg h3]
          rfl
        have hm' : f_m_order m.m_thrown m.m_n m.m_collateral m.m_many m.m_need m.m_isBlock m.m_hours m.m_side m.m_quantity m.m_limit m.m_sent m.m_sealed a1 a2 a3 a4 a5 a6 = some (0, 2, m.m_many, m.m_need, m.m_isBlock, m.m_hours, m.m_side, m.m_quantity, m.m_limit, m.m_sent) := by
          unfold f_m_order f_m_order_b27 f_m_order_b32 f_m_order_b55 f_m_order_b56
          rw [← hs2]
          simp only [m_bad hn, if_pos h2, m_hour, if_pos h1, Option.bind_some, ite_true, if_neg n10, m_thr, if_neg hix, if_neg h3]
        exact ⟨_, _, _, ⟨_, _, hx, hm', rfl, fun q => absurd q n20, rfl, rfl, rfl⟩, Inv_mk hn hc ⟨hs1, hs2, hs3⟩ hm hb hr ht hv ho⟩
    · exact hbad (Or.inr h2)
  · exact hbad (Or.inl h1)
theorem step_block (x : SX) (m : SM) (a1 a2 a3 a4 a5 a6 : Int32) (hI : Inv x m) : ∃ c x' m', St_block x m a1 a2 a3 a4 a5 a6 c x' m' ∧ Inv x' m' := by
  obtain ⟨hn, hc, ⟨hs1, hs2, hs3⟩, hm, hb, hr, ht, hv, ho⟩ := id hI
  have hbad : (¬ okSp a3 ∨ ¬ okBid x.x_members a1 a2 a4 a5 a6) → ∃ c x' m', St_block x m a1 a2 a3 a4 a5 a6 c x' m' ∧ Inv x' m' := by
    intro hor
    have hx : f_law_block x.x_members x.x_collaterals x.x_hasSent x.x_isSealed x.bk_counts x.bk_needs x.bk_whens x.bk_sides x.bk_quantities x.bk_limits m.m_out a1 a2 a3 a4 a5 a6 = some (1, x.x_hasSent, x.bk_counts, x.bk_needs, x.bk_whens, x.bk_sides, x.bk_quantities, x.bk_limits, m.m_out) := by
      unfold f_law_block f_x_block
      rw [x_span, Option.bind_some]
      by_cases h1 : okSp a3
      · have h2 : ¬ okBid x.x_members a1 a2 a4 a5 a6 := hor.resolve_left (fun z => z h1)
        rw [if_pos h1, if_neg n10, x_send hn, if_neg h2]
        rfl
      · rw [if_neg h1, if_pos rfl]
        rfl
    have hm' : f_m_block m.m_thrown m.m_n m.m_collateral m.m_many m.m_need m.m_isBlock m.m_hours m.m_side m.m_quantity m.m_limit m.m_sent m.m_sealed a1 a2 a3 a4 a5 a6 = some (0, 1, m.m_many, m.m_need, m.m_isBlock, m.m_hours, m.m_side, m.m_quantity, m.m_limit, m.m_sent) := by
      unfold f_m_block f_m_block_b35
      by_cases h2 : okBid x.x_members a1 a2 a4 a5 a6
      · have h1 : ¬ okSp a3 := hor.resolve_right (fun z => z h2)
        rw [m_bad hn, if_pos h2, Option.bind_some, if_pos rfl, m_span, if_neg h1]
        unfold f_m_block_b40 f_m_block_b63 f_m_block_b64
        simp only [Option.bind_some, if_neg n10, m_thr]
      · unfold f_m_block_b40 f_m_block_b63 f_m_block_b64
        simp only [m_bad hn, if_neg h2, Option.bind_some, if_neg n10, m_thr]
    exact ⟨_, _, _, ⟨_, _, hx, hm', rfl, fun q => absurd q n10, rfl, rfl, rfl⟩, Inv_mk hn hc ⟨hs1, hs2, hs3⟩ hm hb hr ht hv ho⟩
  by_cases h1 : okSp a3
  · by_cases h2 : okBid x.x_members a1 a2 a4 a5 a6
    · have hix := mem6 hn h2.1
      obtain ⟨y1, y2, y3⟩ := sp_len h1
      by_cases h3 : x.x_isSealed a1.toNatClampNeg = 0
      · have hr0 := r_zero hr h2.1 h3
        obtain ⟨b1, b2, b3, b4, b5⟩ := hb.1
        obtain ⟨c2, e2, w2, ib2, hs2', d2, q2, l2, T2, k1, k2, k3⟩ := send_both (sl := x.x_isSealed) (snt := m.m_sent) (hst := x.x_hasSent) (W := 100 + a3) (bl := 1) (h := a3) hn h2 h3 hc.2 (by rw [if_neg n10, Int32.add_comm]) (Or.inr rfl) y2 (Or.inr ⟨rfl, by omega, by omega⟩) (show iv_b x.bk_counts x.bk_counts x.bk_needs x.bk_needs x.bk_whens m.m_isBlock m.m_hours x.bk_sides x.bk_sides x.bk_quantities x.bk_quantities x.bk_limits x.bk_limits from ⟨⟨rfl, rfl, rfl, rfl, rfl⟩, hb.2⟩)
        rw [← y1] at k3
        have hx : f_law_block x.x_members x.x_collaterals x.x_hasSent x.x_isSealed x.bk_counts x.bk_needs x.bk_whens x.bk_sides x.bk_quantities x.bk_limits m.m_out a1 a2 a3 a4 a5 a6 = some (0, upd x.x_hasSent a1.toNatClampNeg 1, c2, e2, w2, d2, q2, l2, vp_updL m.m_out 0 (Int32.toInt64 T2)) := by
          unfold f_law_block f_x_block
          rw [x_span, if_pos h1, Option.bind_some, if_neg n10, k2]
          rfl
        have hm' : f_m_block m.m_thrown m.m_n m.m_collateral m.m_many m.m_need m.m_isBlock m.m_hours m.m_side m.m_quantity m.m_limit m.m_sent m.m_sealed a1 a2 a3 a4 a5 a6 = some (T2, 0, c2, e2, ib2, hs2', d2, q2, l2, upd m.m_sent a1.toNatClampNeg 1) := by
          unfold f_m_block
          rw [m_bad hn, if_pos h2, Option.bind_some, if_pos rfl, m_span, if_pos h1]
          unfold f_m_block_b40 f_m_block_b63 f_m_block_b64
          rw [← b1, ← b2, ← b3, ← b4, ← b5, ← hc.1, ← hs2]
          simp only [Option.bind_some, ite_true, m_thr, if_neg hix, if_pos h3, k3]
        refine ⟨_, _, _, ⟨_, _, hx, hm', rfl, fun _ => rfl, rfl, rfl, rfl⟩, Inv_mk hn hc ⟨?_, hs2, hs3⟩ hm k1 hr ht ?_ ?_⟩
        · show upd x.x_hasSent _ 1 = upd m.m_sent _ 1
          rw [hs1]
        · intro q
          exact absurd (hr0.symm.trans q) (by decide)
        · refine ⟨ho.1, fun o ho4 hd => ?_⟩
          exact absurd (hr0.symm.trans (ho.2 o ho4 hd).1) (by decide)
      · have hx : f_law_block x.x_members x.x_collaterals x.x_hasSent x.x_isSealed x.bk_counts x.bk_needs x.bk_whens x.bk_sides x.bk_quantities x.bk_limits m.m_out a1 a2 a3 a4 a5 a6 = some (2, x.x_hasSent, x.bk_counts, x.bk_needs, x.bk_whens, x.bk_sides, x.bk_quantities, x.bk_limits, m.m_out) := by
          unfold f_law_block f_x_block
          rw [x_span, if_pos h1, Option.bind_some, if_neg n10, x_send hn, if_pos h2, if_neg h3]
          rfl
        have hm' : f_m_block m.m_thrown m.m_n m.m_collateral m.m_many m.m_need m.m_isBlock m.m_hours m.m_side m.m_quantity m.m_limit m.m_sent m.m_sealed a1 a2 a3 a4 a5 a6 = some (0, 2, m.m_many, m.m_need, m.m_isBlock, m.m_hours, m.m_side, m.m_quantity, m.m_limit, m.m_sent) := by
          unfold f_m_block
          rw [m_bad hn, if_pos h2, Option.bind_some, if_pos rfl, m_span, if_pos h1]
          unfold f_m_block_b40 f_m_block_b64
          rw [← hs2]
          simp only [Option.bind_some, ite_true, if_neg n10, m_thr, if_neg hix, if_neg h3]
        exact ⟨_, _, _, ⟨_, _, hx, hm', rfl, fun q => absurd q n20, rfl, rfl, rfl⟩, Inv_mk hn hc ⟨hs1, hs2, hs3⟩ hm hb hr ht hv ho⟩
    · exact hbad (Or.inr h2)
  · exact hbad (Or.inl h1)
