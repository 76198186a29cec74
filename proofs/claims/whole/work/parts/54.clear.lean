/-! Clearing, class beside reference. -/
theorem m_clr {n : Int32} (hn1 : 1 ≤ n.toInt ∧ n.toInt ≤ 6) {c : Nat → Int32} {e : Nat → Int64} {w ib hs d q l v' : Nat → Int32} (hb : iv_b c c e e w ib hs d d q q l l) {cnt : Nat → Nat} {cont : Nat → Nat → En} (hv : vd n.toInt.toNat cnt cont) {o : Nat} (ho : o < 4)
    (hbb : ∀ p, p < n.toInt.toNat → -1 ≤ (v' (6 * o + p)).toInt ∧ (v' (6 * o + p)).toInt ≤ 23) (hcnt : ∀ p, p < n.toInt.toNat → (if (v' (6 * o + p)).toInt < 0 then 0 else (c (v' (6 * o + p)).toNatClampNeg).toInt.toNat) = cnt p) (hcont : ∀ p, p < n.toInt.toNat → ∀ i, i < cnt p → en_at w d q l (10 * p + i) (10 * (v' (6 * o + p)).toNatClampNeg + i) = cont p i)
    {E : List En} (hEe : E = elist n.toInt.toNat cnt cont) {rd : Int32} (hrd : (3 : Int32) ≤ rd) {t : Int32} {cl : Nat → Int32} {mw : Nat → Int64} (mp mt mf oe of' : Nat → Int32) (no : Int32) (be bf : Nat → Int32) (nb : Int32) (pr tr F : Nat → Int32) (R : Nat → Int64) :
    ∃ mp' mt' mf' oe2 of2 no2 be2 bf2 nb2 pr2 tr2 F2 R2, f_m_clear t n c ib hs d q l rd v' cl mp mt mf mw oe of' no be bf nb pr tr F R (i3 o) = some (i3 (sp_set (blkL E) (ordL E)), 0, upd cl o 1, mp', mt', mf', vp_updL mw o (i6 (sp_w (blkL E) (ordL E) (sp_set (blkL E) (ordL E)))), oe2, of2, no2, be2, bf2, nb2, pr2, tr2, F2, R2) ∧
      (∀ h : Nat, h < 3 → mp' (3 * o + h) = i3 (sp_p (blkL E) (ordL E) (sp_set (blkL E) (ordL E)) h) ∧ mt' (3 * o + h) = i3 (sp_t (blkL E) (ordL E) (sp_set (blkL E) (ordL E)) h)) ∧ (∀ j, (j < 3 * o ∨ 3 * o + 3 ≤ j) → mp' j = mp j ∧ mt' j = mt j) ∧ flR E (sp_set (blkL E) (ordL E)) (fun j => mf' (60 * o + j)) ∧ (∀ j, (j < 60 * o ∨ 60 * o + 60 ≤ j) → mf' j = mf j) := by
  have hE : okE 60 E := by rw [hEe]; exact okE_all hv
  obtain ⟨hO, hS⟩ := okO_of hE
  have hB := okB_of hE
  have hp8 := pow8 hB.2
  obtain ⟨s1, s2, s3⟩ := best_sp (B := blkL E) hO (2 ^ (blkL E).length - 1)
  have hs8 : sp_set (blkL E) (ordL E) < 256 := by unfold sp_set; omega
  obtain ⟨oe2, of2, no2, be2, bf2, nb2, ⟨g1, g2, g3, g4, g5, g6⟩, gg⟩ := gth hn1 hb hv ho hbb hcnt hcont oe of' no be bf nb
  rw [← hEe] at g1 g2 g3 g4 g5 g6
  subst g1
  subst g2
  have hfm : okS (E.filter en_b) := hE.2.2.filter _
  have hblk : ∀ k, k < (blkL E).length → (blkL E).getD k en_0 = (E.filter en_b).getD k en_0 ∧ k < (E.filter en_b).length := by
    intro k hk
    have hl := blkL_len (E := E)
    refine ⟨?_, by omega⟩
    unfold blkL
    rw [List.getD_eq_getElem?_getD, List.getD_eq_getElem?_getD, List.getElem?_take_of_lt (by omega)]
  have hslO : ∀ k, k < (ordL E).length → en_s ((ordL E).getD k en_0) < 60 := fun k hk => (hE.2.1 _ (List.mem_filter.mp (getD_mem hk)).1).2
  have hslB : ∀ k, k < (blkL E).length → en_s ((blkL E).getD k en_0) < 60 := fun k hk => (hE.2.1 _ (List.mem_filter.mp (List.mem_of_mem_take (getD_mem hk))).1).2
  have hinj : ∀ i j, i < (blkL E).length → j < (blkL E).length → en_s ((blkL E).getD i en_0) = en_s ((blkL E).getD j en_0) → i = j := by
    intro i j hi hj h
    rw [(hblk i hi).1, (hblk j hj).1] at h
    exact okS_get hfm (hblk i hi).2 (hblk j hj).2 h
  obtain ⟨pr2, tr2, F2, R2, k1, k2, k3⟩ := mc_L58 (n := n) (c := c) (ib := ib) (rd := rd) (v' := v') (t := 0) (cl := cl) (mp := mp) (mt := mt) (mf := mf) (mw := mw) (of' := of2) (bf := bf2) hB hO hS g3 g4 ho pr tr F R
  obtain ⟨mp', mt', j1, j2, j3⟩ := mc_L135 (n := n) (c := c) (ib := ib) (hs := hs) (d := d) (q := q) (l := l) (rd := rd) (v' := v') (t := 0) (cl := upd cl o 1) (mf := mf) (mw := vp_updL mw o (i6 (sp_w (blkL E) (ordL E) (sp_set (blkL E) (ordL E))))) (oe := oe2) (of' := of2) (be := be2) (bf := bf2) (no := i3 (ordL E).length) (nb := i3 (blkL E).length) (pr := pr2) (tr := tr2) (F := F2) (R := R2) (x3 := i3 (sp_set (blkL E) (ordL E))) ho mp mt
  have l1 := mc_L186 (n := n) (c := c) (ib := ib) (hs := hs) (d := d) (q := q) (l := l) (rd := rd) (v' := v') (t := 0) (cl := upd cl o 1) (mp := mp') (mt := mt') (mw := vp_updL mw o (i6 (sp_w (blkL E) (ordL E) (sp_set (blkL E) (ordL E))))) (oe := oe2) (of' := of2) (be := be2) (bf := bf2) (no := i3 (ordL E).length) (nb := i3 (blkL E).length) (pr := pr2) (tr := tr2) (F := F2) (R := R2) (x3 := i3 (sp_set (blkL E) (ordL E))) ho mf
  obtain ⟨mf3, m1, m2, m3⟩ := mc_L215 (n := n) (c := c) (ib := ib) (hs := hs) (d := d) (q := q) (l := l) (rd := rd) (v' := v') (t := 0) (cl := upd cl o 1) (mp := mp') (mt := mt') (mw := vp_updL mw o (i6 (sp_w (blkL E) (ordL E) (sp_set (blkL E) (ordL E))))) (oe := oe2) (be := be2) (bf := bf2) (nb := i3 (blkL E).length) (pr := pr2) (tr := tr2) (F := F2) (R := R2) (x3 := i3 (sp_set (blkL E) (ordL E))) hO hS ho g5 hslO (flG mf 0 (60 * o) (60 * o + 60))
  obtain ⟨mf4, p1, p2, p3⟩ := mc_L252 (n := n) (c := c) (ib := ib) (rd := rd) (v' := v') (t := 0) (cl := upd cl o 1) (mp := mp') (mt := mt') (mw := vp_updL mw o (i6 (sp_w (blkL E) (ordL E) (sp_set (blkL E) (ordL E))))) (oe := oe2) (of' := of2) (no := i3 (ordL E).length) (pr := pr2) (tr := tr2) (F := F2) (R := R2) hB g4 ho g6 hslB hinj hs8 mf3
  refine ⟨mp', mt', mf4, oe2, of2, i3 (ordL E).length, be2, bf2, i3 (blkL E).length, pr2, tr2, F2, R2, ?_, fun h hh => ?_, j3, ⟨fun e1 he1 => ?_, fun k e1 hke => ?_⟩, fun j hj => ?_⟩
  · have hop : isOp (i3 (o : Nat)) := by unfold isOp; rw [i3_toInt (by omega)]; omega
    unfold f_m_clear
    rw [m_op, if_pos hop, Option.bind_some, if_neg n10]
    unfold f_m_clear_b17
    rw [if_pos rfl, if_pos hrd]
    unfold f_m_clear_b36 f_m_clear_b37
    rw [m_thr, Option.bind_some, if_pos rfl, if_pos rfl, if_pos rfl, gg, Option.bind_some]
    exact k1.trans (j1.trans (l1.trans (m1.trans p1)))
  · obtain ⟨y1, y2⟩ := j2 h hh
    rw [y1, y2]
    exact k2 h hh
  · obtain ⟨k, hk, rfl⟩ := getD_of_mem he1
    show mf4 (60 * o + en_s ((ordL E).getD k en_0)) = _
    rw [p3 _ (fun k' hk' y => ?_), m2 k hk, k3 k hk]
    have hm1 : (ordL E).getD k en_0 ∈ E ∧ (!en_b ((ordL E).getD k en_0)) = true := List.mem_filter.mp (getD_mem hk)
    have hm2 : (blkL E).getD k' en_0 ∈ E ∧ en_b ((blkL E).getD k' en_0) = true := List.mem_filter.mp (List.mem_of_mem_take (getD_mem hk'))
    have := okS_inj hE.2.2 hm1.1 hm2.1 (by omega)
    rw [this] at hm1
    have hx := hm1.2
    rw [hm2.2] at hx
    exact absurd hx (by decide)
  · obtain ⟨j, y1, y2, y3, y4⟩ := flt_ix E k e1 hke
    have hkl : k < (E.filter en_b).length := by
      by_cases z : k < (E.filter en_b).length
      · exact z
      · rw [List.getElem?_eq_none (by omega)] at hke
        cases hke
    have hke2 : (E.filter en_b).getD k en_0 = e1 := by rw [List.getD_eq_getElem?_getD, hke]; rfl
    have hmem : e1 ∈ E := by rw [← y2]; exact getD_mem y1
    show mf4 (60 * o + en_s e1) = _
    by_cases z : k < (blkL E).length
    · have := p2 k z
      rw [(hblk k z).1, hke2] at this
      rw [this]
      unfold sp_bfill
      congr 1
      exact ifc ⟨fun u => ⟨z, u⟩, fun u => u.2⟩
    · rw [p3 _ (fun k' hk' y => ?_), m3 _ (fun k' hk' y => ?_), flG_in (by have := (hE.2.1 _ hmem).2; omega)]
      · unfold sp_bfill
        rw [if_neg (fun u => z u.1)]
        rfl
      · have hm1 : (ordL E).getD k' en_0 ∈ E ∧ (!en_b ((ordL E).getD k' en_0)) = true := List.mem_filter.mp (getD_mem hk')
        have := okS_inj hE.2.2 hmem hm1.1 (by omega)
        have hx := hm1.2
        rw [← this, y4] at hx
        exact absurd hx (by decide)
      · rw [(hblk k' hk').1, ← hke2] at y
        have := okS_get hfm hkl (hblk k' hk').2 (by omega)
        omega
  · rw [p3 j (fun k hk y => by have := hslB k hk; omega), m3 j (fun k hk y => by have := hslO k hk; omega)]
    unfold flG
    rw [if_neg (by omega)]
abbrev boolD (x : SX) : Prop := ∀ o : Nat, o < 4 → x.oc_isDone o = 0 ∨ x.oc_isDone o = 1
theorem vd_of {n n' : Int32} (hn : iv_n n n') {c c' : Nat → Int32} {e e' : Nat → Int64} {w ib hs d d' q q' l l' : Nat → Int32} (hb : iv_b c c' e e' w ib hs d d' q q' l l') {v v' : Nat → Int32} {o : Nat} (hq : ∀ p, p < n.toInt.toNat → bkq c w d q l (v (6 * o + p)) (v' (6 * o + p))) : vd n.toInt.toNat (fun p => (c (v (6 * o + p)).toInt.toNat).toInt.toNat) (fun p i => en_at w d q l (10 * p + i) (10 * (v (6 * o + p)).toInt.toNat + i)) := by
  obtain ⟨-, -, -, hc10, hc24, -, hent⟩ := hb
  have n2 := hn.2.2
  refine ⟨by omega, fun p hp => ⟨?_, fun i hi => ⟨?_, rfl⟩⟩⟩
  · have := hc10 (v (6 * o + p)).toInt.toNat
    show (c (v (6 * o + p)).toInt.toNat).toInt.toNat ≤ 10
    omega
  · have hi' : i < (c (v (6 * o + p)).toInt.toNat).toInt.toNat := hi
    have hlt : (v (6 * o + p)).toInt.toNat < 24 := by
      refine Nat.not_le.mp (fun u => ?_)
      rw [(hc24 _ u).1] at hi'
      exact absurd hi' (by rw [show (0 : Int32).toInt.toNat = 0 from rfl]; omega)
    exact (hent _ i hlt hi').1
theorem op_i3 {a : Int32} (h : isOp a) : a = i3 (a.toNatClampNeg : Nat) := by
  have : (a.toNatClampNeg : Int) = a.toInt := by show ((a.toInt.toNat : Nat) : Int) = _; omega
  rw [this]
  exact i3_of a
theorem iv_o1_mk {E : List En} {o : Nat} {op ov of' : Nat → Int32} {ow : Int64} {ot : Int32} {mp mt mf : Nat → Int32} {mw : Nat → Int64} (h1 : ot = i3 (sp_set (blkL E) (ordL E))) (h2 : ow = i6 (sp_w (blkL E) (ordL E) (sp_set (blkL E) (ordL E)))) (h3 : mw o = i6 (sp_w (blkL E) (ordL E) (sp_set (blkL E) (ordL E)))) (h4 : ∀ h : Nat, h < 3 → op h = i3 (sp_p (blkL E) (ordL E) (sp_set (blkL E) (ordL E)) h) ∧ ov h = i3 (sp_t (blkL E) (ordL E) (sp_set (blkL E) (ordL E)) h)) (h5 : ∀ h : Nat, h < 3 → mp (3 * o + h) = i3 (sp_p (blkL E) (ordL E) (sp_set (blkL E) (ordL E)) h) ∧ mt (3 * o + h) = i3 (sp_t (blkL E) (ordL E) (sp_set (blkL E) (ordL E)) h)) (h6 : flR E (sp_set (blkL E) (ordL E)) of') (h7 : flR E (sp_set (blkL E) (ordL E)) (fun j => mf (60 * o + j))) : iv_o1 E o op ov of' ow ot mp mt mf mw := by
  refine ⟨h1, h2, by rw [h3, h2], fun h hh => ?_, fun e he => ?_, fun k e hk => ?_⟩
  · obtain ⟨a1, a2⟩ := h4 h hh
    obtain ⟨b1, b2⟩ := h5 h hh
    exact ⟨a1, by rw [b1, a1], a2, by rw [b2, a2]⟩
  · exact ⟨h6.1 e he, (h7.1 e he).trans (h6.1 e he).symm⟩
  · exact ⟨h6.2 k e hk, (h7.2 k e hk).trans (h6.2 k e hk).symm⟩
theorem iv_o1_use {E : List En} {o : Nat} {op ov of' : Nat → Int32} {ow : Int64} {ot : Int32} {mp mt mf : Nat → Int32} {mw : Nat → Int64} (h : iv_o1 E o op ov of' ow ot mp mt mf mw) : ot = i3 (sp_set (blkL E) (ordL E)) ∧ ow = i6 (sp_w (blkL E) (ordL E) (sp_set (blkL E) (ordL E))) ∧ (∀ h : Nat, h < 3 → op h = i3 (sp_p (blkL E) (ordL E) (sp_set (blkL E) (ordL E)) h) ∧ ov h = i3 (sp_t (blkL E) (ordL E) (sp_set (blkL E) (ordL E)) h)) ∧ flR E (sp_set (blkL E) (ordL E)) of' := by
  obtain ⟨h1, h2, h3, h4, h5, h6⟩ := h
  exact ⟨h1, h2, fun h hh => ⟨(h4 h hh).1, (h4 h hh).2.2.1⟩, fun e he => (h5 e he).1, fun k e hk => (h6 k e hk).1⟩
theorem iv_o1_far {E : List En} (hE : okE 60 E) {o o' : Nat} (hne : o' ≠ o) {op ov of' : Nat → Int32} {ow : Int64} {ot : Int32} {mp mt mf mp' mt' mf' : Nat → Int32} {mw mw' : Nat → Int64} (h : iv_o1 E o' op ov of' ow ot mp mt mf mw) (g1 : ∀ j, (j < 3 * o ∨ 3 * o + 3 ≤ j) → mp' j = mp j ∧ mt' j = mt j) (g2 : ∀ j, (j < 60 * o ∨ 60 * o + 60 ≤ j) → mf' j = mf j) (g3 : mw' o' = mw o') : iv_o1 E o' op ov of' ow ot mp' mt' mf' mw' := by
  obtain ⟨h1, h2, h3, h4, h5, h6⟩ := h
  refine ⟨h1, h2, by rw [g3]; exact h3, fun h hh => ?_, fun e he => ?_, fun k e hk => ?_⟩
  · obtain ⟨a1, a2, a3, a4⟩ := h4 h hh
    obtain ⟨b1, b2⟩ := g1 (3 * o' + h) (by omega)
    exact ⟨a1, by rw [b1]; exact a2, a3, by rw [b2]; exact a4⟩
  · obtain ⟨a1, a2⟩ := h5 e he
    have hs := (hE.2.1 e (List.mem_filter.mp he).1).2
    exact ⟨a1, by rw [g2 _ (by omega)]; exact a2⟩
  · obtain ⟨a1, a2⟩ := h6 k e hk
    obtain ⟨j, y1, y2, y3, y4⟩ := flt_ix E k e hk
    have hs := (hE.2.1 e (by rw [← y2]; exact getD_mem y1)).2
    exact ⟨a1, by rw [g2 _ (by omega)]; exact a2⟩
theorem step_clear (x : SX) (m : SM) (a1 : Int32) (hI : Inv x m) (hD : boolD x) : ∃ c x' m', St_clear x m a1 c x' m' ∧ Inv x' m' ∧ boolD x' := by
  obtain ⟨hn, hc, ⟨hs1, hs2, hs3⟩, hm, hb, hr, ht, hv, ho⟩ := id hI
  obtain ⟨r1, r2, r3, r4, r5⟩ := id hr
  by_cases h1 : isOp a1
  · by_cases h2 : x.ag_rounds = 3
    · have ho4 := op_cl h1
      have ha1 := op_i3 h1
      have hopix := opix h1
      obtain ⟨b1, b2, b3, b4, b5⟩ := hb.1
      have hb' : iv_b x.bk_counts x.bk_counts x.bk_needs x.bk_needs x.bk_whens m.m_isBlock m.m_hours x.bk_sides x.bk_sides x.bk_quantities x.bk_quantities x.bk_limits x.bk_limits := ⟨⟨rfl, rfl, rfl, rfl, rfl⟩, hb.2⟩
      generalize hoo : a1.toNatClampNeg = o at *
      have hvo : ∀ o' : Nat, o' < 4 → ∀ p, p < x.x_members.toInt.toNat → bkq x.bk_counts x.bk_whens x.bk_sides x.bk_quantities x.bk_limits (x.ag_vectors (6 * o' + p)) (m.m_vectors (6 * o' + p)) := fun o' ho' p hp => hv h2 o' p ho' hp
      have hvd : ∀ o' : Nat, o' < 4 → vd x.x_members.toInt.toNat (fun p => (x.bk_counts (x.ag_vectors (6 * o' + p)).toInt.toNat).toInt.toNat) (fun p i => en_at x.bk_whens x.bk_sides x.bk_quantities x.bk_limits (10 * p + i) (10 * (x.ag_vectors (6 * o' + p)).toInt.toNat + i)) := fun o' ho' => vd_of hn hb (hvo o' ho')
      have hEall : ∀ o' : Nat, o' < 4 → okE 60 (el_of x.x_members x.bk_counts x.bk_whens x.bk_sides x.bk_quantities x.bk_limits x.ag_vectors o') := fun o' ho' => okE_all (hvd o' ho')
      have hc10 := hb.2.2.2.1
      have hc24 := hb.2.2.2.2.1
      have hrd : (3 : Int32) ≤ m.m_rounds := by rw [← r3, h2]; decide
      generalize hEE : el_of x.x_members x.bk_counts x.bk_whens x.bk_sides x.bk_quantities x.bk_limits x.ag_vectors o = E at *
      have hE : okE 60 E := by rw [← hEE]; exact hEall o ho4
      obtain ⟨mp', mt', mf', oe2, of2, no2, be2, bf2, nb2, pr2, tr2, F2, R2, q1, q2, q3, q4, q5⟩ := m_clr (t := m.m_thrown) (cl := m.m_cleared) (mw := m.m_welfares) (rd := m.m_rounds) hn.2 hb' (hvd o ho4) ho4 (fun p hp => (hvo o ho4 p hp).2.1) (fun p hp => by
        have h3 := (hvo o ho4 p hp).2.2.1
        show _ = (x.bk_counts (x.ag_vectors (6 * o + p)).toInt.toNat).toInt.toNat
        rw [h3]
        split
        · rfl
        · rfl) (fun p hp i hi => en_eq.mpr (en_eq.mp ((hvo o ho4 p hp).2.2.2 i hi).symm)) hEE.symm hrd m.m_prices m.m_trades m.m_fills m.m_orderEntry m.m_orderFill m.m_orders m.m_blockEntry m.m_blockFill m.m_blocks m.m_price m.m_trade m.m_filled m.m_rest
      have hm' : f_m_clear m.m_thrown m.m_n m.m_many m.m_isBlock m.m_hours m.m_side m.m_quantity m.m_limit m.m_rounds m.m_vectors m.m_cleared m.m_prices m.m_trades m.m_fills m.m_welfares m.m_orderEntry m.m_orderFill m.m_orders m.m_blockEntry m.m_blockFill m.m_blocks m.m_price m.m_trade m.m_filled m.m_rest a1 = some (i3 (sp_set (blkL E) (ordL E)), 0, upd m.m_cleared o 1, mp', mt', mf', vp_updL m.m_welfares o (i6 (sp_w (blkL E) (ordL E) (sp_set (blkL E) (ordL E)))), oe2, of2, no2, be2, bf2, nb2, pr2, tr2, F2, R2) := by
        rw [← hn.1, ← b1, ← b3, ← b4, ← b5, ha1]
        exact q1
      have hmw : ∀ o' : Nat, o' ≠ o → vp_updL m.m_welfares o (i6 (sp_w (blkL E) (ordL E) (sp_set (blkL E) (ordL E)))) o' = m.m_welfares o' := fun o' hne => if_neg hne
      have hmwo : vp_updL m.m_welfares o (i6 (sp_w (blkL E) (ordL E) (sp_set (blkL E) (ordL E)))) o = i6 (sp_w (blkL E) (ordL E) (sp_set (blkL E) (ordL E))) := if_pos rfl
      by_cases h3 : x.oc_isDone o = 0
      · obtain ⟨en', sl', bl', ec', bc', cl', cb', co', cc', ca', cao', u1, u2⟩ := ld_all ho4 hn.2 (c := x.bk_counts) (v := x.ag_vectors) (hvd o ho4) (fun p hp => (hvo o ho4 p hp).1) (fun p hp => by
            have := hc10 (x.ag_vectors (6 * o + p)).toInt.toNat
            show x.bk_counts (x.ag_vectors (6 * o + p)).toInt.toNat = i3 (((x.bk_counts (x.ag_vectors (6 * o + p)).toInt.toNat).toInt.toNat : Nat) : Int)
            rw [show ((((x.bk_counts (x.ag_vectors (6 * o + p)).toInt.toNat).toInt.toNat : Nat)) : Int) = (x.bk_counts (x.ag_vectors (6 * o + p)).toInt.toNat).toInt by omega]
            exact i3_of _) (fun p hp hne => by
            have hk := (hvo o ho4 p hp).1
            refine Int.not_le.mp (fun u => hne ?_)
            show (x.bk_counts (x.ag_vectors (6 * o + p)).toInt.toNat).toInt.toNat = 0
            rw [(hc24 _ (by omega)).1]
            rfl) (fun p hp i hi => rfl) x.mk_entries x.mk_slots x.mk_blocks x.mk_entryCount x.mk_blockCount x.cv_limits x.cv_bids x.cv_offers x.cv_count x.cv_allBids x.cv_allOffers
        have u1' : ldR x.bk_whens x.bk_sides x.bk_quantities x.bk_limits E en' sl' bl' ec' bc' cl' cb' co' cc' ca' cao' := by rw [← hEE]; exact u1
        obtain ⟨rem', bb', bo', mpx, sb', so', pb', po', vo', wo', op', ov', of3, t1, t2, t3⟩ := x_settle hE u1' x.mk_remainders x.mk_blockBids x.mk_blockOffers x.cv_meetingPrice x.cv_sureBids x.cv_sureOffers x.cv_priceBids x.cv_priceOffers x.cv_volume x.cv_worth (x.oc_prices o) (x.oc_volumes o) (x.oc_filled o) (x.oc_worth o) (x.oc_takenSet o) (x.oc_isDone o)
        have hx : f_law_clear x.x_members x.bk_counts x.bk_whens x.bk_sides x.bk_quantities x.bk_limits x.ag_vectors x.ag_rounds x.mk_entries x.mk_slots x.mk_remainders x.mk_blocks x.mk_blockBids x.mk_blockOffers x.mk_entryCount x.mk_blockCount x.cv_limits x.cv_bids x.cv_offers x.cv_count x.cv_allBids x.cv_allOffers x.cv_meetingPrice x.cv_sureBids x.cv_sureOffers x.cv_priceBids x.cv_priceOffers x.cv_volume x.cv_worth x.oc_prices x.oc_volumes x.oc_filled x.oc_worth x.oc_takenSet x.oc_isDone m.m_out a1 = some (0, en', sl', rem', bl', bb', bo', ec', bc', cl', cb', co', cc', ca', cao', mpx, sb', so', pb', po', vo', wo', va_up x.oc_prices o op', va_up x.oc_volumes o ov', va_up x.oc_filled o of3, va_up x.oc_worth o (i6 (sp_w (blkL E) (ordL E) (sp_set (blkL E) (ordL E)))), va_up x.oc_takenSet o (i3 (sp_set (blkL E) (ordL E))), va_up x.oc_isDone o 1, vp_updL m.m_out 0 (Int32.toInt64 (i3 (sp_set (blkL E) (ordL E))))) := by
          unfold f_law_clear f_x_clear
          rw [x_op, if_pos h1, Option.bind_some, if_neg n10, x_over r4, Option.bind_some, if_pos h2, if_neg n10, hoo, if_neg hopix, if_pos h3]
          rw [← ha1] at u2
          rw [u2, Option.bind_some]
          simp only [t1, Option.bind_some, vaf, ite_true]
        refine ⟨_, _, _, ⟨_, _, hx, hm', rfl, fun _ => rfl, rfl, rfl, rfl⟩, Inv_mk hn hc ⟨hs1, hs2, hs3⟩ hm hb hr ht hv ⟨?_, fun o' ho' hd => ?_⟩, fun o' ho' => ?_⟩
        · show va_up x.oc_isDone o 1 = upd m.m_cleared o 1
          rw [ho.1]
          rfl
        · refine ⟨h2, ?_⟩
          show iv_o1 (el_of x.x_members x.bk_counts x.bk_whens x.bk_sides x.bk_quantities x.bk_limits x.ag_vectors o') o' (va_up x.oc_prices o op' o') (va_up x.oc_volumes o ov' o') (va_up x.oc_filled o of3 o') (va_up x.oc_worth o (i6 (sp_w (blkL E) (ordL E) (sp_set (blkL E) (ordL E)))) o') (va_up x.oc_takenSet o (i3 (sp_set (blkL E) (ordL E))) o') mp' mt' mf' (vp_updL m.m_welfares o (i6 (sp_w (blkL E) (ordL E) (sp_set (blkL E) (ordL E)))))
          rw [vaf, vaf, vaf, vaf, vaf]
          by_cases z : o' = o
          · subst z
            rw [if_pos rfl, if_pos rfl, if_pos rfl, if_pos rfl, if_pos rfl, hEE]
            exact iv_o1_mk rfl rfl hmwo t2 q2 t3 q4
          · have hd' : x.oc_isDone o' ≠ 0 := by
              intro y
              apply hd
              show va_up x.oc_isDone o 1 o' = 0
              rw [vaf, if_neg z]
              exact y
            rw [if_neg z, if_neg z, if_neg z, if_neg z, if_neg z]
            exact iv_o1_far (hEall o' ho') z (ho.2 o' ho' hd').2 q3 q5 (hmw o' z)
        · show va_up x.oc_isDone o 1 o' = 0 ∨ va_up x.oc_isDone o 1 o' = 1
          rw [vaf]
          split
          · exact Or.inr rfl
          · exact hD o' ho'
      · have hd1 : x.oc_isDone o = 1 := (hD o ho4).resolve_left h3
        have hold := (ho.2 o ho4 h3).2
        rw [hEE] at hold
        obtain ⟨w1, w2, w3, w4⟩ := iv_o1_use hold
        have hx : f_law_clear x.x_members x.bk_counts x.bk_whens x.bk_sides x.bk_quantities x.bk_limits x.ag_vectors x.ag_rounds x.mk_entries x.mk_slots x.mk_remainders x.mk_blocks x.mk_blockBids x.mk_blockOffers x.mk_entryCount x.mk_blockCount x.cv_limits x.cv_bids x.cv_offers x.cv_count x.cv_allBids x.cv_allOffers x.cv_meetingPrice x.cv_sureBids x.cv_sureOffers x.cv_priceBids x.cv_priceOffers x.cv_volume x.cv_worth x.oc_prices x.oc_volumes x.oc_filled x.oc_worth x.oc_takenSet x.oc_isDone m.m_out a1 = some (0, x.mk_entries, x.mk_slots, x.mk_remainders, x.mk_blocks, x.mk_blockBids, x.mk_blockOffers, x.mk_entryCount, x.mk_blockCount, x.cv_limits, x.cv_bids, x.cv_offers, x.cv_count, x.cv_allBids, x.cv_allOffers, x.cv_meetingPrice, x.cv_sureBids, x.cv_sureOffers, x.cv_priceBids, x.cv_priceOffers, x.cv_volume, x.cv_worth, x.oc_prices, x.oc_volumes, x.oc_filled, x.oc_worth, x.oc_takenSet, x.oc_isDone, vp_updL m.m_out 0 (Int32.toInt64 (i3 (sp_set (blkL E) (ordL E))))) := by
          unfold f_law_clear f_x_clear
          rw [x_op, if_pos h1, Option.bind_some, if_neg n10, x_over r4, Option.bind_some, if_pos h2, if_neg n10, hoo, if_neg hopix, if_neg h3, w1]
          rfl
        refine ⟨_, _, _, ⟨_, _, hx, hm', rfl, fun _ => rfl, rfl, rfl, rfl⟩, Inv_mk hn hc ⟨hs1, hs2, hs3⟩ hm hb hr ht hv ⟨?_, fun o' ho' hd => ?_⟩, hD⟩
        · show x.oc_isDone = upd m.m_cleared o 1
          rw [← ho.1]
          funext j
          rw [updf]
          by_cases z : j = o
          · rw [if_pos z, z, hd1]
          · rw [if_neg z]
        · refine ⟨h2, ?_⟩
          show iv_o1 (el_of x.x_members x.bk_counts x.bk_whens x.bk_sides x.bk_quantities x.bk_limits x.ag_vectors o') o' (x.oc_prices o') (x.oc_volumes o') (x.oc_filled o') (x.oc_worth o') (x.oc_takenSet o') mp' mt' mf' (vp_updL m.m_welfares o (i6 (sp_w (blkL E) (ordL E) (sp_set (blkL E) (ordL E)))))
          by_cases z : o' = o
          · subst z
            rw [hEE]
            exact iv_o1_mk w1 w2 hmwo w3 q2 w4 q4
          · exact iv_o1_far (hEall o' ho') z (ho.2 o' ho' hd).2 q3 q5 (hmw o' z)
    · have hx : f_law_clear x.x_members x.bk_counts x.bk_whens x.bk_sides x.bk_quantities x.bk_limits x.ag_vectors x.ag_rounds x.mk_entries x.mk_slots x.mk_remainders x.mk_blocks x.mk_blockBids x.mk_blockOffers x.mk_entryCount x.mk_blockCount x.cv_limits x.cv_bids x.cv_offers x.cv_count x.cv_allBids x.cv_allOffers x.cv_meetingPrice x.cv_sureBids x.cv_sureOffers x.cv_priceBids x.cv_priceOffers x.cv_volume x.cv_worth x.oc_prices x.oc_volumes x.oc_filled x.oc_worth x.oc_takenSet x.oc_isDone m.m_out a1 = some (2, x.mk_entries, x.mk_slots, x.mk_remainders, x.mk_blocks, x.mk_blockBids, x.mk_blockOffers, x.mk_entryCount, x.mk_blockCount, x.cv_limits, x.cv_bids, x.cv_offers, x.cv_count, x.cv_allBids, x.cv_allOffers, x.cv_meetingPrice, x.cv_sureBids, x.cv_sureOffers, x.cv_priceBids, x.cv_priceOffers, x.cv_volume, x.cv_worth, x.oc_prices, x.oc_volumes, x.oc_filled, x.oc_worth, x.oc_takenSet, x.oc_isDone, m.m_out) := by
        unfold f_law_clear f_x_clear
        rw [x_op, if_pos h1, Option.bind_some, if_neg n10, x_over r4, Option.bind_some, if_neg h2, if_pos rfl]
        rfl
      have hm' : f_m_clear m.m_thrown m.m_n m.m_many m.m_isBlock m.m_hours m.m_side m.m_quantity m.m_limit m.m_rounds m.m_vectors m.m_cleared m.m_prices m.m_trades m.m_fills m.m_welfares m.m_orderEntry m.m_orderFill m.m_orders m.m_blockEntry m.m_blockFill m.m_blocks m.m_price m.m_trade m.m_filled m.m_rest a1 = some (0, 2, m.m_cleared, m.m_prices, m.m_trades, m.m_fills, m.m_welfares, m.m_orderEntry, m.m_orderFill, m.m_orders, m.m_blockEntry, m.m_blockFill, m.m_blocks, m.m_price, m.m_trade, m.m_filled, m.m_rest) := by
        unfold f_m_clear f_m_clear_b17 f_m_clear_b37
        rw [m_op, if_pos h1, Option.bind_some, if_neg n10, if_pos rfl, if_neg (fun y => h2 ((n3r r4).mp (by rw [r3]; exact y))), m_thr, Option.bind_some, if_pos rfl, if_neg n10]
        rfl
      exact ⟨_, _, _, ⟨_, _, hx, hm', rfl, fun q => absurd q n20, rfl, rfl, rfl⟩, Inv_mk hn hc ⟨hs1, hs2, hs3⟩ hm hb hr ht hv ho, hD⟩
  · have hx : f_law_clear x.x_members x.bk_counts x.bk_whens x.bk_sides x.bk_quantities x.bk_limits x.ag_vectors x.ag_rounds x.mk_entries x.mk_slots x.mk_remainders x.mk_blocks x.mk_blockBids x.mk_blockOffers x.mk_entryCount x.mk_blockCount x.cv_limits x.cv_bids x.cv_offers x.cv_count x.cv_allBids x.cv_allOffers x.cv_meetingPrice x.cv_sureBids x.cv_sureOffers x.cv_priceBids x.cv_priceOffers x.cv_volume x.cv_worth x.oc_prices x.oc_volumes x.oc_filled x.oc_worth x.oc_takenSet x.oc_isDone m.m_out a1 = some (1, x.mk_entries, x.mk_slots, x.mk_remainders, x.mk_blocks, x.mk_blockBids, x.mk_blockOffers, x.mk_entryCount, x.mk_blockCount, x.cv_limits, x.cv_bids, x.cv_offers, x.cv_count, x.cv_allBids, x.cv_allOffers, x.cv_meetingPrice, x.cv_sureBids, x.cv_sureOffers, x.cv_priceBids, x.cv_priceOffers, x.cv_volume, x.cv_worth, x.oc_prices, x.oc_volumes, x.oc_filled, x.oc_worth, x.oc_takenSet, x.oc_isDone, m.m_out) := by
      unfold f_law_clear f_x_clear
      rw [x_op, if_neg h1, Option.bind_some, if_pos rfl]
      rfl
    have hm' : f_m_clear m.m_thrown m.m_n m.m_many m.m_isBlock m.m_hours m.m_side m.m_quantity m.m_limit m.m_rounds m.m_vectors m.m_cleared m.m_prices m.m_trades m.m_fills m.m_welfares m.m_orderEntry m.m_orderFill m.m_orders m.m_blockEntry m.m_blockFill m.m_blocks m.m_price m.m_trade m.m_filled m.m_rest a1 = some (0, 1, m.m_cleared, m.m_prices, m.m_trades, m.m_fills, m.m_welfares, m.m_orderEntry, m.m_orderFill, m.m_orders, m.m_blockEntry, m.m_blockFill, m.m_blocks, m.m_price, m.m_trade, m.m_filled, m.m_rest) := by
      unfold f_m_clear f_m_clear_b17 f_m_clear_b36 f_m_clear_b37
      rw [m_op, if_neg h1, Option.bind_some, if_pos rfl, if_neg n10, m_thr, Option.bind_some, if_neg n10]
      rfl
    exact ⟨_, _, _, ⟨_, _, hx, hm', rfl, fun q => absurd q n10, rfl, rfl, rfl⟩, Inv_mk hn hc ⟨hs1, hs2, hs3⟩ hm hb hr ht hv ho, hD⟩
