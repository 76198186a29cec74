theorem bool1 : vp_nar .boolean 1 = 1 := nar1
/-- one operator's book is asked -/
theorem x_take {c w d q l : Nat → Int32} {e : Nat → Int64} {B most W s Q L : Int32} (hB : 0 ≤ B.toInt ∧ B.toInt < 24) (hc : 0 ≤ (c B.toNatClampNeg).toInt ∧ (c B.toNatClampNeg).toInt ≤ 10) (hs : s.toInt = 0 ∨ s.toInt = 1) (hQ : 1 ≤ Q.toInt ∧ Q.toInt ≤ 1000) (hL : -5000 ≤ L.toInt ∧ L.toInt ≤ 40000) (hW : okW W.toInt) :
    f_bk_take c e w d q l B most W s Q L = if 10 ≤ c B.toNatClampNeg then some (0, c, e, w, d, q, l) else if lg_cmp (e B.toNatClampNeg + i6 (needN s.toInt Q.toInt L.toInt (lnH W.toInt))) (Int32.toInt64 most) ≤ 0 then some (1, upd c B.toNatClampNeg (c B.toNatClampNeg + 1), vp_updL e B.toNatClampNeg (e B.toNatClampNeg + i6 (needN s.toInt Q.toInt L.toInt (lnH W.toInt))), upd w (10 * B.toNatClampNeg + (c B.toNatClampNeg).toInt.toNat) W, upd d (10 * B.toNatClampNeg + (c B.toNatClampNeg).toInt.toNat) s, upd q (10 * B.toNatClampNeg + (c B.toNatClampNeg).toInt.toNat) Q, upd l (10 * B.toNatClampNeg + (c B.toNatClampNeg).toInt.toNat) L) else some (0, c, e, w, d, q, l) := by
  have hBn : B.toNatClampNeg = B.toInt.toNat := rfl
  unfold f_bk_take
  rw [if_neg (ix_ok (by omega)), x_cost hs hL, Option.bind_some, x_len hW, Option.bind_some, x_amt hs hQ hL hW]
  by_cases h : 10 ≤ c B.toNatClampNeg
  · rw [if_pos h, if_pos h]
  · rw [if_neg h, if_neg h]
    have h' : ¬ 10 ≤ (c B.toNatClampNeg).toInt := fun z => h (Int32.le_iff_toInt_le.mpr z)
    have e1 : (10 * B + c B.toNatClampNeg).toInt = 10 * B.toInt + (c B.toNatClampNeg).toInt := by rw [show (10 : Int32) = i3 10 from rfl, lin (by omega)]
    have e2 : (10 * B + c B.toNatClampNeg).toNatClampNeg = 10 * B.toNatClampNeg + (c B.toNatClampNeg).toInt.toNat := by
      show (10 * B + c B.toNatClampNeg).toInt.toNat = _
      rw [e1]
      omega
    by_cases h2 : lg_cmp (e B.toNatClampNeg + i6 (needN s.toInt Q.toInt L.toInt (lnH W.toInt))) (Int32.toInt64 most) ≤ 0
    · rw [if_pos h2, if_pos h2, if_neg (ix_ok (by rw [e1]; omega)), e2]
    · rw [if_neg h2, if_neg h2]
theorem send_loop {n n' p op W bl h s Q L : Int32} {coll sl snt hst : Nat → Int32} (hn : iv_n n n') (hp : isMem n p) (hcol : ∀ k, 0 ≤ (coll k).toInt ∧ (coll k).toInt ≤ 1000000000) (hW : W = h + (if bl = 0 then 0 else 100)) (hbl : bl = 0 ∨ bl = 1) (hok : okW W.toInt) (hs : s.toInt = 0 ∨ s.toInt = 1) (hQ : 1 ≤ Q.toInt ∧ Q.toInt ≤ 1000) (hL : -5000 ≤ L.toInt ∧ L.toInt ≤ 40000) (hh : (bl = 0 ∧ 0 ≤ h.toInt ∧ h.toInt ≤ 2) ∨ (bl = 1 ∧ 0 ≤ h.toInt ∧ h.toInt ≤ 10)) :
    ∀ (r k : Nat), k + r = 4 → ∀ (f1 f2 : Nat), r < f1 → r < f2 → ∀ (c : Nat → Int32) (e : Nat → Int64) (w ib hs' d q l : Nat → Int32) (T : Int32), iv_b c c e e w ib hs' d d q q l l →
      ∃ (c2 : Nat → Int32) (e2 : Nat → Int64) (w2 ib2 hs2 d2 q2 l2 : Nat → Int32) (T2 : Int32), iv_b c2 c2 e2 e2 w2 ib2 hs2 d2 d2 q2 q2 l2 l2 ∧
        f_x_send_L74 n coll sl p op W s Q L f1 hst c e w d q l T (i3 k) = some (0, T2, hst, c2, e2, w2, d2, q2, l2) ∧
        f_m_send_L66 coll p op bl h s Q L f2 c e ib hs' d q l snt T (i6 (needN s.toInt Q.toInt L.toInt (lnH W.toInt))) (i3 k) = some (T2, c2, e2, ib2, hs2, d2, q2, l2, snt) := by
  have hp6 := mem6 hn hp
  obtain ⟨-, n1, n2⟩ := hn
  have hpn : p.toNatClampNeg = p.toInt.toNat := rfl
  have hNb := needN_bd (s := s.toInt) hQ hL (lnH_bd hok)
  have hblv : vp_nar .boolean bl = bl := by rcases hbl with z | z <;> (rw [z]; decide)
  intro r
  induction r with
  | zero =>
    intro k hk f1 f2 h1 h2 c e w ib hs' d q l T hb
    have hk4 : k = 4 := by omega
    subst hk4
    obtain ⟨f1, rfl⟩ : ∃ f, f1 = f + 1 := ⟨f1 - 1, by omega⟩
    obtain ⟨f2, rfl⟩ : ∃ f, f2 = f + 1 := ⟨f2 - 1, by omega⟩
    refine ⟨c, e, w, ib, hs', d, q, l, T, hb, ?_, ?_⟩
    · rw [f_x_send_L74, if_pos (by decide)]
    · rw [f_m_send_L66, if_pos (by decide)]
  | succ r ih =>
    intro k hk f1 f2 h1 h2 c e w ib hs' d q l T hb
    obtain ⟨f1, rfl⟩ : ∃ f, f1 = f + 1 := ⟨f1 - 1, by omega⟩
    obtain ⟨f2, rfl⟩ : ∃ f, f2 = f + 1 := ⟨f2 - 1, by omega⟩
    have hk3 : ¬ (4 : Int32) ≤ i3 k := by rw [Int32.le_iff_toInt_le, i3_toInt (by omega)]; show ¬ (4 : Int) ≤ k; omega
    rw [f_x_send_L74, if_neg hk3, f_m_send_L66, if_neg hk3]
    have hskip := ih (k + 1) (by omega) f1 f2 (by omega) (by omega)
    have hB := lj (c := 4) (a := p) (j := k) (by omega) (by omega)
    rw [show i3 4 = (4 : Int32) from rfl] at hB
    have hBn : (4 * p + i3 k).toInt.toNat = (4 * p + i3 k).toNatClampNeg := rfl
    have hcB := hb.2.2.2.1 (4 * p + i3 k).toNatClampNeg
    have htake := x_take (c := c) (e := e) (w := w) (d := d) (q := q) (l := l) (B := 4 * p + i3 k) (most := coll p.toNatClampNeg) (by rw [hB.1]; omega) hcB hs hQ hL hok
    have hi24 : ¬ (4 * p + i3 k < 0 ∨ 24 ≤ (4 * p + i3 k).toNatClampNeg) := ix_ok (by rw [hB.1]; omega)
    have hdo : ∃ (c2 : Nat → Int32) (e2 : Nat → Int64) (w2 ib2 hs2 d2 q2 l2 : Nat → Int32) (T2 : Int32), iv_b c2 c2 e2 e2 w2 ib2 hs2 d2 d2 q2 q2 l2 l2 ∧
        f_x_send_b91 n coll sl p op W s Q L (f_x_send_L74 n coll sl p op W s Q L f1) hst c e w d q l T (i3 k) = some (0, T2, hst, c2, e2, w2, d2, q2, l2) ∧
        f_m_send_b91 coll p op bl h s Q L (f_m_send_L66 coll p op bl h s Q L f2) c e ib hs' d q l snt T (i6 (needN s.toInt Q.toInt L.toInt (lnH W.toInt))) (i3 k) (4 * p + i3 k) = some (T2, c2, e2, ib2, hs2, d2, q2, l2, snt) := by
      unfold f_x_send_b91 f_x_send_b96 f_m_send_b91
      rw [if_neg n10, if_neg hp6, htake, if_neg hi24, i3s]
      by_cases y1 : 10 ≤ c (4 * p + i3 k).toNatClampNeg
      · rw [if_pos y1, if_pos y1, Option.bind_some, if_pos rfl]
        exact hskip c e w ib hs' d q l T hb
      · rw [if_neg y1, if_neg y1, if_neg hp6]
        have y1' : ¬ 10 ≤ (c (4 * p + i3 k).toNatClampNeg).toInt := fun z => y1 (Int32.le_iff_toInt_le.mpr z)
        by_cases y2 : lg_cmp (e (4 * p + i3 k).toNatClampNeg + i6 (needN s.toInt Q.toInt L.toInt (lnH W.toInt))) (Int32.toInt64 (coll p.toNatClampNeg)) ≤ 0
        · have y3 : ¬ 0 < lg_cmp (e (4 * p + i3 k).toNatClampNeg + i6 (needN s.toInt Q.toInt L.toInt (lnH W.toInt))) (Int32.toInt64 (coll p.toNatClampNeg)) := by
            rw [lg_gt0]
            have := lg_le0.mp y2
            omega
          have e1 : (10 * (4 * p + i3 k) + c (4 * p + i3 k).toNatClampNeg).toInt = 10 * (4 * p + i3 k).toInt + (c (4 * p + i3 k).toNatClampNeg).toInt := by rw [show (10 : Int32) = i3 10 from rfl, lin (by rw [hB.1]; omega)]
          have e2 : (10 * (4 * p + i3 k) + c (4 * p + i3 k).toNatClampNeg).toNatClampNeg = 10 * (4 * p + i3 k).toNatClampNeg + (c (4 * p + i3 k).toNatClampNeg).toInt.toNat := by
            show (10 * (4 * p + i3 k) + c (4 * p + i3 k).toNatClampNeg).toInt.toNat = _
            rw [e1]
            have t1 := hB.1
            have t2 := hB.2
            omega
          rw [if_pos y2, if_neg y3, Option.bind_some, if_neg (show ¬ (1 : Int32) = 0 from n10), if_neg (ix_ok (by rw [e1, hB.1]; omega)), e2, hblv]
          refine hskip _ _ _ _ _ _ _ _ _ (iv_b_add hb (by rw [hB.2]; omega) (by omega) hW hbl hok hs hQ hL hh ?_)
          have hen := hb.2.2.2.2.2.1 (4 * p + i3 k).toNatClampNeg
          have hle := lg_le0.mp y2
          have hcl := hcol p.toNatClampNeg
          rw [Int32.toInt_toInt64] at hle
          have hsum : (e (4 * p + i3 k).toNatClampNeg + i6 (needN s.toInt Q.toInt L.toInt (lnH W.toInt))).toInt = (e (4 * p + i3 k).toNatClampNeg).toInt + needN s.toInt Q.toInt L.toInt (lnH W.toInt) := by
            rw [Int64.toInt_add, i6_toInt (by omega), Int.bmod_eq_of_le (by omega) (by omega)]
          rw [hsum] at hle ⊢
          omega
        · have y3 : 0 < lg_cmp (e (4 * p + i3 k).toNatClampNeg + i6 (needN s.toInt Q.toInt L.toInt (lnH W.toInt))) (Int32.toInt64 (coll p.toNatClampNeg)) := by
            rw [lg_gt0]
            have : ¬ (e (4 * p + i3 k).toNatClampNeg + i6 (needN s.toInt Q.toInt L.toInt (lnH W.toInt))).toInt ≤ (Int32.toInt64 (coll p.toNatClampNeg)).toInt := fun z => y2 (lg_le0.mpr z)
            omega
          rw [if_neg y2, if_pos y3, Option.bind_some, if_pos rfl]
          exact hskip c e w ib hs' d q l T hb
    by_cases z1 : op = -1
    · rw [if_pos z1, if_pos z1]
      exact hdo
    · rw [if_neg z1, if_neg z1]
      by_cases z2 : op = i3 k
      · rw [if_pos z2, if_pos z2]
        exact hdo
      · rw [if_neg z2, if_neg z2]
        unfold f_x_send_b96
        rw [if_pos rfl, i3s]
        exact hskip c e w ib hs' d q l T hb
