/-- what is sold less what is bought by the first i entries of a book in an hour -/
def tmN (w d fl : Nat → Int32) (A P : Nat) (h : Int32) (i : Nat) : Int64 := if fsH (w (A + i)).toInt ≤ h.toInt ∧ h.toInt ≤ lsH (w (A + i)).toInt then (if d (A + i) = 1 then Int32.toInt64 (fl (P + i)) else Int32.toInt64 (-(fl (P + i)))) else 0
def ntN (w d fl : Nat → Int32) (A P : Nat) (h : Int32) : Nat → Int64
  | 0 => 0
  | i + 1 => ntN w d fl A P h i + tmN w d fl A P h i
theorem lj {c : Int} {a : Int32} {j : Nat} (h0 : 0 ≤ c * a.toInt) (h : c * a.toInt + j < 2147483648) : (i3 c * a + i3 j).toInt = c * a.toInt + j ∧ (i3 c * a + i3 j).toNatClampNeg = (c * a.toInt).toNat + j := by
  have e : (i3 c * a + i3 j).toInt = c * a.toInt + j := by rw [lin (by rw [i3_toInt (by omega)]; omega), i3_toInt (by omega)]
  refine ⟨e, ?_⟩
  show (i3 c * a + i3 j).toInt.toNat = _
  rw [e]
  omega
theorem i3s (j : Nat) : i3 (j : Int) + 1 = i3 ((j + 1 : Nat) : Int) := by
  rw [show (1 : Int32) = i3 1 from rfl, i3_add]
  rfl
theorem x_net {c w d fl : Nat → Int32} {a p h : Int32} (ha : 0 ≤ a.toInt ∧ a.toInt ≤ 24) (hc : 0 ≤ (c a.toNatClampNeg).toInt ∧ (c a.toNatClampNeg).toInt ≤ 10) (hp : 0 ≤ p.toInt ∧ p.toInt < 6) (h24 : (c a.toNatClampNeg).toInt ≠ 0 → a.toInt < 24) (hw : ∀ i : Nat, i < (c a.toNatClampNeg).toInt.toNat → okW (w (10 * a.toNatClampNeg + i)).toInt) :
    f_x_soldLessBought c w d fl a p h = some (ntN w d fl (10 * a.toNatClampNeg) (10 * p.toNatClampNeg) h (c a.toNatClampNeg).toInt.toNat) := by
  have h25 : ¬ (a < 0 ∨ 25 ≤ a.toNatClampNeg) := ix_ok (by omega)
  have hA : a.toNatClampNeg = a.toInt.toNat := rfl
  have hP : p.toNatClampNeg = p.toInt.toNat := rfl
  unfold f_x_soldLessBought
  refine lp (fun k j => f_x_soldLessBought_L6 c w d fl a p h k (ntN w d fl (10 * a.toNatClampNeg) (10 * p.toNatClampNeg) h j) (i3 j)) (c a.toNatClampNeg).toInt.toNat _ (fun k j hj => ?_) (fun k => ?_) 1000 0 (by omega) (by omega)
  · show f_x_soldLessBought_L6 c w d fl a p h (k + 1) (ntN w d fl (10 * a.toNatClampNeg) (10 * p.toNatClampNeg) h j) (i3 j) = f_x_soldLessBought_L6 c w d fl a p h k (ntN w d fl (10 * a.toNatClampNeg) (10 * p.toNatClampNeg) h j + tmN w d fl (10 * a.toNatClampNeg) (10 * p.toNatClampNeg) h j) (i3 ((j + 1 : Nat) : Int))
    have hne := h24 (by omega)
    have e1 := lj (c := 10) (a := a) (j := j) (by omega) (by omega)
    have e2 := lj (c := 10) (a := p) (j := j) (by omega) (by omega)
    rw [show i3 10 = (10 : Int32) from rfl] at e1 e2
    have c1 : (10 * a + i3 j).toNatClampNeg = 10 * a.toNatClampNeg + j := by rw [e1.2]; omega
    have c2 : (10 * p + i3 j).toNatClampNeg = 10 * p.toNatClampNeg + j := by rw [e2.2]; omega
    have i1 : ¬ (10 * a + i3 j < 0 ∨ 240 ≤ (10 * a + i3 j).toNatClampNeg) := ix_ok (by rw [e1.1]; omega)
    have i2 : ¬ (10 * p + i3 j < 0 ∨ 60 ≤ (10 * p + i3 j).toNatClampNeg) := ix_ok (by rw [e2.1]; omega)
    have hcv := x_cov (ws := w) (h := h) i1 (by rw [c1]; exact hw j hj)
    rw [f_x_soldLessBought_L6, if_neg h25, if_neg (by rw [Int32.le_iff_toInt_le, i3_toInt (by omega)]; omega), hcv, Option.bind_some, i3s, c1, c2]
    unfold tmN
    by_cases q : fsH (w (10 * a.toNatClampNeg + j)).toInt ≤ h.toInt ∧ h.toInt ≤ lsH (w (10 * a.toNatClampNeg + j)).toInt
    · rw [if_pos q, if_pos q, if_neg n10, if_neg (by rw [c2] at i2; exact i2), if_neg (by rw [c1] at i1; exact i1)]
      by_cases q2 : d (10 * a.toNatClampNeg + j) = 1
      · rw [if_pos q2, if_pos q2]
      · rw [if_neg q2, if_neg q2]
    · rw [if_neg q, if_neg q, if_pos rfl, Int64.add_zero]
  · show f_x_soldLessBought_L6 c w d fl a p h (k + 1) _ (i3 ((c a.toNatClampNeg).toInt.toNat : Nat)) = _
    rw [f_x_soldLessBought_L6, if_neg h25, if_pos (by rw [Int32.le_iff_toInt_le, i3_toInt (by omega)]; omega)]
theorem m_net {n n' : Int32} {c c' : Nat → Int32} {e e' : Nat → Int64} {w ib hs d d' q q' l l' v v' fl mf : Nat → Int32} {o p h : Int32} (hn : iv_n n n') (hb : iv_b c c' e e' w ib hs d d' q q' l l') (ho : isOp o) (hp : isMem n p) (hh : isHr h) (hq : bkq c w d q l (v (6 * o + p).toNatClampNeg) (v' (6 * o + p).toNatClampNeg))
    (hf : ∀ i : Nat, i < (c (v (6 * o + p).toNatClampNeg).toNatClampNeg).toInt.toNat → mf (60 * o.toNatClampNeg + (10 * p.toNatClampNeg + i)) = fl (10 * p.toNatClampNeg + i)) :
    f_m_net c' ib hs d' v' mf o p h = some (ntN w d fl (10 * (v (6 * o + p).toNatClampNeg).toNatClampNeg) (10 * p.toNatClampNeg) h (c (v (6 * o + p).toNatClampNeg).toNatClampNeg).toInt.toNat) := by
  have hc := hb.2.2.2.1 (v (6 * o + p).toNatClampNeg).toNatClampNeg
  have hn2 := hn
  obtain ⟨-, n1, n2⟩ := hn2
  unfold f_m_net
  rw [if_neg (ix24 hn ho hp)]
  generalize hA : v (6 * o + p).toNatClampNeg = A at *
  generalize hB : v' (6 * o + p).toNatClampNeg = B at *
  have hsz := m_size hb.1.1 hq
  have hO : o.toNatClampNeg = o.toInt.toNat := rfl
  have hP : p.toNatClampNeg = p.toInt.toNat := rfl
  refine lp (fun k j => f_m_net_L19 c' ib hs d' v' mf o p h k B (ntN w d fl (10 * A.toNatClampNeg) (10 * p.toNatClampNeg) h j) (i3 j)) (c A.toNatClampNeg).toInt.toNat _ (fun k j hj => ?_) (fun k => ?_) 1000 0 (by omega) (by omega)
  · show f_m_net_L19 c' ib hs d' v' mf o p h (k + 1) B (ntN w d fl (10 * A.toNatClampNeg) (10 * p.toNatClampNeg) h j) (i3 j) = f_m_net_L19 c' ib hs d' v' mf o p h k B (ntN w d fl (10 * A.toNatClampNeg) (10 * p.toNatClampNeg) h j + tmN w d fl (10 * A.toNatClampNeg) (10 * p.toNatClampNeg) h j) (i3 ((j + 1 : Nat) : Int))
    have hj3 : (i3 (j : Int)).toInt = j := i3_toInt (by omega)
    obtain ⟨⟨u0, u1, u2⟩, c1, c2, i1, i2, f1, f2, f3, f4⟩ := bk_use (i := i3 j) hb hq (by omega) (by omega)
    have hjc : (i3 (j : Int)).toNatClampNeg = j := by show (i3 (j : Int)).toInt.toNat = j; rw [hj3]; exact Int.toNat_natCast j
    rw [hjc] at c1 c2
    have he60 : 60 * o + 10 * p + i3 j = i3 (60 * o.toInt + 10 * p.toInt + j) := by
      rw [← i3_add, ← i3_add, ← i3_mul, ← i3_mul, ← i3_of, ← i3_of]
      rfl
    have c3 : (60 * o + 10 * p + i3 j).toNatClampNeg = 60 * o.toNatClampNeg + (10 * p.toNatClampNeg + j) := by
      rw [he60, i3_cl (by omega)]
      omega
    have i3' : ¬ (60 * o + 10 * p + i3 j < 0 ∨ 240 ≤ (60 * o + 10 * p + i3 j).toNatClampNeg) := by
      rw [he60]
      exact ix_i3 (by omega)
    have hB24 : B.toNatClampNeg < 24 := by have := hq.2.1; show B.toInt.toNat < 24; omega
    have hcc : (c A.toInt.toNat) = (if B.toInt < 0 then 0 else c B.toInt.toNat) := hq.2.2.1
    rw [if_neg (by omega)] at hcc
    have hent := ent_ok hb (b := B.toNatClampNeg) (i := j) hB24 (by show j < (c B.toInt.toNat).toInt.toNat; rw [← hcc]; exact hj)
    obtain ⟨g1, g2, g3, g4, g5, g6⟩ := hent
    rw [← c2] at g1 g2 g5 g6
    have hwB : w (10 * A + i3 j).toNatClampNeg = w (10 * B + i3 j).toNatClampNeg := by rw [f1, hb.2.1]
    rw [f_m_net_L19, hsz, Option.bind_some, if_neg (by rw [Int32.le_iff_toInt_le, hj3]; omega), if_neg i2]
    -- the summand
    have hT : ∀ (s0 : Int32), (s0 = 0 ↔ ¬ (fsH (w (10 * A + i3 j).toNatClampNeg).toInt ≤ h.toInt ∧ h.toInt ≤ lsH (w (10 * A + i3 j).toNatClampNeg).toInt)) →
        f_m_net_b80 c' ib hs d' v' mf o p h (f_m_net_L19 c' ib hs d' v' mf o p h k) B (ntN w d fl (10 * A.toNatClampNeg) (10 * p.toNatClampNeg) h j) (i3 j) (10 * B + i3 j) s0 = f_m_net_L19 c' ib hs d' v' mf o p h k B (ntN w d fl (10 * A.toNatClampNeg) (10 * p.toNatClampNeg) h j + tmN w d fl (10 * A.toNatClampNeg) (10 * p.toNatClampNeg) h j) (i3 ((j + 1 : Nat) : Int)) := by
      intro s0 hs0
      unfold f_m_net_b80 tmN
      rw [if_neg i3', i3s, ← c1, ← f2, c3, hf j hj]
      by_cases z : s0 = 0
      · rw [if_pos z, if_neg (hs0.mp z)]
      · rw [if_neg z, if_neg i2]
        have z2 : fsH (w (10 * A + i3 j).toNatClampNeg).toInt ≤ h.toInt ∧ h.toInt ≤ lsH (w (10 * A + i3 j).toNatClampNeg).toInt := by
          by_cases zz : fsH (w (10 * A + i3 j).toNatClampNeg).toInt ≤ h.toInt ∧ h.toInt ≤ lsH (w (10 * A + i3 j).toNatClampNeg).toInt
          · exact zz
          · exact absurd (hs0.mpr zz) z
        rw [if_pos z2]
        by_cases z3 : d (10 * A + i3 j).toNatClampNeg = 1
        · rw [if_pos z3, if_pos z3]
        · rw [if_neg z3, if_neg z3]
    rcases g5 with ⟨z1, z2, z3⟩ | ⟨z1, z2, z3⟩
    · rw [if_pos z1]
      have hfl : fsH (w (10 * B + i3 j).toNatClampNeg).toInt = (hs (10 * B + i3 j).toNatClampNeg).toInt ∧ lsH (w (10 * B + i3 j).toNatClampNeg).toInt = (hs (10 * B + i3 j).toNatClampNeg).toInt := by
        unfold fsH lsH
        rw [if_pos z3, if_pos z3]
        exact ⟨z2, z2⟩
      by_cases z4 : hs (10 * B + i3 j).toNatClampNeg = h
      · rw [if_pos z4]
        refine hT 1 ⟨fun y => absurd y n10, fun y => absurd ?_ y⟩
        rw [hwB, hfl.1, hfl.2, z4]
        omega
      · rw [if_neg z4]
        refine hT 0 ⟨fun _ y => z4 ?_, fun _ => rfl⟩
        rw [hwB, hfl.1, hfl.2] at y
        exact Int32.toInt_inj.mp (by omega)
    · rw [if_neg (by rw [z1]; decide), m_cov g6 (by rw [← z2]; exact g1), Option.bind_some]
      refine hT _ ?_
      rw [hwB, z2]
      split
      · rename_i y
        exact ⟨fun y2 => absurd y2 n10, fun y2 => absurd y y2⟩
      · rename_i y
        exact ⟨fun _ => y, fun _ => rfl⟩
  · show f_m_net_L19 c' ib hs d' v' mf o p h (k + 1) B _ (i3 ((c A.toNatClampNeg).toInt.toNat : Nat)) = _
    rw [f_m_net_L19, hsz, Option.bind_some, if_pos (by rw [Int32.le_iff_toInt_le, i3_toInt (by omega)]; omega)]
