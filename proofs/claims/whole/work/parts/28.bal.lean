/-- what is sold less what is bought by the first i entries of a book in an hour -/
def tmN (w d fl : Nat → Int32) (A P : Nat) (h : Int32) (i : Nat) : Int64 := if fsH (w (A + i)).toInt ≤ h.toInt ∧ h.toInt ≤ lsH (w (A + i)).toInt then (if d (A + i) = 1 then Int32.toInt64 (fl (P + i)) else Int32.toInt64 (-(fl (P + i)))) else 0
def ntN (w d fl : Nat → Int32) (A P : Nat) (h : Int32) : Nat → Int64
  | 0 => 0
  | i + 1 => ntN w d fl A P h i + tmN w d fl A P h i
theorem lj {c : Int} {a : Int32} {j : Nat} (h0 : 0 ≤ c * a.toInt) (h : c * a.toInt + j < 2147483648) : (i3 c * a + i3 j).toInt = c * a.toInt + j ∧ (i3 c * a + i3 j).toNatClampNeg = (c * a.toInt).toNat + j := by
  have e : (i3 c * a + i3 j).toInt = c * a.toInt + j := by rw [lin (by rw [i3_toInt (by omega)]; omega), i3_toInt (by omega)]
  refine ⟨e, ?_⟩
  show (i3 c * a + i3 j).toInt.toNat = _
  rw [e]
  omega
theorem i3s (j : Nat) : i3 (j : Int) + 1 = i3 ((j + 1 : Nat) : Int) := by
  rw [show (1 : Int32) = i3 1 from rfl, i3_add]
  rfl
theorem x_net {c w d fl : Nat → Int32} {a p h : Int32} (ha : 0 ≤ a.toInt ∧ a.toInt ≤ 24) (hc : 0 ≤ (c a.toNatClampNeg).toInt ∧ (c a.toNatClampNeg).toInt ≤ 10) (hp : 0 ≤ p.toInt ∧ p.toInt < 6) (h24 : (c a.toNatClampNeg).toInt ≠ 0 → a.toInt < 24) (hw : ∀ i : Nat, i < (c a.toNatClampNeg).toInt.toNat → okW (w (10 * a.toNatClampNeg + i)).toInt) :
    f_x_soldLessBought c w d fl a p h = some (ntN w d fl (10 * a.toNatClampNeg) (10 * p.toNatClampNeg) h (c a.toNatClampNeg).toInt.toNat) := by
  have h25 : ¬ (a < 0 ∨ 25 ≤ a.toNatClampNeg) := ix_ok (by omega)
  have hA : a.toNatClampNeg = a.toInt.toNat := rfl
  have hP : p.toNatClampNeg = p.toInt.toNat := rfl
  unfold f_x_soldLessBought
  refine lp (fun k j => f_x_soldLessBought_L6 c w d fl a p h k (ntN w d fl (10 * a.toNatClampNeg) (10 * p.toNatClampNeg) h j) (i3 j)) (c a.toNatClampNeg).toInt.toNat _ (fun k j hj => ?_) (fun k => ?_) 1000 0 (by omega) (by omega)
  · show f_x_soldLessBought_L6 c w d fl a p h (k + 1) (ntN w d fl (10 * a.toNatClampNeg) (10 * p.toNatClampNeg) h j) (i3 j) = f_x_soldLessBought_L6 c w d fl a p h k (ntN w d fl (10 * a.toNatClampNeg) (10 * p.toNatClampNeg) h j + tmN w d fl (10 * a.toNatClampNeg) (10 * p.toNatClampNeg) h j) (i3 ((j + 1 : Nat) : Int))
    have hne := h24 (by omega)
    have e1 := lj (c := 10) (a := a) (j := j) (by omega) (by omega)
    have e2 := lj (c := 10) (a := p) (j := j) (by omega) (by omega)
    rw [show i3 10 = (10 : Int32) from rfl] at e1 e2
    have c1 : (10 * a + i3 j).toNatClampNeg = 10 * a.toNatClampNeg + j := by rw [e1.2]; omega
    have c2 : (10 * p + i3 j).toNatClampNeg = 10 * p.toNatClampNeg + j := by rw [e2.2]; omega
    have i1 : ¬ (10 * a + i3 j < 0 ∨ 240 ≤ (10 * a + i3 j).toNatClampNeg) := ix_ok (by rw [e1.1]; omega)
    have i2 : ¬ (10 * p + i3 j < 0 ∨ 60 ≤ (10 * p + i3 j).toNatClampNeg) := ix_ok (by rw [e2.1]; omega)
    have hcv := x_cov (ws := w) (h := h) i1 (by rw [c1]; exact hw j hj)
    rw [f_x_soldLessBought_L6, if_neg h25, if_neg (by rw [Int32.le_iff_toInt_le, i3_toInt (by omega)]; omega), hcv, Option.bind_some, i3s, c1, c2]
    unfold tmN
    by_cases q : fsH (w (10 * a.toNatClampNeg + j)).toInt ≤ h.toInt ∧ h.toInt ≤ lsH (w (10 * a.toNatClampNeg + j)).toInt
    · rw [if_pos q, if_pos q, if_neg n10, if_neg (by rw [c2] at i2; exact i2), if_neg (by rw [c1] at i1; exact i1)]
      by_cases q2 : d (10 * a.toNatClampNeg + j) = 1
      · rw [if_pos q2, if_pos q2]
      · rw [if_neg q2, if_neg q2]
    · rw [if_neg q, if_neg q, if_pos rfl, Int64.add_zero]
  · show f_x_soldLessBought_L6 c w d fl a p h (k + 1) _ (i3 ((c a.toNatClampNeg).toInt.toNat : Nat)) = _
    rw [f_x_soldLessBought_L6, if_neg h25, if_pos (by rw [Int32.le_iff_toInt_le, i3_toInt (by omega)]; omega)]
