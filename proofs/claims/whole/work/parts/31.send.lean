/-- what an entry needs of the collateral -/
def costN (s l : Int) : Int := if s = 0 then (if 0 < l then l else 0) else (if l < 0 then -l else 0)
def needN (s q l n : Int) : Int := q * costN s l * n
theorem costN_bd {s l : Int} (h : -5000 ≤ l ∧ l ≤ 40000) : 0 ≤ costN s l ∧ costN s l ≤ 40000 := by
  unfold costN
  repeat' split
  all_goals omega
theorem needN_bd {s q l n : Int} (h1 : 1 ≤ q ∧ q ≤ 1000) (h2 : -5000 ≤ l ∧ l ≤ 40000) (h3 : 1 ≤ n ∧ n ≤ 3) : 0 ≤ needN s q l n ∧ needN s q l n ≤ 120000000 := by
  have hc := costN_bd (s := s) h2
  unfold needN
  have e1 : 0 ≤ q * costN s l := Int.mul_nonneg (by omega) hc.1
  have e2 : q * costN s l ≤ 1000 * 40000 := Int.mul_le_mul h1.2 hc.2 hc.1 (by omega)
  refine ⟨Int.mul_nonneg e1 (by omega), ?_⟩
  have e3 : q * costN s l * n ≤ 1000 * 40000 * 3 := Int.mul_le_mul e2 h3.2 (by omega) (by omega)
  omega
theorem lnH_bd {w : Int} (h : okW w) : 1 ≤ lnH w ∧ lnH w ≤ 3 := by
  obtain ⟨h1, h2, h3, h4, h5⟩ := fsls h
  unfold lnH
  omega
theorem x_cost {s l : Int32} (hs : s.toInt = 0 ∨ s.toInt = 1) (hl : -5000 ≤ l.toInt ∧ l.toInt ≤ 40000) : f_bk_costOfOne s l = some (i3 (costN s.toInt l.toInt)) := by
  have e0 : s = 0 ↔ s.toInt = 0 := i3n s (z := 0) (by omega)
  have hn : (-l).toInt = -l.toInt := by rw [Int32.toInt_neg, Int.bmod_eq_of_le (by omega) (by omega)]
  have hl0 : (l ≤ 0) ↔ l.toInt ≤ 0 := Int32.le_iff_toInt_le
  have hn0 : (-l ≤ 0) ↔ (-l).toInt ≤ 0 := Int32.le_iff_toInt_le
  unfold f_bk_costOfOne f_bk_costOfOne_b10 costN
  by_cases h : s = 0
  · rw [if_pos h, if_pos (e0.mp h)]
    by_cases h2 : l ≤ 0
    · rw [if_pos h2, if_neg (by have := hl0.mp h2; omega)]
      rfl
    · rw [if_neg h2, if_pos (Int.not_le.mp (fun z => h2 (hl0.mpr z)))]
      exact congrArg some (i3_of l)
  · rw [if_neg h, if_neg (fun z => h (e0.mpr z))]
    by_cases h2 : -l ≤ 0
    · rw [if_pos h2, if_neg (by have := hn0.mp h2; omega)]
      rfl
    · rw [if_neg h2, if_pos (by have z := Int.not_le.mp (fun z => h2 (hn0.mpr z)); omega), ← hn]
      exact congrArg some (i3_of (-l))
theorem x_len {w : Int32} (h : okW w.toInt) : f_bk_lengthOf w = some (i3 (lnH w.toInt)) := by
  obtain ⟨h1, h2⟩ := x_fl h
  simp only [f_bk_lengthOf, h1, h2, Option.bind_some]
  rw [show (1 : Int32) = i3 1 from rfl, i3_sub, i3_add]
  rfl
/-- the amount, as the class computes it -/
theorem x_amt {s q l w : Int32} (hs : s.toInt = 0 ∨ s.toInt = 1) (hq : 1 ≤ q.toInt ∧ q.toInt ≤ 1000) (hl : -5000 ≤ l.toInt ∧ l.toInt ≤ 40000) (hw : okW w.toInt) :
    Int32.toInt64 q * Int32.toInt64 (i3 (costN s.toInt l.toInt)) * Int32.toInt64 (i3 (lnH w.toInt)) = i6 (needN s.toInt q.toInt l.toInt (lnH w.toInt)) := by
  have h1 := costN_bd (s := s.toInt) hl
  have h2 := lnH_bd hw
  rw [i3_long (by omega), i3_long (by omega), show Int32.toInt64 q = i6 q.toInt from (Int64.ofInt_int32ToInt q).symm, i6_mul, i6_mul]
  rfl
