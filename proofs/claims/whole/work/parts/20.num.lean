/-! The mathematics: numbers. An int is written as i3 of an integer, a long as i6. -/
abbrev i3 (z : Int) : Int32 := Int32.ofInt z
abbrev i6 (z : Int) : Int64 := Int64.ofInt z
theorem i3_toInt {z : Int} (h : -2147483648 ≤ z ∧ z < 2147483648) : (i3 z).toInt = z := Int32.toInt_ofInt_of_le (by omega) (by omega)
theorem i6_toInt {z : Int} (h : -9223372036854775808 ≤ z ∧ z < 9223372036854775808) : (i6 z).toInt = z := Int64.toInt_ofInt_of_le (by omega) (by omega)
theorem i3_of (x : Int32) : x = i3 x.toInt := (Int32.ofInt_toInt x).symm
theorem i6_of (x : Int64) : x = i6 x.toInt := (Int64.ofInt_toInt x).symm
theorem i3_le {a b : Int} (h : (-2147483648 ≤ a ∧ a < 2147483648) ∧ -2147483648 ≤ b ∧ b < 2147483648) : (i3 a ≤ i3 b) ↔ a ≤ b := by
  rw [Int32.le_iff_toInt_le, i3_toInt h.1, i3_toInt h.2]
theorem i3_lt {a b : Int} (h : (-2147483648 ≤ a ∧ a < 2147483648) ∧ -2147483648 ≤ b ∧ b < 2147483648) : (i3 a < i3 b) ↔ a < b := by
  rw [Int32.lt_iff_toInt_lt, i3_toInt h.1, i3_toInt h.2]
theorem i3_eq {a b : Int} (h : (-2147483648 ≤ a ∧ a < 2147483648) ∧ -2147483648 ≤ b ∧ b < 2147483648) : (i3 a = i3 b) ↔ a = b := by
  rw [← Int32.toInt_inj, i3_toInt h.1, i3_toInt h.2]
theorem i6_le {a b : Int} (h : (-9223372036854775808 ≤ a ∧ a < 9223372036854775808) ∧ -9223372036854775808 ≤ b ∧ b < 9223372036854775808) : (i6 a ≤ i6 b) ↔ a ≤ b := by
  rw [Int64.le_iff_toInt_le, i6_toInt h.1, i6_toInt h.2]
theorem i6_lt {a b : Int} (h : (-9223372036854775808 ≤ a ∧ a < 9223372036854775808) ∧ -9223372036854775808 ≤ b ∧ b < 9223372036854775808) : (i6 a < i6 b) ↔ a < b := by
  rw [Int64.lt_iff_toInt_lt, i6_toInt h.1, i6_toInt h.2]
theorem i6_eq {a b : Int} (h : (-9223372036854775808 ≤ a ∧ a < 9223372036854775808) ∧ -9223372036854775808 ≤ b ∧ b < 9223372036854775808) : (i6 a = i6 b) ↔ a = b := by
  rw [← Int64.toInt_inj, i6_toInt h.1, i6_toInt h.2]
theorem i3_add (a b : Int) : i3 a + i3 b = i3 (a + b) := (Int32.ofInt_add a b).symm
theorem i3_sub (a b : Int) : i3 a - i3 b = i3 (a - b) := (Int32.ofInt_sub a b).symm
theorem i3_mul (a b : Int) : i3 a * i3 b = i3 (a * b) := (Int32.ofInt_mul a b).symm
theorem i3_neg (a : Int) : -i3 a = i3 (-a) := (Int32.ofInt_neg a).symm
theorem i6_add (a b : Int) : i6 a + i6 b = i6 (a + b) := (Int64.ofInt_add a b).symm
theorem i6_sub (a b : Int) : i6 a - i6 b = i6 (a - b) := (Int64.ofInt_sub a b).symm
theorem i6_mul (a b : Int) : i6 a * i6 b = i6 (a * b) := (Int64.ofInt_mul a b).symm
theorem i6_neg (a : Int) : -i6 a = i6 (-a) := (Int64.ofInt_neg a).symm
theorem i3_long {a : Int} (h : -2147483648 ≤ a ∧ a < 2147483648) : Int32.toInt64 (i3 a) = i6 a := by
  rw [← Int64.ofInt_int32ToInt, i3_toInt h]
theorem i6_int (a : Int) : (i6 a).toInt32 = i3 a := Int64.toInt32_ofInt
theorem i3_cl {a : Int} (h : -2147483648 ≤ a ∧ a < 2147483648) : (i3 a).toNatClampNeg = a.toNat := by
  show (i3 a).toInt.toNat = a.toNat
  rw [i3_toInt h]
theorem i3_div {a b : Int} (h : (-2147483647 ≤ a ∧ a < 2147483648) ∧ -2147483648 ≤ b ∧ b < 2147483648) : i3 a / i3 b = i3 (a.tdiv b) := by
  apply Int32.toInt_inj.mp
  rw [Int32.toInt_div_of_ne_left, i3_toInt (by omega), i3_toInt h.2, Int32.toInt_ofInt]
  · rw [Int.bmod_eq_of_le]
    · have := Int.natAbs_tdiv_le_natAbs a b
      show -(Int32.size : Int) / 2 ≤ a.tdiv b
      rw [show ((Int32.size : Nat) : Int) = 4294967296 from rfl]
      omega
    · have := Int.natAbs_tdiv_le_natAbs a b
      show a.tdiv b < ((Int32.size : Int) + 1) / 2
      rw [show ((Int32.size : Nat) : Int) = 4294967296 from rfl]
      omega
  · intro q
    have := congrArg Int32.toInt q
    rw [i3_toInt (by omega), Int32.toInt_minValue] at this
    omega
theorem i6_div {a b : Int} (h : (-9223372036854775807 ≤ a ∧ a < 9223372036854775808) ∧ -9223372036854775808 ≤ b ∧ b < 9223372036854775808) : i6 a / i6 b = i6 (a.tdiv b) := by
  apply Int64.toInt_inj.mp
  rw [Int64.toInt_div_of_ne_left, i6_toInt (by omega), i6_toInt h.2, Int64.toInt_ofInt]
  · rw [Int.bmod_eq_of_le]
    · have := Int.natAbs_tdiv_le_natAbs a b
      show -(Int64.size : Int) / 2 ≤ a.tdiv b
      rw [show ((Int64.size : Nat) : Int) = 18446744073709551616 from rfl]
      omega
    · have := Int.natAbs_tdiv_le_natAbs a b
      show a.tdiv b < ((Int64.size : Int) + 1) / 2
      rw [show ((Int64.size : Nat) : Int) = 18446744073709551616 from rfl]
      omega
  · intro q
    have := congrArg Int64.toInt q
    rw [i6_toInt (by omega), Int64.toInt_minValue] at this
    omega
theorem lg_lt0 {x y : Int64} : lg_cmp x y < 0 ↔ x.toInt < y.toInt := by
  unfold lg_cmp
  simp only [gt_iff_lt, Int64.lt_iff_toInt_lt, ← Int64.toInt_inj]
  repeat' split
  all_goals (first | exact ⟨fun h => absurd h (by decide), fun h => by omega⟩ | exact ⟨fun h => by omega, fun h => by decide⟩)
theorem lg_gt0 {x y : Int64} : 0 < lg_cmp x y ↔ y.toInt < x.toInt := by
  unfold lg_cmp
  simp only [gt_iff_lt, Int64.lt_iff_toInt_lt, ← Int64.toInt_inj]
  repeat' split
  all_goals (first | exact ⟨fun h => absurd h (by decide), fun h => by omega⟩ | exact ⟨fun h => by omega, fun h => by decide⟩)
theorem lg_le0 {x y : Int64} : lg_cmp x y ≤ 0 ↔ x.toInt ≤ y.toInt := by
  rw [← Int.not_lt, ← lg_gt0]
  simp only [Int32.lt_iff_toInt_lt, Int32.le_iff_toInt_le]
  omega
theorem lg_ge0 {x y : Int64} : 0 ≤ lg_cmp x y ↔ y.toInt ≤ x.toInt := by
  rw [← Int.not_lt, ← lg_lt0]
  simp only [Int32.lt_iff_toInt_lt, Int32.le_iff_toInt_le]
  omega
theorem lg_eq0 {x y : Int64} : lg_cmp x y = 0 ↔ x = y := by
  unfold lg_cmp
  constructor
  · intro h
    split at h
    · exact absurd h (by decide)
    · split at h
      · assumption
      · exact absurd h (by decide)
  · intro h
    subst h
    simp [Int64.lt_irrefl]
/-- an index that passes its check -/
theorem ix_ok {x : Int32} {n : Nat} (h : 0 ≤ x.toInt ∧ x.toInt < n) : ¬ (x < 0 ∨ n ≤ x.toNatClampNeg) := by
  rintro (q | q)
  · rw [Int32.lt_iff_toInt_lt] at q
    exact absurd q (by show ¬ x.toInt < 0; omega)
  · have : x.toNatClampNeg = x.toInt.toNat := rfl
    omega
theorem ix_i3 {a : Int} {n : Nat} (h : 0 ≤ a ∧ a < n ∧ a < 2147483648) : ¬ (i3 a < 0 ∨ n ≤ (i3 a).toNatClampNeg) := ix_ok (by rw [i3_toInt (by omega)]; omega)
/-- a loop whose state is a function of its counter -/
theorem lp {β : Type} (L : Nat → Nat → Option β) (b : Nat) (r : Option β) (hstep : ∀ n a, a < b → L (n + 1) a = L n (a + 1)) (hend : ∀ n, L (n + 1) b = r) : ∀ n a, a ≤ b → b - a < n → L n a = r := by
  intro n
  induction n with
  | zero => intro a h1 h2; omega
  | succ n ih =>
    intro a h1 h2
    by_cases h : a = b
    · subst h; exact hend n
    · rw [hstep n a (by omega)]
      exact ih (a + 1) (by omega) (by omega)
/-- a loop with an invariant -/
theorem lpI {β σ : Type} (L : Nat → Nat → σ → Option β) (b : Nat) (I : Nat → σ → Prop) (P : Option β → Prop) (hstep : ∀ n a s, a < b → I a s → ∃ s', I (a + 1) s' ∧ L (n + 1) a s = L n (a + 1) s') (hend : ∀ n s, I b s → P (L (n + 1) b s)) : ∀ n a s, a ≤ b → b - a < n → I a s → P (L n a s) := by
  intro n
  induction n with
  | zero => intro a s h1 h2; omega
  | succ n ih =>
    intro a s h1 h2 hI
    by_cases h : a = b
    · subst h; exact hend n s hI
    · obtain ⟨s', h3, h4⟩ := hstep n a s (by omega) hI
      rw [h4]
      exact ih (a + 1) s' (by omega) (by omega) h3
/-- a loop that may leave early -/
theorem lpX {β σ : Type} (L : Nat → Nat → σ → Option β) (b : Nat) (I : Nat → σ → Prop) (P : Option β → Prop) (hstep : ∀ n a s, a < b → I a s → P (L (n + 1) a s) ∨ ∃ s', I (a + 1) s' ∧ L (n + 1) a s = L n (a + 1) s') (hend : ∀ n s, I b s → P (L (n + 1) b s)) : ∀ n a s, a ≤ b → b - a < n → I a s → P (L n a s) := by
  intro n
  induction n with
  | zero => intro a s h1 h2; omega
  | succ n ih =>
    intro a s h1 h2 hI
    by_cases h : a = b
    · subst h; exact hend n s hI
    · rcases hstep n a s (by omega) hI with h3 | ⟨s', h3, h4⟩
      · exact h3
      · rw [h4]
        exact ih (a + 1) s' (by omega) (by omega) h3
theorem nar0 : vp_nar .boolean 0 = 0 := by decide
theorem nar1 : vp_nar .boolean 1 = 1 := by decide
