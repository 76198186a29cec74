def okW (w : Int) : Prop := w = 0 ∨ w = 1 ∨ w = 2 ∨ w = 100 ∨ w = 101 ∨ w = 102 ∨ w = 105 ∨ w = 106 ∨ w = 110
theorem x_fl {w : Int32} (h : okW w.toInt) : f_bk_firstHour w = some (i3 (fsH w.toInt)) ∧ f_bk_lastHour w = some (i3 (lsH w.toInt)) := by
  have key : ∀ v : Int, (-2147483648 ≤ v ∧ v < 2147483648) → w.toInt = v → w = i3 v := fun v hv q => (i3n w hv).mpr q
  rcases h with q | q | q | q | q | q | q | q | q
  all_goals (have z := key _ (by omega) q; subst z; constructor <;> decide +kernel)
theorem fsls {w : Int} (h : okW w) : 0 ≤ fsH w ∧ fsH w ≤ 2 ∧ 0 ≤ lsH w ∧ lsH w ≤ 2 ∧ fsH w ≤ lsH w := by
  rcases h with q | q | q | q | q | q | q | q | q
  all_goals (subst q; decide +kernel)
theorem x_cov {ws : Nat → Int32} {e h : Int32} (hix : ¬ (e < 0 ∨ 240 ≤ e.toNatClampNeg)) (hw : okW (ws e.toNatClampNeg).toInt) : f_bk_covers ws e h = some (if fsH (ws e.toNatClampNeg).toInt ≤ h.toInt ∧ h.toInt ≤ lsH (ws e.toNatClampNeg).toInt then 1 else 0) := by
  obtain ⟨h1, h2⟩ := x_fl hw
  obtain ⟨f1, f2, f3, f4, f5⟩ := fsls hw
  unfold f_bk_covers
  rw [if_neg hix, h1, h2]
  simp only [Option.bind_some, Int32.lt_iff_toInt_lt]
  rw [i3_toInt (by omega), i3_toInt (by omega)]
  repeat' split
  all_goals first | rfl | (exfalso; omega)
theorem m_cov {hs h : Int32} (h0 : 0 ≤ hs.toInt) (hw : okW (hs.toInt + 100)) : f_m_covers hs h = some (if fsH (hs.toInt + 100) ≤ h.toInt ∧ h.toInt ≤ lsH (hs.toInt + 100) then 1 else 0) := by
  have hd : ∀ a b : Int, (-2147483648 ≤ a ∧ a < 2147483648) → (-2147483648 ≤ b ∧ b < 2147483648) → hs / 4 = i3 a → hs - hs / 4 * 4 = i3 b → fsH (hs.toInt + 100) = a → lsH (hs.toInt + 100) = b → f_m_covers hs h = some (if fsH (hs.toInt + 100) ≤ h.toInt ∧ h.toInt ≤ lsH (hs.toInt + 100) then 1 else 0) := by
    intro a b ha hb e1 e2 e3 e4
    rw [e3, e4]
    unfold f_m_covers
    rw [e2, e1]
    simp only [Int32.lt_iff_toInt_lt, i3_toInt ha, i3_toInt hb]
    repeat' split
    all_goals first | rfl | (exfalso; omega)
  have key : ∀ v : Int, (-2147483648 ≤ v ∧ v < 2147483648) → hs.toInt = v → hs = i3 v := fun v hv q => (i3n hs hv).mpr q
  have h6 : hs.toInt = 0 ∨ hs.toInt = 1 ∨ hs.toInt = 2 ∨ hs.toInt = 5 ∨ hs.toInt = 6 ∨ hs.toInt = 10 := by unfold okW at hw; omega
  rcases h6 with q | q | q | q | q | q
  · have z := key _ (by omega) q
    exact hd 0 0 (by decide) (by decide) (by rw [z]; decide) (by rw [z]; decide) (by rw [q]; decide) (by rw [q]; decide)
  · have z := key _ (by omega) q
    exact hd 0 1 (by decide) (by decide) (by rw [z]; decide) (by rw [z]; decide) (by rw [q]; decide) (by rw [q]; decide)
  · have z := key _ (by omega) q
    exact hd 0 2 (by decide) (by decide) (by rw [z]; decide) (by rw [z]; decide) (by rw [q]; decide) (by rw [q]; decide)
  · have z := key _ (by omega) q
    exact hd 1 1 (by decide) (by decide) (by rw [z]; decide) (by rw [z]; decide) (by rw [q]; decide) (by rw [q]; decide)
  · have z := key _ (by omega) q
    exact hd 1 2 (by decide) (by decide) (by rw [z]; decide) (by rw [z]; decide) (by rw [q]; decide) (by rw [q]; decide)
  · have z := key _ (by omega) q
    exact hd 2 2 (by decide) (by decide) (by rw [z]; decide) (by rw [z]; decide) (by rw [q]; decide) (by rw [q]; decide)
/-- an entry that stands in a book -/
theorem ent_ok {c c' : Nat → Int32} {e e' : Nat → Int64} {w ib hs d d' q q' l l' : Nat → Int32} (hb : iv_b c c' e e' w ib hs d d' q q' l l') {b i : Nat} (h1 : b < 24) (h2 : i < (c b).toInt.toNat) :
    okW (w (10 * b + i)).toInt ∧ ((d (10 * b + i)).toInt = 0 ∨ (d (10 * b + i)).toInt = 1) ∧ (1 ≤ (q (10 * b + i)).toInt ∧ (q (10 * b + i)).toInt ≤ 1000) ∧ (-5000 ≤ (l (10 * b + i)).toInt ∧ (l (10 * b + i)).toInt ≤ 40000) ∧
    ((ib (10 * b + i) = 0 ∧ (w (10 * b + i)).toInt = (hs (10 * b + i)).toInt ∧ (w (10 * b + i)).toInt < 100) ∨ (ib (10 * b + i) = 1 ∧ (w (10 * b + i)).toInt = (hs (10 * b + i)).toInt + 100 ∧ 100 ≤ (w (10 * b + i)).toInt)) ∧ 0 ≤ (hs (10 * b + i)).toInt := by
  obtain ⟨-, hw, -, -, -, -, hv⟩ := hb
  obtain ⟨⟨g1, g2, g3, g4⟩, g5⟩ := hv b i h1 h2
  have g4 : okW (w (10 * b + i)).toInt := g4
  refine ⟨g4, g1, g2, g3, ?_, ?_⟩
  · rcases g5 with ⟨z1, z2, z3⟩ | ⟨z1, z2, z3⟩
    · refine Or.inl ⟨z1, ?_⟩
      have e0 : w (10 * b + i) = hs (10 * b + i) := by
        rw [hw]
        show hs (10 * b + i) + (if ib (10 * b + i) = 0 then 0 else 100) = _
        rw [if_pos z1]
        exact Int32.add_zero _
      rw [e0]
      omega
    · refine Or.inr ⟨z1, ?_⟩
      have e0 : (w (10 * b + i)).toInt = (hs (10 * b + i)).toInt + 100 := by
        rw [hw]
        show (hs (10 * b + i) + (if ib (10 * b + i) = 0 then 0 else 100)).toInt = _
        rw [if_neg (by rw [z1]; decide), Int32.toInt_add, show (100 : Int32).toInt = 100 from rfl, Int.bmod_eq_of_le (by omega) (by omega)]
      omega
  · rcases g5 with ⟨z1, z2, z3⟩ | ⟨z1, z2, z3⟩ <;> exact z2
