/-! Where a curve meets, and what is measured there. -/
def exN (net : Int) (bid off : Nat → Int32) (m k : Nat) : Int := net + smN (fun i => if k ≤ i then (bid i).toInt else 0) m - smN (fun i => if i < k then (off i).toInt else 0) m
theorem exN_step {net : Int} {bid off : Nat → Int32} {m k : Nat} (h : k < m) : exN net bid off m k = exN net bid off m (k + 1) + ((bid k).toInt + (off k).toInt) := by
  unfold exN
  have h1 := smN_one (f := fun i => (bid i).toInt) (k := k) m
  have h2 := smN_one (f := fun i => (off i).toInt) (k := k) m
  rw [if_pos h] at h1 h2
  have e1 : smN (fun i => if k ≤ i then (bid i).toInt else 0) m = smN (fun i => if k + 1 ≤ i then (bid i).toInt else 0) m + smN (fun i => if i = k then (bid i).toInt else 0) m := by
    rw [← smN_add]
    refine smN_congr m (fun i _ => ?_)
    by_cases z : i = k
    · rw [if_pos z, if_pos (by omega), if_neg (by omega), Int.zero_add]
    · rw [if_neg z, Int.add_zero]
      exact ifc (by omega)
  have e2 : smN (fun i => if i < k + 1 then (off i).toInt else 0) m = smN (fun i => if i < k then (off i).toInt else 0) m + smN (fun i => if i = k then (off i).toInt else 0) m := by
    rw [← smN_add]
    refine smN_congr m (fun i _ => ?_)
    by_cases z : i = k
    · rw [if_pos z, if_pos (by omega), if_neg (by omega), Int.zero_add]
    · rw [if_neg z, Int.add_zero]
      exact ifc (by omega)
  rw [e1, e2, h1, h2]
  omega
theorem exN_0 {net : Int} {bid off : Nat → Int32} {m : Nat} : exN net bid off m 0 = net + smN (fun i => (bid i).toInt) m := by
  unfold exN
  rw [smN_congr m (g := fun i => (bid i).toInt) (fun i _ => if_pos (by omega)), smN_0 m (fun i _ => if_neg (by omega)), Int.sub_zero]
theorem exN_m {net : Int} {bid off : Nat → Int32} {m : Nat} : exN net bid off m m = net - smN (fun i => (off i).toInt) m := by
  unfold exN
  rw [smN_0 m (fun i hi => if_neg (by omega)), smN_congr m (f := fun i => if i < m then (off i).toInt else 0) (g := fun i => (off i).toInt) (fun i hi => if_pos hi), Int.add_zero]
theorem one_mul_if {c : Prop} [Decidable c] {v : Int} : (if c then 1 else 0) * v = if c then v else 0 := by
  split
  · exact Int.one_mul v
  · exact Int.zero_mul v
/-- volumes by a curve -/
theorem cv_v0f {lim bid : Nat → Int32} {m : Nat} {O : List En} {h x : Int} (hg : ∀ g, wsm g lim bid m = sumE (fun e => if en_d e = 0 ∧ en_w e = h then g (en_l e) * en_q e else 0) O) : ordV O h 0 x false = smN (fun k => if x < (lim k).toInt then (bid k).toInt else 0) m := by
  have h1 := hg (fun y => if x < y then 1 else 0)
  unfold wsm at h1
  rw [smN_congr m (g := fun k => if x < (lim k).toInt then (bid k).toInt else 0) (fun k _ => one_mul_if)] at h1
  rw [h1, ordV_0]
  refine sumE_congr O (fun e _ => ?_)
  rw [one_mul_if]
  by_cases z : en_d e = 0 ∧ en_w e = h
  · rw [if_pos z]
    refine ifc ⟨?_, fun y => ⟨z.1, z.2, Or.inl y⟩⟩
    rintro ⟨-, -, y | ⟨y, -⟩⟩
    · exact y
    · cases y
  · rw [if_neg z, if_neg (fun y => z ⟨y.1, y.2.1⟩)]
theorem cv_v0t {lim bid : Nat → Int32} {m : Nat} {O : List En} {h x : Int} (hg : ∀ g, wsm g lim bid m = sumE (fun e => if en_d e = 0 ∧ en_w e = h then g (en_l e) * en_q e else 0) O) : ordV O h 0 x true = smN (fun k => if x ≤ (lim k).toInt then (bid k).toInt else 0) m := by
  rw [ordV_t0, cv_v0f hg]
  exact smN_congr m (fun k _ => ifc (by omega))
theorem cv_v1f {lim off : Nat → Int32} {m : Nat} {O : List En} {h x : Int} (hg : ∀ g, wsm g lim off m = sumE (fun e => if en_d e = 1 ∧ en_w e = h then g (en_l e) * en_q e else 0) O) : ordV O h 1 x false = smN (fun k => if (lim k).toInt < x then (off k).toInt else 0) m := by
  have h1 := hg (fun y => if y < x then 1 else 0)
  unfold wsm at h1
  rw [smN_congr m (g := fun k => if (lim k).toInt < x then (off k).toInt else 0) (fun k _ => one_mul_if)] at h1
  rw [h1, ordV_1]
  refine sumE_congr O (fun e _ => ?_)
  rw [one_mul_if]
  by_cases z : en_d e = 1 ∧ en_w e = h
  · rw [if_pos z]
    refine ifc ⟨?_, fun y => ⟨z.1, z.2, Or.inl y⟩⟩
    rintro ⟨-, -, y | ⟨y, -⟩⟩
    · exact y
    · cases y
  · rw [if_neg z, if_neg (fun y => z ⟨y.1, y.2.1⟩)]
theorem cv_v1t {lim off : Nat → Int32} {m : Nat} {O : List En} {h x : Int} (hg : ∀ g, wsm g lim off m = sumE (fun e => if en_d e = 1 ∧ en_w e = h then g (en_l e) * en_q e else 0) O) : ordV O h 1 x true = smN (fun k => if (lim k).toInt ≤ x then (off k).toInt else 0) m := by
  rw [ordV_t1, cv_v1f hg]
  exact smN_congr m (fun k _ => ifc (by omega))
theorem smN_imp {p r : Nat → Prop} [∀ i, Decidable (p i)] [∀ i, Decidable (r i)] {f : Nat → Int} {m : Nat} (hf : ∀ i, i < m → 0 ≤ f i) (h : ∀ i, i < m → p i → r i) : smN (fun i => if p i then f i else 0) m ≤ smN (fun i => if r i then f i else 0) m := by
  refine smN_le m (fun i hi => ?_)
  have := hf i hi
  by_cases z : p i
  · rw [if_pos z, if_pos (h i hi z)]
    exact Int.le_refl _
  · rw [if_neg z]
    split <;> omega
theorem x_least {lim bid off : Nat → Int32} {cnt ab ao : Int32} {B O : List En} (hB : okB B) (hO : okO O) {S : Nat} {h : Int} (hc : cvI lim bid off cnt ab ao O h) : f_c_leastServing lim bid off cnt ab (i3 (blkV B S h 0 - blkV B S h 1)) = some (i3 (sp_lo B O S h)) := by
  obtain ⟨m, h1, h2, h3, h4, h5, h6, h7, h8, h9⟩ := hc
  have hlen := hO.2
  have b0 := blkV_bd hB S h 0
  have b1 := blkV_bd hB S h 1
  have tb := cv_tot hO (fun k hk => (h5 k hk).1) h6
  have to := cv_tot hO (fun k hk => (h5 k hk).2) h7
  generalize hnet : blkV B S h 0 - blkV B S h 1 = net at *
  have hP : ∀ x, pLo B O S h x = true ↔ net + smN (fun k => if x < (lim k).toInt then (bid k).toInt else 0) m - smN (fun k => if (lim k).toInt ≤ x then (off k).toInt else 0) m ≤ 0 := by
    intro x
    unfold pLo vol
    rw [decide_eq_true_iff, cv_v0f h6, cv_v1t h7]
    omega
  have ge : ∀ k y, (∀ i, k ≤ i → i < m → y < (lim i).toInt) → exN net bid off m k ≤ net + smN (fun k => if y < (lim k).toInt then (bid k).toInt else 0) m - smN (fun k => if (lim k).toInt ≤ y then (off k).toInt else 0) m := by
    intro k y hy
    have a1 := smN_imp (p := fun i => k ≤ i) (r := fun i => y < (lim i).toInt) (f := fun i => (bid i).toInt) (m := m) (fun i hi => (h5 i hi).1) (fun i hi z => hy i z hi)
    have a2 := smN_imp (p := fun i => (lim i).toInt ≤ y) (r := fun i => i < k) (f := fun i => (off i).toInt) (m := m) (fun i hi => (h5 i hi).2) (fun i hi z => by
      refine Nat.not_le.mp (fun u => ?_)
      have := hy i u hi
      omega)
    unfold exN
    omega
  have le : ∀ k y, (∀ i, i < k → i < m → (lim i).toInt ≤ y) → net + smN (fun k => if y < (lim k).toInt then (bid k).toInt else 0) m - smN (fun k => if (lim k).toInt ≤ y then (off k).toInt else 0) m ≤ exN net bid off m k := by
    intro k y hy
    have a1 := smN_imp (p := fun i => y < (lim i).toInt) (r := fun i => k ≤ i) (f := fun i => (bid i).toInt) (m := m) (fun i hi => (h5 i hi).1) (fun i hi z => by
      refine Nat.not_lt.mp (fun u => ?_)
      have := hy i u hi
      omega)
    have a2 := smN_imp (p := fun i => i < k) (r := fun i => (lim i).toInt ≤ y) (f := fun i => (off i).toInt) (m := m) (fun i hi => (h5 i hi).2) (fun i hi z => hy i z hi)
    unfold exN
    omega
  have exb : ∀ k, -68000 ≤ exN net bid off m k ∧ exN net bid off m k ≤ 68000 := by
    intro k
    have a1 := smN_imp (p := fun i => k ≤ i) (r := fun _ => True) (f := fun i => (bid i).toInt) (m := m) (fun i hi => (h5 i hi).1) (fun i hi z => trivial)
    have a2 := smN_imp (p := fun i => i < k) (r := fun _ => True) (f := fun i => (off i).toInt) (m := m) (fun i hi => (h5 i hi).2) (fun i hi z => trivial)
    have a3 := smN_imp (p := fun _ => False) (r := fun i => k ≤ i) (f := fun i => (bid i).toInt) (m := m) (fun i hi => (h5 i hi).1) (fun i hi z => z.elim)
    have a4 := smN_imp (p := fun _ => False) (r := fun i => i < k) (f := fun i => (off i).toInt) (m := m) (fun i hi => (h5 i hi).2) (fun i hi z => z.elim)
    have r1 : smN (fun i => if True then (bid i).toInt else 0) m = smN (fun i => (bid i).toInt) m := smN_congr m (fun i _ => if_pos trivial)
    have r2 : smN (fun i => if True then (off i).toInt else 0) m = smN (fun i => (off i).toInt) m := smN_congr m (fun i _ => if_pos trivial)
    have r3 : smN (fun i => if False then (bid i).toInt else 0) m = 0 := smN_0 m (fun i _ => if_neg id)
    have r4 : smN (fun i => if False then (off i).toInt else 0) m = 0 := smN_0 m (fun i _ => if_neg id)
    rw [r1, tb.2.2.1] at a1
    rw [r2, to.2.2.1] at a2
    rw [r3] at a3
    rw [r4] at a4
    unfold exN
    omega
  have e0 : i3 net + ab = i3 (exN net bid off m 0) := by rw [exN_0, tb.2.2.1, h8, i3_add]
  unfold f_c_leastServing
  rw [e0]
  have c0 : (0 : Int32) < i3 (exN net bid off m 0) ↔ 0 < exN net bid off m 0 := by
    have := exb 0
    exact i3_lt (a := 0) (by omega)
  by_cases z : 0 < exN net bid off m 0
  · rw [if_pos (c0.mpr z), h1]
    refine lpX (fun n a (_ : Unit) => f_c_leastServing_L17 lim bid off (i3 m) ab n (i3 (exN net bid off m a)) (i3 a)) m (fun a _ => 0 < exN net bid off m a) (fun Z => Z = some (i3 (sp_lo B O S h))) ?_ ?_ 1000 0 () (by omega) (by omega) z
    · intro n a _ ha hI
      have y1 := h5 a ha
      have y2 := tb.2.2.2 a ha
      have y3 := to.2.2.2 a ha
      have y4 := exb (a + 1)
      have es := exN_step (net := net) (bid := bid) (off := off) ha
      have ee : i3 (exN net bid off m a) - (bid a + off a) = i3 (exN net bid off m (a + 1)) := by
        rw [i3_of (bid a), i3_of (off a), i3_add, i3_sub]
        congr 1
        omega
      show f_c_leastServing_L17 lim bid off (i3 m) ab (n + 1) (i3 (exN net bid off m a)) (i3 a) = _ ∨ ∃ _ : Unit, 0 < exN net bid off m (a + 1) ∧ f_c_leastServing_L17 lim bid off (i3 m) ab (n + 1) (i3 (exN net bid off m a)) (i3 a) = f_c_leastServing_L17 lim bid off (i3 m) ab n (i3 (exN net bid off m (a + 1))) (i3 ((a + 1 : Nat) : Int))
      rw [f_c_leastServing_L17, if_neg (by rw [i3_le (by omega)]; omega), if_neg (ix_n (by omega) (by omega)), cl_n (by omega), ee, i3s]
      have c1 : (0 : Int32) < i3 (exN net bid off m (a + 1)) ↔ 0 < exN net bid off m (a + 1) := i3_lt (a := 0) (by omega)
      by_cases u : 0 < exN net bid off m (a + 1)
      · rw [if_pos (c1.mpr u)]
        exact Or.inr ⟨(), u, rfl⟩
      · rw [if_neg (fun t => u (c1.mp t))]
        left
        have hl := h4 a ha
        rw [i3_of (lim a), lo_eq (B := B) (O := O) (S := S) (h := h) (r := (lim a).toInt) hl.1 (by omega) (fun y q1 q2 => ?_) (fun _ => ?_)]
        · refine Bool.eq_false_iff.mpr (fun t => ?_)
          have t1 := (hP y).mp t
          have t2 := ge a y (fun i i1 i2 => by
            by_cases v : i = a
            · rw [v]; exact q2
            · have := h3 a i (by omega) i2
              omega)
          omega
        · refine (hP _).mpr ?_
          have t2 := le (a + 1) (lim a).toInt (fun i i1 i2 => by
            by_cases v : i = a
            · rw [v]; exact Int.le_refl _
            · have := h3 i a (by omega) ha
              omega)
          omega
    · intro n _ hI
      show f_c_leastServing_L17 lim bid off (i3 m) ab (n + 1) _ (i3 (m : Nat)) = _
      rw [f_c_leastServing_L17, if_pos (by rw [i3_le (by omega)]; omega), lo_eq (B := B) (O := O) (S := S) (h := h) (r := 40001) (by omega) (by omega) (fun y q1 q2 => ?_) (fun q => by omega)]
      · rfl
      · refine Bool.eq_false_iff.mpr (fun t => ?_)
        have t1 := (hP y).mp t
        have t2 := ge m y (fun i i1 i2 => by omega)
        omega
  · rw [if_neg (fun t => z (c0.mp t)), lo_eq (B := B) (O := O) (S := S) (h := h) (r := -5000) (by omega) (by omega) (fun y q1 q2 => by omega) (fun _ => ?_)]
    · rfl
    · refine (hP _).mpr ?_
      have t2 := le 0 (-5000) (fun i i1 i2 => by omega)
      omega
theorem x_greatest {lim bid off : Nat → Int32} {cnt ab ao : Int32} {B O : List En} (hB : okB B) (hO : okO O) {S : Nat} {h : Int} (hc : cvI lim bid off cnt ab ao O h) : f_c_greatestServing lim bid off cnt ao (i3 (blkV B S h 0 - blkV B S h 1)) = some (i3 (sp_hi B O S h)) := by
  obtain ⟨m, h1, h2, h3, h4, h5, h6, h7, h8, h9⟩ := hc
  have hlen := hO.2
  have b0 := blkV_bd hB S h 0
  have b1 := blkV_bd hB S h 1
  have tb := cv_tot hO (fun k hk => (h5 k hk).1) h6
  have to := cv_tot hO (fun k hk => (h5 k hk).2) h7
  generalize hnet : blkV B S h 0 - blkV B S h 1 = net at *
  have hP : ∀ x, pHi B O S h x = true ↔ 0 ≤ net + smN (fun k => if x ≤ (lim k).toInt then (bid k).toInt else 0) m - smN (fun k => if (lim k).toInt < x then (off k).toInt else 0) m := by
    intro x
    unfold pHi vol
    rw [decide_eq_true_iff, cv_v0t h6, cv_v1f h7]
    omega
  have ge : ∀ k y, (∀ i, k ≤ i → i < m → y ≤ (lim i).toInt) → exN net bid off m k ≤ net + smN (fun k => if y ≤ (lim k).toInt then (bid k).toInt else 0) m - smN (fun k => if (lim k).toInt < y then (off k).toInt else 0) m := by
    intro k y hy
    have a1 := smN_imp (p := fun i => k ≤ i) (r := fun i => y ≤ (lim i).toInt) (f := fun i => (bid i).toInt) (m := m) (fun i hi => (h5 i hi).1) (fun i hi z => hy i z hi)
    have a2 := smN_imp (p := fun i => (lim i).toInt < y) (r := fun i => i < k) (f := fun i => (off i).toInt) (m := m) (fun i hi => (h5 i hi).2) (fun i hi z => by
      refine Nat.not_le.mp (fun u => ?_)
      have := hy i u hi
      omega)
    unfold exN
    omega
  have le : ∀ k y, (∀ i, i < k → i < m → (lim i).toInt < y) → net + smN (fun k => if y ≤ (lim k).toInt then (bid k).toInt else 0) m - smN (fun k => if (lim k).toInt < y then (off k).toInt else 0) m ≤ exN net bid off m k := by
    intro k y hy
    have a1 := smN_imp (p := fun i => y ≤ (lim i).toInt) (r := fun i => k ≤ i) (f := fun i => (bid i).toInt) (m := m) (fun i hi => (h5 i hi).1) (fun i hi z => by
      refine Nat.not_lt.mp (fun u => ?_)
      have := hy i u hi
      omega)
    have a2 := smN_imp (p := fun i => i < k) (r := fun i => (lim i).toInt < y) (f := fun i => (off i).toInt) (m := m) (fun i hi => (h5 i hi).2) (fun i hi z => hy i z hi)
    unfold exN
    omega
  have exb : ∀ k, -68000 ≤ exN net bid off m k ∧ exN net bid off m k ≤ 68000 := by
    intro k
    have a1 := smN_imp (p := fun i => k ≤ i) (r := fun _ => True) (f := fun i => (bid i).toInt) (m := m) (fun i hi => (h5 i hi).1) (fun i hi z => trivial)
    have a2 := smN_imp (p := fun i => i < k) (r := fun _ => True) (f := fun i => (off i).toInt) (m := m) (fun i hi => (h5 i hi).2) (fun i hi z => trivial)
    have a3 := smN_imp (p := fun _ => False) (r := fun i => k ≤ i) (f := fun i => (bid i).toInt) (m := m) (fun i hi => (h5 i hi).1) (fun i hi z => z.elim)
    have a4 := smN_imp (p := fun _ => False) (r := fun i => i < k) (f := fun i => (off i).toInt) (m := m) (fun i hi => (h5 i hi).2) (fun i hi z => z.elim)
    have r1 : smN (fun i => if True then (bid i).toInt else 0) m = smN (fun i => (bid i).toInt) m := smN_congr m (fun i _ => if_pos trivial)
    have r2 : smN (fun i => if True then (off i).toInt else 0) m = smN (fun i => (off i).toInt) m := smN_congr m (fun i _ => if_pos trivial)
    have r3 : smN (fun i => if False then (bid i).toInt else 0) m = 0 := smN_0 m (fun i _ => if_neg id)
    have r4 : smN (fun i => if False then (off i).toInt else 0) m = 0 := smN_0 m (fun i _ => if_neg id)
    rw [r1, tb.2.2.1] at a1
    rw [r2, to.2.2.1] at a2
    rw [r3] at a3
    rw [r4] at a4
    unfold exN
    omega
  have e0 : i3 net - ao = i3 (exN net bid off m m) := by rw [exN_m, to.2.2.1, h9, i3_sub]
  unfold f_c_greatestServing
  rw [e0]
  have c0 : i3 (exN net bid off m m) < 0 ↔ exN net bid off m m < 0 := by
    have := exb m
    exact i3_lt (b := 0) (by omega)
  by_cases z : exN net bid off m m < 0
  · rw [if_pos (c0.mpr z), h1]
    have key : ∀ (a n : Nat), a ≤ m → a < n → exN net bid off m a < 0 → f_c_greatestServing_L21 lim bid off (i3 m) ao n (i3 (exN net bid off m a)) (i3 ((a : Int) - 1)) = some (i3 (sp_hi B O S h)) := by
      intro a
      induction a with
      | zero =>
        intro n ham hn hneg
        obtain ⟨n, rfl⟩ : ∃ g, n = g + 1 := ⟨n - 1, by omega⟩
        rw [f_c_greatestServing_L21, if_pos (by decide), hi_eq (B := B) (O := O) (S := S) (h := h) (r := -5001) (by omega) (by omega) (fun y q1 q2 => ?_) (fun q => by omega)]
        · rfl
        · refine Bool.eq_false_iff.mpr (fun t => ?_)
          have t1 := (hP y).mp t
          have t2 := le 0 y (fun i i1 i2 => by omega)
          omega
      | succ a ih =>
        intro n ham hn hneg
        obtain ⟨n, rfl⟩ : ∃ g, n = g + 1 := ⟨n - 1, by omega⟩
        have ha : a < m := by omega
        have y1 := h5 a ha
        have y2 := tb.2.2.2 a ha
        have y3 := to.2.2.2 a ha
        have y4 := exb a
        have es := exN_step (net := net) (bid := bid) (off := off) ha
        have ee : i3 (exN net bid off m (a + 1)) + (bid a + off a) = i3 (exN net bid off m a) := by
          rw [i3_of (bid a), i3_of (off a), i3_add, i3_add]
          congr 1
          omega
        have ek : i3 (((a + 1 : Nat) : Int) - 1) = i3 a := by congr 1; omega
        have ek2 : i3 (a : Nat) + (-1) = i3 ((a : Int) - 1) := by
          rw [show (-1 : Int32) = i3 (-1) from by decide, i3_add]
          congr 1
        rw [ek, f_c_greatestServing_L21, if_neg (fun u => ix_n (show a < 60 by omega) (by omega) (Or.inl u)), if_neg (ix_n (by omega) (by omega)), cl_n (by omega), ee, ek2]
        have c1 : i3 (exN net bid off m a) < 0 ↔ exN net bid off m a < 0 := i3_lt (b := 0) (by omega)
        by_cases u : exN net bid off m a < 0
        · rw [if_pos (c1.mpr u)]
          exact ih n (by omega) (by omega) u
        · rw [if_neg (fun t => u (c1.mp t))]
          have hl := h4 a ha
          rw [i3_of (lim a), hi_eq (B := B) (O := O) (S := S) (h := h) (r := (lim a).toInt) (by omega) hl.2 (fun y q1 q2 => ?_) (fun _ => ?_)]
          · refine Bool.eq_false_iff.mpr (fun t => ?_)
            have t1 := (hP y).mp t
            have t2 := le (a + 1) y (fun i i1 i2 => by
              by_cases v : i = a
              · rw [v]; exact q2
              · have := h3 i a (by omega) ha
                omega)
            omega
          · refine (hP _).mpr ?_
            have t2 := ge a (lim a).toInt (fun i i1 i2 => by
              by_cases v : i = a
              · rw [v]; exact Int.le_refl _
              · have := h3 a i (by omega) i2
                omega)
            omega
    have ek : i3 (m : Nat) - 1 = i3 ((m : Int) - 1) := by rw [show (1 : Int32) = i3 1 from rfl, i3_sub]
    rw [ek]
    exact key m 1000 (Nat.le_refl _) (by omega) z
  · rw [if_neg (fun t => z (c0.mp t)), hi_eq (B := B) (O := O) (S := S) (h := h) (r := 40000) (by omega) (by omega) (fun y q1 q2 => by omega) (fun _ => ?_)]
    · rfl
    · refine (hP _).mpr ?_
      have t2 := ge m 40000 (fun i i1 i2 => by omega)
      omega
theorem xor2 {z : Int} (hz : -2147483648 ≤ z ∧ z < 2147483648) : (0 : Int32) ≤ (i3 z ^^^ 2) ↔ 0 ≤ z := by
  have h1 : ∀ x : Int32, (0 : Int32) ≤ x ↔ x.toBitVec.msb = false := by
    intro x
    rw [Int32.le_iff_toInt_le, BitVec.msb_eq_toInt, decide_eq_false_iff_not]
    show (0 : Int) ≤ x.toInt ↔ ¬ x.toInt < 0
    omega
  have h2 : (0 : Int32) ≤ i3 z ↔ 0 ≤ z := i3_le (a := 0) (by omega)
  rw [h1, Int32.toBitVec_xor, BitVec.msb_xor, show (2 : Int32).toBitVec.msb = false from by decide, Bool.xor_false, ← h1, h2]
theorem x_half {z : Int} (hz : -1000000 ≤ z ∧ z ≤ 1000000) : f_jm_floorDiv (i3 z) 2 = some (i3 (z / 2)) := by
  unfold f_jm_floorDiv
  rw [if_neg (show ¬ (2 : Int32) = 0 by decide)]
  have hd : i3 z / 2 = i3 (z.tdiv 2) := i3_div (b := 2) (by omega)
  by_cases h : 0 ≤ z
  · rw [if_pos ((xor2 (by omega)).mpr h), hd, Int.tdiv_eq_ediv_of_nonneg h]
  · rw [if_neg (fun y => h ((xor2 (by omega)).mp y)), hd]
    have ht : z.tdiv 2 = -((-z) / 2) := by
      rw [← Int.neg_neg z, Int.neg_tdiv, Int.tdiv_eq_ediv_of_nonneg (by omega), Int.neg_neg]
    have he : i3 (z.tdiv 2) * 2 = i3 z ↔ z.tdiv 2 * 2 = z := by
      rw [show (2 : Int32) = i3 2 from rfl, i3_mul, i3_eq (by omega)]
    by_cases y : z.tdiv 2 * 2 = z
    · rw [if_pos (he.mpr y)]
      congr 2
      omega
    · rw [if_neg (fun u => y (he.mp u)), show (1 : Int32) = i3 1 from rfl, i3_sub]
      congr 2
      omega
theorem x_meet {lim bid off : Nat → Int32} {cnt ab ao mp : Int32} {B O : List En} (hB : okB B) (hO : okO O) {S : Nat} {h : Int} (hc : cvI lim bid off cnt ab ao O h) : f_c_meet lim bid off cnt ab ao mp (i3 (blkV B S h 0 - blkV B S h 1)) = some (if sp_lo B O S h ≤ sp_hi B O S h then (1, i3 (sp_p B O S h)) else (0, mp)) := by
  have b1 := sp_lo_bd B O S h
  have b2 := sp_hi_bd B O S h
  unfold f_c_meet
  rw [x_least hB hO hc, Option.bind_some, x_greatest hB hO hc, Option.bind_some]
  by_cases z : sp_lo B O S h ≤ sp_hi B O S h
  · rw [if_pos (by rw [i3_le (by omega)]; exact z), i3_add, x_half (by omega), Option.bind_some, if_pos z]
    rfl
  · rw [if_neg (by rw [i3_le (by omega)]; exact z), if_neg z]
theorem x_meas {lim bid off : Nat → Int32} {cnt ab ao : Int32} {B O : List En} (hB : okB B) (hO : okO O) {S : Nat} {h : Int} (hc : cvI lim bid off cnt ab ao O h) {c1 c2 c3 c4 c5 : Int32} {c6 : Int64} : f_c_measure lim bid off cnt (i3 (sp_p B O S h)) c1 c2 c3 c4 c5 c6 (i3 (blkV B S h 0)) (i3 (blkV B S h 1)) = some (i3 (vol B O S h 0 (sp_p B O S h) false), i3 (vol B O S h 1 (sp_p B O S h) false), i3 (sp_all B O S h 0), i3 (sp_all B O S h 1), i3 (sp_t B O S h), i6 (sp_hw B O S h)) := by
  obtain ⟨m, h1, h2, h3, h4, h5, h6, h7, h8, h9⟩ := hc
  have hlen := hO.2
  have hpb := sp_p_bd B O S h
  have tb := cv_tot hO (fun k hk => (h5 k hk).1) h6
  have to := cv_tot hO (fun k hk => (h5 k hk).2) h7
  have v0f := vol_bd hB hO S h 0 (sp_p B O S h) false
  have v1f := vol_bd hB hO S h 1 (sp_p B O S h) false
  have v0t := vol_bd hB hO S h 0 (sp_p B O S h) true
  have v1t := vol_bd hB hO S h 1 (sp_p B O S h) true
  have a0 : sp_all B O S h 0 = smN (fun k => if (lim k).toInt = sp_p B O S h then (bid k).toInt else 0) m := by
    unfold sp_all vol
    rw [cv_v0t h6, cv_v0f h6]
    have : smN (fun k => if sp_p B O S h ≤ (lim k).toInt then (bid k).toInt else 0) m = smN (fun k => if sp_p B O S h < (lim k).toInt then (bid k).toInt else 0) m + smN (fun k => if (lim k).toInt = sp_p B O S h then (bid k).toInt else 0) m := by
      rw [← smN_add]
      refine smN_congr m (fun k _ => ?_)
      by_cases z : (lim k).toInt = sp_p B O S h
      · rw [if_pos (by omega), if_neg (by omega), if_pos z, Int.zero_add]
      · rw [if_neg z, Int.add_zero]
        exact ifc (by omega)
    omega
  have a1 : sp_all B O S h 1 = smN (fun k => if (lim k).toInt = sp_p B O S h then (off k).toInt else 0) m := by
    unfold sp_all vol
    rw [cv_v1t h7, cv_v1f h7]
    have : smN (fun k => if (lim k).toInt ≤ sp_p B O S h then (off k).toInt else 0) m = smN (fun k => if (lim k).toInt < sp_p B O S h then (off k).toInt else 0) m + smN (fun k => if (lim k).toInt = sp_p B O S h then (off k).toInt else 0) m := by
      rw [← smN_add]
      refine smN_congr m (fun k _ => ?_)
      by_cases z : (lim k).toInt = sp_p B O S h
      · rw [if_pos (by omega), if_neg (by omega), if_pos z, Int.zero_add]
      · rw [if_neg z, Int.add_zero]
        exact ifc (by omega)
    omega
  have w0 : sumE (fun e => if en_d e = 0 ∧ en_w e = h ∧ sp_p B O S h < en_l e then en_q e * en_l e else 0) O = smN (fun k => if sp_p B O S h < (lim k).toInt then (bid k).toInt * (lim k).toInt else 0) m := by
    have g1 := h6 (fun y => if sp_p B O S h < y then y else 0)
    unfold wsm at g1
    rw [smN_congr m (g := fun k => if sp_p B O S h < (lim k).toInt then (bid k).toInt * (lim k).toInt else 0) (fun k _ => by
      show (if sp_p B O S h < (lim k).toInt then (lim k).toInt else 0) * (bid k).toInt = _
      split
      · exact Int.mul_comm _ _
      · exact Int.zero_mul _)] at g1
    rw [g1]
    refine sumE_congr O (fun e _ => ?_)
    by_cases z : en_d e = 0 ∧ en_w e = h
    · rw [if_pos z]
      by_cases y : sp_p B O S h < en_l e
      · rw [if_pos ⟨z.1, z.2, y⟩, if_pos y, Int.mul_comm]
      · rw [if_neg (fun u => y u.2.2), if_neg y, Int.zero_mul]
    · rw [if_neg z, if_neg (fun y => z ⟨y.1, y.2.1⟩)]
  have w1 : sumE (fun e => if en_d e = 1 ∧ en_w e = h ∧ en_l e < sp_p B O S h then en_q e * en_l e else 0) O = smN (fun k => if (lim k).toInt < sp_p B O S h then (off k).toInt * (lim k).toInt else 0) m := by
    have g1 := h7 (fun y => if y < sp_p B O S h then y else 0)
    unfold wsm at g1
    rw [smN_congr m (g := fun k => if (lim k).toInt < sp_p B O S h then (off k).toInt * (lim k).toInt else 0) (fun k _ => by
      show (if (lim k).toInt < sp_p B O S h then (lim k).toInt else 0) * (off k).toInt = _
      split
      · exact Int.mul_comm _ _
      · exact Int.zero_mul _)] at g1
    rw [g1]
    refine sumE_congr O (fun e _ => ?_)
    by_cases z : en_d e = 1 ∧ en_w e = h
    · rw [if_pos z]
      by_cases y : en_l e < sp_p B O S h
      · rw [if_pos ⟨z.1, z.2, y⟩, if_pos y, Int.mul_comm]
      · rw [if_neg (fun u => y u.2.2), if_neg y, Int.zero_mul]
    · rw [if_neg z, if_neg (fun y => z ⟨y.1, y.2.1⟩)]
  have q0 : vol B O S h 0 (sp_p B O S h) false = blkV B S h 0 + smN (fun k => if sp_p B O S h < (lim k).toInt then (bid k).toInt else 0) m := by unfold vol; rw [cv_v0f h6]
  have q1 : vol B O S h 1 (sp_p B O S h) false = blkV B S h 1 + smN (fun k => if (lim k).toInt < sp_p B O S h then (off k).toInt else 0) m := by unfold vol; rw [cv_v1f h7]
  have shd : sp_hw B O S h = smN (fun k => if sp_p B O S h < (lim k).toInt then (bid k).toInt * (lim k).toInt else 0) m - smN (fun k => if (lim k).toInt < sp_p B O S h then (off k).toInt * (lim k).toInt else 0) m + (sp_sh B O S h 0 * sp_p B O S h - sp_sh B O S h 1 * sp_p B O S h) := by
    unfold sp_hw
    rw [w0, w1]
  have sa0 : vol B O S h 0 (sp_p B O S h) false + sp_all B O S h 0 = vol B O S h 0 (sp_p B O S h) true := by unfold sp_all; omega
  have sa1 : vol B O S h 1 (sp_p B O S h) false + sp_all B O S h 1 = vol B O S h 1 (sp_p B O S h) true := by unfold sp_all; omega
  unfold f_c_measure
  rw [h1]
  generalize hp : sp_p B O S h = p at *
  have key : ∀ n a : Nat, a ≤ m → m - a < n → f_c_measure_L27 lim bid off (i3 m) (i3 p) n (i3 (blkV B S h 0 + smN (fun k => if p < (lim k).toInt then (bid k).toInt else 0) a)) (i3 (blkV B S h 1 + smN (fun k => if (lim k).toInt < p then (off k).toInt else 0) a)) (i3 (smN (fun k => if (lim k).toInt = p then (bid k).toInt else 0) a)) (i3 (smN (fun k => if (lim k).toInt = p then (off k).toInt else 0) a)) c5 (i6 (smN (fun k => if p < (lim k).toInt then (bid k).toInt * (lim k).toInt else 0) a - smN (fun k => if (lim k).toInt < p then (off k).toInt * (lim k).toInt else 0) a)) (i3 a) = some (i3 (vol B O S h 0 p false), i3 (vol B O S h 1 p false), i3 (sp_all B O S h 0), i3 (sp_all B O S h 1), i3 (sp_t B O S h), i6 (sp_hw B O S h)) := by
    refine lp (fun n a => f_c_measure_L27 lim bid off (i3 m) (i3 p) n (i3 (blkV B S h 0 + smN (fun k => if p < (lim k).toInt then (bid k).toInt else 0) a)) (i3 (blkV B S h 1 + smN (fun k => if (lim k).toInt < p then (off k).toInt else 0) a)) (i3 (smN (fun k => if (lim k).toInt = p then (bid k).toInt else 0) a)) (i3 (smN (fun k => if (lim k).toInt = p then (off k).toInt else 0) a)) c5 (i6 (smN (fun k => if p < (lim k).toInt then (bid k).toInt * (lim k).toInt else 0) a - smN (fun k => if (lim k).toInt < p then (off k).toInt * (lim k).toInt else 0) a)) (i3 a)) m _ ?_ ?_
    · intro n a ha
      show f_c_measure_L27 lim bid off (i3 m) (i3 p) (n + 1) (i3 (blkV B S h 0 + smN _ a)) (i3 (blkV B S h 1 + smN _ a)) (i3 (smN _ a)) (i3 (smN _ a)) c5 (i6 (smN _ a - smN _ a)) (i3 a) = f_c_measure_L27 lim bid off (i3 m) (i3 p) n (i3 (blkV B S h 0 + (smN _ a + (if p < (lim a).toInt then (bid a).toInt else 0)))) (i3 (blkV B S h 1 + (smN _ a + (if (lim a).toInt < p then (off a).toInt else 0)))) (i3 (smN _ a + (if (lim a).toInt = p then (bid a).toInt else 0))) (i3 (smN _ a + (if (lim a).toInt = p then (off a).toInt else 0))) c5 (i6 ((smN _ a + (if p < (lim a).toInt then (bid a).toInt * (lim a).toInt else 0)) - (smN _ a + (if (lim a).toInt < p then (off a).toInt * (lim a).toInt else 0)))) (i3 ((a + 1 : Nat) : Int))
      have e1 : lim a ≤ i3 p ↔ (lim a).toInt ≤ p := by rw [Int32.le_iff_toInt_le, i3_toInt (by omega)]
      have e2 : i3 p ≤ lim a ↔ p ≤ (lim a).toInt := by rw [Int32.le_iff_toInt_le, i3_toInt (by omega)]
      have ob : ∀ Y : Int, i3 Y + off a = i3 (Y + (off a).toInt) := fun Y => by rw [← i3_add, ← i3_of]
      have bb : ∀ Y : Int, i3 Y + bid a = i3 (Y + (bid a).toInt) := fun Y => by rw [← i3_add, ← i3_of]
      have hwx : ∀ X Y Z : Int, X - Y + Z = X + Z - Y := fun X Y Z => by omega
      have b6 : Int32.toInt64 (bid a) = i6 (bid a).toInt := (Int64.ofInt_int32ToInt _).symm
      have o6 : Int32.toInt64 (off a) = i6 (off a).toInt := (Int64.ofInt_int32ToInt _).symm
      have l6 : Int32.toInt64 (lim a) = i6 (lim a).toInt := (Int64.ofInt_int32ToInt _).symm
      rw [f_c_measure_L27, if_neg (by rw [i3_le (by omega)]; omega), if_neg (ix_n (by omega) (by omega)), cl_n (by omega), i3s, b6, o6, l6, i6_mul, i6_mul, i6_sub, i6_add]
      by_cases z1 : (lim a).toInt ≤ p
      · rw [if_pos (e1.mpr z1)]
        by_cases z2 : p ≤ (lim a).toInt
        · have zz : (lim a).toInt = p := by omega
          have s0 : smN (fun k => if (lim k).toInt = p then (bid k).toInt else 0) a = 0 := smN_0 a (fun k hk => if_neg (by have := h3 k a hk ha; omega))
          have s1 : smN (fun k => if (lim k).toInt = p then (off k).toInt else 0) a = 0 := smN_0 a (fun k hk => if_neg (by have := h3 k a hk ha; omega))
          rw [if_pos (e2.mpr z2), if_neg (show ¬ p < (lim a).toInt by omega), if_neg (show ¬ (lim a).toInt < p by omega), if_pos zz, if_pos zz, if_neg (show ¬ p < (lim a).toInt by omega), if_neg (show ¬ (lim a).toInt < p by omega), s0, s1, Int.add_zero, Int.add_zero, Int.add_zero, Int.add_zero, Int.zero_add, Int.zero_add, ← i3_of, ← i3_of]
        · rw [if_neg (fun u => z2 (e2.mp u)), if_neg (show ¬ p < (lim a).toInt by omega), if_pos (show (lim a).toInt < p by omega), if_neg (show ¬ (lim a).toInt = p by omega), if_neg (show ¬ (lim a).toInt = p by omega), if_neg (show ¬ p < (lim a).toInt by omega), if_pos (show (lim a).toInt < p by omega), Int.add_zero, Int.add_zero, Int.add_zero, Int.add_zero, Int.sub_sub]
          rw [ob, Int.add_assoc]
      · rw [if_neg (fun u => z1 (e1.mp u)), if_pos (show p < (lim a).toInt by omega), if_neg (show ¬ (lim a).toInt < p by omega), if_neg (show ¬ (lim a).toInt = p by omega), if_neg (show ¬ (lim a).toInt = p by omega), if_pos (show p < (lim a).toInt by omega), if_neg (show ¬ (lim a).toInt < p by omega), Int.add_zero, Int.add_zero, Int.add_zero, Int.add_zero]
        rw [bb, Int.add_assoc, hwx]
    · intro n
      have m1 : f_jm_min (i3 (vol B O S h 0 p false) + i3 (sp_all B O S h 0)) (i3 (vol B O S h 1 p false) + i3 (sp_all B O S h 1)) = some (i3 (sp_t B O S h)) := by
        unfold f_jm_min
        rw [i3_add, i3_add, sa0, sa1]
        have ht : sp_t B O S h = min (vol B O S h 0 p true) (vol B O S h 1 p true) := by unfold sp_t; rw [hp]
        by_cases y : vol B O S h 1 p true < vol B O S h 0 p true
        · rw [if_pos (by rw [i3_lt (by omega)]; exact y), ht, Int.min_eq_right (by omega)]
        · rw [if_neg (by rw [i3_lt (by omega)]; exact y), ht, Int.min_eq_left (by omega)]
      have hs0 : sp_sh B O S h 0 = sp_t B O S h - vol B O S h 0 p false := by unfold sp_sh; rw [hp]
      have hs1 : sp_sh B O S h 1 = sp_t B O S h - vol B O S h 1 p false := by unfold sp_sh; rw [hp]
      have ht : sp_t B O S h = min (vol B O S h 0 p true) (vol B O S h 1 p true) := by unfold sp_t; rw [hp]
      have htb : 0 ≤ sp_t B O S h ∧ sp_t B O S h ≤ 68000 := by omega
      show f_c_measure_L27 lim bid off (i3 m) (i3 p) (n + 1) (i3 (blkV B S h 0 + smN _ m)) (i3 (blkV B S h 1 + smN _ m)) (i3 (smN _ m)) (i3 (smN _ m)) c5 (i6 (smN _ m - smN _ m)) (i3 (m : Nat)) = _
      rw [f_c_measure_L27, if_pos (by rw [i3_le (by omega)]; omega), ← q0, ← q1, ← a0, ← a1, m1, Option.bind_some]
      unfold f_c_shared
      rw [if_pos rfl, if_neg n10, Option.bind_some, Option.bind_some, i3_sub, i3_sub, ← hs0, ← hs1, i3_long (by omega), i3_long (by omega), i3_long (by omega), i6_mul, i6_mul, i6_sub, i6_add, ← shd]
  have k0 := key 1000 0 (by omega) (by omega)
  exact (show f_c_measure_L27 lim bid off (i3 m) (i3 p) 1000 (i3 (blkV B S h 0)) (i3 (blkV B S h 1)) 0 0 c5 0 0 = _ from by
    rw [show smN (fun k => if p < (lim k).toInt then (bid k).toInt else 0) 0 = 0 from rfl, show smN (fun k => if (lim k).toInt < p then (off k).toInt else 0) 0 = 0 from rfl, Int.add_zero, Int.add_zero] at k0
    exact k0)
