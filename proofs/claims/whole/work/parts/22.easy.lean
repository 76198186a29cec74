/-! The easy calls. -/
theorem n10 : ¬ (1 : Int32) = 0 := by decide
theorem n20 : ¬ (2 : Int32) = 0 := by decide
theorem k10 : ¬ (1 : Nat) = 0 := by decide
theorem k20 : ¬ (2 : Nat) = 0 := by decide
theorem k21 : ¬ (2 : Nat) = 1 := by decide
abbrev isMem (n p : Int32) : Prop := 0 ≤ p.toInt ∧ p.toInt < n.toInt
abbrev isOp (p : Int32) : Prop := 0 ≤ p.toInt ∧ p.toInt < 4
abbrev isHr (p : Int32) : Prop := 0 ≤ p.toInt ∧ p.toInt < 3
theorem x_mem (n p : Int32) : f_x_isMember n p = some (if isMem n p then 1 else 0) := by
  unfold f_x_isMember
  simp only [Int32.lt_iff_toInt_lt, Int32.le_iff_toInt_le, show (0 : Int32).toInt = 0 from rfl]
  repeat' split
  all_goals first | rfl | (exfalso; omega)
theorem x_op (p : Int32) : f_x_isOperator p = some (if isOp p then 1 else 0) := by
  unfold f_x_isOperator
  simp only [Int32.lt_iff_toInt_lt, Int32.le_iff_toInt_le, show (0 : Int32).toInt = 0 from rfl, show (4 : Int32).toInt = 4 from rfl]
  repeat' split
  all_goals first | rfl | (exfalso; omega)
theorem x_hour (p : Int32) : f_x_isHour p = some (if isHr p then 1 else 0) := by
  unfold f_x_isHour
  simp only [Int32.lt_iff_toInt_lt, Int32.le_iff_toInt_le, show (0 : Int32).toInt = 0 from rfl, show (3 : Int32).toInt = 3 from rfl]
  repeat' split
  all_goals first | rfl | (exfalso; omega)
theorem m_in {x : Int32} {lo hi : Int64} {a b : Int} (h1 : lo.toInt = a) (h2 : hi.toInt = b) : f_m_in x.toInt64 lo hi = some (if a ≤ x.toInt ∧ x.toInt ≤ b then 1 else 0) := by
  unfold f_m_in
  subst h1 h2
  simp only [lg_lt0, lg_gt0, Int32.toInt_toInt64]
  repeat' split
  all_goals first | rfl | (exfalso; omega)
theorem m_op (x : Int32) : f_m_in x.toInt64 0 3 = some (if isOp x then 1 else 0) := by
  rw [m_in (a := 0) (b := 3) rfl rfl]
  congr 1
  repeat' split
  all_goals first | rfl | (exfalso; omega)
theorem m_hour (x : Int32) : f_m_in x.toInt64 0 2 = some (if isHr x then 1 else 0) := by
  rw [m_in (a := 0) (b := 2) rfl rfl]
  congr 1
  repeat' split
  all_goals first | rfl | (exfalso; omega)
theorem m_mem {n m p : Int32} (h : iv_n n m) : f_m_isMember m p = some (if isMem n p then 1 else 0) := by
  obtain ⟨rfl, h1, h2⟩ := h
  unfold f_m_isMember
  rw [m_in (a := 0) (b := n.toInt - 1) rfl (by
    rw [Int32.toInt_toInt64, Int32.toInt_sub, show (1 : Int32).toInt = 1 from rfl, Int.bmod_eq_of_le (by omega) (by omega)])]
  rw [Option.bind_some]
  congr 1
  repeat' split
  all_goals first | rfl | exact nar1 | exact nar0 | (exfalso; omega)
theorem m_thr (t a b : Int32) : f_m_throwing t a b = some (if a = 0 then (if b = 0 then (0, 0) else (1, 2)) else (1, 1)) := by
  unfold f_m_throwing f_m_throwing_b18
  repeat' split
  all_goals first | rfl | (rename_i h; exact absurd h (by decide)) | (rename_i _ h; exact absurd h (by decide)) | (rename_i _ _ h; exact absurd h (by decide))
theorem mem6 {n m p : Int32} (h : iv_n n m) (hp : isMem n p) : ¬ (p < 0 ∨ 6 ≤ p.toNatClampNeg) := by
  obtain ⟨-, h1, h2⟩ := h
  exact ix_ok (by omega)
theorem opix {p : Int32} (hp : isOp p) : ¬ (p < 0 ∨ 4 ≤ p.toNatClampNeg) := ix_ok (by omega)
theorem updf {f : Nat → Int32} {k : Nat} {v : Int32} {j : Nat} : upd f k v j = if j = k then v else f j := rfl
/-- the number of the sealed ones -/
theorem m_ones {n m : Int32} (h : iv_n n m) (f : Nat → Int32) : f_m_sealedOnes m f = some (i3 (cntS f n.toInt.toNat)) := by
  obtain ⟨rfl, h1, h2⟩ := h
  unfold f_m_sealedOnes
  refine lp (fun k a => f_m_sealedOnes_L4 n f k (i3 (cntS f a)) (i3 a)) n.toInt.toNat _ (fun k a ha => ?_) (fun k => ?_) 1000 0 (by omega) (by omega)
  · show f_m_sealedOnes_L4 n f (k + 1) (i3 (cntS f a)) (i3 a) = f_m_sealedOnes_L4 n f k (i3 (cntS f (a + 1))) (i3 ((a + 1 : Nat) : Int))
    rw [f_m_sealedOnes_L4, if_neg (by rw [Int32.le_iff_toInt_le, i3_toInt (by omega)]; omega), if_neg (ix_i3 (by omega)), i3_cl (by omega), Int.toNat_natCast]
    rw [show cntS f (a + 1) = cntS f a + (if f a = 0 then 0 else 1) from rfl]
    split
    · rw [show (0 : Int32) = i3 0 from rfl, show (1 : Int32) = i3 1 from rfl, i3_add, i3_add]; rfl
    · rw [show (1 : Int32) = i3 1 from rfl, i3_add, i3_add]; rfl
  · show f_m_sealedOnes_L4 n f (k + 1) (i3 (cntS f n.toInt.toNat)) (i3 ((n.toInt.toNat : Nat) : Int)) = _
    rw [f_m_sealedOnes_L4, if_pos (by rw [Int32.le_iff_toInt_le, i3_toInt (by omega)]; omega)]
theorem cntS_upd {f : Nat → Int32} {k : Nat} {v : Int32} (h0 : f k = 0) (hv : ¬ v = 0) : ∀ n : Nat, cntS (upd f k v) n = cntS f n + (if k < n then 1 else 0)
  | 0 => rfl
  | n + 1 => by
    show cntS (upd f k v) n + _ = cntS f n + _ + _
    rw [cntS_upd h0 hv n]
    show cntS f n + (if k < n then (1 : Int) else 0) + (if upd f k v n = 0 then (0 : Int) else 1) = cntS f n + (if f n = 0 then (0 : Int) else 1) + (if k < n + 1 then (1 : Int) else 0)
    rw [updf]
    by_cases hk : n = k
    · subst hk
      rw [if_pos rfl, if_neg hv, h0, if_pos rfl, if_neg (by omega), if_pos (by omega)]
    · rw [if_neg hk]
      by_cases hk2 : k < n
      · rw [if_pos hk2, if_pos (show k < n + 1 by omega)]
        omega
      · rw [if_neg hk2, if_neg (show ¬ k < n + 1 by omega)]
        omega
theorem updL0 {f : Nat → Int64} {v : Int64} : vp_updL f 0 v 0 = v := rfl
theorem step_seal (x : SX) (m : SM) (a1 : Int32) (hI : Inv x m) : ∃ c x' m', St_seal x m a1 c x' m' ∧ Inv x' m' := by
  obtain ⟨hn, hc, ⟨hs1, hs2, hs3⟩, hm, hb, hr, ht, hv, ho⟩ := hI
  by_cases h1 : isMem x.x_members a1
  · have hix := mem6 hn h1
    by_cases h2 : x.x_isSealed a1.toNatClampNeg = 0
    · have hx : f_law_seal x.x_members x.x_isSealed x.x_sealedCount m.m_out a1 = some (0, upd x.x_isSealed a1.toNatClampNeg 1, x.x_sealedCount + 1, vp_updL m.m_out 0 (Int32.toInt64 (x.x_sealedCount + 1))) := by
        simp only [f_law_seal, f_x_seal, x_mem, if_pos h1, Option.bind_some, if_neg n10, if_neg hix, if_pos h2, nar1, ite_true]
      have hm' : f_m_seal m.m_thrown m.m_n m.m_sealed a1 = some (x.x_sealedCount + 1, 0, upd m.m_sealed a1.toNatClampNeg 1) := by
        simp only [f_m_seal, f_m_seal_b13, f_m_seal_b33, f_m_seal_b34, m_mem hn, if_pos h1, Option.bind_some, if_neg n10, if_neg hix, ← hs2, if_pos h2, m_thr, nar1, ite_true, m_ones hn]
        rw [cntS_upd h2 n10, if_pos (show a1.toNatClampNeg < x.x_members.toInt.toNat by show a1.toInt.toNat < _; omega), ← i3_add, ← hs3]
        rfl
      refine ⟨_, _, _, ⟨_, _, hx, hm', rfl, fun _ => rfl, rfl, rfl, rfl⟩, Inv_mk hn hc ⟨hs1, ?_, ?_⟩ hm hb ?_ ht hv ho⟩
      · show upd x.x_isSealed _ 1 = upd m.m_sealed _ 1
        rw [hs2]
      · show x.x_sealedCount + 1 = i3 (cntS (upd x.x_isSealed a1.toNatClampNeg 1) x.x_members.toInt.toNat)
        rw [cntS_upd h2 n10, if_pos (show a1.toNatClampNeg < x.x_members.toInt.toNat by show a1.toInt.toNat < _; omega), ← i3_add, ← hs3]
        rfl
      · obtain ⟨r1, r2, r3, r4, r5⟩ := hr
        refine ⟨r1, r2, r3, r4, fun q p hp => ?_⟩
        show upd x.x_isSealed a1.toNatClampNeg 1 p ≠ 0
        rw [updf]
        split
        · exact n10
        · exact r5 q p hp
    · have hx : f_law_seal x.x_members x.x_isSealed x.x_sealedCount m.m_out a1 = some (2, x.x_isSealed, x.x_sealedCount, m.m_out) := by
        simp only [f_law_seal, f_x_seal, x_mem, if_pos h1, Option.bind_some, if_neg n10, if_neg hix, if_neg h2, if_neg k20, if_neg k21]
      have hm' : f_m_seal m.m_thrown m.m_n m.m_sealed a1 = some (0, 2, m.m_sealed) := by
        simp only [f_m_seal, f_m_seal_b13, f_m_seal_b33, f_m_seal_b34, m_mem hn, if_pos h1, Option.bind_some, if_neg n10, if_neg hix, ← hs2, if_neg h2, m_thr, nar1, ite_true]
      exact ⟨_, _, _, ⟨_, _, hx, hm', rfl, fun q => absurd q n20, rfl, rfl, rfl⟩, Inv_mk hn hc ⟨hs1, hs2, hs3⟩ hm hb hr ht hv ho⟩
  · have hx : f_law_seal x.x_members x.x_isSealed x.x_sealedCount m.m_out a1 = some (1, x.x_isSealed, x.x_sealedCount, m.m_out) := by
      simp only [f_law_seal, f_x_seal, x_mem, if_neg h1, Option.bind_some, if_neg k10, ite_true]
    have hm' : f_m_seal m.m_thrown m.m_n m.m_sealed a1 = some (0, 1, m.m_sealed) := by
      simp only [f_m_seal, f_m_seal_b13, f_m_seal_b33, f_m_seal_b34, m_mem hn, if_neg h1, Option.bind_some, if_neg n10, m_thr, ite_true]
    exact ⟨_, _, _, ⟨_, _, hx, hm', rfl, fun q => absurd q n10, rfl, rfl, rfl⟩, Inv_mk hn hc ⟨hs1, hs2, hs3⟩ hm hb hr ht hv ho⟩
