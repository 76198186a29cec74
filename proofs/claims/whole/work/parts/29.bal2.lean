theorem upF_bd (P : Int → Bool) : ∀ (n : Nat) (x : Int), x ≤ upF P n x ∧ upF P n x ≤ x + n
  | 0, x => ⟨Int.le_refl _, by show x ≤ x + 0; omega⟩
  | n + 1, x => by
    unfold upF
    split
    · omega
    · have := upF_bd P n (x + 1)
      omega
theorem dnF_bd (P : Int → Bool) : ∀ (n : Nat) (x : Int), dnF P n x ≤ x ∧ x - n ≤ dnF P n x
  | 0, x => ⟨Int.le_refl _, by show x - 0 ≤ x; omega⟩
  | n + 1, x => by
    unfold dnF
    split
    · omega
    · have := dnF_bd P n (x - 1)
      omega
theorem sp_lo_bd (B O : List En) (S : Nat) (h : Int) : -5000 ≤ sp_lo B O S h ∧ sp_lo B O S h ≤ 40001 := by
  have := upF_bd (fun x => decide (vol B O S h 0 x false ≤ vol B O S h 1 x true)) 45001 (-5000)
  unfold sp_lo
  omega
theorem sp_hi_bd (B O : List En) (S : Nat) (h : Int) : -5001 ≤ sp_hi B O S h ∧ sp_hi B O S h ≤ 40000 := by
  have := dnF_bd (fun x => decide (vol B O S h 1 x false ≤ vol B O S h 0 x true)) 45001 40000
  unfold sp_hi
  omega
theorem sp_p_bd (B O : List En) (S : Nat) (h : Int) : -5001 ≤ sp_p B O S h ∧ sp_p B O S h ≤ 40000 := by
  have h1 := sp_lo_bd B O S h
  have h2 := sp_hi_bd B O S h
  unfold sp_p
  omega
/-- an account, hour by hour -/
def acN (pr me : Nat → Int32) (p : Nat) (N : Nat → Int64) : Nat → Int64
  | 0 => 0
  | h + 1 => acN pr me p N h + (Int32.toInt64 (pr h) * N h + (Int32.toInt64 (me (3 * p + h)) - N h) * (if lg_cmp (Int32.toInt64 (me (3 * p + h)) - N h) 0 ≤ 0 then Int32.toInt64 (pr h) + 50 else Int32.toInt64 (pr h) - 50))
theorem p50 {x : Int32} (h : -5001 ≤ x.toInt ∧ x.toInt ≤ 40000) : Int32.toInt64 (x + 50) = Int32.toInt64 x + 50 ∧ Int32.toInt64 (x - 50) = Int32.toInt64 x - 50 := by
  have e : x = i3 x.toInt := i3_of x
  generalize x.toInt = z at *
  subst e
  rw [show (50 : Int32) = i3 50 from rfl, show (50 : Int64) = i6 50 from rfl, i3_add, i3_sub, i3_long (by omega), i3_long (by omega), i3_long (by omega), i6_add, i6_sub]
  exact ⟨rfl, rfl⟩
theorem ix18 {n m a b : Int32} (hn : iv_n n m) (h1 : isMem n a) (h2 : isHr b) : ¬ (3 * a + b < 0 ∨ 18 ≤ (3 * a + b).toNatClampNeg) := by
  obtain ⟨-, n1, n2⟩ := hn
  exact ix_ok (by rw [show (3 : Int32) = i3 3 from rfl, lin (by omega)]; omega)
theorem cl18 {n m a b : Int32} (hn : iv_n n m) (h1 : isMem n a) (h2 : isHr b) : (3 * a + b).toNatClampNeg = 3 * a.toNatClampNeg + b.toNatClampNeg := by
  obtain ⟨-, n1, n2⟩ := hn
  rw [show (3 : Int32) = i3 3 from rfl, lin_cl (by omega)]
  show _ = 3 * a.toInt.toNat + b.toInt.toNat
  omega
theorem x_acc {n n' : Int32} {c w d v pr fl me : Nat → Int32} {o p : Int32} (hn : iv_n n n') (ho : isOp o) (hp : isMem n p) (N : Nat → Int64) (hN : ∀ h : Nat, h < 3 → f_x_soldLessBought c w d fl (v (6 * o + p).toNatClampNeg) p (i3 h) = some (N h)) (hpr : ∀ h : Nat, h < 3 → -5001 ≤ (pr h).toInt ∧ (pr h).toInt ≤ 40000) :
    f_x_accountOf me c w d v pr fl o p = some (acN pr me p.toNatClampNeg N 3) := by
  unfold f_x_accountOf
  rw [x_agreed hn ho hp, Option.bind_some, ← cl24 hn ho hp]
  refine lp (fun k h => f_x_accountOf_L17 me c w d v pr fl p k (v (6 * o + p).toNatClampNeg) (acN pr me p.toNatClampNeg N h) (i3 h)) 3 _ (fun k h hh => ?_) (fun k => ?_) 1000 0 (by omega) (by omega)
  · show f_x_accountOf_L17 me c w d v pr fl p (k + 1) (v (6 * o + p).toNatClampNeg) (acN pr me p.toNatClampNeg N h) (i3 h) = f_x_accountOf_L17 me c w d v pr fl p k (v (6 * o + p).toNatClampNeg) (acN pr me p.toNatClampNeg N h + (Int32.toInt64 (pr h) * N h + (Int32.toInt64 (me (3 * p.toNatClampNeg + h)) - N h) * (if lg_cmp (Int32.toInt64 (me (3 * p.toNatClampNeg + h)) - N h) 0 ≤ 0 then Int32.toInt64 (pr h) + 50 else Int32.toInt64 (pr h) - 50))) (i3 ((h + 1 : Nat) : Int))
    have hh3 : (i3 (h : Int)).toInt = h := i3_toInt (by omega)
    have hhc : (i3 (h : Int)).toNatClampNeg = h := by show (i3 (h : Int)).toInt.toNat = h; rw [hh3]; exact Int.toNat_natCast h
    have hH : isHr (i3 h) := by unfold isHr; rw [hh3]; omega
    have q := p50 (hpr h hh)
    have hi := ix18 hn hp hH
    have hcl := cl18 hn hp hH
    rw [hhc] at hcl
    have h3' := hr3 hH
    rw [f_x_accountOf_L17, if_neg (by rw [Int32.le_iff_toInt_le, hh3]; show ¬ (3 : Int) ≤ h; omega), hN h hh, Option.bind_some, if_neg hi, hcl]
    by_cases z : lg_cmp (Int32.toInt64 (me (3 * p.toNatClampNeg + h)) - N h) 0 ≤ 0
    · rw [if_pos z, if_pos z, if_neg h3']
      unfold f_x_accountOf_b84
      rw [if_neg h3', hhc, q.1, i3s, Int64.mul_comm (Int32.toInt64 (pr h) + 50)]
    · rw [if_neg z, if_neg z, if_neg h3']
      unfold f_x_accountOf_b84
      rw [if_neg h3', hhc, q.2, i3s, Int64.mul_comm (Int32.toInt64 (pr h) - 50)]
  · show f_x_accountOf_L17 me c w d v pr fl p (k + 1) (v (6 * o + p).toNatClampNeg) _ (i3 3) = _
    rw [f_x_accountOf_L17, if_pos (by decide)]
theorem m_acc {n n' : Int32} {c' ib hs d' v' mf me mp pr : Nat → Int32} {o p : Int32} (hn : iv_n n n') (ho : isOp o) (hp : isMem n p) (N : Nat → Int64) (hN : ∀ h : Nat, h < 3 → f_m_net c' ib hs d' v' mf o p (i3 h) = some (N h)) (hpr : ∀ h : Nat, h < 3 → mp (3 * o.toNatClampNeg + h) = pr h) :
    f_m_balanceOf c' ib hs d' v' me mp mf o p = some (acN pr me p.toNatClampNeg N 3) := by
  unfold f_m_balanceOf
  refine lp (fun k h => f_m_balanceOf_L5 c' ib hs d' v' me mp mf o p k (acN pr me p.toNatClampNeg N h) (i3 h)) 3 _ (fun k h hh => ?_) (fun k => ?_) 1000 0 (by omega) (by omega)
  · show f_m_balanceOf_L5 c' ib hs d' v' me mp mf o p (k + 1) (acN pr me p.toNatClampNeg N h) (i3 h) = f_m_balanceOf_L5 c' ib hs d' v' me mp mf o p k (acN pr me p.toNatClampNeg N h + (Int32.toInt64 (pr h) * N h + (Int32.toInt64 (me (3 * p.toNatClampNeg + h)) - N h) * (if lg_cmp (Int32.toInt64 (me (3 * p.toNatClampNeg + h)) - N h) 0 ≤ 0 then Int32.toInt64 (pr h) + 50 else Int32.toInt64 (pr h) - 50))) (i3 ((h + 1 : Nat) : Int))
    have hh3 : (i3 (h : Int)).toInt = h := i3_toInt (by omega)
    have hhc : (i3 (h : Int)).toNatClampNeg = h := by show (i3 (h : Int)).toInt.toNat = h; rw [hh3]; exact Int.toNat_natCast h
    have hH : isHr (i3 h) := by unfold isHr; rw [hh3]; omega
    have hi := ix18 hn hp hH
    have hcl := cl18 hn hp hH
    have hi2 := ix12 ho hH
    have hcl2 := cl12 ho hH
    rw [hhc] at hcl hcl2
    rw [f_m_balanceOf_L5, if_neg (by rw [Int32.le_iff_toInt_le, hh3]; show ¬ (3 : Int) ≤ h; omega), if_neg hi2, hN h hh, Option.bind_some, if_neg hi, hcl, hcl2, hpr h hh, i3s]
    by_cases z : lg_cmp (Int32.toInt64 (me (3 * p.toNatClampNeg + h)) - N h) 0 ≤ 0
    · rw [if_pos z, if_pos z]
    · rw [if_neg z, if_neg z]
  · show f_m_balanceOf_L5 c' ib hs d' v' me mp mf o p (k + 1) _ (i3 3) = _
    rw [f_m_balanceOf_L5, if_pos (by decide)]
