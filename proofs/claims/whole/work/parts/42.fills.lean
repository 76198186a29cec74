/-! What fills come to: the shares of a side, and the welfare of the orders. -/
abbrev atP (B O : List En) (S : Nat) (h s : Int) (e : En) : Prop := en_d e = s ∧ en_w e = h ∧ en_l e = sp_p B O S h
theorem all_eq {B O : List En} {S : Nat} {h s : Int} (hs : s = 0 ∨ s = 1) : sp_all B O S h s = sumE (fun e => if atP B O S h s e then en_q e else 0) O := by
  unfold sp_all vol
  have key : ordV O h s (sp_p B O S h) true = ordV O h s (sp_p B O S h) false + sumE (fun e => if atP B O S h s e then en_q e else 0) O := by
    rcases hs with rfl | rfl
    · rw [ordV_0, ordV_0, ← sumE_add]
      refine sumE_congr O (fun e _ => ?_)
      by_cases z : atP B O S h 0 e
      · rw [if_pos ⟨z.1, z.2.1, Or.inr ⟨rfl, z.2.2⟩⟩, if_pos z, if_neg, Int.zero_add]
        rintro ⟨-, -, y | ⟨y, -⟩⟩
        · have := z.2.2
          omega
        · cases y
      · rw [if_neg z, Int.add_zero]
        refine ifc ⟨?_, ?_⟩
        · rintro ⟨y1, y2, y3 | ⟨-, y3⟩⟩
          · exact ⟨y1, y2, Or.inl y3⟩
          · exact absurd ⟨y1, y2, y3⟩ z
        · rintro ⟨y1, y2, y3 | ⟨y3, -⟩⟩
          · exact ⟨y1, y2, Or.inl y3⟩
          · cases y3
    · rw [ordV_1, ordV_1, ← sumE_add]
      refine sumE_congr O (fun e _ => ?_)
      by_cases z : atP B O S h 1 e
      · rw [if_pos ⟨z.1, z.2.1, Or.inr ⟨rfl, z.2.2⟩⟩, if_pos z, if_neg, Int.zero_add]
        rintro ⟨-, -, y | ⟨y, -⟩⟩
        · have := z.2.2
          omega
        · cases y
      · rw [if_neg z, Int.add_zero]
        refine ifc ⟨?_, ?_⟩
        · rintro ⟨y1, y2, y3 | ⟨-, y3⟩⟩
          · exact ⟨y1, y2, Or.inl y3⟩
          · exact absurd ⟨y1, y2, y3⟩ z
        · rintro ⟨y1, y2, y3 | ⟨y3, -⟩⟩
          · exact ⟨y1, y2, Or.inl y3⟩
          · cases y3
  rw [key]
  omega
def remF (B O : List En) (S : Nat) (h s : Int) (e : En) : Int := if atP B O S h s e then en_q e * sp_sh B O S h s % sp_all B O S h s else -1
theorem rems_eq {B O : List En} {S : Nat} {h s : Int} : sp_rems B O S h s = RL O (remF B O S h s) := rfl
theorem pick_at {B O : List En} (hS : okS O) {S : Nat} {h s : Int} {n : Nat} {e : En} (he : e ∈ O) (hp : en_s e ∈ pkN n (sp_rems B O S h s)) : atP B O S h s e := by
  by_cases z : atP B O S h s e
  · exact z
  · refine absurd hp (pkN_not n _ (fun q hq hqx => ?_))
    obtain ⟨e1, he1, rfl⟩ := List.mem_map.mp hq
    have := okS_inj hS he1 he hqx
    subst this
    show (if atP B O S h s e1 then _ else (-1 : Int)) < 0
    rw [if_neg z]
    decide
theorem left_ok {B O : List En} (hO : okO O) {S : Nat} {h s : Int} (hs : s = 0 ∨ s = 1) (hm : sp_lo B O S h ≤ sp_hi B O S h) : 0 ≤ sp_left B O S h s ∧ sp_left B O S h s ≤ sumE (fun e => if 0 ≤ remF B O S h s e then 1 else 0) O := by
  have hb := sh_bd hO hm hs
  have := left_bd (O := O) (at' := atP B O S h s) (sh := sp_sh B O S h s) (fun e he => (hO.1 e he).1.2.1.1) hb.1 (by rw [← all_eq hs]; exact hb.2)
  rw [← all_eq hs] at this
  exact this
/-- the fills of the orders at the price are the share -/
theorem at_sum {B O : List En} (hO : okO O) (hS : okS O) {S : Nat} {h s : Int} (hs : s = 0 ∨ s = 1) (hm : sp_lo B O S h ≤ sp_hi B O S h) : sumE (fun e => if atP B O S h s e then sp_fill B O S e else 0) O = sp_sh B O S h s := by
  have hl := left_ok hO (S := S) hs hm
  have hc := pkN_cnt hS (sp_left B O S h s).toNat (remF B O S h s) (by omega)
  rw [← rems_eq] at hc
  have e1 : sumE (fun e => if atP B O S h s e then sp_fill B O S e else 0) O = sumE (fun e => if atP B O S h s e then en_q e * sp_sh B O S h s / sp_all B O S h s else 0) O + sumE (fun e => if en_s e ∈ pkN (sp_left B O S h s).toNat (sp_rems B O S h s) then 1 else 0) O := by
    rw [← sumE_add]
    refine sumE_congr O (fun e he => ?_)
    by_cases z : atP B O S h s e
    · rw [if_pos z, if_pos z]
      obtain ⟨z1, z2, z3⟩ := z
      unfold sp_fill
      rw [z1, z2, z3, if_neg (by split <;> omega), if_pos rfl]
    · rw [if_neg z, if_neg z, if_neg (fun y => z (pick_at hS he y))]
      rfl
  rw [e1, hc]
  have hdef : sp_left B O S h s = sp_sh B O S h s - sumE (fun e => if atP B O S h s e then en_q e * sp_sh B O S h s / sp_all B O S h s else 0) O := rfl
  omega
theorem fill_bd {B O : List En} (hO : okO O) {S : Nat} (hm : ∀ h : Nat, h < 3 → sp_lo B O S h ≤ sp_hi B O S h) {e : En} (he : e ∈ O) : 0 ≤ sp_fill B O S e ∧ sp_fill B O S e ≤ 1001 := by
  obtain ⟨⟨h1, h2, h3, h4⟩, h5⟩ := hO.1 e he
  unfold sp_fill
  by_cases z1 : (if en_d e = 0 then sp_p B O S (en_w e) < en_l e else en_l e < sp_p B O S (en_w e))
  · rw [if_pos z1]
    omega
  · rw [if_neg z1]
    by_cases z2 : en_l e = sp_p B O S (en_w e)
    · rw [if_pos z2]
      have hw : sp_lo B O S (en_w e) ≤ sp_hi B O S (en_w e) := by
        have h0 := hm 0 (by omega)
        have h1 := hm 1 (by omega)
        have h2 := hm 2 (by omega)
        rcases (show en_w e = 0 ∨ en_w e = 1 ∨ en_w e = 2 by omega) with w | w | w
        · rw [w]; exact h0
        · rw [w]; exact h1
        · rw [w]; exact h2
      have hb := sh_bd hO (S := S) (h := en_w e) hw (s := en_d e) h1
      have hall := all_eq (B := B) (O := O) (S := S) (h := en_w e) (s := en_d e) h1
      have hA : 0 ≤ sp_all B O S (en_w e) (en_d e) := by omega
      have hf0 : 0 ≤ en_q e * sp_sh B O S (en_w e) (en_d e) / sp_all B O S (en_w e) (en_d e) := Int.ediv_nonneg (Int.mul_nonneg (by omega) hb.1) hA
      have hf1 : en_q e * sp_sh B O S (en_w e) (en_d e) / sp_all B O S (en_w e) (en_d e) ≤ en_q e := by
        by_cases y : sp_all B O S (en_w e) (en_d e) = 0
        · rw [y, Int.ediv_zero]
          omega
        · refine Int.ediv_le_of_le_mul (by omega) ?_
          exact Int.mul_le_mul_of_nonneg_left hb.2 (by omega)
      split <;> omega
    · rw [if_neg z2]
      omega
theorem fl_sure {B O : List En} {S : Nat} {e : En} (h : if en_d e = 0 then sp_p B O S (en_w e) < en_l e else en_l e < sp_p B O S (en_w e)) : sp_fill B O S e = en_q e := if_pos h
theorem fl_none {B O : List En} {S : Nat} {e : En} (h : ¬ if en_d e = 0 then sp_p B O S (en_w e) < en_l e else en_l e < sp_p B O S (en_w e)) (h2 : ¬ en_l e = sp_p B O S (en_w e)) : sp_fill B O S e = 0 := by
  unfold sp_fill
  rw [if_neg h, if_neg h2]
/-- the welfare of the orders, summed by hours -/
theorem fill_w {B O : List En} (hO : okO O) (hS : okS O) {S : Nat} (hm : ∀ h : Nat, h < 3 → sp_lo B O S h ≤ sp_hi B O S h) : sumE (fun e => if en_d e = 0 then sp_fill B O S e * en_l e else -(sp_fill B O S e * en_l e)) O = smN (fun h => sp_hw B O S h) 3 := by
  have hour : ∀ h : Nat, h < 3 → sumE (fun e => if en_w e = (h : Int) then (if en_d e = 0 then sp_fill B O S e * en_l e else -(sp_fill B O S e * en_l e)) else 0) O = sp_hw B O S h := by
    intro h hh
    have a0 := at_sum hO hS (S := S) (h := h) (s := 0) (Or.inl rfl) (hm h hh)
    have a1 := at_sum hO hS (S := S) (h := h) (s := 1) (Or.inr rfl) (hm h hh)
    unfold sp_hw
    rw [← a0, ← a1, Int.mul_comm, ← sumE_mul, Int.mul_comm, ← sumE_mul, ← sumE_sub, ← sumE_sub, ← sumE_add]
    refine sumE_congr O (fun e he => ?_)
    obtain ⟨⟨h1, h2, h3, h4⟩, h5⟩ := hO.1 e he
    by_cases w : en_w e = (h : Int)
    · rw [if_pos w]
      rcases h1 with d | d
      · rw [if_pos d, if_neg (c := en_d e = 1 ∧ _) (by rintro ⟨y, -⟩; omega), if_neg (c := atP B O S h 1 e) (by rintro ⟨y, -⟩; omega), Int.mul_zero, Int.sub_zero, Int.sub_zero]
        by_cases z1 : sp_p B O S h < en_l e
        · rw [if_pos ⟨d, w, z1⟩, if_neg (c := atP B O S h 0 e) (by rintro ⟨-, -, y⟩; omega), Int.mul_zero, Int.add_zero]
          rw [fl_sure (by rw [w, if_pos d]; exact z1)]
        · rw [if_neg (c := en_d e = 0 ∧ _) (by rintro ⟨-, -, y⟩; omega), Int.zero_add]
          by_cases z2 : en_l e = sp_p B O S h
          · rw [if_pos ⟨d, w, z2⟩, z2, Int.mul_comm]
          · rw [if_neg (c := atP B O S h 0 e) (by rintro ⟨-, -, y⟩; omega), Int.mul_zero]
            rw [fl_none (by rw [w, if_pos d]; exact z1) (by rw [w]; exact z2), Int.zero_mul]
      · rw [if_neg (c := en_d e = 0) (by omega), if_neg (c := en_d e = 0 ∧ _) (by rintro ⟨y, -⟩; omega), if_neg (c := atP B O S h 0 e) (by rintro ⟨y, -⟩; omega), Int.mul_zero, Int.zero_sub, Int.zero_sub]
        by_cases z1 : en_l e < sp_p B O S h
        · rw [if_pos ⟨d, w, z1⟩, if_neg (c := atP B O S h 1 e) (by rintro ⟨-, -, y⟩; omega), Int.mul_zero, Int.neg_zero, Int.add_zero]
          rw [fl_sure (by rw [w, if_neg (by omega)]; exact z1)]
        · rw [if_neg (c := en_d e = 1 ∧ _) (by rintro ⟨-, -, y⟩; omega), Int.neg_zero, Int.zero_add]
          by_cases z2 : en_l e = sp_p B O S h
          · rw [if_pos ⟨d, w, z2⟩, z2, Int.mul_comm]
          · rw [if_neg (c := atP B O S h 1 e) (by rintro ⟨-, -, y⟩; omega), Int.mul_zero]
            rw [fl_none (by rw [w, if_neg (by omega)]; exact z1) (by rw [w]; exact z2), Int.zero_mul]
    · rw [if_neg w, if_neg (c := en_d e = 0 ∧ _) (by rintro ⟨-, y, -⟩; exact w y), if_neg (c := en_d e = 1 ∧ _) (by rintro ⟨-, y, -⟩; exact w y), if_neg (c := atP B O S h 0 e) (by rintro ⟨-, y, -⟩; exact w y), if_neg (c := atP B O S h 1 e) (by rintro ⟨-, y, -⟩; exact w y), Int.mul_zero]
      rfl
  show _ = (((0 + sp_hw B O S ((0 : Nat) : Int)) + sp_hw B O S ((1 : Nat) : Int)) + sp_hw B O S ((2 : Nat) : Int))
  rw [← hour 0 (by omega), ← hour 1 (by omega), ← hour 2 (by omega), Int.zero_add, ← sumE_add, ← sumE_add]
  refine sumE_congr O (fun e he => ?_)
  obtain ⟨⟨h1, h2, h3, h4⟩, h5⟩ := hO.1 e he
  generalize (if en_d e = 0 then sp_fill B O S e * en_l e else -(sp_fill B O S e * en_l e)) = T
  rcases (show en_w e = 0 ∨ en_w e = 1 ∨ en_w e = 2 by omega) with w | w | w
  · rw [if_pos (by rw [w]; rfl), if_neg (by rw [w]; decide), if_neg (by rw [w]; decide)]
    omega
  · rw [if_neg (by rw [w]; decide), if_pos (by rw [w]; rfl), if_neg (by rw [w]; decide)]
    omega
  · rw [if_neg (by rw [w]; decide), if_neg (by rw [w]; decide), if_pos (by rw [w]; rfl)]
    omega
