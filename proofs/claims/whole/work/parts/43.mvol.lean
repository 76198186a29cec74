/-! The reference's volumes and prices. -/
theorem bitF : ∀ S : Fin 256, ∀ k : Fin 8, ((Int32.ofInt S.val >>> (Int32.ofInt k.val &&& 31)) &&& 1) = (if S.val.testBit k.val then 1 else 0) := by decide +kernel
theorem bitN {S k : Nat} (hS : S < 256) (hk : k < 8) : ((i3 S >>> (i3 k &&& 31)) &&& 1) = (if S.testBit k = true then 1 else 0) := bitF ⟨S, hS⟩ ⟨k, hk⟩
theorem sumE_smN {f : En → Int} : ∀ L : List En, sumE f L = smN (fun k => f (L.getD k en_0)) L.length
  | [] => rfl
  | a :: t => by
    have sh : ∀ (g : Nat → Int) (n : Nat), smN g (n + 1) = g 0 + smN (fun k => g (k + 1)) n := by
      intro g n
      induction n with
      | zero => show 0 + g 0 = g 0 + 0; omega
      | succ n ih =>
        show smN g (n + 1) + g (n + 1) = g 0 + (smN (fun k => g (k + 1)) n + g (n + 1))
        rw [ih]
        omega
    show f a + sumE f t = smN (fun k => f ((a :: t).getD k en_0)) (t.length + 1)
    rw [sh, sumE_smN t]
    rfl
/-- the orders and blocks that the reference has gathered -/
def mOrd (hs d q l oe : Nat → Int32) (O : List En) : Prop := ∀ k : Nat, k < O.length → (0 ≤ (oe k).toInt ∧ (oe k).toInt < 240) ∧ (d (oe k).toNatClampNeg).toInt = en_d (O.getD k en_0) ∧ (hs (oe k).toNatClampNeg).toInt = en_w (O.getD k en_0) ∧ (q (oe k).toNatClampNeg).toInt = en_q (O.getD k en_0) ∧ (l (oe k).toNatClampNeg).toInt = en_l (O.getD k en_0)
def mBlk (hs d q l be : Nat → Int32) (B : List En) : Prop := ∀ k : Nat, k < B.length → (0 ≤ (be k).toInt ∧ (be k).toInt < 240) ∧ (d (be k).toNatClampNeg).toInt = en_d (B.getD k en_0) ∧ (hs (be k).toNatClampNeg).toInt + 100 = en_w (B.getD k en_0) ∧ (q (be k).toNatClampNeg).toInt = en_q (B.getD k en_0) ∧ (l (be k).toNatClampNeg).toInt = en_l (B.getD k en_0)
theorem en_okW {e : En} (h : en_ok e) : okW (en_w e) := h.2.2.2
theorem m_vO {hs d q l oe be : Nat → Int32} {O : List En} (hO : okO O) (hG : mOrd hs d q l oe O) {nb : Int32} {h : Nat} (hh : h < 3) {x s : Int} (hx : -5001 ≤ x ∧ x ≤ 40001) (hs01 : s = 0 ∨ s = 1) {m : Bool} {M : Int32} (hM : M = if m = true then 1 else 0) (V : Int) :
    f_m_volume_L85 hs d q l oe (i3 O.length) be nb (i3 h) (i3 x) (i3 s) M 1000 (i3 V) 0 = some (i3 (V + ordV O h s x m)) := by
  have hlen := hO.2
  unfold ordV
  rw [sumE_smN]
  have key : ∀ n a : Nat, a ≤ O.length → O.length - a < n → f_m_volume_L85 hs d q l oe (i3 O.length) be nb (i3 h) (i3 x) (i3 s) M n (i3 (V + smN (fun k => if en_d (O.getD k en_0) = s ∧ en_w (O.getD k en_0) = h ∧ ((if s = 0 then x < en_l (O.getD k en_0) else en_l (O.getD k en_0) < x) ∨ (m = true ∧ en_l (O.getD k en_0) = x)) then en_q (O.getD k en_0) else 0) a)) (i3 a) = some (i3 (V + smN (fun k => if en_d (O.getD k en_0) = s ∧ en_w (O.getD k en_0) = h ∧ ((if s = 0 then x < en_l (O.getD k en_0) else en_l (O.getD k en_0) < x) ∨ (m = true ∧ en_l (O.getD k en_0) = x)) then en_q (O.getD k en_0) else 0) O.length)) := by
    refine lp (fun n a => f_m_volume_L85 hs d q l oe (i3 O.length) be nb (i3 h) (i3 x) (i3 s) M n (i3 (V + smN (fun k => if en_d (O.getD k en_0) = s ∧ en_w (O.getD k en_0) = h ∧ ((if s = 0 then x < en_l (O.getD k en_0) else en_l (O.getD k en_0) < x) ∨ (m = true ∧ en_l (O.getD k en_0) = x)) then en_q (O.getD k en_0) else 0) a)) (i3 a)) O.length _ ?_ ?_
    · intro n a ha
      obtain ⟨g1, g2, g3, g4, g5⟩ := hG a ha
      have hmem := getD_mem ha
      obtain ⟨⟨-, k2, k3, -⟩, k5⟩ := hO.1 _ hmem
      have c1 : ¬ i3 (O.length : Nat) ≤ i3 a := by rw [i3_le (by omega)]; omega
      have c2 : ¬ (i3 (a : Nat) < 0 ∨ 60 ≤ (i3 (a : Nat)).toNatClampNeg) := ix_n (by omega) (by omega)
      have c3 : ¬ (oe a < 0 ∨ 240 ≤ (oe a).toNatClampNeg) := ix_ok (by omega)
      have e1 : d (oe a).toNatClampNeg = i3 s ↔ en_d (O.getD a en_0) = s := by rw [i3n _ (by omega), g2]
      have e2 : hs (oe a).toNatClampNeg = i3 h ↔ en_w (O.getD a en_0) = h := by rw [i3n _ (by omega), g3]
      have e3 : l (oe a).toNatClampNeg = i3 x ↔ en_l (O.getD a en_0) = x := by rw [i3n _ (by omega), g5]
      have e4 : l (oe a).toNatClampNeg ≤ i3 x ↔ en_l (O.getD a en_0) ≤ x := by rw [Int32.le_iff_toInt_le, i3_toInt (by omega), g5]
      have e5 : l (oe a).toNatClampNeg < i3 x ↔ en_l (O.getD a en_0) < x := by rw [Int32.lt_iff_toInt_lt, i3_toInt (by omega), g5]
      have eq' : q (oe a).toNatClampNeg = i3 (en_q (O.getD a en_0)) := by rw [i3_of (q (oe a).toNatClampNeg), g4]
      show f_m_volume_L85 hs d q l oe (i3 O.length) be nb (i3 h) (i3 x) (i3 s) M (n + 1) (i3 (V + smN _ a)) (i3 a) = f_m_volume_L85 hs d q l oe (i3 O.length) be nb (i3 h) (i3 x) (i3 s) M n (i3 (V + (smN _ a + (if en_d (O.getD a en_0) = s ∧ en_w (O.getD a en_0) = h ∧ ((if s = 0 then x < en_l (O.getD a en_0) else en_l (O.getD a en_0) < x) ∨ (m = true ∧ en_l (O.getD a en_0) = x)) then en_q (O.getD a en_0) else 0)))) (i3 ((a + 1 : Nat) : Int))
      generalize smN (fun k => if en_d (O.getD k en_0) = s ∧ en_w (O.getD k en_0) = h ∧ ((if s = 0 then x < en_l (O.getD k en_0) else en_l (O.getD k en_0) < x) ∨ (m = true ∧ en_l (O.getD k en_0) = x)) then en_q (O.getD k en_0) else 0) a = A
      rw [f_m_volume_L85, if_neg c1, if_neg c2, cl_n (by omega), if_neg c3]
      have yes : f_m_volume_b172 hs d q l oe (i3 O.length) be nb (i3 h) (i3 x) (i3 s) M (f_m_volume_L85 hs d q l oe (i3 O.length) be nb (i3 h) (i3 x) (i3 s) M n) (i3 (V + A)) (i3 a) (oe a) = f_m_volume_L85 hs d q l oe (i3 O.length) be nb (i3 h) (i3 x) (i3 s) M n (i3 (V + (A + en_q (O.getD a en_0)))) (i3 ((a + 1 : Nat) : Int)) := by
        unfold f_m_volume_b172 f_m_volume_b177
        rw [if_neg n10, if_neg c3, eq', i3_add, i3s, Int.add_assoc]
      have no : f_m_volume_b176 hs d q l oe (i3 O.length) be nb (i3 h) (i3 x) (i3 s) M (f_m_volume_L85 hs d q l oe (i3 O.length) be nb (i3 h) (i3 x) (i3 s) M n) (i3 (V + A)) (i3 a) (oe a) = f_m_volume_L85 hs d q l oe (i3 O.length) be nb (i3 h) (i3 x) (i3 s) M n (i3 (V + (A + 0))) (i3 ((a + 1 : Nat) : Int)) := by
        unfold f_m_volume_b176 f_m_volume_b177
        rw [if_pos rfl, i3s, Int.add_zero, Int32.add_zero]
      have mid : f_m_volume_b156 hs d q l oe (i3 O.length) be nb (i3 h) (i3 x) (i3 s) M (f_m_volume_L85 hs d q l oe (i3 O.length) be nb (i3 h) (i3 x) (i3 s) M n) (i3 (V + A)) (i3 a) (oe a) = f_m_volume_L85 hs d q l oe (i3 O.length) be nb (i3 h) (i3 x) (i3 s) M n (i3 (V + (A + if m = true ∧ en_l (O.getD a en_0) = x then en_q (O.getD a en_0) else 0))) (i3 ((a + 1 : Nat) : Int)) := by
        unfold f_m_volume_b156
        by_cases z1 : m = true
        · have hM1 : M = 1 := by rw [hM, if_pos z1]
          rw [if_neg (show ¬ M = 0 by rw [hM1]; decide), if_neg c3]
          by_cases z2 : en_l (O.getD a en_0) = x
          · rw [if_pos (e3.mpr z2), yes, if_pos ⟨z1, z2⟩]
          · rw [if_neg (fun y => z2 (e3.mp y)), no, if_neg (fun y => z2 y.2)]
        · rw [if_pos (show M = 0 by rw [hM, if_neg z1]), no, if_neg (fun y => z1 y.1)]
      by_cases z1 : en_d (O.getD a en_0) = s
      · rw [if_pos (e1.mpr z1)]
        by_cases z2 : en_w (O.getD a en_0) = h
        · rw [if_pos (e2.mpr z2)]
          rcases hs01 with rfl | rfl
          · rw [if_pos (show i3 0 = 0 from rfl)]
            by_cases z3 : en_l (O.getD a en_0) ≤ x
            · rw [if_pos (e4.mpr z3), mid]
              congr 4
              refine ifc ⟨fun y => ⟨z1, z2, Or.inr y⟩, ?_⟩
              rintro ⟨-, -, y | y⟩
              · rw [if_pos rfl] at y
                omega
              · exact y
            · rw [if_neg (fun y => z3 (e4.mp y)), yes, if_pos]
              exact ⟨z1, z2, Or.inl (by rw [if_pos rfl]; omega)⟩
          · rw [if_neg (show ¬ i3 1 = 0 by decide)]
            by_cases z3 : en_l (O.getD a en_0) < x
            · rw [if_pos (e5.mpr z3), yes, if_pos]
              exact ⟨z1, z2, Or.inl (by rw [if_neg (by decide)]; exact z3)⟩
            · rw [if_neg (fun y => z3 (e5.mp y)), mid]
              congr 4
              refine ifc ⟨fun y => ⟨z1, z2, Or.inr y⟩, ?_⟩
              rintro ⟨-, -, y | y⟩
              · rw [if_neg (by decide)] at y
                exact absurd y z3
              · exact y
        · rw [if_neg (fun y => z2 (e2.mp y)), no, if_neg (fun y => z2 y.2.1)]
      · rw [if_neg (fun y => z1 (e1.mp y)), no, if_neg (fun y => z1 y.1)]
    · intro n
      show f_m_volume_L85 hs d q l oe (i3 O.length) be nb (i3 h) (i3 x) (i3 s) M (n + 1) _ (i3 (O.length : Nat)) = _
      rw [f_m_volume_L85, if_pos (by rw [i3_le (by omega)]; omega)]
  have k0 := key 1000 0 (by omega) (by omega)
  rw [show smN (fun k => if en_d (O.getD k en_0) = s ∧ en_w (O.getD k en_0) = h ∧ ((if s = 0 then x < en_l (O.getD k en_0) else en_l (O.getD k en_0) < x) ∨ (m = true ∧ en_l (O.getD k en_0) = x)) then en_q (O.getD k en_0) else 0) 0 = 0 from rfl, Int.add_zero] at k0
  exact k0
theorem m_vol {hs d q l oe be : Nat → Int32} {B O : List En} (hB : okB B) (hO : okO O) (hG : mOrd hs d q l oe O) (hG' : mBlk hs d q l be B) {S h : Nat} (hS : S < 256) (hh : h < 3) {x s : Int} (hx : -5001 ≤ x ∧ x ≤ 40001) (hs01 : s = 0 ∨ s = 1) {m : Bool} {M : Int32} (hM : M = if m = true then 1 else 0) :
    f_m_volume hs d q l oe (i3 O.length) be (i3 B.length) (i3 S) (i3 h) (i3 x) (i3 s) M = some (i3 (vol B O S h s x m)) := by
  have hlen := hB.2
  unfold f_m_volume vol blkV
  refine lp (fun n a => f_m_volume_L6 hs d q l oe (i3 O.length) be (i3 B.length) (i3 S) (i3 h) (i3 x) (i3 s) M n (i3 (smN (fun k => if S.testBit k = true ∧ en_d (B.getD k en_0) = s ∧ cov (B.getD k en_0) h then en_q (B.getD k en_0) else 0) a)) (i3 a)) B.length _ ?_ ?_ 1000 0 (by omega) (by omega)
  · intro n a ha
    obtain ⟨g1, g2, g3, g4, g5⟩ := hG' a ha
    have hmem := getD_mem ha
    obtain ⟨⟨k1, k2, k3, k4⟩, k5⟩ := hB.1 _ hmem
    have c1 : ¬ i3 (B.length : Nat) ≤ i3 a := by rw [i3_le (by omega)]; omega
    have c2 : ¬ (i3 (a : Nat) < 0 ∨ 8 ≤ (i3 (a : Nat)).toNatClampNeg) := ix_n (by omega) (by omega)
    have c3 : ¬ (be a < 0 ∨ 240 ≤ (be a).toNatClampNeg) := ix_ok (by omega)
    have e1 : d (be a).toNatClampNeg = i3 s ↔ en_d (B.getD a en_0) = s := by rw [i3n _ (by omega), g2]
    have eq' : q (be a).toNatClampNeg = i3 (en_q (B.getD a en_0)) := by rw [i3_of (q (be a).toNatClampNeg), g4]
    show f_m_volume_L6 hs d q l oe (i3 O.length) be (i3 B.length) (i3 S) (i3 h) (i3 x) (i3 s) M (n + 1) (i3 (smN _ a)) (i3 a) = f_m_volume_L6 hs d q l oe (i3 O.length) be (i3 B.length) (i3 S) (i3 h) (i3 x) (i3 s) M n (i3 (smN _ a + (if S.testBit a = true ∧ en_d (B.getD a en_0) = s ∧ cov (B.getD a en_0) h then en_q (B.getD a en_0) else 0))) (i3 ((a + 1 : Nat) : Int))
    generalize smN (fun k => if S.testBit k = true ∧ en_d (B.getD k en_0) = s ∧ cov (B.getD k en_0) h then en_q (B.getD k en_0) else 0) a = A
    rw [f_m_volume_L6, if_neg c1, if_neg c2, cl_n (by omega), bitN hS (by omega), i3s, Int32.add_zero, if_neg c3]
    by_cases z0 : S.testBit a = true
    · rw [if_pos z0, if_pos rfl]
      by_cases z1 : en_d (B.getD a en_0) = s
      · rw [if_pos (e1.mpr z1), m_cov (by omega) (by rw [g3]; exact k4), Option.bind_some, g3, i3_toInt (by omega)]
        by_cases z2 : fsH (en_w (B.getD a en_0)) ≤ (h : Int) ∧ (h : Int) ≤ lsH (en_w (B.getD a en_0))
        · rw [if_pos z2, if_neg n10, if_pos ⟨z0, z1, z2⟩, eq', i3_add]
        · rw [if_neg z2, if_pos rfl, if_neg (fun y => z2 y.2.2), Int.add_zero]
      · rw [if_neg (fun y => z1 (e1.mp y)), if_neg (fun y => z1 y.2.1), Int.add_zero]
    · rw [if_neg z0, if_neg (by decide), if_neg (fun y => z0 y.1), Int.add_zero]
  · intro n
    show f_m_volume_L6 hs d q l oe (i3 O.length) be (i3 B.length) (i3 S) (i3 h) (i3 x) (i3 s) M (n + 1) _ (i3 (B.length : Nat)) = _
    rw [f_m_volume_L6, if_pos (by rw [i3_le (by omega)]; omega)]
    exact m_vO hO hG hh hx hs01 hM _
theorem m_lo {hs d q l oe be : Nat → Int32} {B O : List En} (hB : okB B) (hO : okO O) (hG : mOrd hs d q l oe O) (hG' : mBlk hs d q l be B) {S h : Nat} (hS : S < 256) (hh : h < 3) :
    f_m_least hs d q l oe (i3 O.length) be (i3 B.length) (i3 S) (i3 h) = some (i3 (sp_lo B O S h)) := by
  have key : ∀ (n f : Nat) (a b : Int), n < f → -5000 ≤ a → a ≤ b → b ≤ 40001 → b - a < 2 ^ n → (∀ y, -5000 ≤ y → y < a → pLo B O S h y = false) → (b ≤ 40000 → pLo B O S h b = true) → f_m_least_L8 hs d q l oe (i3 O.length) be (i3 B.length) (i3 S) (i3 h) f (i3 a) (i3 b) = some (i3 (sp_lo B O S h)) := by
    intro n
    induction n with
    | zero =>
      intro f a b hf h1 h2 h3 h4 h5 h6
      obtain ⟨f, rfl⟩ : ∃ g, f = g + 1 := ⟨f - 1, by omega⟩
      have hab : a = b := by have : (2 : Int) ^ 0 = 1 := rfl; omega
      subst hab
      rw [f_m_least_L8, if_pos (by rw [i3_le (by omega)]; omega), lo_eq h1 h3 h5 h6]
    | succ n ih =>
      intro f a b hf h1 h2 h3 h4 h5 h6
      obtain ⟨f, rfl⟩ : ∃ g, f = g + 1 := ⟨f - 1, by omega⟩
      by_cases hab : a = b
      · subst hab
        rw [f_m_least_L8, if_pos (by rw [i3_le (by omega)]; omega), lo_eq h1 h3 h5 h6]
      · have hp : (2 : Int) ^ (n + 1) = 2 * 2 ^ n := by rw [Int.pow_succ]; omega
        have ex : i3 a + (i3 b - i3 a) / 2 = i3 (a + (b - a) / 2) := by
          rw [i3_sub, show (2 : Int32) = i3 2 from rfl, i3_div (by omega), i3_add, Int.tdiv_eq_ediv_of_nonneg (by omega)]
        have v1 := m_vol hB hO hG hG' hS hh (x := a + (b - a) / 2) (s := 0) (by omega) (Or.inl rfl) (m := false) (M := 0) rfl
        have v2 := m_vol hB hO hG hG' hS hh (x := a + (b - a) / 2) (s := 1) (by omega) (Or.inr rfl) (m := true) (M := 1) rfl
        have b1 := vol_bd hB hO S h 0 (a + (b - a) / 2) false
        have b2 := vol_bd hB hO S h 1 (a + (b - a) / 2) true
        rw [f_m_least_L8, if_neg (by rw [i3_le (by omega)]; omega), ex]
        rw [show (0 : Int32) = i3 0 from rfl, show (1 : Int32) = i3 1 from rfl] at *
        rw [v1, Option.bind_some, v2, Option.bind_some]
        by_cases z : pLo B O S h (a + (b - a) / 2) = true
        · have z' : vol B O S h 0 (a + (b - a) / 2) false ≤ vol B O S h 1 (a + (b - a) / 2) true := of_decide_eq_true z
          rw [if_neg (by rw [i3_lt (by omega)]; omega)]
          exact ih f a (a + (b - a) / 2) (by omega) h1 (by omega) (by omega) (by omega) h5 (fun _ => z)
        · have z' : ¬ vol B O S h 0 (a + (b - a) / 2) false ≤ vol B O S h 1 (a + (b - a) / 2) true := fun y => z (decide_eq_true y)
          rw [if_pos (by rw [i3_lt (by omega)]; omega), i3_add]
          refine ih f (a + (b - a) / 2 + 1) b (by omega) (by omega) (by omega) h3 (by omega) (fun y y1 y2 => ?_) h6
          by_cases u : pLo B O S h y = true
          · exact absurd (pLo_up hO (by omega) u) z
          · exact Bool.not_eq_true _ ▸ u
  unfold f_m_least
  refine key 16 1000 (-5000) 40001 (by omega) (by omega) (by omega) (by omega) (by decide) (fun y y1 y2 => by omega) (fun z => by omega)
theorem m_hi {hs d q l oe be : Nat → Int32} {B O : List En} (hB : okB B) (hO : okO O) (hG : mOrd hs d q l oe O) (hG' : mBlk hs d q l be B) {S h : Nat} (hS : S < 256) (hh : h < 3) :
    f_m_greatest hs d q l oe (i3 O.length) be (i3 B.length) (i3 S) (i3 h) = some (i3 (sp_hi B O S h)) := by
  have key : ∀ (n f : Nat) (a b : Int), n < f → -5001 ≤ a → a ≤ b → b ≤ 40000 → b - a < 2 ^ n → (∀ y, y ≤ 40000 → b < y → pHi B O S h y = false) → (-5000 ≤ a → pHi B O S h a = true) → f_m_greatest_L8 hs d q l oe (i3 O.length) be (i3 B.length) (i3 S) (i3 h) f (i3 a) (i3 b) = some (i3 (sp_hi B O S h)) := by
    intro n
    induction n with
    | zero =>
      intro f a b hf h1 h2 h3 h4 h5 h6
      obtain ⟨f, rfl⟩ : ∃ g, f = g + 1 := ⟨f - 1, by omega⟩
      have hab : a = b := by have : (2 : Int) ^ 0 = 1 := rfl; omega
      subst hab
      rw [f_m_greatest_L8, if_pos (by rw [i3_le (by omega)]; omega), hi_eq h1 h3 h5 h6]
    | succ n ih =>
      intro f a b hf h1 h2 h3 h4 h5 h6
      obtain ⟨f, rfl⟩ : ∃ g, f = g + 1 := ⟨f - 1, by omega⟩
      by_cases hab : a = b
      · subst hab
        rw [f_m_greatest_L8, if_pos (by rw [i3_le (by omega)]; omega), hi_eq h1 h3 h5 h6]
      · have hp : (2 : Int) ^ (n + 1) = 2 * 2 ^ n := by rw [Int.pow_succ]; omega
        have ex : i3 a + (i3 b - i3 a + 1) / 2 = i3 (a + (b - a + 1) / 2) := by
          rw [i3_sub, show (2 : Int32) = i3 2 from rfl, show (1 : Int32) = i3 1 from rfl, i3_add, i3_div (by omega), i3_add, Int.tdiv_eq_ediv_of_nonneg (by omega)]
        have v1 := m_vol hB hO hG hG' hS hh (x := a + (b - a + 1) / 2) (s := 1) (by omega) (Or.inr rfl) (m := false) (M := 0) rfl
        have v2 := m_vol hB hO hG hG' hS hh (x := a + (b - a + 1) / 2) (s := 0) (by omega) (Or.inl rfl) (m := true) (M := 1) rfl
        have b1 := vol_bd hB hO S h 1 (a + (b - a + 1) / 2) false
        have b2 := vol_bd hB hO S h 0 (a + (b - a + 1) / 2) true
        rw [f_m_greatest_L8, if_neg (by rw [i3_le (by omega)]; omega), ex]
        rw [show (0 : Int32) = i3 0 from rfl, show (1 : Int32) = i3 1 from rfl] at *
        rw [v1, Option.bind_some, v2, Option.bind_some]
        by_cases z : pHi B O S h (a + (b - a + 1) / 2) = true
        · have z' : vol B O S h 1 (a + (b - a + 1) / 2) false ≤ vol B O S h 0 (a + (b - a + 1) / 2) true := of_decide_eq_true z
          rw [if_neg (by rw [i3_lt (by omega)]; omega)]
          exact ih f (a + (b - a + 1) / 2) b (by omega) (by omega) (by omega) h3 (by omega) h5 (fun _ => z)
        · have z' : ¬ vol B O S h 1 (a + (b - a + 1) / 2) false ≤ vol B O S h 0 (a + (b - a + 1) / 2) true := fun y => z (decide_eq_true y)
          rw [if_pos (by rw [i3_lt (by omega)]; omega), i3_sub]
          refine ih f a (a + (b - a + 1) / 2 - 1) (by omega) h1 (by omega) (by omega) (by omega) (fun y y1 y2 => ?_) h6
          by_cases u : pHi B O S h y = true
          · exact absurd (pHi_dn hO (by omega) u) z
          · exact Bool.not_eq_true _ ▸ u
  unfold f_m_greatest
  refine key 16 1000 (-5001) 40000 (by omega) (by omega) (by omega) (by omega) (by decide) (fun y y1 y2 => by omega) (fun z => by omega)
theorem m_half {z : Int} (hz : -1000000 ≤ z ∧ z ≤ 1000000) : f_m_floorHalf (i3 z) = some (i3 (z / 2)) := by
  unfold f_m_floorHalf
  by_cases h : z < 0
  · rw [if_pos (show i3 z < 0 from (i3_lt (b := 0) (by omega)).mpr h), show (1 : Int32) = i3 1 from rfl, show (2 : Int32) = i3 2 from rfl, i3_sub, i3_div (by omega), i3_neg, Int.tdiv_eq_ediv_of_nonneg (by omega)]
    congr 2
    omega
  · rw [if_neg (show ¬ i3 z < 0 from fun y => h ((i3_lt (b := 0) (by omega)).mp y)), show (2 : Int32) = i3 2 from rfl, i3_div (by omega), Int.tdiv_eq_ediv_of_nonneg (by omega)]
