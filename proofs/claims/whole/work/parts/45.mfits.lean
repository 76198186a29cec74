/-! The reference tries a set of blocks. -/
theorem fill_ba {B O : List En} (hS : okS O) {S : Nat} {h s : Int} {e : En} (he : e ∈ O) (hm : mtc h s e) : sp_fill B O S e = baF B O S h s e + (if en_s e ∈ pkN (sp_left B O S h s).toNat (sp_rems B O S h s) then 1 else 0) := by
  obtain ⟨rfl, rfl⟩ := hm
  by_cases z1 : (if en_d e = 0 then sp_p B O S (en_w e) < en_l e else en_l e < sp_p B O S (en_w e))
  · rw [fl_sure z1, show baF B O S (en_w e) (en_d e) e = en_q e from if_pos z1, if_neg, Int.add_zero]
    intro y
    have := (pick_at hS he y).2.2
    rw [this] at z1
    split at z1 <;> omega
  · by_cases z2 : en_l e = sp_p B O S (en_w e)
    · unfold sp_fill baF
      rw [if_neg z1, if_neg z1, if_pos z2, if_pos z2]
    · rw [fl_none z1 z2, show baF B O S (en_w e) (en_d e) e = 0 by unfold baF; rw [if_neg z1, if_neg z2], if_neg]
      · rfl
      · intro y
        exact z2 (pick_at hS he y).2.2
theorem sh_68 {B O : List En} (hB : okB B) (hO : okO O) {S : Nat} {h s : Int} (hs01 : s = 0 ∨ s = 1) (hm : sp_lo B O S h ≤ sp_hi B O S h) : 0 ≤ sp_sh B O S h s ∧ sp_sh B O S h s ≤ sp_all B O S h s ∧ sp_sh B O S h s ≤ 68000 ∧ sp_all B O S h s ≤ 68000 := by
  have hb := sh_bd hO (S := S) hm hs01
  have v1 := vol_bd hB hO S h s (sp_p B O S h) true
  have v2 := vol_bd hB hO S h s (sp_p B O S h) false
  have : sp_all B O S h s ≤ 68000 := by
    unfold sp_all
    omega
  exact ⟨hb.1, hb.2, by omega, this⟩
theorem left_60 {B O : List En} (hO : okO O) {S : Nat} {h s : Int} (hs : s = 0 ∨ s = 1) (hm : sp_lo B O S h ≤ sp_hi B O S h) : 0 ≤ sp_left B O S h s ∧ sp_left B O S h s ≤ 60 := by
  have hl := left_ok hO (S := S) hs hm
  have h1 := sumE_bd (M := 1) (by omega) O (f := fun e => if 0 ≤ remF B O S h s e then 1 else 0) (fun e _ => by
    show (if 0 ≤ remF B O S h s e then (1 : Int) else 0) ≤ 1
    split <;> omega)
  have := hO.2
  omega
theorem m_share {hs d q l oe be pr tr : Nat → Int32} {B O : List En} (hB : okB B) (hO : okO O) (hS : okS O) (hG : mOrd hs d q l oe O) (hG' : mBlk hs d q l be B) {S h : Nat} (hS8 : S < 256) (hh : h < 3) {s : Int} (hs01 : s = 0 ∨ s = 1) (hm : sp_lo B O S h ≤ sp_hi B O S h) (hpr : pr h = i3 (sp_p B O S h)) (htr : tr h = i3 (sp_t B O S h)) (F : Nat → Int32) (R : Nat → Int64) :
    ∃ F' R', f_m_share hs d q l oe (i3 O.length) be (i3 B.length) pr tr F R (i3 S) (i3 h) (i3 s) = some (F', R') ∧ (∀ k, k < O.length → mtc h s (O.getD k en_0) → F' k = i3 (sp_fill B O S (O.getD k en_0))) ∧ (∀ k, k < O.length → ¬ mtc h s (O.getD k en_0) → F' k = F k) := by
  have hpb := sp_p_bd B O S h
  obtain ⟨s1, s2, s3, s4⟩ := sh_68 hB hO (S := S) hs01 hm
  have v0 := m_vol hB hO hG hG' hS8 hh (x := sp_p B O S h) (s := s) (by omega) hs01 (m := false) (M := 0) rfl
  have v1 := m_vol hB hO hG hG' hS8 hh (x := sp_p B O S h) (s := s) (by omega) hs01 (m := true) (M := 1) rfl
  obtain ⟨F1, R1, k1, k2, k3⟩ := m_floors (be := be) (nb := i3 B.length) (pr := pr) (tr := tr) hO hG hh hs01 hm s3 s4 F R
  have hl := left_ok hO (S := S) hs01 hm
  have hl6 := left_60 hO (S := S) hs01 hm
  have hrb : ∀ e ∈ O, -1 ≤ remF B O S h s e ∧ remF B O S h s e ≤ 68000 := by
    intro e he
    unfold remF
    by_cases z : atP B O S h s e
    · rw [if_pos z]
      by_cases y : sp_all B O S h s = 0
      · have hq := (hO.1 e he).1.2.1
        have h0 : sp_sh B O S h s = 0 := by omega
        rw [y, h0, Int.mul_zero]
        decide
      · have y1 := Int.emod_nonneg (en_q e * sp_sh B O S h s) y
        have y2 := Int.emod_lt_of_pos (en_q e * sp_sh B O S h s) (show 0 < sp_all B O S h s by omega)
        omega
    · rw [if_neg z]
      omega
  obtain ⟨F2, R2, j1, j2⟩ := m_picks (be := be) (nb := i3 B.length) (pr := pr) (tr := tr) hO hS hG hh hs01 (sp_left B O S h s).toNat 1000 (remF B O S h s) F1 R1 (by omega) (by omega) (by omega) (by
    intro k hk hmk
    have := hrb _ (getD_mem hk)
    rw [(k2 k hk hmk).2, i6_toInt (by omega)]) (by
    intro k hk hmk
    unfold remF
    rw [if_neg (fun y : atP B O S h s (O.getD k en_0) => hmk ⟨y.1, y.2.1⟩)]
    decide)
  refine ⟨F2, R2, ?_, ?_, ?_⟩
  · unfold f_m_share
    rw [if_neg (ix_n hh (by omega)), cl_n (by omega), hpr, v0, Option.bind_some, v1, Option.bind_some, Option.bind_some, htr, i3_sub, i3_sub]
    show f_m_share_L59 hs d q l oe (i3 O.length) be (i3 B.length) pr tr (i3 h) (i3 s) 1000 F R (i3 (sp_p B O S h)) (Int32.toInt64 (i3 (sp_sh B O S h s))) (Int32.toInt64 (i3 (sp_sh B O S h s))) (Int32.toInt64 (i3 (sp_all B O S h s))) 0 = _
    rw [i3_long (by omega), i3_long (by omega), k1]
    rw [show sp_left B O S h s = (((sp_left B O S h s).toNat : Nat) : Int) by omega]
    exact j1
  · intro k hk hmk
    rw [j2 k hk, (k2 k hk hmk).1, fill_ba hS (getD_mem hk) hmk, ← rems_eq, ← i3_add]
    congr 1
    split <;> rfl
  · intro k hk hmk
    rw [j2 k hk, k3 k hk hmk, if_neg, Int32.add_zero]
    intro y
    rw [← rems_eq] at y
    have := pick_at hS (getD_mem hk) y
    exact hmk ⟨this.1, this.2.1⟩
theorem m_shares {hs d q l oe be pr tr : Nat → Int32} {B O : List En} (hB : okB B) (hO : okO O) (hS : okS O) (hG : mOrd hs d q l oe O) (hG' : mBlk hs d q l be B) {S : Nat} (hS8 : S < 256) (hm : ∀ h : Nat, h < 3 → sp_lo B O S h ≤ sp_hi B O S h) (hpt : ∀ h : Nat, h < 3 → pr h = i3 (sp_p B O S h) ∧ tr h = i3 (sp_t B O S h)) (F : Nat → Int32) (R : Nat → Int64) :
    ∃ F' R', f_m_fits_L232 hs d q l oe (i3 O.length) be (i3 B.length) (i3 S) 1000 pr tr F R 0 = some (1, pr, tr, F', R') ∧ ∀ k, k < O.length → F' k = i3 (sp_fill B O S (O.getD k en_0)) := by
  refine lpI (fun n a (z : (Nat → Int32) × (Nat → Int64)) => f_m_fits_L232 hs d q l oe (i3 O.length) be (i3 B.length) (i3 S) n pr tr z.1 z.2 (i3 a)) 3 (fun a z => ∀ k, k < O.length → en_w (O.getD k en_0) < a → z.1 k = i3 (sp_fill B O S (O.getD k en_0))) (fun Z => ∃ F' R', Z = some (1, pr, tr, F', R') ∧ ∀ k, k < O.length → F' k = i3 (sp_fill B O S (O.getD k en_0))) ?_ ?_ 1000 0 (F, R) (by omega) (by omega) ?_
  · intro n a z ha hI
    obtain ⟨F1, R1, k1, k2, k3⟩ := m_share hB hO hS hG hG' hS8 ha (s := 0) (Or.inl rfl) (hm a ha) (hpt a ha).1 (hpt a ha).2 z.1 z.2
    obtain ⟨F2, R2, j1, j2, j3⟩ := m_share hB hO hS hG hG' hS8 ha (s := 1) (Or.inr rfl) (hm a ha) (hpt a ha).1 (hpt a ha).2 F1 R1
    refine ⟨(F2, R2), fun k hk hka => ?_, ?_⟩
    · show F2 k = _
      by_cases y1 : mtc a 1 (O.getD k en_0)
      · exact j2 k hk y1
      · rw [j3 k hk y1]
        by_cases y0 : mtc a 0 (O.getD k en_0)
        · exact k2 k hk y0
        · rw [k3 k hk y0]
          refine hI k hk ?_
          have hd := (hO.1 _ (getD_mem hk)).1.1
          by_cases u : en_w (O.getD k en_0) = a
          · rcases hd with hd | hd
            · exact absurd ⟨hd, u⟩ y0
            · exact absurd ⟨hd, u⟩ y1
          · omega
    · show f_m_fits_L232 hs d q l oe (i3 O.length) be (i3 B.length) (i3 S) (n + 1) pr tr z.1 z.2 (i3 a) = f_m_fits_L232 hs d q l oe (i3 O.length) be (i3 B.length) (i3 S) n pr tr F2 R2 (i3 ((a + 1 : Nat) : Int))
      rw [f_m_fits_L232, if_neg (lt_c (b := 3) (by decide) ha), show (0 : Int32) = i3 0 from rfl, k1, Option.bind_some]
      show (f_m_share hs d q l oe (i3 O.length) be (i3 B.length) pr tr F1 R1 (i3 S) (i3 a) (i3 1)).bind _ = _
      rw [j1, Option.bind_some, i3s]
  · intro n z hI
    refine ⟨z.1, z.2, ?_, fun k hk => hI k hk ?_⟩
    · show f_m_fits_L232 hs d q l oe (i3 O.length) be (i3 B.length) (i3 S) (n + 1) pr tr z.1 z.2 (i3 (3 : Nat)) = _
      rw [f_m_fits_L232, if_pos (ge_c (by decide))]
    · obtain ⟨⟨-, -, -, h4⟩, h5⟩ := hO.1 _ (getD_mem hk)
      omega
  · intro k hk hka
    obtain ⟨⟨-, -, -, h4⟩, h5⟩ := hO.1 _ (getD_mem hk)
    omega
theorem gain_bd (B O : List En) (S : Nat) (e : En) (he : -5000 ≤ en_l e ∧ en_l e ≤ 40000) : -150000 ≤ sp_gain B O S e ∧ sp_gain B O S e ≤ 150000 := by
  have h0 := sp_p_bd B O S ((0 : Nat) : Int)
  have h1 := sp_p_bd B O S ((1 : Nat) : Int)
  have h2 := sp_p_bd B O S ((2 : Nat) : Int)
  have e0 : ∀ (c : Prop) [Decidable c] (v : Int), -50000 ≤ v → v ≤ 50000 → -50000 ≤ (if c then v else 0) ∧ (if c then v else 0) ≤ 50000 := fun c _ v y1 y2 => by split <;> omega
  have g0 := e0 (cov e ((0 : Nat) : Int)) (sp_p B O S ((0 : Nat) : Int) - en_l e) (by omega) (by omega)
  have g1 := e0 (cov e ((1 : Nat) : Int)) (sp_p B O S ((1 : Nat) : Int) - en_l e) (by omega) (by omega)
  have g2 := e0 (cov e ((2 : Nat) : Int)) (sp_p B O S ((2 : Nat) : Int) - en_l e) (by omega) (by omega)
  show -150000 ≤ 0 + (if cov e ((0 : Nat) : Int) then sp_p B O S ((0 : Nat) : Int) - en_l e else 0) + (if cov e ((1 : Nat) : Int) then sp_p B O S ((1 : Nat) : Int) - en_l e else 0) + (if cov e ((2 : Nat) : Int) then sp_p B O S ((2 : Nat) : Int) - en_l e else 0) ∧ 0 + (if cov e ((0 : Nat) : Int) then sp_p B O S ((0 : Nat) : Int) - en_l e else 0) + (if cov e ((1 : Nat) : Int) then sp_p B O S ((1 : Nat) : Int) - en_l e else 0) + (if cov e ((2 : Nat) : Int) then sp_p B O S ((2 : Nat) : Int) - en_l e else 0) ≤ 150000
  omega
theorem m_gain {hs d q l oe be pr tr : Nat → Int32} {no : Int32} {B O : List En} (hB : okB B) (hG' : mBlk hs d q l be B) {S : Nat} (hS8 : S < 256) (hpr : ∀ h : Nat, h < 3 → pr h = i3 (sp_p B O S h)) {F : Nat → Int32} {R : Nat → Int64} {a : Nat} (ha : a < B.length) {K : (Nat → Int32) → (Nat → Int32) → (Nat → Int32) → (Nat → Int64) → Int32 → Option (Int32 × (Nat → Int32) × (Nat → Int32) × (Nat → Int32) × (Nat → Int64))} :
    f_m_fits_L124 hs d q l oe no be (i3 B.length) (i3 S) K 1000 pr tr F R (i3 a) (be a) 0 0 = if S.testBit a = true ∧ sp_lose B O S (B.getD a en_0) then some (0, pr, tr, F, R) else K pr tr F R (i3 ((a + 1 : Nat) : Int)) := by
  have hlen := hB.2
  obtain ⟨g1, g2, g3, g4, g5⟩ := hG' a ha
  obtain ⟨⟨k1, k2, k3, k4⟩, k5⟩ := hB.1 _ (getD_mem ha)
  have c3 : ¬ (be a < 0 ∨ 240 ≤ (be a).toNatClampNeg) := ix_ok (by omega)
  have el : l (be a).toNatClampNeg = i3 (en_l (B.getD a en_0)) := by rw [i3_of (l (be a).toNatClampNeg), g5]
  have e1 : d (be a).toNatClampNeg = 1 ↔ en_d (B.getD a en_0) = 1 := by rw [show (1 : Int32) = i3 1 from rfl, i3n _ (by omega), g2]
  have hgb := gain_bd B O S (B.getD a en_0) k3
  have key : ∀ n j : Nat, j ≤ 3 → 3 - j < n → f_m_fits_L124 hs d q l oe no be (i3 B.length) (i3 S) K n pr tr F R (i3 a) (be a) (i3 (smN (fun h => if cov (B.getD a en_0) h then sp_p B O S h - en_l (B.getD a en_0) else 0) j)) (i3 j) = if S.testBit a = true ∧ sp_lose B O S (B.getD a en_0) then some (0, pr, tr, F, R) else K pr tr F R (i3 ((a + 1 : Nat) : Int)) := by
    refine lp (fun n j => f_m_fits_L124 hs d q l oe no be (i3 B.length) (i3 S) K n pr tr F R (i3 a) (be a) (i3 (smN (fun h => if cov (B.getD a en_0) h then sp_p B O S h - en_l (B.getD a en_0) else 0) j)) (i3 j)) 3 _ ?_ ?_
    · intro n j hj
      show f_m_fits_L124 hs d q l oe no be (i3 B.length) (i3 S) K (n + 1) pr tr F R (i3 a) (be a) (i3 (smN _ j)) (i3 j) = f_m_fits_L124 hs d q l oe no be (i3 B.length) (i3 S) K n pr tr F R (i3 a) (be a) (i3 (smN _ j + (if cov (B.getD a en_0) j then sp_p B O S j - en_l (B.getD a en_0) else 0))) (i3 ((j + 1 : Nat) : Int))
      rw [f_m_fits_L124, if_neg (lt_c (b := 3) (by decide) hj), if_neg c3, m_cov (by omega) (by rw [g3]; exact k4), Option.bind_some, g3, i3_toInt (by omega), Int32.add_zero, i3s]
      by_cases z : cov (B.getD a en_0) j
      · rw [if_pos z, if_neg n10, if_neg (ix_n hj (by omega)), cl_n (by omega), hpr j hj, el, i3_sub, i3_add, if_pos z]
      · rw [if_neg z, if_pos rfl, if_neg z, Int.add_zero]
    · intro n
      show f_m_fits_L124 hs d q l oe no be (i3 B.length) (i3 S) K (n + 1) pr tr F R (i3 a) (be a) (i3 (sp_gain B O S (B.getD a en_0))) (i3 (3 : Nat)) = _
      rw [f_m_fits_L124, if_pos (ge_c (by decide)), if_neg c3]
      have gl : (0 : Int32) ≤ i3 (sp_gain B O S (B.getD a en_0)) ↔ 0 ≤ sp_gain B O S (B.getD a en_0) := i3_le (a := 0) (by omega)
      have gr : i3 (sp_gain B O S (B.getD a en_0)) ≤ 0 ↔ sp_gain B O S (B.getD a en_0) ≤ 0 := i3_le (b := 0) (by omega)
      have bit := bitN hS8 (show a < 8 by omega)
      have fin0 : ¬ sp_lose B O S (B.getD a en_0) → f_m_fits_b206 hs d q l oe no be (i3 B.length) (i3 S) K pr tr F R (i3 a) 0 = if S.testBit a = true ∧ sp_lose B O S (B.getD a en_0) then some (0, pr, tr, F, R) else K pr tr F R (i3 ((a + 1 : Nat) : Int)) := by
        intro hno
        unfold f_m_fits_b206
        rw [if_pos (show (0 : Int32) = 0 from rfl), ite_self, if_neg (fun y => hno y.2), i3s]
      have fin1 : sp_lose B O S (B.getD a en_0) → f_m_fits_b206 hs d q l oe no be (i3 B.length) (i3 S) K pr tr F R (i3 a) 1 = if S.testBit a = true ∧ sp_lose B O S (B.getD a en_0) then some (0, pr, tr, F, R) else K pr tr F R (i3 ((a + 1 : Nat) : Int)) := by
        intro hy
        unfold f_m_fits_b206
        rw [if_neg n10, bit, i3s]
        by_cases z : S.testBit a = true
        · rw [if_pos z, if_pos rfl, if_pos ⟨z, hy⟩]
        · rw [if_neg z, if_neg (by decide), if_neg (fun y => z y.1)]
      by_cases z1 : en_d (B.getD a en_0) = 1
      · rw [if_pos (e1.mpr z1)]
        by_cases z2 : 0 ≤ sp_gain B O S (B.getD a en_0)
        · rw [if_pos (gl.mpr z2)]
          exact fin0 (fun y => by rcases y with ⟨-, y⟩ | ⟨y, -⟩; omega; exact y z1)
        · rw [if_neg (fun y => z2 (gl.mp y))]
          exact fin1 (Or.inl ⟨z1, by omega⟩)
      · rw [if_neg (fun y => z1 (e1.mp y))]
        by_cases z2 : sp_gain B O S (B.getD a en_0) ≤ 0
        · rw [if_pos (gr.mpr z2)]
          exact fin0 (fun y => by rcases y with ⟨y, -⟩ | ⟨-, y⟩; exact z1 y; omega)
        · rw [if_neg (fun y => z2 (gr.mp y))]
          exact fin1 (Or.inr ⟨z1, by omega⟩)
  exact key 1000 0 (by omega) (by omega)
theorem fit_iff {B O : List En} {S : Nat} : sp_fit B O S = true ↔ (∀ h : Nat, h < 3 → sp_lo B O S h ≤ sp_hi B O S h) ∧ ∀ k : Nat, k < B.length → S.testBit k = true → ¬ sp_lose B O S (B.getD k en_0) := by
  unfold sp_fit
  rw [decide_eq_true_iff]
/-- what a try of a set says and leaves -/
def fitR (B O : List En) (S : Nat) (Z : Option (Int32 × (Nat → Int32) × (Nat → Int32) × (Nat → Int32) × (Nat → Int64))) : Prop := ∃ pr' tr' F' R', Z = some (if sp_fit B O S = true then 1 else 0, pr', tr', F', R') ∧ (sp_fit B O S = true → (∀ h : Nat, h < 3 → pr' h = i3 (sp_p B O S h) ∧ tr' h = i3 (sp_t B O S h)) ∧ ∀ k, k < O.length → F' k = i3 (sp_fill B O S (O.getD k en_0)))
theorem m_blocks {hs d q l oe be pr tr : Nat → Int32} {B O : List En} (hB : okB B) (hO : okO O) (hS : okS O) (hG : mOrd hs d q l oe O) (hG' : mBlk hs d q l be B) {S : Nat} (hS8 : S < 256) (hm : ∀ h : Nat, h < 3 → sp_lo B O S h ≤ sp_hi B O S h) (hpt : ∀ h : Nat, h < 3 → pr h = i3 (sp_p B O S h) ∧ tr h = i3 (sp_t B O S h)) (F : Nat → Int32) (R : Nat → Int64) :
    fitR B O S (f_m_fits_L103 hs d q l oe (i3 O.length) be (i3 B.length) (i3 S) 1000 pr tr F R 0) := by
  have hlen := hB.2
  refine lpX (fun n a (_ : Unit) => f_m_fits_L103 hs d q l oe (i3 O.length) be (i3 B.length) (i3 S) n pr tr F R (i3 a)) B.length (fun a _ => ∀ k : Nat, k < a → S.testBit k = true → ¬ sp_lose B O S (B.getD k en_0)) (fitR B O S) ?_ ?_ 1000 0 () (by omega) (by omega) (fun k hk => by omega)
  · intro n a _ ha hI
    have e1 : f_m_fits_L103 hs d q l oe (i3 O.length) be (i3 B.length) (i3 S) (n + 1) pr tr F R (i3 a) = if S.testBit a = true ∧ sp_lose B O S (B.getD a en_0) then some (0, pr, tr, F, R) else f_m_fits_L103 hs d q l oe (i3 O.length) be (i3 B.length) (i3 S) n pr tr F R (i3 ((a + 1 : Nat) : Int)) := by
      rw [f_m_fits_L103, if_neg (by rw [i3_le (by omega)]; omega), if_neg (ix_n (by omega) (by omega)), cl_n (by omega), m_gain hB hG' hS8 (fun h hh => (hpt h hh).1) ha]
    by_cases z : S.testBit a = true ∧ sp_lose B O S (B.getD a en_0)
    · left
      have hf : ¬ sp_fit B O S = true := fun y => (fit_iff.mp y).2 a ha z.1 z.2
      refine ⟨pr, tr, F, R, ?_, fun y => absurd y hf⟩
      rw [e1, if_pos z, if_neg hf]
    · right
      refine ⟨(), fun k hk hb hl => ?_, ?_⟩
      · by_cases u : k = a
        · exact z (u ▸ ⟨hb, hl⟩)
        · exact hI k (by omega) hb hl
      · rw [e1, if_neg z]
  · intro n _ hI
    have hf : sp_fit B O S = true := fit_iff.mpr ⟨hm, hI⟩
    obtain ⟨F', R', k1, k2⟩ := m_shares hB hO hS hG hG' hS8 hm hpt F R
    refine ⟨pr, tr, F', R', ?_, fun _ => ⟨hpt, k2⟩⟩
    show f_m_fits_L103 hs d q l oe (i3 O.length) be (i3 B.length) (i3 S) (n + 1) pr tr F R (i3 (B.length : Nat)) = _
    rw [f_m_fits_L103, if_pos (by rw [i3_le (by omega)]; omega), k1, if_pos hf]
theorem m_fits {hs d q l oe be : Nat → Int32} {B O : List En} (hB : okB B) (hO : okO O) (hS : okS O) (hG : mOrd hs d q l oe O) (hG' : mBlk hs d q l be B) {S : Nat} (hS8 : S < 256) (pr tr F : Nat → Int32) (R : Nat → Int64) :
    fitR B O S (f_m_fits hs d q l oe (i3 O.length) be (i3 B.length) pr tr F R (i3 S)) := by
  unfold f_m_fits
  refine lpX (fun n a (z : (Nat → Int32) × (Nat → Int32)) => f_m_fits_L2 hs d q l oe (i3 O.length) be (i3 B.length) (i3 S) n z.1 z.2 F R (i3 a)) 3 (fun a z => ∀ h : Nat, h < a → sp_lo B O S h ≤ sp_hi B O S h ∧ z.1 h = i3 (sp_p B O S h) ∧ z.2 h = i3 (sp_t B O S h)) (fitR B O S) ?_ ?_ 1000 0 (pr, tr) (by omega) (by omega) (fun k hk => by omega)
  · intro n a z ha hI
    have b1 := sp_lo_bd B O S a
    have b2 := sp_hi_bd B O S a
    have hpb := sp_p_bd B O S a
    have v0 := m_vol hB hO hG hG' hS8 ha (x := sp_p B O S a) (s := 0) (by omega) (Or.inl rfl) (m := true) (M := 1) rfl
    have v1 := m_vol hB hO hG hG' hS8 ha (x := sp_p B O S a) (s := 1) (by omega) (Or.inr rfl) (m := true) (M := 1) rfl
    have w0 := vol_bd hB hO S a 0 (sp_p B O S a) true
    have w1 := vol_bd hB hO S a 1 (sp_p B O S a) true
    show fitR B O S (f_m_fits_L2 hs d q l oe (i3 O.length) be (i3 B.length) (i3 S) (n + 1) z.1 z.2 F R (i3 a)) ∨ ∃ s' : (Nat → Int32) × (Nat → Int32), (∀ h : Nat, h < a + 1 → sp_lo B O S h ≤ sp_hi B O S h ∧ s'.1 h = i3 (sp_p B O S h) ∧ s'.2 h = i3 (sp_t B O S h)) ∧ f_m_fits_L2 hs d q l oe (i3 O.length) be (i3 B.length) (i3 S) (n + 1) z.1 z.2 F R (i3 a) = f_m_fits_L2 hs d q l oe (i3 O.length) be (i3 B.length) (i3 S) n s'.1 s'.2 F R (i3 ((a + 1 : Nat) : Int))
    rw [f_m_fits_L2, if_neg (lt_c (b := 3) (by decide) ha), m_lo hB hO hG hG' hS8 ha, Option.bind_some, m_hi hB hO hG hG' hS8 ha, Option.bind_some]
    by_cases hle : sp_lo B O S a ≤ sp_hi B O S a
    · right
      have hup : upd z.1 a (i3 (sp_p B O S a)) a = i3 (sp_p B O S a) := if_pos rfl
      rw [if_pos (by rw [i3_le (by omega)]; exact hle), i3_add, m_half (by omega), Option.bind_some, if_neg (ix_n ha (by omega)), cl_n (by omega)]
      rw [show (sp_lo B O S a + sp_hi B O S a) / 2 = sp_p B O S a from rfl, hup]
      rw [show (0 : Int32) = i3 0 from rfl] at *
      rw [v0, Option.bind_some]
      show ∃ s' : (Nat → Int32) × (Nat → Int32), (∀ h : Nat, h < a + 1 → sp_lo B O S h ≤ sp_hi B O S h ∧ s'.1 h = i3 (sp_p B O S h) ∧ s'.2 h = i3 (sp_t B O S h)) ∧ (f_m_volume hs d q l oe (i3 O.length) be (i3 B.length) (i3 S) (i3 a) (i3 (sp_p B O S a)) (i3 1) 1).bind _ = _
      rw [v1, Option.bind_some, i3s]
      refine ⟨(upd z.1 a (i3 (sp_p B O S a)), upd z.2 a (i3 (sp_t B O S a))), fun h hh => ?_, ?_⟩
      · show _ ∧ upd z.1 a (i3 (sp_p B O S a)) h = _ ∧ upd z.2 a (i3 (sp_t B O S a)) h = _
        rw [updf, updf]
        by_cases u : h = a
        · rw [if_pos u, if_pos u, u]
          exact ⟨hle, rfl, rfl⟩
        · rw [if_neg u, if_neg u]
          exact hI h (by omega)
      · by_cases y : vol B O S a 1 (sp_p B O S a) true ≤ vol B O S a 0 (sp_p B O S a) true
        · rw [if_pos (by rw [i3_le (by omega)]; exact y), show sp_t B O S a = vol B O S a 1 (sp_p B O S a) true from Int.min_eq_right y]
        · rw [if_neg (by rw [i3_le (by omega)]; exact y), show sp_t B O S a = vol B O S a 0 (sp_p B O S a) true from Int.min_eq_left (by omega)]
    · left
      have hf : ¬ sp_fit B O S = true := fun y => hle ((fit_iff.mp y).1 a ha)
      rw [if_neg (by rw [i3_le (by omega)]; exact hle)]
      exact ⟨z.1, z.2, F, R, by rw [if_neg hf], fun y => absurd y hf⟩
  · intro n z hI
    show fitR B O S (f_m_fits_L2 hs d q l oe (i3 O.length) be (i3 B.length) (i3 S) (n + 1) z.1 z.2 F R (i3 (3 : Nat)))
    rw [f_m_fits_L2, if_pos (ge_c (by decide))]
    exact m_blocks hB hO hS hG hG' hS8 (fun h hh => (hI h hh).1) (fun h hh => (hI h hh).2) F R
theorem m_welf {hs d q l oe be : Nat → Int32} {B O : List En} (hB : okB B) (hO : okO O) (hS : okS O) (hG : mOrd hs d q l oe O) (hG' : mBlk hs d q l be B) {S : Nat} (hS8 : S < 256) (hm : ∀ h : Nat, h < 3 → sp_lo B O S h ≤ sp_hi B O S h) {F : Nat → Int32} (hF : ∀ k, k < O.length → F k = i3 (sp_fill B O S (O.getD k en_0))) :
    f_m_welfareOf hs d q l oe (i3 O.length) be (i3 B.length) F (i3 S) = some (i6 (sp_w B O S)) := by
  have hlO := hO.2
  have hlB := hB.2
  have blk : ∀ V : Int, f_m_welfareOf_L72 hs d q l oe (i3 O.length) be (i3 B.length) F (i3 S) 1000 (i6 V) 0 = some (i6 (V + sp_bw B S)) := by
    intro V
    have key : ∀ n a : Nat, a ≤ B.length → B.length - a < n → f_m_welfareOf_L72 hs d q l oe (i3 O.length) be (i3 B.length) F (i3 S) n (i6 (V + smN (fun k => if S.testBit k = true then (if en_d (B.getD k en_0) = 0 then en_q (B.getD k en_0) * en_l (B.getD k en_0) * lnH (en_w (B.getD k en_0)) else -(en_q (B.getD k en_0) * en_l (B.getD k en_0) * lnH (en_w (B.getD k en_0)))) else 0) a)) (i3 a) = some (i6 (V + sp_bw B S)) := by
      refine lp (fun n a => f_m_welfareOf_L72 hs d q l oe (i3 O.length) be (i3 B.length) F (i3 S) n (i6 (V + smN (fun k => if S.testBit k = true then (if en_d (B.getD k en_0) = 0 then en_q (B.getD k en_0) * en_l (B.getD k en_0) * lnH (en_w (B.getD k en_0)) else -(en_q (B.getD k en_0) * en_l (B.getD k en_0) * lnH (en_w (B.getD k en_0)))) else 0) a)) (i3 a)) B.length _ ?_ ?_
      · intro n a ha
        obtain ⟨g1, g2, g3, g4, g5⟩ := hG' a ha
        obtain ⟨⟨k1, k2, k3, k4⟩, k5⟩ := hB.1 _ (getD_mem ha)
        have c3 : ¬ (be a < 0 ∨ 240 ≤ (be a).toNatClampNeg) := ix_ok (by omega)
        have e1 : d (be a).toNatClampNeg = 0 ↔ en_d (B.getD a en_0) = 0 := by rw [show (0 : Int32) = i3 0 from rfl, i3n _ (by omega), g2]
        have q6 : Int32.toInt64 (q (be a).toNatClampNeg) = i6 (en_q (B.getD a en_0)) := by rw [i3_of (q (be a).toNatClampNeg), g4, i3_long (by omega)]
        have l6 : Int32.toInt64 (l (be a).toNatClampNeg) = i6 (en_l (B.getD a en_0)) := by rw [i3_of (l (be a).toNatClampNeg), g5, i3_long (by omega)]
        have hsp : okSp (hs (be a).toNatClampNeg) := by unfold okSp; omega
        obtain ⟨y1, y2, y3⟩ := sp_len hsp
        have hlb := lnH_bd y2
        have n6 : Int32.toInt64 (hs (be a).toNatClampNeg - hs (be a).toNatClampNeg / 4 * 4 - hs (be a).toNatClampNeg / 4 + 1) = i6 (lnH (en_w (B.getD a en_0))) := by
          rw [y1, i3_long (by omega), y3, show 100 + (hs (be a).toNatClampNeg).toInt = en_w (B.getD a en_0) by omega]
        show f_m_welfareOf_L72 hs d q l oe (i3 O.length) be (i3 B.length) F (i3 S) (n + 1) (i6 (V + smN _ a)) (i3 a) = f_m_welfareOf_L72 hs d q l oe (i3 O.length) be (i3 B.length) F (i3 S) n (i6 (V + (smN _ a + (if S.testBit a = true then (if en_d (B.getD a en_0) = 0 then en_q (B.getD a en_0) * en_l (B.getD a en_0) * lnH (en_w (B.getD a en_0)) else -(en_q (B.getD a en_0) * en_l (B.getD a en_0) * lnH (en_w (B.getD a en_0)))) else 0)))) (i3 ((a + 1 : Nat) : Int))
        rw [f_m_welfareOf_L72, if_neg (by rw [i3_le (by omega)]; omega), if_neg (ix_n (by omega) (by omega)), cl_n (by omega), if_neg c3, bitN hS8 (by omega), q6, l6, n6, i6_mul, i6_mul, i6_neg, i6_add, i6_add, Int.add_assoc, Int.add_assoc, i3s]
        by_cases z : S.testBit a = true
        · rw [if_pos z, if_neg n10, if_pos z]
          by_cases y : en_d (B.getD a en_0) = 0
          · rw [if_pos (e1.mpr y), if_pos y]
          · rw [if_neg (fun u => y (e1.mp u)), if_neg y]
        · rw [if_neg z, if_pos rfl, if_neg z, Int.add_zero, Int64.add_zero]
      · intro n
        show f_m_welfareOf_L72 hs d q l oe (i3 O.length) be (i3 B.length) F (i3 S) (n + 1) _ (i3 (B.length : Nat)) = _
        rw [f_m_welfareOf_L72, if_pos (by rw [i3_le (by omega)]; omega)]
        rfl
    have k0 := key 1000 0 (by omega) (by omega)
    rw [show smN (fun k => if S.testBit k = true then (if en_d (B.getD k en_0) = 0 then en_q (B.getD k en_0) * en_l (B.getD k en_0) * lnH (en_w (B.getD k en_0)) else -(en_q (B.getD k en_0) * en_l (B.getD k en_0) * lnH (en_w (B.getD k en_0)))) else 0) 0 = 0 from rfl, Int.add_zero] at k0
    exact k0
  unfold f_m_welfareOf sp_w
  rw [← fill_w hO hS hm, sumE_smN, ← blk]
  refine lp (fun n a => f_m_welfareOf_L5 hs d q l oe (i3 O.length) be (i3 B.length) F (i3 S) n (i6 (smN (fun k => if en_d (O.getD k en_0) = 0 then sp_fill B O S (O.getD k en_0) * en_l (O.getD k en_0) else -(sp_fill B O S (O.getD k en_0) * en_l (O.getD k en_0))) a)) (i3 a)) O.length _ ?_ ?_ 1000 0 (by omega) (by omega)
  · intro n a ha
    obtain ⟨g1, g2, g3, g4, g5⟩ := hG a ha
    obtain ⟨⟨k1, k2, k3, k4⟩, k5⟩ := hO.1 _ (getD_mem ha)
    have hfb := fill_bd hO hm (getD_mem ha)
    have c3 : ¬ (oe a < 0 ∨ 240 ≤ (oe a).toNatClampNeg) := ix_ok (by omega)
    have e1 : d (oe a).toNatClampNeg = 0 ↔ en_d (O.getD a en_0) = 0 := by rw [show (0 : Int32) = i3 0 from rfl, i3n _ (by omega), g2]
    have f6 : Int32.toInt64 (F a) = i6 (sp_fill B O S (O.getD a en_0)) := by rw [hF a ha, i3_long (by omega)]
    have l6 : Int32.toInt64 (l (oe a).toNatClampNeg) = i6 (en_l (O.getD a en_0)) := by rw [i3_of (l (oe a).toNatClampNeg), g5, i3_long (by omega)]
    show f_m_welfareOf_L5 hs d q l oe (i3 O.length) be (i3 B.length) F (i3 S) (n + 1) (i6 (smN _ a)) (i3 a) = f_m_welfareOf_L5 hs d q l oe (i3 O.length) be (i3 B.length) F (i3 S) n (i6 (smN _ a + (if en_d (O.getD a en_0) = 0 then sp_fill B O S (O.getD a en_0) * en_l (O.getD a en_0) else -(sp_fill B O S (O.getD a en_0) * en_l (O.getD a en_0))))) (i3 ((a + 1 : Nat) : Int))
    rw [f_m_welfareOf_L5, if_neg (by rw [i3_le (by omega)]; omega), if_neg (ix_n (by omega) (by omega)), cl_n (by omega), if_neg c3, f6, l6, i6_mul, i6_neg, i6_add, i6_add, i3s]
    by_cases y : en_d (O.getD a en_0) = 0
    · rw [if_pos (e1.mpr y), if_pos y]
    · rw [if_neg (fun u => y (e1.mp u)), if_neg y]
  · intro n
    show f_m_welfareOf_L5 hs d q l oe (i3 O.length) be (i3 B.length) F (i3 S) (n + 1) _ (i3 (O.length : Nat)) = _
    rw [f_m_welfareOf_L5, if_pos (by rw [i3_le (by omega)]; omega)]
