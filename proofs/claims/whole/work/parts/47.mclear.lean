/-! The reference clears. -/
theorem mul_bd {x y A B : Int} (hx : -A ≤ x ∧ x ≤ A) (hy : -B ≤ y ∧ y ≤ B) : -(A * B) ≤ x * y ∧ x * y ≤ A * B := by
  have h1 : x.natAbs ≤ A.toNat := by omega
  have h2 : y.natAbs ≤ B.toNat := by omega
  have h3 : (x * y).natAbs ≤ A.toNat * B.toNat := by
    rw [Int.natAbs_mul]
    exact Nat.mul_le_mul h1 h2
  have h4 : ((A.toNat * B.toNat : Nat) : Int) = A * B := by
    rw [Int.natCast_mul, show ((A.toNat : Nat) : Int) = A by omega, show ((B.toNat : Nat) : Int) = B by omega]
  omega
theorem sumE_abs {f : En → Int} {M : Int} (hM : 0 ≤ M) (L : List En) (h : ∀ e ∈ L, -M ≤ f e ∧ f e ≤ M) : -(M * L.length) ≤ sumE f L ∧ sumE f L ≤ M * L.length := by
  refine ⟨?_, sumE_bd hM L (fun e he => (h e he).2)⟩
  have h1 := sumE_bd (f := fun e => -1 * f e) hM L (fun e he => by have := (h e he).1; show -1 * f e ≤ M; omega)
  rw [sumE_mul] at h1
  omega
theorem smN_abs {f : Nat → Int} {M : Int} : ∀ a : Nat, (∀ k, k < a → -M ≤ f k ∧ f k ≤ M) → -(M * a) ≤ smN f a ∧ smN f a ≤ M * a
  | 0, _ => by
    show -(M * ((0 : Nat) : Int)) ≤ (0 : Int) ∧ (0 : Int) ≤ M * ((0 : Nat) : Int)
    rw [show ((0 : Nat) : Int) = 0 from rfl, Int.mul_zero]
    exact ⟨Int.le_refl _, Int.le_refl _⟩
  | a + 1, h => by
    have h1 := smN_abs a (fun k hk => h k (by omega))
    have h2 := h a (by omega)
    show -(M * ((a + 1 : Nat) : Int)) ≤ smN f a + f a ∧ smN f a + f a ≤ M * ((a + 1 : Nat) : Int)
    rw [Int.natCast_add, Int.mul_add]
    omega
theorem hw_bd {B O : List En} (hB : okB B) (hO : okO O) (S : Nat) (h : Int) : -20000000000 ≤ sp_hw B O S h ∧ sp_hw B O S h ≤ 20000000000 := by
  have hpb := sp_p_bd B O S h
  have hlen := hO.2
  have ql : ∀ (c : Prop) [Decidable c] (e : En), e ∈ O → -40000000 ≤ (if c then en_q e * en_l e else 0) ∧ (if c then en_q e * en_l e else 0) ≤ 40000000 := by
    intro c _ e he
    obtain ⟨⟨-, k2, k3, -⟩, -⟩ := hO.1 e he
    have := mul_bd (x := en_q e) (y := en_l e) (A := 1000) (B := 40000) (by omega) (by omega)
    split <;> omega
  have s1 := sumE_abs (M := 40000000) (by omega) O (f := fun e => if en_d e = 0 ∧ en_w e = h ∧ sp_p B O S h < en_l e then en_q e * en_l e else 0) (fun e he => ql _ e he)
  have s2 := sumE_abs (M := 40000000) (by omega) O (f := fun e => if en_d e = 1 ∧ en_w e = h ∧ en_l e < sp_p B O S h then en_q e * en_l e else 0) (fun e he => ql _ e he)
  have shb : ∀ s : Int, -68000 ≤ sp_sh B O S h s ∧ sp_sh B O S h s ≤ 68000 := by
    intro s
    have v1 := vol_bd hB hO S h s (sp_p B O S h) false
    have v2 := vol_bd hB hO S h 0 (sp_p B O S h) true
    have v3 := vol_bd hB hO S h 1 (sp_p B O S h) true
    unfold sp_sh sp_t
    omega
  have m1 := mul_bd (B := 40001) (shb 0) (show -40001 ≤ sp_p B O S h ∧ sp_p B O S h ≤ 40001 by omega)
  have m2 := mul_bd (B := 40001) (shb 1) (show -40001 ≤ sp_p B O S h ∧ sp_p B O S h ≤ 40001 by omega)
  unfold sp_hw
  omega
theorem bw_bd {B : List En} (hB : okB B) (S : Nat) : -2000000000 ≤ sp_bw B S ∧ sp_bw B S ≤ 2000000000 := by
  have hlen := hB.2
  unfold sp_bw
  have := smN_abs (M := 120000000) (f := fun k => if S.testBit k = true then (if en_d (B.getD k en_0) = 0 then en_q (B.getD k en_0) * en_l (B.getD k en_0) * lnH (en_w (B.getD k en_0)) else -(en_q (B.getD k en_0) * en_l (B.getD k en_0) * lnH (en_w (B.getD k en_0)))) else 0) B.length (fun k hk => by
    obtain ⟨⟨-, k2, k3, k4⟩, -⟩ := hB.1 _ (getD_mem hk)
    have h1 := mul_bd (x := en_q (B.getD k en_0)) (y := en_l (B.getD k en_0)) (A := 1000) (B := 40000) (by omega) (by omega)
    have hl := lnH_bd k4
    have h2 := mul_bd (A := 40000000) (B := 3) (show -40000000 ≤ en_q (B.getD k en_0) * en_l (B.getD k en_0) ∧ en_q (B.getD k en_0) * en_l (B.getD k en_0) ≤ 40000000 by omega) (show -3 ≤ lnH (en_w (B.getD k en_0)) ∧ lnH (en_w (B.getD k en_0)) ≤ 3 by omega)
    by_cases z1 : S.testBit k = true
    · rw [if_pos z1]
      by_cases z2 : en_d (B.getD k en_0) = 0
      · rw [if_pos z2]
        omega
      · rw [if_neg z2]
        omega
    · rw [if_neg z1]
      omega)
  omega
theorem w_bd {B O : List En} (hB : okB B) (hO : okO O) (S : Nat) : -1000000000000 ≤ sp_w B O S ∧ sp_w B O S ≤ 1000000000000 := by
  have h0 := hw_bd hB hO S ((0 : Nat) : Int)
  have h1 := hw_bd hB hO S ((1 : Nat) : Int)
  have h2 := hw_bd hB hO S ((2 : Nat) : Int)
  have hb := bw_bd hB S
  show -1000000000000 ≤ (0 + sp_hw B O S ((0 : Nat) : Int) + sp_hw B O S ((1 : Nat) : Int) + sp_hw B O S ((2 : Nat) : Int)) + sp_bw B S ∧ (0 + sp_hw B O S ((0 : Nat) : Int) + sp_hw B O S ((1 : Nat) : Int) + sp_hw B O S ((2 : Nat) : Int)) + sp_bw B S ≤ 1000000000000
  omega
theorem fit_0 {B O : List En} (hO : okO O) : sp_fit B O 0 = true := fit_iff.mpr ⟨fun h _ => meet_0 hO h, fun k _ hb => by rw [Nat.zero_testBit] at hb; cases hb⟩
theorem best_sp {B O : List En} (hO : okO O) : ∀ a : Nat, sp_fit B O (sp_best B O a).1 = true ∧ (sp_best B O a).1 ≤ a ∧ (sp_best B O a).2 = sp_w B O (sp_best B O a).1
  | 0 => ⟨fit_0 hO, Nat.le_refl _, rfl⟩
  | a + 1 => by
    have ih := best_sp (B := B) hO a
    unfold sp_best
    by_cases z : sp_fit B O (a + 1) = true ∧ (sp_best B O a).2 < sp_w B O (a + 1)
    · rw [if_pos z]
      exact ⟨z.1, Nat.le_refl _, rfl⟩
    · rw [if_neg z]
      exact ⟨ih.1, by omega, ih.2.2⟩
theorem shlF : ∀ k : Fin 9, ((1 : Int32) <<< (Int32.ofInt k.val &&& 31)) = Int32.ofInt ((2 ^ k.val : Nat) : Int) := by decide +kernel
theorem shlN {k : Nat} (h : k ≤ 8) : ((1 : Int32) <<< (i3 k &&& 31)) = i3 ((2 ^ k : Nat) : Int) := shlF ⟨k, by omega⟩
theorem pow8 {k : Nat} (h : k ≤ 8) : 1 ≤ 2 ^ k ∧ 2 ^ k ≤ 256 := ⟨Nat.one_le_two_pow, Nat.pow_le_pow_right (by omega) h⟩
/-- the fills are written: the blocks -/
theorem mc_L252 {n : Int32} {c ib hs d q l : Nat → Int32} {rd : Int32} {v' : Nat → Int32} {B : List En} (hB : okB B) {be bf : Nat → Int32} (hG : mBlk hs d q l be B) {o : Nat} (ho : o < 4) (hf : fOf o bf B) (hsl : ∀ k, k < B.length → en_s (B.getD k en_0) < 60) (hinj : ∀ i j, i < B.length → j < B.length → en_s (B.getD i en_0) = en_s (B.getD j en_0) → i = j) {S : Nat} (hS8 : S < 256) {t : Int32} {cl mp mt : Nat → Int32} {mw : Nat → Int64} {oe of' : Nat → Int32} {no : Int32} {pr tr F : Nat → Int32} {R : Nat → Int64} (mf : Nat → Int32) :
    ∃ mf', f_m_clear_L252 n c ib hs d q l rd v' 1000 t cl mp mt mf mw oe of' no be bf (i3 B.length) pr tr F R (i3 S) 0 = some (i3 S, t, cl, mp, mt, mf', mw, oe, of', no, be, bf, i3 B.length, pr, tr, F, R) ∧ (∀ k, k < B.length → mf' (60 * o + en_s (B.getD k en_0)) = i3 (if S.testBit k = true then en_q (B.getD k en_0) else 0)) ∧ (∀ j, (∀ k, k < B.length → j ≠ 60 * o + en_s (B.getD k en_0)) → mf' j = mf j) := by
  have hlen := hB.2
  refine lpI (fun m a (z : Nat → Int32) => f_m_clear_L252 n c ib hs d q l rd v' m t cl mp mt z mw oe of' no be bf (i3 B.length) pr tr F R (i3 S) (i3 a)) B.length (fun a z => (∀ k, k < B.length → k < a → z (60 * o + en_s (B.getD k en_0)) = i3 (if S.testBit k = true then en_q (B.getD k en_0) else 0)) ∧ (∀ j, (∀ k, k < B.length → j ≠ 60 * o + en_s (B.getD k en_0)) → z j = mf j)) (fun Z => ∃ mf', Z = some (i3 S, t, cl, mp, mt, mf', mw, oe, of', no, be, bf, i3 B.length, pr, tr, F, R) ∧ (∀ k, k < B.length → mf' (60 * o + en_s (B.getD k en_0)) = i3 (if S.testBit k = true then en_q (B.getD k en_0) else 0)) ∧ (∀ j, (∀ k, k < B.length → j ≠ 60 * o + en_s (B.getD k en_0)) → mf' j = mf j)) ?_ ?_ 1000 0 mf (by omega) (by omega) ⟨fun k _ hk => by omega, fun _ _ => rfl⟩
  · intro m a z ha hI
    obtain ⟨g1, g2, g3, g4, g5⟩ := hG a ha
    have hs6 := hsl a ha
    have c3 : ¬ (be a < 0 ∨ 240 ≤ (be a).toNatClampNeg) := ix_ok (by omega)
    have c4 : ¬ (bf a < 0 ∨ 240 ≤ (bf a).toNatClampNeg) := by rw [hf a ha]; exact ix_i3 (by omega)
    have c5 : (bf a).toNatClampNeg = 60 * o + en_s (B.getD a en_0) := by rw [hf a ha, i3_cl (by omega)]; omega
    have q' : q (be a).toNatClampNeg = i3 (en_q (B.getD a en_0)) := by rw [i3_of (q (be a).toNatClampNeg), g4]
    refine ⟨upd z (60 * o + en_s (B.getD a en_0)) (i3 (if S.testBit a = true then en_q (B.getD a en_0) else 0)), ⟨fun k hk hka => ?_, fun j hj => ?_⟩, ?_⟩
    · rw [updf]
      by_cases u : k = a
      · rw [u, if_pos rfl]
      · rw [if_neg (fun y => u (hinj k a hk ha (by omega)))]
        exact hI.1 k hk (by omega)
    · rw [updf, if_neg (hj a ha)]
      exact hI.2 j hj
    · show f_m_clear_L252 n c ib hs d q l rd v' (m + 1) t cl mp mt z mw oe of' no be bf (i3 B.length) pr tr F R (i3 S) (i3 a) = f_m_clear_L252 n c ib hs d q l rd v' m t cl mp mt _ mw oe of' no be bf (i3 B.length) pr tr F R (i3 S) (i3 ((a + 1 : Nat) : Int))
      rw [f_m_clear_L252, if_neg (by rw [i3_le (by omega)]; omega), if_neg (ix_n (by omega) (by omega)), cl_n (by omega), bitN hS8 (by omega)]
      by_cases y : S.testBit a = true
      · rw [if_pos y, if_pos rfl, if_pos y, if_neg c3, if_neg c4, c5, q', i3s]
      · rw [if_neg y, if_neg (by decide), if_neg y, if_neg c4, c5, i3s]
        rfl
  · intro m z hI
    refine ⟨z, ?_, fun k hk => hI.1 k hk hk, hI.2⟩
    show f_m_clear_L252 n c ib hs d q l rd v' (m + 1) t cl mp mt z mw oe of' no be bf (i3 B.length) pr tr F R (i3 S) (i3 (B.length : Nat)) = _
    rw [f_m_clear_L252, if_pos (by rw [i3_le (by omega)]; omega)]
theorem mc_L215 {n : Int32} {c ib hs d q l : Nat → Int32} {rd : Int32} {v' : Nat → Int32} {O : List En} (hO : okO O) (hS : okS O) {of' : Nat → Int32} {o : Nat} (ho : o < 4) (hf : fOf o of' O) (hsl : ∀ k, k < O.length → en_s (O.getD k en_0) < 60) {t : Int32} {cl mp mt : Nat → Int32} {mw : Nat → Int64} {oe be bf : Nat → Int32} {nb : Int32} {pr tr F : Nat → Int32} {R : Nat → Int64} {x3 : Int32} (mf : Nat → Int32) :
    ∃ mf', f_m_clear_L215 n c ib hs d q l rd v' 1000 t cl mp mt mf mw oe of' (i3 O.length) be bf nb pr tr F R x3 0 = f_m_clear_L252 n c ib hs d q l rd v' 1000 t cl mp mt mf' mw oe of' (i3 O.length) be bf nb pr tr F R x3 0 ∧ (∀ k, k < O.length → mf' (60 * o + en_s (O.getD k en_0)) = F k) ∧ (∀ j, (∀ k, k < O.length → j ≠ 60 * o + en_s (O.getD k en_0)) → mf' j = mf j) := by
  have hlen := hO.2
  refine lpI (fun m a (z : Nat → Int32) => f_m_clear_L215 n c ib hs d q l rd v' m t cl mp mt z mw oe of' (i3 O.length) be bf nb pr tr F R x3 (i3 a)) O.length (fun a z => (∀ k, k < O.length → k < a → z (60 * o + en_s (O.getD k en_0)) = F k) ∧ (∀ j, (∀ k, k < O.length → j ≠ 60 * o + en_s (O.getD k en_0)) → z j = mf j)) (fun Z => ∃ mf', Z = f_m_clear_L252 n c ib hs d q l rd v' 1000 t cl mp mt mf' mw oe of' (i3 O.length) be bf nb pr tr F R x3 0 ∧ (∀ k, k < O.length → mf' (60 * o + en_s (O.getD k en_0)) = F k) ∧ (∀ j, (∀ k, k < O.length → j ≠ 60 * o + en_s (O.getD k en_0)) → mf' j = mf j)) ?_ ?_ 1000 0 mf (by omega) (by omega) ⟨fun k _ hk => by omega, fun _ _ => rfl⟩
  · intro m a z ha hI
    have hs6 := hsl a ha
    have c4 : ¬ (of' a < 0 ∨ 240 ≤ (of' a).toNatClampNeg) := by rw [hf a ha]; exact ix_i3 (by omega)
    have c5 : (of' a).toNatClampNeg = 60 * o + en_s (O.getD a en_0) := by rw [hf a ha, i3_cl (by omega)]; omega
    refine ⟨upd z (60 * o + en_s (O.getD a en_0)) (F a), ⟨fun k hk hka => ?_, fun j hj => ?_⟩, ?_⟩
    · rw [updf]
      by_cases u : k = a
      · rw [u, if_pos rfl]
      · rw [if_neg (fun y => u (okS_get hS hk ha (by omega)))]
        exact hI.1 k hk (by omega)
    · rw [updf, if_neg (hj a ha)]
      exact hI.2 j hj
    · show f_m_clear_L215 n c ib hs d q l rd v' (m + 1) t cl mp mt z mw oe of' (i3 O.length) be bf nb pr tr F R x3 (i3 a) = f_m_clear_L215 n c ib hs d q l rd v' m t cl mp mt _ mw oe of' (i3 O.length) be bf nb pr tr F R x3 (i3 ((a + 1 : Nat) : Int))
      rw [f_m_clear_L215, if_neg (by rw [i3_le (by omega)]; omega), if_neg (ix_n (by omega) (by omega)), cl_n (by omega), if_neg c4, c5, i3s]
  · intro m z hI
    refine ⟨z, ?_, fun k hk => hI.1 k hk hk, hI.2⟩
    show f_m_clear_L215 n c ib hs d q l rd v' (m + 1) t cl mp mt z mw oe of' (i3 O.length) be bf nb pr tr F R x3 (i3 (O.length : Nat)) = _
    rw [f_m_clear_L215, if_pos (by rw [i3_le (by omega)]; omega)]
theorem mc_L186 {n : Int32} {c ib hs d q l : Nat → Int32} {rd : Int32} {v' : Nat → Int32} {o : Nat} (ho : o < 4) {t : Int32} {cl mp mt : Nat → Int32} {mw : Nat → Int64} {oe of' be bf : Nat → Int32} {no nb : Int32} {pr tr F : Nat → Int32} {R : Nat → Int64} {x3 : Int32} (mf : Nat → Int32) :
    f_m_clear_L186 n c ib hs d q l rd v' (i3 o) 1000 t cl mp mt mf mw oe of' no be bf nb pr tr F R x3 0 = f_m_clear_L215 n c ib hs d q l rd v' 1000 t cl mp mt (flG mf 0 (60 * o) (60 * o + 60)) mw oe of' no be bf nb pr tr F R x3 0 := by
  refine lpG (fun m a (z : Nat → Int32) => f_m_clear_L186 n c ib hs d q l rd v' (i3 o) m t cl mp mt z mw oe of' no be bf nb pr tr F R x3 (i3 a)) 60 (fun a s k => if k = 60 * o + a then 0 else s k) (fun a s => flG s 0 (60 * o + a) (60 * o + 60)) (fun s => f_m_clear_L215 n c ib hs d q l rd v' 1000 t cl mp mt s mw oe of' no be bf nb pr tr F R x3 0) (fun a s h => flG_step (by omega)) (fun s => flG_end) ?_ ?_ 1000 0 mf (by omega) (by omega)
  · intro m a z ha
    have hpl : (60 * i3 o + i3 a).toInt = 60 * o + a := by rw [show (60 : Int32) = i3 60 from rfl, i3_mul, i3_add, i3_toInt (by omega)]
    have hcl : (60 * i3 o + i3 a).toNatClampNeg = 60 * o + a := by
      show (60 * i3 o + i3 a).toInt.toNat = _
      omega
    show f_m_clear_L186 n c ib hs d q l rd v' (i3 o) (m + 1) t cl mp mt z mw oe of' no be bf nb pr tr F R x3 (i3 a) = f_m_clear_L186 n c ib hs d q l rd v' (i3 o) m t cl mp mt _ mw oe of' no be bf nb pr tr F R x3 (i3 ((a + 1 : Nat) : Int))
    rw [f_m_clear_L186, if_neg (lt_c (b := 60) (by decide) ha), if_neg (ix_ok (by rw [hpl]; omega)), hcl, i3s]
    rfl
  · intro m z
    show f_m_clear_L186 n c ib hs d q l rd v' (i3 o) (m + 1) t cl mp mt z mw oe of' no be bf nb pr tr F R x3 (i3 (60 : Nat)) = _
    rw [f_m_clear_L186, if_pos (ge_c (by decide))]
theorem mc_L135 {n : Int32} {c ib hs d q l : Nat → Int32} {rd : Int32} {v' : Nat → Int32} {o : Nat} (ho : o < 4) {t : Int32} {cl mf : Nat → Int32} {mw : Nat → Int64} {oe of' be bf : Nat → Int32} {no nb : Int32} {pr tr F : Nat → Int32} {R : Nat → Int64} {x3 : Int32} (mp mt : Nat → Int32) :
    ∃ mp' mt', f_m_clear_L135 n c ib hs d q l rd v' (i3 o) 1000 t cl mp mt mf mw oe of' no be bf nb pr tr F R x3 0 = f_m_clear_L186 n c ib hs d q l rd v' (i3 o) 1000 t cl mp' mt' mf mw oe of' no be bf nb pr tr F R x3 0 ∧ (∀ h, h < 3 → mp' (3 * o + h) = pr h ∧ mt' (3 * o + h) = tr h) ∧ (∀ j, (j < 3 * o ∨ 3 * o + 3 ≤ j) → mp' j = mp j ∧ mt' j = mt j) := by
  refine lpI (fun m a (z : (Nat → Int32) × (Nat → Int32)) => f_m_clear_L135 n c ib hs d q l rd v' (i3 o) m t cl z.1 z.2 mf mw oe of' no be bf nb pr tr F R x3 (i3 a)) 3 (fun a z => (∀ h, h < 3 → h < a → z.1 (3 * o + h) = pr h ∧ z.2 (3 * o + h) = tr h) ∧ (∀ j, (j < 3 * o ∨ 3 * o + 3 ≤ j) → z.1 j = mp j ∧ z.2 j = mt j)) (fun Z => ∃ mp' mt', Z = f_m_clear_L186 n c ib hs d q l rd v' (i3 o) 1000 t cl mp' mt' mf mw oe of' no be bf nb pr tr F R x3 0 ∧ (∀ h, h < 3 → mp' (3 * o + h) = pr h ∧ mt' (3 * o + h) = tr h) ∧ (∀ j, (j < 3 * o ∨ 3 * o + 3 ≤ j) → mp' j = mp j ∧ mt' j = mt j)) ?_ ?_ 1000 0 (mp, mt) (by omega) (by omega) ⟨fun k _ hk => by omega, fun _ _ => ⟨rfl, rfl⟩⟩
  · intro m a z ha hI
    have hpl : (3 * i3 o + i3 a).toInt = 3 * o + a := by rw [show (3 : Int32) = i3 3 from rfl, i3_mul, i3_add, i3_toInt (by omega)]
    have hcl : (3 * i3 o + i3 a).toNatClampNeg = 3 * o + a := by
      show (3 * i3 o + i3 a).toInt.toNat = _
      omega
    refine ⟨(upd z.1 (3 * o + a) (pr a), upd z.2 (3 * o + a) (tr a)), ⟨fun h hh hha => ?_, fun j hj => ?_⟩, ?_⟩
    · show upd z.1 (3 * o + a) (pr a) (3 * o + h) = _ ∧ upd z.2 (3 * o + a) (tr a) (3 * o + h) = _
      rw [updf, updf]
      by_cases u : h = a
      · rw [if_pos (by omega), if_pos (by omega), u]
        exact ⟨rfl, rfl⟩
      · rw [if_neg (by omega), if_neg (by omega)]
        exact hI.1 h hh (by omega)
    · show upd z.1 (3 * o + a) (pr a) j = _ ∧ upd z.2 (3 * o + a) (tr a) j = _
      rw [updf, updf, if_neg (by omega), if_neg (by omega)]
      exact hI.2 j hj
    · show f_m_clear_L135 n c ib hs d q l rd v' (i3 o) (m + 1) t cl z.1 z.2 mf mw oe of' no be bf nb pr tr F R x3 (i3 a) = f_m_clear_L135 n c ib hs d q l rd v' (i3 o) m t cl _ _ mf mw oe of' no be bf nb pr tr F R x3 (i3 ((a + 1 : Nat) : Int))
      rw [f_m_clear_L135, if_neg (lt_c (b := 3) (by decide) ha), if_neg (ix_n ha (by omega)), if_neg (ix_ok (by rw [hpl]; omega)), hcl, cl_n (by omega), i3s]
  · intro m z hI
    refine ⟨z.1, z.2, ?_, fun k hk => hI.1 k hk hk, hI.2⟩
    show f_m_clear_L135 n c ib hs d q l rd v' (i3 o) (m + 1) t cl z.1 z.2 mf mw oe of' no be bf nb pr tr F R x3 (i3 (3 : Nat)) = _
    rw [f_m_clear_L135, if_pos (ge_c (by decide))]
/-- the search for the best set -/
theorem mc_L58 {n : Int32} {c ib hs d q l : Nat → Int32} {rd : Int32} {v' : Nat → Int32} {B O : List En} (hB : okB B) (hO : okO O) (hS : okS O) {oe be : Nat → Int32} (hG : mOrd hs d q l oe O) (hG' : mBlk hs d q l be B) {o : Nat} (ho : o < 4) {t : Int32} {cl mp mt mf : Nat → Int32} {mw : Nat → Int64} {of' bf : Nat → Int32} (pr tr F : Nat → Int32) (R : Nat → Int64) :
    ∃ pr' tr' F' R', f_m_clear_L58 n c ib hs d q l rd v' (i3 o) 1000 t cl mp mt mf mw oe of' (i3 O.length) be bf (i3 B.length) pr tr F R (-1) 0 0 = f_m_clear_L135 n c ib hs d q l rd v' (i3 o) 1000 t (upd cl o 1) mp mt mf (vp_updL mw o (i6 (sp_w B O (sp_set B O)))) oe of' (i3 O.length) be bf (i3 B.length) pr' tr' F' R' (i3 (sp_set B O)) 0 ∧ (∀ h : Nat, h < 3 → pr' h = i3 (sp_p B O (sp_set B O) h) ∧ tr' h = i3 (sp_t B O (sp_set B O) h)) ∧ ∀ k, k < O.length → F' k = i3 (sp_fill B O (sp_set B O) (O.getD k en_0)) := by
  have hlen := hB.2
  have hp8 := pow8 hB.2
  refine lpI (fun m a (z : (Nat → Int32) × (Nat → Int32) × (Nat → Int32) × (Nat → Int64) × Int32 × Int64) => f_m_clear_L58 n c ib hs d q l rd v' (i3 o) m t cl mp mt mf mw oe of' (i3 O.length) be bf (i3 B.length) z.1 z.2.1 z.2.2.1 z.2.2.2.1 z.2.2.2.2.1 z.2.2.2.2.2 (i3 a)) (2 ^ B.length) (fun a z => (a = 0 ∧ z.2.2.2.2.1 = -1) ∨ (1 ≤ a ∧ z.2.2.2.2.1 = i3 (sp_best B O (a - 1)).1 ∧ z.2.2.2.2.2 = i6 (sp_best B O (a - 1)).2)) (fun Z => ∃ pr' tr' F' R', Z = f_m_clear_L135 n c ib hs d q l rd v' (i3 o) 1000 t (upd cl o 1) mp mt mf (vp_updL mw o (i6 (sp_w B O (sp_set B O)))) oe of' (i3 O.length) be bf (i3 B.length) pr' tr' F' R' (i3 (sp_set B O)) 0 ∧ (∀ h : Nat, h < 3 → pr' h = i3 (sp_p B O (sp_set B O) h) ∧ tr' h = i3 (sp_t B O (sp_set B O) h)) ∧ ∀ k, k < O.length → F' k = i3 (sp_fill B O (sp_set B O) (O.getD k en_0))) ?_ ?_ 1000 0 (pr, tr, F, R, -1, 0) (by omega) (by omega) (Or.inl ⟨rfl, rfl⟩)
  · intro m a z ha hI
    have ha8 : a < 256 := by omega
    obtain ⟨pr1, tr1, F1, R1, k1, k2⟩ := m_fits hB hO hS hG hG' ha8 z.1 z.2.1 z.2.2.1 z.2.2.2.1
    have hwb := w_bd hB hO a
    show ∃ s' : (Nat → Int32) × (Nat → Int32) × (Nat → Int32) × (Nat → Int64) × Int32 × Int64, ((a + 1 = 0 ∧ s'.2.2.2.2.1 = -1) ∨ (1 ≤ a + 1 ∧ s'.2.2.2.2.1 = i3 (sp_best B O (a + 1 - 1)).1 ∧ s'.2.2.2.2.2 = i6 (sp_best B O (a + 1 - 1)).2)) ∧ f_m_clear_L58 n c ib hs d q l rd v' (i3 o) (m + 1) t cl mp mt mf mw oe of' (i3 O.length) be bf (i3 B.length) z.1 z.2.1 z.2.2.1 z.2.2.2.1 z.2.2.2.2.1 z.2.2.2.2.2 (i3 a) = f_m_clear_L58 n c ib hs d q l rd v' (i3 o) m t cl mp mt mf mw oe of' (i3 O.length) be bf (i3 B.length) s'.1 s'.2.1 s'.2.2.1 s'.2.2.2.1 s'.2.2.2.2.1 s'.2.2.2.2.2 (i3 ((a + 1 : Nat) : Int))
    rw [f_m_clear_L58, shlN hlen, if_neg (by rw [i3_le (by omega)]; omega), k1, Option.bind_some, Nat.add_sub_cancel]
    by_cases hf : sp_fit B O a = true
    · rw [if_pos hf]
      show ∃ s' : (Nat → Int32) × (Nat → Int32) × (Nat → Int32) × (Nat → Int64) × Int32 × Int64, _ ∧ (if (1 : Int32) = 0 then _ else _) = _
      rw [if_neg n10]
      show ∃ s' : (Nat → Int32) × (Nat → Int32) × (Nat → Int32) × (Nat → Int64) × Int32 × Int64, _ ∧ (f_m_welfareOf hs d q l oe (i3 O.length) be (i3 B.length) F1 (i3 a)).bind _ = _
      rw [m_welf hB hO hS hG hG' ha8 (fit_iff.mp hf).1 (k2 hf).2, Option.bind_some, i3s]
      rcases hI with ⟨y1, y2⟩ | ⟨y1, y2, y3⟩
      · subst y1
        rw [if_pos (by rw [y2]; decide)]
        exact ⟨(pr1, tr1, F1, R1, i3 (0 : Nat), i6 (sp_w B O 0)), Or.inr ⟨by omega, rfl, rfl⟩, rfl⟩
      · obtain ⟨s1, s2, s3⟩ := best_sp (B := B) hO (a - 1)
        have hx3 : ¬ z.2.2.2.2.1 < 0 := by rw [y2]; exact fun u => ix_n (b := 256) (show (sp_best B O (a - 1)).1 < 256 by omega) (by omega) (Or.inl u)
        have hwb2 := w_bd hB hO (sp_best B O (a - 1)).1
        have hcmp : lg_cmp (i6 (sp_w B O a)) z.2.2.2.2.2 ≤ 0 ↔ sp_w B O a ≤ (sp_best B O (a - 1)).2 := by rw [lg_le0, y3, i6_toInt (by omega), i6_toInt (by omega)]
        have hbe : sp_best B O a = if sp_fit B O a = true ∧ (sp_best B O (a - 1)).2 < sp_w B O a then (a, sp_w B O a) else sp_best B O (a - 1) := by
          obtain ⟨a', rfl⟩ : ∃ g, a = g + 1 := ⟨a - 1, by omega⟩
          rfl
        rw [if_neg hx3]
        by_cases u : sp_w B O a ≤ (sp_best B O (a - 1)).2
        · rw [if_pos (hcmp.mpr u)]
          refine ⟨(pr1, tr1, F1, R1, z.2.2.2.2.1, z.2.2.2.2.2), Or.inr ⟨by omega, ?_, ?_⟩, rfl⟩
          · rw [hbe, if_neg (fun y => by have := y.2; omega)]
            exact y2
          · rw [hbe, if_neg (fun y => by have := y.2; omega)]
            exact y3
        · rw [if_neg (fun y => u (hcmp.mp y))]
          refine ⟨(pr1, tr1, F1, R1, i3 a, i6 (sp_w B O a)), Or.inr ⟨by omega, ?_, ?_⟩, rfl⟩
          · rw [hbe, if_pos ⟨hf, by omega⟩]
          · rw [hbe, if_pos ⟨hf, by omega⟩]
    · rw [if_neg hf]
      show ∃ s' : (Nat → Int32) × (Nat → Int32) × (Nat → Int32) × (Nat → Int64) × Int32 × Int64, _ ∧ (if (0 : Int32) = 0 then _ else _) = _
      rw [if_pos rfl, i3s]
      refine ⟨(pr1, tr1, F1, R1, z.2.2.2.2.1, z.2.2.2.2.2), ?_, rfl⟩
      rcases hI with ⟨y1, y2⟩ | ⟨y1, y2, y3⟩
      · subst y1
        exact absurd (fit_0 hO) hf
      · have hbe : sp_best B O a = sp_best B O (a - 1) := by
          obtain ⟨a', rfl⟩ : ∃ g, a = g + 1 := ⟨a - 1, by omega⟩
          show (if sp_fit B O (a' + 1) = true ∧ _ then _ else _) = _
          rw [if_neg (fun y => hf y.1)]
          rfl
        rw [hbe]
        exact Or.inr ⟨by omega, y2, y3⟩
  · intro m z hI
    rcases hI with ⟨y1, y2⟩ | ⟨y1, y2, y3⟩
    · omega
    · obtain ⟨s1, s2, s3⟩ := best_sp (B := B) hO (2 ^ B.length - 1)
      have hs8 : sp_set B O < 256 := by unfold sp_set; omega
      obtain ⟨pr1, tr1, F1, R1, k1, k2⟩ := m_fits hB hO hS hG hG' hs8 z.1 z.2.1 z.2.2.1 z.2.2.2.1
      refine ⟨pr1, tr1, F1, R1, ?_, k2 s1⟩
      show f_m_clear_L58 n c ib hs d q l rd v' (i3 o) (m + 1) t cl mp mt mf mw oe of' (i3 O.length) be bf (i3 B.length) z.1 z.2.1 z.2.2.1 z.2.2.2.1 z.2.2.2.2.1 z.2.2.2.2.2 (i3 ((2 ^ B.length : Nat) : Int)) = _
      rw [f_m_clear_L58, shlN hlen, if_pos (by rw [i3_le (by omega)]; omega), y2, y3, s3]
      show (f_m_fits hs d q l oe (i3 O.length) be (i3 B.length) z.1 z.2.1 z.2.2.1 z.2.2.2.1 (i3 (sp_set B O))).bind _ = _
      rw [k1, Option.bind_some, if_neg (ix_n ho (by omega)), cl_n (by omega), nar1]
      rfl
