/-! The class tries sets of blocks. -/
theorem x_taken {S k : Nat} (hS : S < 256) (hk : k < 8) : f_mk_isTaken (i3 S) (i3 k) = some (if S.testBit k = true then 1 else 0) := by
  unfold f_mk_isTaken
  rw [bitN hS hk]
  by_cases z : S.testBit k = true
  · rw [if_pos z, if_pos rfl]
  · rw [if_neg z, if_neg (by decide)]
def bvF (B : List En) (S : Nat) (h s : Int) (k : Nat) : Int := if S.testBit k = true ∧ en_d (B.getD k en_0) = s ∧ cov (B.getD k en_0) h then en_q (B.getD k en_0) else 0
theorem blkV_bvF {B : List En} {S : Nat} {h s : Int} : blkV B S h s = smN (bvF B S h s) B.length := rfl
/-- the blocks of an hour are summed -/
def bbR (B : List En) (S : Nat) (bb bo : Nat → Int32) : Prop := ∀ h : Nat, h < 3 → bb h = i3 (blkV B S h 0) ∧ bo h = i3 (blkV B S h 1)
theorem x_sumh {w d q l bl : Nat → Int32} {B : List En} (hB : okB B) (hG : xBlk w d q l bl B) {S h : Nat} (hS : S < 256) (hh : h < 3) (K : (Nat → Int32) → (Nat → Int32) → Int32 → Option ((Nat → Int32) × (Nat → Int32))) (bb bo : Nat → Int32) (hb0 : bb h = 0) (ho0 : bo h = 0) :
    ∃ bb' bo', f_mk_sumBlocks_L23 w d q bl (i3 B.length) (i3 S) K 1000 bb bo (i3 h) 0 = K bb' bo' (i3 ((h + 1 : Nat) : Int)) ∧ bb' h = i3 (blkV B S h 0) ∧ bo' h = i3 (blkV B S h 1) ∧ ∀ j, j ≠ h → bb' j = bb j ∧ bo' j = bo j := by
  have hlen := hB.2
  rw [blkV_bvF, blkV_bvF]
  refine lpI (fun n a (z : (Nat → Int32) × (Nat → Int32)) => f_mk_sumBlocks_L23 w d q bl (i3 B.length) (i3 S) K n z.1 z.2 (i3 h) (i3 a)) B.length (fun a z => z.1 h = i3 (smN (bvF B S h 0) a) ∧ z.2 h = i3 (smN (bvF B S h 1) a) ∧ ∀ j, j ≠ h → z.1 j = bb j ∧ z.2 j = bo j) (fun Z => ∃ bb' bo', Z = K bb' bo' (i3 ((h + 1 : Nat) : Int)) ∧ bb' h = i3 (smN (bvF B S h 0) B.length) ∧ bo' h = i3 (smN (bvF B S h 1) B.length) ∧ ∀ j, j ≠ h → bb' j = bb j ∧ bo' j = bo j) ?_ ?_ 1000 0 (bb, bo) (by omega) (by omega) ⟨hb0, ho0, fun j _ => ⟨rfl, rfl⟩⟩
  · intro n a z ha hI
    obtain ⟨g1, g2, g3, g4, g5⟩ := hG a ha
    obtain ⟨⟨k1, k2, k3, k4⟩, k5⟩ := hB.1 _ (getD_mem ha)
    have c3 : ¬ (bl a < 0 ∨ 240 ≤ (bl a).toNatClampNeg) := ix_ok (by omega)
    have hcov := x_cov (h := i3 h) c3 (by rw [g2]; exact k4)
    rw [g2, i3_toInt (by omega)] at hcov
    have e0 : d (bl a).toNatClampNeg = 0 ↔ en_d (B.getD a en_0) = 0 := by rw [show (0 : Int32) = i3 0 from rfl, i3n _ (by omega), g3]
    have qv : q (bl a).toNatClampNeg = i3 (en_q (B.getD a en_0)) := by rw [i3_of (q (bl a).toNatClampNeg), g4]
    have skip : bvF B S h 0 a = 0 → bvF B S h 1 a = 0 → ∃ s' : (Nat → Int32) × (Nat → Int32), (s'.1 h = i3 (smN (bvF B S h 0) (a + 1)) ∧ s'.2 h = i3 (smN (bvF B S h 1) (a + 1)) ∧ ∀ j, j ≠ h → s'.1 j = bb j ∧ s'.2 j = bo j) ∧ f_mk_sumBlocks_L23 w d q bl (i3 B.length) (i3 S) K n z.1 z.2 (i3 h) (i3 ((a + 1 : Nat) : Int)) = f_mk_sumBlocks_L23 w d q bl (i3 B.length) (i3 S) K n s'.1 s'.2 (i3 h) (i3 ((a + 1 : Nat) : Int)) := by
      intro y0 y1
      refine ⟨z, ⟨?_, ?_, hI.2.2⟩, rfl⟩
      · show _ = i3 (smN (bvF B S h 0) a + bvF B S h 0 a)
        rw [y0, Int.add_zero]; exact hI.1
      · show _ = i3 (smN (bvF B S h 1) a + bvF B S h 1 a)
        rw [y1, Int.add_zero]; exact hI.2.1
    show ∃ s' : (Nat → Int32) × (Nat → Int32), (s'.1 h = i3 (smN (bvF B S h 0) (a + 1)) ∧ s'.2 h = i3 (smN (bvF B S h 1) (a + 1)) ∧ ∀ j, j ≠ h → s'.1 j = bb j ∧ s'.2 j = bo j) ∧ f_mk_sumBlocks_L23 w d q bl (i3 B.length) (i3 S) K (n + 1) z.1 z.2 (i3 h) (i3 a) = f_mk_sumBlocks_L23 w d q bl (i3 B.length) (i3 S) K n s'.1 s'.2 (i3 h) (i3 ((a + 1 : Nat) : Int))
    rw [f_mk_sumBlocks_L23, if_neg (by rw [i3_le (by omega)]; omega), x_taken hS (by omega), Option.bind_some, i3s]
    by_cases z0 : S.testBit a = true
    · rw [if_pos z0, if_neg n10, if_neg (ix_n (by omega) (by omega)), cl_n (by omega), hcov, Option.bind_some]
      by_cases z1 : fsH (en_w (B.getD a en_0)) ≤ (h : Int) ∧ (h : Int) ≤ lsH (en_w (B.getD a en_0))
      · rw [if_pos z1, if_neg n10]
        unfold f_mk_addBlock
        rw [if_neg c3]
        by_cases z2 : en_d (B.getD a en_0) = 0
        · have y0 : bvF B S h 0 a = en_q (B.getD a en_0) := if_pos ⟨z0, z2, z1⟩
          have y1 : bvF B S h 1 a = 0 := if_neg (fun u => by have := u.2.1; omega)
          rw [if_pos (e0.mpr z2), if_neg (ix_n hh (by omega)), Option.bind_some, cl_n (by omega), qv, hI.1, i3_add]
          refine ⟨(upd z.1 h (i3 (smN (bvF B S h 0) a + en_q (B.getD a en_0))), z.2), ⟨?_, ?_, fun j hj => ?_⟩, rfl⟩
          · show upd z.1 h _ h = i3 (smN (bvF B S h 0) a + bvF B S h 0 a)
            rw [updf, if_pos rfl, y0]
          · show z.2 h = i3 (smN (bvF B S h 1) a + bvF B S h 1 a)
            rw [y1, Int.add_zero]; exact hI.2.1
          · show upd z.1 h _ j = bb j ∧ z.2 j = bo j
            rw [updf, if_neg hj]
            exact hI.2.2 j hj
        · have y0 : bvF B S h 0 a = 0 := if_neg (fun u => z2 u.2.1)
          have y1 : bvF B S h 1 a = en_q (B.getD a en_0) := if_pos ⟨z0, by omega, z1⟩
          rw [if_neg (fun u => z2 (e0.mp u)), if_neg (ix_n hh (by omega)), Option.bind_some, cl_n (by omega), qv, hI.2.1, i3_add]
          refine ⟨(z.1, upd z.2 h (i3 (smN (bvF B S h 1) a + en_q (B.getD a en_0)))), ⟨?_, ?_, fun j hj => ?_⟩, rfl⟩
          · show z.1 h = i3 (smN (bvF B S h 0) a + bvF B S h 0 a)
            rw [y0, Int.add_zero]; exact hI.1
          · show upd z.2 h _ h = i3 (smN (bvF B S h 1) a + bvF B S h 1 a)
            rw [updf, if_pos rfl, y1]
          · show z.1 j = bb j ∧ upd z.2 h _ j = bo j
            rw [updf, if_neg hj]
            exact hI.2.2 j hj
      · rw [if_neg z1, if_pos rfl]
        exact skip (if_neg (fun u => z1 u.2.2)) (if_neg (fun u => z1 u.2.2))
    · rw [if_neg z0, if_pos rfl]
      exact skip (if_neg (fun u => z0 u.1)) (if_neg (fun u => z0 u.1))
  · intro n z hI
    refine ⟨z.1, z.2, ?_, hI.1, hI.2.1, hI.2.2⟩
    show f_mk_sumBlocks_L23 w d q bl (i3 B.length) (i3 S) K (n + 1) z.1 z.2 (i3 h) (i3 (B.length : Nat)) = _
    rw [f_mk_sumBlocks_L23, if_pos (by rw [i3_le (by omega)]; omega), i3s]
theorem x_sumB {w d q l bl : Nat → Int32} {B : List En} (hB : okB B) (hG : xBlk w d q l bl B) {S : Nat} (hS : S < 256) (bb bo : Nat → Int32) : ∃ bb' bo', f_mk_sumBlocks w d q bl bb bo (i3 B.length) (i3 S) = some (bb', bo') ∧ bbR B S bb' bo' := by
  unfold f_mk_sumBlocks
  refine lpI (fun n a (z : (Nat → Int32) × (Nat → Int32)) => f_mk_sumBlocks_L2 w d q bl (i3 B.length) (i3 S) n z.1 z.2 (i3 a)) 3 (fun a z => ∀ h : Nat, h < a → z.1 h = i3 (blkV B S h 0) ∧ z.2 h = i3 (blkV B S h 1)) (fun Z => ∃ bb' bo', Z = some (bb', bo') ∧ bbR B S bb' bo') ?_ ?_ 1000 0 (bb, bo) (by omega) (by omega) (fun h hh => by omega)
  · intro n a z ha hI
    obtain ⟨bb', bo', k1, k2, k3, k4⟩ := x_sumh hB hG hS ha (f_mk_sumBlocks_L2 w d q bl (i3 B.length) (i3 S) n) (upd z.1 a 0) (upd z.2 a 0) (if_pos rfl) (if_pos rfl)
    refine ⟨(bb', bo'), fun h hh => ?_, ?_⟩
    · by_cases y : h = a
      · rw [y]; exact ⟨k2, k3⟩
      · obtain ⟨j1, j2⟩ := k4 h y
        obtain ⟨i1, i2⟩ := hI h (by omega)
        show bb' h = _ ∧ bo' h = _
        rw [j1, j2, updf, updf, if_neg y, if_neg y]
        exact ⟨i1, i2⟩
    · show f_mk_sumBlocks_L2 w d q bl (i3 B.length) (i3 S) (n + 1) z.1 z.2 (i3 a) = f_mk_sumBlocks_L2 w d q bl (i3 B.length) (i3 S) n bb' bo' (i3 ((a + 1 : Nat) : Int))
      rw [f_mk_sumBlocks_L2, if_neg (lt_c (b := 3) (by decide) ha), if_neg (ix_n ha (by omega)), cl_n (by omega)]
      exact k1
  · intro n z hI
    refine ⟨z.1, z.2, ?_, hI⟩
    show f_mk_sumBlocks_L2 w d q bl (i3 B.length) (i3 S) (n + 1) z.1 z.2 (i3 (3 : Nat)) = _
    rw [f_mk_sumBlocks_L2, if_pos (ge_c (by decide))]
abbrev cvs (cl cb co : Nat → Nat → Int32) (cc ca cao : Nat → Int32) (O : List En) : Prop := ∀ h : Nat, h < 3 → cvI (cl h) (cb h) (co h) (cc h) (ca h) (cao h) O h
abbrev meets (B O : List En) (S : Nat) : Prop := ∀ h : Nat, h < 3 → sp_lo B O S h ≤ sp_hi B O S h
theorem x_find {w d q l bl : Nat → Int32} {B O : List En} (hB : okB B) (hO : okO O) (hG : xBlk w d q l bl B) {cl cb co : Nat → Nat → Int32} {cc ca cao : Nat → Int32} (hC : cvs cl cb co cc ca cao O) {S : Nat} (hS : S < 256) (bb bo mp : Nat → Int32) :
    ∃ fl bb' bo' mp', f_mk_findPrices w d q bl bb bo (i3 B.length) cl cb co cc ca cao mp (i3 S) = some (fl, bb', bo', mp') ∧ bbR B S bb' bo' ∧ ((fl = 0 ∧ ¬ meets B O S) ∨ (fl = 1 ∧ meets B O S ∧ ∀ h : Nat, h < 3 → mp' h = i3 (sp_p B O S h))) := by
  obtain ⟨bb', bo', k1, k2⟩ := x_sumB hB hG hS bb bo
  unfold f_mk_findPrices
  rw [k1, Option.bind_some]
  refine lpX (fun n a (z : Nat → Int32) => f_mk_findPrices_L7 w d q bl (i3 B.length) cl cb co cc ca cao n bb' bo' z (i3 a)) 3 (fun a z => ∀ h : Nat, h < a → sp_lo B O S h ≤ sp_hi B O S h ∧ z h = i3 (sp_p B O S h)) (fun Z => ∃ fl bb' bo' mp', Z = some (fl, bb', bo', mp') ∧ bbR B S bb' bo' ∧ ((fl = 0 ∧ ¬ meets B O S) ∨ (fl = 1 ∧ meets B O S ∧ ∀ h : Nat, h < 3 → mp' h = i3 (sp_p B O S h)))) ?_ ?_ 1000 0 mp (by omega) (by omega) (fun h hh => by omega)
  · intro n a z ha hI
    obtain ⟨y1, y2⟩ := k2 a ha
    have e1 : f_mk_findPrices_L7 w d q bl (i3 B.length) cl cb co cc ca cao (n + 1) bb' bo' z (i3 a) = if sp_lo B O S a ≤ sp_hi B O S a then f_mk_findPrices_L7 w d q bl (i3 B.length) cl cb co cc ca cao n bb' bo' (va_up z a (i3 (sp_p B O S a))) (i3 ((a + 1 : Nat) : Int)) else some (0, bb', bo', va_up z a (z a)) := by
      rw [f_mk_findPrices_L7, if_neg (lt_c (b := 3) (by decide) ha), if_neg (ix_n ha (by omega)), cl_n (by omega), y1, y2, i3_sub, x_meet hB hO (hC a ha), Option.bind_some, i3s]
      by_cases u : sp_lo B O S a ≤ sp_hi B O S a
      · rw [if_pos u, if_pos u]
        rfl
      · rw [if_neg u, if_neg u]
        rfl
    by_cases u : sp_lo B O S a ≤ sp_hi B O S a
    · right
      refine ⟨va_up z a (i3 (sp_p B O S a)), fun h hh => ?_, ?_⟩
      · rw [vaf]
        by_cases y : h = a
        · rw [if_pos y, y]
          exact ⟨u, rfl⟩
        · rw [if_neg y]
          exact hI h (by omega)
      · rw [e1, if_pos u]
    · left
      refine ⟨0, bb', bo', va_up z a (z a), ?_, k2, Or.inl ⟨rfl, fun y => u (y a ha)⟩⟩
      rw [e1, if_neg u]
  · intro n z hI
    refine ⟨1, bb', bo', z, ?_, k2, Or.inr ⟨rfl, fun h hh => (hI h hh).1, fun h hh => (hI h hh).2⟩⟩
    show f_mk_findPrices_L7 w d q bl (i3 B.length) cl cb co cc ca cao (n + 1) bb' bo' z (i3 (3 : Nat)) = _
    rw [f_mk_findPrices_L7, if_pos (ge_c (by decide))]
theorem cov_cnt {e : En} (h : okW (en_w e)) : smN (fun k => if cov e k then 1 else 0) 3 = lnH (en_w e) := by
  show smN (fun k => if fsH (en_w e) ≤ (k : Int) ∧ (k : Int) ≤ lsH (en_w e) then 1 else 0) 3 = lnH (en_w e)
  generalize en_w e = w at *
  unfold okW at h
  rcases h with rfl | rfl | rfl | rfl | rfl | rfl | rfl | rfl | rfl <;> decide
theorem gain_eq {B O : List En} {S : Nat} {e : En} (h : okW (en_w e)) : sp_gain B O S e = -(en_l e) * lnH (en_w e) + smN (fun k => if cov e k then sp_p B O S k else 0) 3 := by
  rw [← cov_cnt h]
  unfold sp_gain
  show 0 + (if cov e ((0 : Nat) : Int) then sp_p B O S ((0 : Nat) : Int) - en_l e else 0) + (if cov e ((1 : Nat) : Int) then sp_p B O S ((1 : Nat) : Int) - en_l e else 0) + (if cov e ((2 : Nat) : Int) then sp_p B O S ((2 : Nat) : Int) - en_l e else 0) = -(en_l e) * (0 + (if cov e ((0 : Nat) : Int) then 1 else 0) + (if cov e ((1 : Nat) : Int) then 1 else 0) + (if cov e ((2 : Nat) : Int) then 1 else 0)) + (0 + (if cov e ((0 : Nat) : Int) then sp_p B O S ((0 : Nat) : Int) else 0) + (if cov e ((1 : Nat) : Int) then sp_p B O S ((1 : Nat) : Int) else 0) + (if cov e ((2 : Nat) : Int) then sp_p B O S ((2 : Nat) : Int) else 0))
  by_cases z0 : cov e ((0 : Nat) : Int)
  · by_cases z1 : cov e ((1 : Nat) : Int)
    · by_cases z2 : cov e ((2 : Nat) : Int)
      · rw [if_pos z0, if_pos z1, if_pos z2, if_pos z0, if_pos z1, if_pos z2, if_pos z0, if_pos z1, if_pos z2]; omega
      · rw [if_pos z0, if_pos z1, if_neg z2, if_pos z0, if_pos z1, if_neg z2, if_pos z0, if_pos z1, if_neg z2]; omega
    · by_cases z2 : cov e ((2 : Nat) : Int)
      · rw [if_pos z0, if_neg z1, if_pos z2, if_pos z0, if_neg z1, if_pos z2, if_pos z0, if_neg z1, if_pos z2]; omega
      · rw [if_pos z0, if_neg z1, if_neg z2, if_pos z0, if_neg z1, if_neg z2, if_pos z0, if_neg z1, if_neg z2]; omega
  · by_cases z1 : cov e ((1 : Nat) : Int)
    · by_cases z2 : cov e ((2 : Nat) : Int)
      · rw [if_neg z0, if_pos z1, if_pos z2, if_neg z0, if_pos z1, if_pos z2, if_neg z0, if_pos z1, if_pos z2]; omega
      · rw [if_neg z0, if_pos z1, if_neg z2, if_neg z0, if_pos z1, if_neg z2, if_neg z0, if_pos z1, if_neg z2]; omega
    · by_cases z2 : cov e ((2 : Nat) : Int)
      · rw [if_neg z0, if_neg z1, if_pos z2, if_neg z0, if_neg z1, if_pos z2, if_neg z0, if_neg z1, if_pos z2]; omega
      · rw [if_neg z0, if_neg z1, if_neg z2, if_neg z0, if_neg z1, if_neg z2, if_neg z0, if_neg z1, if_neg z2]; omega
theorem x_lenE {w : Nat → Int32} {x : Int32} {W : Int} (hx : 0 ≤ x.toInt ∧ x.toInt < 240) (hw : (w x.toNatClampNeg).toInt = W) (ho : okW W) : f_bk_length w x = some (i3 (lnH W)) := by
  unfold f_bk_length
  rw [if_neg (ix_ok (by omega)), x_len (by rw [hw]; exact ho), Option.bind_some, hw]
theorem x_lose {w d q l bl mp : Nat → Int32} {B O : List En} (hB : okB B) (hG : xBlk w d q l bl B) {S : Nat} (hmp : ∀ h : Nat, h < 3 → mp h = i3 (sp_p B O S h)) {a : Nat} (ha : a < B.length) : f_mk_loses w d l mp (bl a) = some (if sp_lose B O S (B.getD a en_0) then 1 else 0) := by
  obtain ⟨g1, g2, g3, g4, g5⟩ := hG a ha
  obtain ⟨⟨k1, k2, k3, k4⟩, k5⟩ := hB.1 _ (getD_mem ha)
  have c3 : ¬ (bl a < 0 ∨ 240 ≤ (bl a).toNatClampNeg) := ix_ok (by omega)
  have hgb := gain_bd B O S (B.getD a en_0) k3
  have hge := gain_eq (B := B) (O := O) (S := S) (e := B.getD a en_0) k4
  have lv : l (bl a).toNatClampNeg = i3 (en_l (B.getD a en_0)) := by rw [i3_of (l (bl a).toNatClampNeg), g5]
  have e1 : d (bl a).toNatClampNeg = 1 ↔ en_d (B.getD a en_0) = 1 := by rw [show (1 : Int32) = i3 1 from rfl, i3n _ (by omega), g3]
  unfold f_mk_loses
  rw [if_neg c3, x_lenE g1 g2 k4, Option.bind_some, lv, i3_neg, i3_mul]
  have key : ∀ n j : Nat, j ≤ 3 → 3 - j < n → f_mk_loses_L22 w d l mp (bl a) n (i3 (-(en_l (B.getD a en_0)) * lnH (en_w (B.getD a en_0)) + smN (fun k => if cov (B.getD a en_0) k then sp_p B O S k else 0) j)) (i3 j) = some (if sp_lose B O S (B.getD a en_0) then 1 else 0) := by
    refine lp (fun n j => f_mk_loses_L22 w d l mp (bl a) n (i3 (-(en_l (B.getD a en_0)) * lnH (en_w (B.getD a en_0)) + smN (fun k => if cov (B.getD a en_0) k then sp_p B O S k else 0) j)) (i3 j)) 3 _ ?_ ?_
    · intro n j hj
      have hcov := x_cov (h := i3 j) c3 (by rw [g2]; exact k4)
      rw [g2, i3_toInt (by omega)] at hcov
      show f_mk_loses_L22 w d l mp (bl a) (n + 1) (i3 (-(en_l (B.getD a en_0)) * lnH (en_w (B.getD a en_0)) + smN _ j)) (i3 j) = f_mk_loses_L22 w d l mp (bl a) n (i3 (-(en_l (B.getD a en_0)) * lnH (en_w (B.getD a en_0)) + (smN _ j + (if cov (B.getD a en_0) j then sp_p B O S j else 0)))) (i3 ((j + 1 : Nat) : Int))
      rw [f_mk_loses_L22, if_neg (lt_c (b := 3) (by decide) hj), hcov, Option.bind_some, i3s]
      by_cases z : cov (B.getD a en_0) j
      · rw [if_pos z, if_neg n10, if_neg (ix_n hj (by omega)), cl_n (by omega), hmp j hj, i3_add, if_pos z, Int.add_assoc]
      · rw [if_neg z, if_pos rfl, if_neg z, Int.add_zero]
    · intro n
      show f_mk_loses_L22 w d l mp (bl a) (n + 1) _ (i3 (3 : Nat)) = _
      rw [f_mk_loses_L22, if_pos (ge_c (by decide)), if_neg c3, ← hge]
      have gl : (0 : Int32) ≤ i3 (sp_gain B O S (B.getD a en_0)) ↔ 0 ≤ sp_gain B O S (B.getD a en_0) := i3_le (a := 0) (by omega)
      have gr : i3 (sp_gain B O S (B.getD a en_0)) ≤ 0 ↔ sp_gain B O S (B.getD a en_0) ≤ 0 := i3_le (b := 0) (by omega)
      by_cases z1 : en_d (B.getD a en_0) = 1
      · rw [if_pos (e1.mpr z1)]
        by_cases z2 : 0 ≤ sp_gain B O S (B.getD a en_0)
        · rw [if_pos (gl.mpr z2), if_neg (fun y => by rcases y with ⟨-, y⟩ | ⟨y, -⟩; omega; exact y z1)]
        · rw [if_neg (fun y => z2 (gl.mp y)), if_pos (Or.inl ⟨z1, by omega⟩)]
      · rw [if_neg (fun y => z1 (e1.mp y))]
        by_cases z2 : sp_gain B O S (B.getD a en_0) ≤ 0
        · rw [if_pos (gr.mpr z2), if_neg (fun y => by rcases y with ⟨y, -⟩ | ⟨-, y⟩; exact z1 y; omega)]
        · rw [if_neg (fun y => z2 (gr.mp y)), if_pos (Or.inr ⟨z1, by omega⟩)]
  have k0 := key 1000 0 (by omega) (by omega)
  rw [show smN (fun k => if cov (B.getD a en_0) k then sp_p B O S k else 0) 0 = 0 from rfl, Int.add_zero] at k0
  exact k0
theorem x_fit {w d q l bl : Nat → Int32} {B O : List En} (hB : okB B) (hO : okO O) (hG : xBlk w d q l bl B) {cl cb co : Nat → Nat → Int32} {cc ca cao : Nat → Int32} (hC : cvs cl cb co cc ca cao O) {S : Nat} (hS : S < 256) (bb bo mp : Nat → Int32) :
    ∃ bb' bo' mp', f_mk_isFit w d q l bl bb bo (i3 B.length) cl cb co cc ca cao mp (i3 S) = some (if sp_fit B O S = true then 1 else 0, bb', bo', mp') ∧ bbR B S bb' bo' ∧ (sp_fit B O S = true → ∀ h : Nat, h < 3 → mp' h = i3 (sp_p B O S h)) := by
  have hlen := hB.2
  obtain ⟨fl, bb', bo', mp', k1, k2, k3⟩ := x_find hB hO hG hC hS bb bo mp
  unfold f_mk_isFit
  rw [k1, Option.bind_some]
  rcases k3 with ⟨rfl, y⟩ | ⟨rfl, y1, y2⟩
  · have hf : ¬ sp_fit B O S = true := fun u => y (fit_iff.mp u).1
    rw [if_neg hf]
    exact ⟨bb', bo', mp', rfl, k2, fun u => absurd u hf⟩
  · show ∃ bb2 bo2 mp2, f_mk_isFit_L12 w d q l bl (i3 B.length) cl cb co cc ca cao (i3 S) 1000 bb' bo' mp' 0 = some (if sp_fit B O S = true then 1 else 0, bb2, bo2, mp2) ∧ bbR B S bb2 bo2 ∧ (sp_fit B O S = true → ∀ h : Nat, h < 3 → mp2 h = i3 (sp_p B O S h))
    refine ⟨bb', bo', mp', ?_, k2, fun _ => y2⟩
    refine lpX (fun n a (_ : Unit) => f_mk_isFit_L12 w d q l bl (i3 B.length) cl cb co cc ca cao (i3 S) n bb' bo' mp' (i3 a)) B.length (fun a _ => ∀ k : Nat, k < a → S.testBit k = true → ¬ sp_lose B O S (B.getD k en_0)) (fun Z => Z = some (if sp_fit B O S = true then 1 else 0, bb', bo', mp')) ?_ ?_ 1000 0 () (by omega) (by omega) (fun k hk => by omega)
    · intro n a _ ha hI
      have e1 : f_mk_isFit_L12 w d q l bl (i3 B.length) cl cb co cc ca cao (i3 S) (n + 1) bb' bo' mp' (i3 a) = if S.testBit a = true ∧ sp_lose B O S (B.getD a en_0) then some (0, bb', bo', mp') else f_mk_isFit_L12 w d q l bl (i3 B.length) cl cb co cc ca cao (i3 S) n bb' bo' mp' (i3 ((a + 1 : Nat) : Int)) := by
        rw [f_mk_isFit_L12, if_neg (by rw [i3_le (by omega)]; omega), x_taken hS (by omega), Option.bind_some, i3s]
        by_cases z0 : S.testBit a = true
        · rw [if_pos z0, if_neg n10, if_neg (ix_n (by omega) (by omega)), cl_n (by omega), x_lose hB hG y2 ha, Option.bind_some]
          by_cases z1 : sp_lose B O S (B.getD a en_0)
          · rw [if_pos z1, if_neg n10, if_pos ⟨z0, z1⟩]
          · rw [if_neg z1, if_pos rfl, if_neg (fun u => z1 u.2)]
        · rw [if_neg z0, if_pos rfl, if_neg (fun u => z0 u.1)]
      by_cases z : S.testBit a = true ∧ sp_lose B O S (B.getD a en_0)
      · left
        have hf : ¬ sp_fit B O S = true := fun y => (fit_iff.mp y).2 a ha z.1 z.2
        rw [e1, if_pos z, if_neg hf]
      · right
        refine ⟨(), fun k hk hb hl => ?_, ?_⟩
        · by_cases u : k = a
          · exact z (u ▸ ⟨hb, hl⟩)
          · exact hI k (by omega) hb hl
        · rw [e1, if_neg z]
    · intro n _ hI
      have hf : sp_fit B O S = true := fit_iff.mpr ⟨y1, hI⟩
      show f_mk_isFit_L12 w d q l bl (i3 B.length) cl cb co cc ca cao (i3 S) (n + 1) bb' bo' mp' (i3 (B.length : Nat)) = _
      rw [f_mk_isFit_L12, if_pos (by rw [i3_le (by omega)]; omega), if_pos hf]
/-- what is measured of a set -/
def msR (B O : List En) (S : Nat) (sb so pb po vo : Nat → Int32) : Prop := ∀ h : Nat, h < 3 → sb h = i3 (vol B O S h 0 (sp_p B O S h) false) ∧ so h = i3 (vol B O S h 1 (sp_p B O S h) false) ∧ pb h = i3 (sp_all B O S h 0) ∧ po h = i3 (sp_all B O S h 1) ∧ vo h = i3 (sp_t B O S h)
theorem x_worth {w d q l bl : Nat → Int32} {B O : List En} (hB : okB B) (hO : okO O) (hG : xBlk w d q l bl B) {cl cb co : Nat → Nat → Int32} {cc ca cao : Nat → Int32} (hC : cvs cl cb co cc ca cao O) {S : Nat} (hS : S < 256) {bb bo mp : Nat → Int32} (hbb : bbR B S bb bo) (hmp : ∀ h : Nat, h < 3 → mp h = i3 (sp_p B O S h)) (sb so pb po vo : Nat → Int32) (wo : Nat → Int64) :
    ∃ sb' so' pb' po' vo' wo', f_mk_worthOfSet w d q l bl bb bo (i3 B.length) cl cb co cc mp sb so pb po vo wo (i3 S) = some (i6 (sp_w B O S), sb', so', pb', po', vo', wo') ∧ msR B O S sb' so' pb' po' vo' := by
  have hlen := hB.2
  have blk : ∀ (V : Int) (sb so pb po vo : Nat → Int32) (wo : Nat → Int64), f_mk_worthOfSet_L57 w d q l bl bb bo (i3 B.length) cl cb co cc mp (i3 S) 1000 sb so pb po vo wo (i6 V) 0 = some (i6 (V + sp_bw B S), sb, so, pb, po, vo, wo) := by
    intro V sb so pb po vo wo
    have key : ∀ n a : Nat, a ≤ B.length → B.length - a < n → f_mk_worthOfSet_L57 w d q l bl bb bo (i3 B.length) cl cb co cc mp (i3 S) n sb so pb po vo wo (i6 (V + smN (fun k => if S.testBit k = true then (if en_d (B.getD k en_0) = 0 then en_q (B.getD k en_0) * en_l (B.getD k en_0) * lnH (en_w (B.getD k en_0)) else -(en_q (B.getD k en_0) * en_l (B.getD k en_0) * lnH (en_w (B.getD k en_0)))) else 0) a)) (i3 a) = some (i6 (V + sp_bw B S), sb, so, pb, po, vo, wo) := by
      refine lp (fun n a => f_mk_worthOfSet_L57 w d q l bl bb bo (i3 B.length) cl cb co cc mp (i3 S) n sb so pb po vo wo (i6 (V + smN (fun k => if S.testBit k = true then (if en_d (B.getD k en_0) = 0 then en_q (B.getD k en_0) * en_l (B.getD k en_0) * lnH (en_w (B.getD k en_0)) else -(en_q (B.getD k en_0) * en_l (B.getD k en_0) * lnH (en_w (B.getD k en_0)))) else 0) a)) (i3 a)) B.length _ ?_ ?_
      · intro n a ha
        obtain ⟨g1, g2, g3, g4, g5⟩ := hG a ha
        obtain ⟨⟨k1, k2, k3, k4⟩, k5⟩ := hB.1 _ (getD_mem ha)
        have c3 : ¬ (bl a < 0 ∨ 240 ≤ (bl a).toNatClampNeg) := ix_ok (by omega)
        have e1 : d (bl a).toNatClampNeg = 0 ↔ en_d (B.getD a en_0) = 0 := by rw [show (0 : Int32) = i3 0 from rfl, i3n _ (by omega), g3]
        have q6 : Int32.toInt64 (q (bl a).toNatClampNeg) = i6 (en_q (B.getD a en_0)) := by rw [i3_of (q (bl a).toNatClampNeg), g4, i3_long (by omega)]
        have l6 : Int32.toInt64 (l (bl a).toNatClampNeg) = i6 (en_l (B.getD a en_0)) := by rw [i3_of (l (bl a).toNatClampNeg), g5, i3_long (by omega)]
        have hlb := lnH_bd k4
        show f_mk_worthOfSet_L57 w d q l bl bb bo (i3 B.length) cl cb co cc mp (i3 S) (n + 1) sb so pb po vo wo (i6 (V + smN _ a)) (i3 a) = f_mk_worthOfSet_L57 w d q l bl bb bo (i3 B.length) cl cb co cc mp (i3 S) n sb so pb po vo wo (i6 (V + (smN _ a + (if S.testBit a = true then (if en_d (B.getD a en_0) = 0 then en_q (B.getD a en_0) * en_l (B.getD a en_0) * lnH (en_w (B.getD a en_0)) else -(en_q (B.getD a en_0) * en_l (B.getD a en_0) * lnH (en_w (B.getD a en_0)))) else 0)))) (i3 ((a + 1 : Nat) : Int))
        rw [f_mk_worthOfSet_L57, if_neg (by rw [i3_le (by omega)]; omega), x_taken hS (by omega), Option.bind_some, i3s]
        by_cases z : S.testBit a = true
        · rw [if_pos z, if_neg n10, if_neg (ix_n (by omega) (by omega)), cl_n (by omega), if_pos z]
          unfold f_bk_worthOf
          rw [if_neg c3, x_lenE g1 g2 k4, Option.bind_some, q6, l6, i3_long (by omega), i6_mul, i6_mul, i6_neg]
          by_cases y : en_d (B.getD a en_0) = 0
          · rw [if_pos (e1.mpr y), if_pos y, Option.bind_some, i6_add, Int.add_assoc]
          · rw [if_neg (fun u => y (e1.mp u)), if_neg y, Option.bind_some, i6_add, Int.add_assoc]
        · rw [if_neg z, if_pos rfl, if_neg z, Int.add_zero]
      · intro n
        show f_mk_worthOfSet_L57 w d q l bl bb bo (i3 B.length) cl cb co cc mp (i3 S) (n + 1) sb so pb po vo wo _ (i3 (B.length : Nat)) = _
        rw [f_mk_worthOfSet_L57, if_pos (by rw [i3_le (by omega)]; omega)]
        rfl
    have k0 := key 1000 0 (by omega) (by omega)
    rw [show smN (fun k => if S.testBit k = true then (if en_d (B.getD k en_0) = 0 then en_q (B.getD k en_0) * en_l (B.getD k en_0) * lnH (en_w (B.getD k en_0)) else -(en_q (B.getD k en_0) * en_l (B.getD k en_0) * lnH (en_w (B.getD k en_0)))) else 0) 0 = 0 from rfl, Int.add_zero] at k0
    exact k0
  unfold f_mk_worthOfSet
  refine lpI (fun n a (z : (Nat → Int32) × (Nat → Int32) × (Nat → Int32) × (Nat → Int32) × (Nat → Int32) × (Nat → Int64)) => f_mk_worthOfSet_L5 w d q l bl bb bo (i3 B.length) cl cb co cc mp (i3 S) n z.1 z.2.1 z.2.2.1 z.2.2.2.1 z.2.2.2.2.1 z.2.2.2.2.2 (i6 (smN (fun h => sp_hw B O S h) a)) (i3 a)) 3 (fun a z => ∀ h : Nat, h < a → z.1 h = i3 (vol B O S h 0 (sp_p B O S h) false) ∧ z.2.1 h = i3 (vol B O S h 1 (sp_p B O S h) false) ∧ z.2.2.1 h = i3 (sp_all B O S h 0) ∧ z.2.2.2.1 h = i3 (sp_all B O S h 1) ∧ z.2.2.2.2.1 h = i3 (sp_t B O S h)) (fun Z => ∃ sb' so' pb' po' vo' wo', Z = some (i6 (sp_w B O S), sb', so', pb', po', vo', wo') ∧ msR B O S sb' so' pb' po' vo') ?_ ?_ 1000 0 (sb, so, pb, po, vo, wo) (by omega) (by omega) (fun h hh => by omega)
  · intro n a z ha hI
    obtain ⟨y1, y2⟩ := hbb a ha
    refine ⟨(va_up z.1 a (i3 (vol B O S a 0 (sp_p B O S a) false)), va_up z.2.1 a (i3 (vol B O S a 1 (sp_p B O S a) false)), va_up z.2.2.1 a (i3 (sp_all B O S a 0)), va_up z.2.2.2.1 a (i3 (sp_all B O S a 1)), va_up z.2.2.2.2.1 a (i3 (sp_t B O S a)), va_up z.2.2.2.2.2 a (i6 (sp_hw B O S a))), fun h hh => ?_, ?_⟩
    · show va_up z.1 a _ h = _ ∧ va_up z.2.1 a _ h = _ ∧ va_up z.2.2.1 a _ h = _ ∧ va_up z.2.2.2.1 a _ h = _ ∧ va_up z.2.2.2.2.1 a _ h = _
      rw [vaf, vaf, vaf, vaf, vaf]
      by_cases y : h = a
      · rw [if_pos y, if_pos y, if_pos y, if_pos y, if_pos y, y]
        exact ⟨rfl, rfl, rfl, rfl, rfl⟩
      · rw [if_neg y, if_neg y, if_neg y, if_neg y, if_neg y]
        exact hI h (by omega)
    · show f_mk_worthOfSet_L5 w d q l bl bb bo (i3 B.length) cl cb co cc mp (i3 S) (n + 1) z.1 z.2.1 z.2.2.1 z.2.2.2.1 z.2.2.2.2.1 z.2.2.2.2.2 (i6 (smN (fun h => sp_hw B O S h) a)) (i3 a) = f_mk_worthOfSet_L5 w d q l bl bb bo (i3 B.length) cl cb co cc mp (i3 S) n _ _ _ _ _ _ (i6 (smN (fun h => sp_hw B O S h) a + sp_hw B O S a)) (i3 ((a + 1 : Nat) : Int))
      rw [f_mk_worthOfSet_L5, if_neg (lt_c (b := 3) (by decide) ha), if_neg (ix_n ha (by omega)), cl_n (by omega), hmp a ha, y1, y2, x_meas hB hO (hC a ha), Option.bind_some, i3s, vaf, if_pos rfl, i6_add]
  · intro n z hI
    refine ⟨z.1, z.2.1, z.2.2.1, z.2.2.2.1, z.2.2.2.2.1, z.2.2.2.2.2, ?_, hI⟩
    show f_mk_worthOfSet_L5 w d q l bl bb bo (i3 B.length) cl cb co cc mp (i3 S) (n + 1) z.1 z.2.1 z.2.2.1 z.2.2.2.1 z.2.2.2.2.1 z.2.2.2.2.2 _ (i3 (3 : Nat)) = _
    rw [f_mk_worthOfSet_L5, if_pos (ge_c (by decide)), blk]
    rfl
theorem x_best {w d q l bl : Nat → Int32} {B O : List En} (hB : okB B) (hO : okO O) (hG : xBlk w d q l bl B) {cl cb co : Nat → Nat → Int32} {cc ca cao : Nat → Int32} (hC : cvs cl cb co cc ca cao O) (bb bo mp sb so pb po vo : Nat → Int32) (wo : Nat → Int64) :
    ∃ bb' bo' mp' sb' so' pb' po' vo' wo', f_mk_bestSet w d q l bl bb bo (i3 B.length) cl cb co cc ca cao mp sb so pb po vo wo = some (i3 (sp_set B O), bb', bo', mp', sb', so', pb', po', vo', wo') := by
  have hlen := hB.2
  have hp8 := pow8 hB.2
  obtain ⟨fl, bb1, bo1, mp1, k1, k2, k3⟩ := x_find hB hO hG hC (S := 0) (by omega) bb bo mp
  rcases k3 with ⟨-, y⟩ | ⟨rfl, y1, y2⟩
  · exact absurd (show meets B O 0 from fun h _ => meet_0 hO h) y
  obtain ⟨sb1, so1, pb1, po1, vo1, wo1, j1, j2⟩ := x_worth hB hO hG hC (S := 0) (by omega) k2 y2 sb so pb po vo wo
  unfold f_mk_bestSet
  rw [show (0 : Int32) = i3 ((0 : Nat) : Int) from rfl] at *
  rw [k1, Option.bind_some]
  show ∃ bb' bo' mp' sb' so' pb' po' vo' wo', (f_mk_worthOfSet w d q l bl bb1 bo1 (i3 B.length) cl cb co cc mp1 sb so pb po vo wo (i3 ((0 : Nat) : Int))).bind _ = _
  rw [j1, Option.bind_some]
  refine lpI (fun n a (z : (Nat → Int32) × (Nat → Int32) × (Nat → Int32) × (Nat → Int32) × (Nat → Int32) × (Nat → Int32) × (Nat → Int32) × (Nat → Int32) × (Nat → Int64) × Int32 × Int64) => f_mk_bestSet_L17 w d q l bl (i3 B.length) cl cb co cc ca cao n z.1 z.2.1 z.2.2.1 z.2.2.2.1 z.2.2.2.2.1 z.2.2.2.2.2.1 z.2.2.2.2.2.2.1 z.2.2.2.2.2.2.2.1 z.2.2.2.2.2.2.2.2.1 z.2.2.2.2.2.2.2.2.2.1 z.2.2.2.2.2.2.2.2.2.2 (i3 ((a : Nat) : Int))) (2 ^ B.length) (fun a z => 1 ≤ a ∧ z.2.2.2.2.2.2.2.2.2.1 = i3 (sp_best B O (a - 1)).1 ∧ z.2.2.2.2.2.2.2.2.2.2 = i6 (sp_best B O (a - 1)).2) (fun Z => ∃ bb' bo' mp' sb' so' pb' po' vo' wo', Z = some (i3 (sp_set B O), bb', bo', mp', sb', so', pb', po', vo', wo')) ?_ ?_ 1000 1 (bb1, bo1, mp1, sb1, so1, pb1, po1, vo1, wo1, i3 ((0 : Nat) : Int), i6 (sp_w B O 0)) (by omega) (by omega) ⟨by omega, rfl, rfl⟩
  · intro n a z ha hI
    obtain ⟨i1, i2, i3'⟩ := hI
    have ha8 : a < 256 := by omega
    have hwb := w_bd hB hO a
    obtain ⟨s1, s2, s3⟩ := best_sp (B := B) hO (a - 1)
    have hwb2 := w_bd hB hO (sp_best B O (a - 1)).1
    have hbe : sp_best B O a = if sp_fit B O a = true ∧ (sp_best B O (a - 1)).2 < sp_w B O a then (a, sp_w B O a) else sp_best B O (a - 1) := by
      obtain ⟨a', rfl⟩ : ∃ g, a = g + 1 := ⟨a - 1, by omega⟩
      rfl
    obtain ⟨bb2, bo2, mp2, q1, q2, q3⟩ := x_fit hB hO hG hC ha8 z.1 z.2.1 z.2.2.1
    show ∃ s' : (Nat → Int32) × (Nat → Int32) × (Nat → Int32) × (Nat → Int32) × (Nat → Int32) × (Nat → Int32) × (Nat → Int32) × (Nat → Int32) × (Nat → Int64) × Int32 × Int64, (1 ≤ a + 1 ∧ s'.2.2.2.2.2.2.2.2.2.1 = i3 (sp_best B O (a + 1 - 1)).1 ∧ s'.2.2.2.2.2.2.2.2.2.2 = i6 (sp_best B O (a + 1 - 1)).2) ∧ f_mk_bestSet_L17 w d q l bl (i3 B.length) cl cb co cc ca cao (n + 1) z.1 z.2.1 z.2.2.1 z.2.2.2.1 z.2.2.2.2.1 z.2.2.2.2.2.1 z.2.2.2.2.2.2.1 z.2.2.2.2.2.2.2.1 z.2.2.2.2.2.2.2.2.1 z.2.2.2.2.2.2.2.2.2.1 z.2.2.2.2.2.2.2.2.2.2 (i3 ((a : Nat) : Int)) = f_mk_bestSet_L17 w d q l bl (i3 B.length) cl cb co cc ca cao n s'.1 s'.2.1 s'.2.2.1 s'.2.2.2.1 s'.2.2.2.2.1 s'.2.2.2.2.2.1 s'.2.2.2.2.2.2.1 s'.2.2.2.2.2.2.2.1 s'.2.2.2.2.2.2.2.2.1 s'.2.2.2.2.2.2.2.2.2.1 s'.2.2.2.2.2.2.2.2.2.2 (i3 ((a + 1 : Nat) : Int))
    rw [f_mk_bestSet_L17, shlN hlen, if_neg (by rw [i3_le (by omega)]; omega), q1, Option.bind_some, Nat.add_sub_cancel]
    by_cases hf : sp_fit B O a = true
    · rw [if_pos hf]
      obtain ⟨sb2, so2, pb2, po2, vo2, wo2, r1, r2⟩ := x_worth hB hO hG hC ha8 q2 (q3 hf) z.2.2.2.1 z.2.2.2.2.1 z.2.2.2.2.2.1 z.2.2.2.2.2.2.1 z.2.2.2.2.2.2.2.1 z.2.2.2.2.2.2.2.2.1
      show ∃ s' : (Nat → Int32) × (Nat → Int32) × (Nat → Int32) × (Nat → Int32) × (Nat → Int32) × (Nat → Int32) × (Nat → Int32) × (Nat → Int32) × (Nat → Int64) × Int32 × Int64, _ ∧ (if (1 : Int32) = 0 then _ else (f_mk_worthOfSet w d q l bl bb2 bo2 (i3 B.length) cl cb co cc mp2 z.2.2.2.1 z.2.2.2.2.1 z.2.2.2.2.2.1 z.2.2.2.2.2.2.1 z.2.2.2.2.2.2.2.1 z.2.2.2.2.2.2.2.2.1 (i3 a)).bind _) = _
      rw [if_neg n10, r1, Option.bind_some]
      have hcmp : lg_cmp (i6 (sp_w B O a)) z.2.2.2.2.2.2.2.2.2.2 ≤ 0 ↔ sp_w B O a ≤ (sp_best B O (a - 1)).2 := by rw [lg_le0, i3', i6_toInt (by omega), i6_toInt (by omega)]
      rw [i3s]
      by_cases u : sp_w B O a ≤ (sp_best B O (a - 1)).2
      · rw [if_pos (hcmp.mpr u)]
        refine ⟨(bb2, bo2, mp2, sb2, so2, pb2, po2, vo2, wo2, z.2.2.2.2.2.2.2.2.2.1, z.2.2.2.2.2.2.2.2.2.2), ⟨by omega, ?_, ?_⟩, rfl⟩
        · rw [hbe, if_neg (fun y => by have := y.2; omega)]
          exact i2
        · rw [hbe, if_neg (fun y => by have := y.2; omega)]
          exact i3'
      · rw [if_neg (fun y => u (hcmp.mp y))]
        refine ⟨(bb2, bo2, mp2, sb2, so2, pb2, po2, vo2, wo2, i3 a, i6 (sp_w B O a)), ⟨by omega, ?_, ?_⟩, rfl⟩
        · rw [hbe, if_pos ⟨hf, by omega⟩]
        · rw [hbe, if_pos ⟨hf, by omega⟩]
    · rw [if_neg hf]
      show ∃ s' : (Nat → Int32) × (Nat → Int32) × (Nat → Int32) × (Nat → Int32) × (Nat → Int32) × (Nat → Int32) × (Nat → Int32) × (Nat → Int32) × (Nat → Int64) × Int32 × Int64, _ ∧ (if (0 : Int32) = 0 then _ else _) = _
      rw [if_pos rfl, i3s]
      refine ⟨(bb2, bo2, mp2, z.2.2.2.1, z.2.2.2.2.1, z.2.2.2.2.2.1, z.2.2.2.2.2.2.1, z.2.2.2.2.2.2.2.1, z.2.2.2.2.2.2.2.2.1, z.2.2.2.2.2.2.2.2.2.1, z.2.2.2.2.2.2.2.2.2.2), ⟨by omega, ?_, ?_⟩, rfl⟩
      · rw [hbe, if_neg (fun y => hf y.1)]
        exact i2
      · rw [hbe, if_neg (fun y => hf y.1)]
        exact i3'
  · intro n z hI
    obtain ⟨i1, i2, i3'⟩ := hI
    refine ⟨z.1, z.2.1, z.2.2.1, z.2.2.2.1, z.2.2.2.2.1, z.2.2.2.2.2.1, z.2.2.2.2.2.2.1, z.2.2.2.2.2.2.2.1, z.2.2.2.2.2.2.2.2.1, ?_⟩
    show f_mk_bestSet_L17 w d q l bl (i3 B.length) cl cb co cc ca cao (n + 1) z.1 z.2.1 z.2.2.1 z.2.2.2.1 z.2.2.2.2.1 z.2.2.2.2.2.1 z.2.2.2.2.2.2.1 z.2.2.2.2.2.2.2.1 z.2.2.2.2.2.2.2.2.1 z.2.2.2.2.2.2.2.2.2.1 z.2.2.2.2.2.2.2.2.2.2 (i3 ((2 ^ B.length : Nat) : Int)) = _
    rw [f_mk_bestSet_L17, shlN hlen, if_pos (by rw [i3_le (by omega)]; omega), i2]
    rfl
