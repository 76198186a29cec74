/-! The class gives what is whole, and settles. -/
def nbk (E : List En) (a : Nat) : Nat := ((E.take a).filter en_b).length
theorem nbk_succ {E : List En} {a : Nat} (h : a < E.length) : nbk E (a + 1) = nbk E a + (if en_b (E.getD a en_0) = true then 1 else 0) := by
  unfold nbk
  rw [List.take_add_one, List.getElem?_eq_getElem h, List.filter_append, List.length_append]
  have hg : E.getD a en_0 = E[a] := by rw [List.getD_eq_getElem?_getD, List.getElem?_eq_getElem h]; rfl
  rw [hg]
  congr 1
  show ([E[a]].filter en_b).length = _
  by_cases z : en_b E[a] = true
  · rw [List.filter_cons_of_pos z, if_pos z]
    rfl
  · rw [List.filter_cons_of_neg z, if_neg z]
    rfl
theorem nbk_le {E : List En} {a : Nat} : nbk E a ≤ a := Nat.le_trans (List.length_filter_le _ _) (by rw [List.length_take]; omega)
theorem flt_ix : ∀ (E : List En) (k : Nat) (e : En), (E.filter en_b)[k]? = some e → ∃ j, j < E.length ∧ E.getD j en_0 = e ∧ nbk E j = k ∧ en_b e = true
  | [], k, e, h => by
    rw [List.filter_nil, List.getElem?_nil] at h
    cases h
  | a :: t, k, e, h => by
    by_cases z : en_b a = true
    · rw [List.filter_cons_of_pos z] at h
      cases k with
      | zero =>
        rw [List.getElem?_cons_zero] at h
        cases h
        exact ⟨0, by show 0 < t.length + 1; omega, rfl, rfl, z⟩
      | succ k =>
        rw [List.getElem?_cons_succ] at h
        obtain ⟨j, j1, j2, j3, j4⟩ := flt_ix t k e h
        refine ⟨j + 1, by show j + 1 < t.length + 1; omega, j2, ?_, j4⟩
        unfold nbk at *
        rw [List.take_succ_cons, List.filter_cons_of_pos z, List.length_cons, j3]
    · rw [List.filter_cons_of_neg z] at h
      obtain ⟨j, j1, j2, j3, j4⟩ := flt_ix t k e h
      refine ⟨j + 1, by show j + 1 < t.length + 1; omega, j2, ?_, j4⟩
      unfold nbk at *
      rw [List.take_succ_cons, List.filter_cons_of_neg z, j3]
abbrev sureE (B O : List En) (S : Nat) (e : En) : Prop := if en_d e = 0 then sp_p B O S (en_w e) < en_l e else en_l e < sp_p B O S (en_w e)
def gwV (B O : List En) (S : Nat) (k : Nat) (e : En) : Int := if en_b e = true then sp_bfill B S k e else if sureE B O S e then en_q e else 0
theorem x_sure {w d q l en : Nat → Int32} {E : List En} (hE : okE 60 E) (hG : xBlk w d q l en E) {B O : List En} {S : Nat} {mp : Nat → Int32} (hmp : ∀ h : Nat, h < 3 → mp h = i3 (sp_p B O S h)) {a : Nat} (ha : a < E.length) (hw : en_w (E.getD a en_0) < 100) : f_mk_isSure w d l mp (en a) = some (if sureE B O S (E.getD a en_0) then 1 else 0) := by
  obtain ⟨g1, g2, g3, g4, g5⟩ := hG a ha
  obtain ⟨⟨k1, k2, k3, k4⟩, k5⟩ := hE.2.1 _ (getD_mem ha)
  have hpb := sp_p_bd B O S (en_w (E.getD a en_0))
  have c3 : ¬ (en a < 0 ∨ 240 ≤ (en a).toNatClampNeg) := ix_ok (by omega)
  have hwn : (w (en a).toNatClampNeg).toNatClampNeg = (en_w (E.getD a en_0)).toNat := by
    show (w (en a).toNatClampNeg).toInt.toNat = _
    rw [g2]
  have hix3 : ¬ (w (en a).toNatClampNeg < 0 ∨ 3 ≤ (w (en a).toNatClampNeg).toNatClampNeg) := ix_ok (by rw [g2]; omega)
  have hm := hmp (en_w (E.getD a en_0)).toNat (by omega)
  rw [show (((en_w (E.getD a en_0)).toNat : Nat) : Int) = en_w (E.getD a en_0) by omega] at hm
  have lv : l (en a).toNatClampNeg = i3 (en_l (E.getD a en_0)) := by rw [i3_of (l (en a).toNatClampNeg), g5]
  have e0 : d (en a).toNatClampNeg = 0 ↔ en_d (E.getD a en_0) = 0 := by rw [show (0 : Int32) = i3 0 from rfl, i3n _ (by omega), g3]
  have f1 : i3 (en_l (E.getD a en_0) - sp_p B O S (en_w (E.getD a en_0))) ≤ 0 ↔ en_l (E.getD a en_0) - sp_p B O S (en_w (E.getD a en_0)) ≤ 0 := i3_le (b := 0) (by omega)
  have f2 : (0 : Int32) ≤ i3 (en_l (E.getD a en_0) - sp_p B O S (en_w (E.getD a en_0))) ↔ 0 ≤ en_l (E.getD a en_0) - sp_p B O S (en_w (E.getD a en_0)) := i3_le (a := 0) (by omega)
  unfold f_mk_isSure
  rw [if_neg c3, if_neg hix3, hwn, hm, lv, i3_sub]
  by_cases z : en_d (E.getD a en_0) = 0
  · rw [if_pos (e0.mpr z)]
    by_cases y : sp_p B O S (en_w (E.getD a en_0)) < en_l (E.getD a en_0)
    · rw [if_neg (fun u => by have := f1.mp u; omega), if_pos (show sureE B O S (E.getD a en_0) by unfold sureE; rw [if_pos z]; exact y)]
    · rw [if_pos (f1.mpr (by omega)), if_neg (show ¬ sureE B O S (E.getD a en_0) by unfold sureE; rw [if_pos z]; exact y)]
  · rw [if_neg (fun u => z (e0.mp u))]
    by_cases y : en_l (E.getD a en_0) < sp_p B O S (en_w (E.getD a en_0))
    · rw [if_neg (fun u => by have := f2.mp u; omega), if_pos (show sureE B O S (E.getD a en_0) by unfold sureE; rw [if_neg z]; exact y)]
    · rw [if_pos (f2.mpr (by omega)), if_neg (show ¬ sureE B O S (E.getD a en_0) by unfold sureE; rw [if_neg z]; exact y)]
theorem x_give {w d q l en sl : Nat → Int32} {E : List En} (hE : okE 60 E) (hG : xBlk w d q l en E) (hsl : xSl sl E) {B O : List En} (hB : okB B) {S : Nat} (hS8 : S < 256) {mp : Nat → Int32} (hmp : ∀ h : Nat, h < 3 → mp h = i3 (sp_p B O S h)) (F : Nat → Int32) :
    ∃ F', f_mk_giveWhole w d q l en sl (i3 E.length) (i3 B.length) mp F (i3 S) = some F' ∧ ∀ k, k < E.length → F' (en_s (E.getD k en_0)) = i3 (gwV B O S (nbk E k) (E.getD k en_0)) := by
  have hlen := hE.1
  have hlB := hB.2
  have hS := hE.2.2
  unfold f_mk_giveWhole
  refine lpI (fun n a (z : Nat → Int32) => f_mk_giveWhole_L5 w d q l en sl (i3 E.length) (i3 B.length) mp (i3 S) n z (i3 (nbk E a)) (i3 a)) E.length (fun a z => ∀ k, k < a → z (en_s (E.getD k en_0)) = i3 (gwV B O S (nbk E k) (E.getD k en_0))) (fun Z => ∃ F', Z = some F' ∧ ∀ k, k < E.length → F' (en_s (E.getD k en_0)) = i3 (gwV B O S (nbk E k) (E.getD k en_0))) ?_ ?_ 1000 0 F (by omega) (by omega) (fun k hk => by omega)
  · intro n a z ha hI
    obtain ⟨g1, g2, g3, g4, g5⟩ := hG a ha
    obtain ⟨⟨k1, k2, k3, k4⟩, k5⟩ := hE.2.1 _ (getD_mem ha)
    have hnb := nbk_le (E := E) (a := a)
    have c2 : ¬ (i3 (a : Nat) < 0 ∨ 60 ≤ (i3 (a : Nat)).toNatClampNeg) := ix_n (by omega) (by omega)
    have c3 : ¬ (en a < 0 ∨ 240 ≤ (en a).toNatClampNeg) := ix_ok (by omega)
    have hsb : sl a = i3 (en_s (E.getD a en_0)) := hsl a ha
    have hix1 : ¬ (sl a < 0 ∨ 60 ≤ (sl a).toNatClampNeg) := by rw [hsb]; exact ix_n k5 (by omega)
    have hcl1 : (sl a).toNatClampNeg = en_s (E.getD a en_0) := by rw [hsb]; exact cl_n (by omega)
    have qv : q (en a).toNatClampNeg = i3 (en_q (E.getD a en_0)) := by rw [i3_of (q (en a).toNatClampNeg), g4]
    have hw1 : w (en a).toNatClampNeg < 100 ↔ en_w (E.getD a en_0) < 100 := by rw [Int32.lt_iff_toInt_lt, g2]; rfl
    have b73 : ∀ (K : (Nat → Int32) → Int32 → Int32 → Option (Nat → Int32)) (x3 v : Int32), v = 0 ∨ v = 1 → f_mk_giveWhole_b73 w d q l en sl (i3 E.length) (i3 B.length) mp (i3 S) K z x3 (i3 a) v = K (upd z (en_s (E.getD a en_0)) (if v = 0 then 0 else i3 (en_q (E.getD a en_0)))) x3 (i3 ((a + 1 : Nat) : Int)) := by
      intro K x3 v hv
      unfold f_mk_giveWhole_b73
      rw [if_neg c2, cl_n (by omega), i3s]
      rcases hv with rfl | rfl
      · rw [if_pos rfl, if_neg hix1, hcl1, if_pos rfl]
      · rw [if_neg n10, if_neg c3, if_neg hix1, hcl1, qv, if_neg n10]
    have fin : ∀ v : Int32, v = i3 (gwV B O S (nbk E a) (E.getD a en_0)) → ∀ k, k < a + 1 → upd z (en_s (E.getD a en_0)) v (en_s (E.getD k en_0)) = i3 (gwV B O S (nbk E k) (E.getD k en_0)) := by
      intro v hv k hk
      rw [updf]
      by_cases u : k = a
      · rw [u, if_pos rfl, hv]
      · rw [if_neg (fun y => u (okS_get hS (by omega) ha y))]
        exact hI k (by omega)
    show ∃ s' : Nat → Int32, (∀ k, k < a + 1 → s' (en_s (E.getD k en_0)) = i3 (gwV B O S (nbk E k) (E.getD k en_0))) ∧ f_mk_giveWhole_L5 w d q l en sl (i3 E.length) (i3 B.length) mp (i3 S) (n + 1) z (i3 (nbk E a)) (i3 a) = f_mk_giveWhole_L5 w d q l en sl (i3 E.length) (i3 B.length) mp (i3 S) n s' (i3 (nbk E (a + 1))) (i3 ((a + 1 : Nat) : Int))
    rw [f_mk_giveWhole_L5, if_neg (by rw [i3_le (by omega)]; omega), if_neg c2, cl_n (by omega)]
    unfold f_bk_isBlock
    rw [if_neg c3, nbk_succ ha]
    by_cases y : en_w (E.getD a en_0) < 100
    · have hb : ¬ en_b (E.getD a en_0) = true := by
        unfold en_b
        rw [decide_eq_true_iff]
        omega
      rw [if_pos (hw1.mpr y), Option.bind_some, if_pos rfl, x_sure hE hG hmp ha y, Option.bind_some, b73 _ _ _ (by split; exact Or.inr rfl; exact Or.inl rfl), if_neg hb, Nat.add_zero]
      refine ⟨_, fin _ ?_, rfl⟩
      unfold gwV
      rw [if_neg hb]
      by_cases u : sureE B O S (E.getD a en_0)
      · rw [if_pos u, if_neg n10, if_pos u]
      · rw [if_neg u, if_pos rfl, if_neg u]
        rfl
    · have hb : en_b (E.getD a en_0) = true := by
        unfold en_b
        rw [decide_eq_true_iff]
        omega
      rw [if_neg (fun u => y (hw1.mp u)), Option.bind_some, if_neg n10, if_pos hb]
      unfold f_mk_giveWhole_b51 f_mk_giveWhole_b52
      rw [b73 _ _ _ (Or.inl rfl), b73 _ _ _ (Or.inr rfl), i3s, if_pos (show (0 : Int32) = 0 from rfl), if_neg n10]
      by_cases u : nbk E a < B.length
      · rw [if_neg (by rw [i3_le (by omega)]; omega), x_taken hS8 (by omega), Option.bind_some]
        by_cases v : S.testBit (nbk E a) = true
        · rw [if_pos v, if_neg n10]
          refine ⟨_, fin _ ?_, rfl⟩
          unfold gwV sp_bfill
          rw [if_pos hb, if_pos ⟨u, v⟩]
        · rw [if_neg v, if_pos rfl]
          refine ⟨_, fin _ ?_, rfl⟩
          unfold gwV sp_bfill
          rw [if_pos hb, if_neg (fun t => v t.2)]
          rfl
      · rw [if_pos (by rw [i3_le (by omega)]; omega)]
        refine ⟨_, fin _ ?_, rfl⟩
        unfold gwV sp_bfill
        rw [if_pos hb, if_neg (fun t => u t.1)]
        rfl
  · intro n z hI
    refine ⟨z, ?_, hI⟩
    show f_mk_giveWhole_L5 w d q l en sl (i3 E.length) (i3 B.length) mp (i3 S) (n + 1) z _ (i3 (E.length : Nat)) = _
    rw [f_mk_giveWhole_L5, if_pos (by rw [i3_le (by omega)]; omega)]
/-- fills of all entries as the document asks -/
def flR (E : List En) (S : Nat) (F : Nat → Int32) : Prop := (∀ e ∈ ordL E, F (en_s e) = i3 (sp_fill (blkL E) (ordL E) S e)) ∧ ∀ (k : Nat) (e : En), (E.filter en_b)[k]? = some e → F (en_s e) = i3 (sp_bfill (blkL E) S k e)
theorem getD_of_mem {E : List En} {e : En} (h : e ∈ E) : ∃ k, k < E.length ∧ E.getD k en_0 = e := by
  obtain ⟨k, hk, he⟩ := List.getElem_of_mem h
  exact ⟨k, hk, by rw [List.getD_eq_getElem?_getD, List.getElem?_eq_getElem hk]; exact he⟩
theorem x_shares {w d q l en sl bl : Nat → Int32} {mp sb so pb po vo bb bo : Nat → Int32} {wo : Nat → Int64} {bc : Int32} {cl cb co : Nat → Nat → Int32} {cc ca cao : Nat → Int32} {E : List En} (hE : okE 60 E) (hG : xBlk w d q l en E) (hsl : xSl sl E) {S : Nat} (hm : meets (blkL E) (ordL E) S) (hmp : ∀ h : Nat, h < 3 → mp h = i3 (sp_p (blkL E) (ordL E) S h)) (hms : msR (blkL E) (ordL E) S sb so pb po vo) {op ov : Nat → Int32} {ow : Int64} {ot od : Int32} (rem F : Nat → Int32) (hF : ∀ k, k < E.length → F (en_s (E.getD k en_0)) = i3 (gwV (blkL E) (ordL E) S (nbk E k) (E.getD k en_0))) :
    ∃ rem' F', f_mk_settleInto_L76 w d q l en sl bl (i3 E.length) bc cl cb co cc ca cao 1000 rem bb bo mp sb so pb po vo wo op ov F ow ot od 0 = some (rem', bb, bo, mp, sb, so, pb, po, vo, wo, op, ov, F', ow, ot, 1) ∧ flR E S F' := by
  refine lpI (fun n a (z : (Nat → Int32) × (Nat → Int32)) => f_mk_settleInto_L76 w d q l en sl bl (i3 E.length) bc cl cb co cc ca cao n z.1 bb bo mp sb so pb po vo wo op ov z.2 ow ot od (i3 a)) 3 (fun a z => ∀ k, k < E.length → (en_b (E.getD k en_0) = true → z.2 (en_s (E.getD k en_0)) = i3 (sp_bfill (blkL E) S (nbk E k) (E.getD k en_0))) ∧ (¬ en_b (E.getD k en_0) = true → (¬ en_l (E.getD k en_0) = sp_p (blkL E) (ordL E) S (en_w (E.getD k en_0)) ∨ en_w (E.getD k en_0) < a) → z.2 (en_s (E.getD k en_0)) = i3 (sp_fill (blkL E) (ordL E) S (E.getD k en_0)))) (fun Z => ∃ rem' F', Z = some (rem', bb, bo, mp, sb, so, pb, po, vo, wo, op, ov, F', ow, ot, 1) ∧ flR E S F') ?_ ?_ 1000 0 (rem, F) (by omega) (by omega) ?_
  · intro n a z ha hI
    obtain ⟨rem1, F1, k1, k2⟩ := x_share hE hG hsl ha (s := 0) (Or.inl rfl) (hm a ha) (hmp a ha) hms z.1 z.2
    obtain ⟨rem2, F2, j1, j2⟩ := x_share hE hG hsl ha (s := 1) (Or.inr rfl) (hm a ha) (hmp a ha) hms rem1 F1
    refine ⟨(rem2, F2), fun k hk => ⟨fun hb => ?_, fun hb hor => ?_⟩, ?_⟩
    · show F2 (en_s (E.getD k en_0)) = _
      rw [j2 k hk, if_neg (blk_at ha hb), k2 k hk, if_neg (blk_at ha hb)]
      exact (hI k hk).1 hb
    · show F2 (en_s (E.getD k en_0)) = _
      rw [j2 k hk]
      by_cases y1 : atP (blkL E) (ordL E) S a 1 (E.getD k en_0)
      · rw [if_pos y1]
      · rw [if_neg y1, k2 k hk]
        by_cases y0 : atP (blkL E) (ordL E) S a 0 (E.getD k en_0)
        · rw [if_pos y0]
        · rw [if_neg y0]
          refine (hI k hk).2 hb ?_
          have hd := ((hE.2.1 _ (getD_mem hk)).1).1
          by_cases u : en_l (E.getD k en_0) = sp_p (blkL E) (ordL E) S (en_w (E.getD k en_0))
          · right
            rcases hor with v | v
            · exact absurd u v
            · by_cases t : en_w (E.getD k en_0) = a
              · rw [t] at u
                rcases hd with hd | hd
                · exact absurd ⟨hd, t, u⟩ y0
                · exact absurd ⟨hd, t, u⟩ y1
              · omega
          · exact Or.inl u
    · show f_mk_settleInto_L76 w d q l en sl bl (i3 E.length) bc cl cb co cc ca cao (n + 1) z.1 bb bo mp sb so pb po vo wo op ov z.2 ow ot od (i3 a) = f_mk_settleInto_L76 w d q l en sl bl (i3 E.length) bc cl cb co cc ca cao n rem2 bb bo mp sb so pb po vo wo op ov F2 ow ot od (i3 ((a + 1 : Nat) : Int))
      rw [f_mk_settleInto_L76, if_neg (lt_c (b := 3) (by decide) ha), show (0 : Int32) = i3 0 from rfl, k1, Option.bind_some]
      show (f_mk_share w d q l en sl rem1 (i3 E.length) mp sb so pb po vo F1 (i3 a) (i3 1)).bind _ = _
      rw [j1, Option.bind_some, i3s]
  · intro n z hI
    refine ⟨z.1, z.2, ?_, fun e he => ?_, fun k e hke => ?_⟩
    · show f_mk_settleInto_L76 w d q l en sl bl (i3 E.length) bc cl cb co cc ca cao (n + 1) z.1 bb bo mp sb so pb po vo wo op ov z.2 ow ot od (i3 (3 : Nat)) = _
      rw [f_mk_settleInto_L76, if_pos (ge_c (by decide))]
    · obtain ⟨h1, h2⟩ := List.mem_filter.mp he
      obtain ⟨k, hk, rfl⟩ := getD_of_mem h1
      have hb : ¬ en_b (E.getD k en_0) = true := by
        rw [Bool.not_eq_true'] at h2
        rw [h2]
        decide
      refine (hI k hk).2 hb (Or.inr ?_)
      have hw := ((hE.2.1 _ h1).1).2.2.2
      unfold en_b at hb
      rw [decide_eq_true_iff] at hb
      omega
    · obtain ⟨j, j1, rfl, rfl, j4⟩ := flt_ix E k e hke
      exact (hI j j1).1 j4
  · intro k hk
    refine ⟨fun hb => ?_, fun hb hor => ?_⟩
    · show F (en_s (E.getD k en_0)) = _
      rw [hF k hk]
      unfold gwV
      rw [if_pos hb]
    · show F (en_s (E.getD k en_0)) = _
      rw [hF k hk]
      unfold gwV
      rw [if_neg hb]
      by_cases u : sureE (blkL E) (ordL E) S (E.getD k en_0)
      · rw [if_pos u, fl_sure u]
      · rw [if_neg u, fl_none u]
        rcases hor with v | v
        · exact v
        · exfalso
          have hw := ((hE.2.1 _ (getD_mem hk)).1).2.2.2
          omega
theorem x_settle {w d q l en sl bl : Nat → Int32} {E : List En} (hE : okE 60 E) {ec bc : Int32} {cl cb co : Nat → Nat → Int32} {cc ca cao : Nat → Int32} (hL : ldR w d q l E en sl bl ec bc cl cb co cc ca cao) (rem bb bo mp sb so pb po vo : Nat → Int32) (wo : Nat → Int64) (op ov of' : Nat → Int32) (ow : Int64) (ot od : Int32) :
    ∃ rem' bb' bo' mp' sb' so' pb' po' vo' wo' op' ov' of2, f_mk_settleInto w d q l en sl rem bl bb bo ec bc cl cb co cc ca cao mp sb so pb po vo wo op ov of' ow ot od = some (rem', bb', bo', mp', sb', so', pb', po', vo', wo', op', ov', of2, i6 (sp_w (blkL E) (ordL E) (sp_set (blkL E) (ordL E))), i3 (sp_set (blkL E) (ordL E)), 1) ∧ (∀ h : Nat, h < 3 → op' h = i3 (sp_p (blkL E) (ordL E) (sp_set (blkL E) (ordL E)) h) ∧ ov' h = i3 (sp_t (blkL E) (ordL E) (sp_set (blkL E) (ordL E)) h)) ∧ flR E (sp_set (blkL E) (ordL E)) of2 := by
  obtain ⟨hO, hS⟩ := okO_of hE
  have hB := okB_of hE
  have hp8 := pow8 hB.2
  obtain ⟨i1, i2, i3', i4, i5, hC⟩ := hL
  obtain ⟨s1, s2, s3⟩ := best_sp (B := blkL E) hO (2 ^ (blkL E).length - 1)
  have hs8 : sp_set (blkL E) (ordL E) < 256 := by unfold sp_set; omega
  have hfit : sp_fit (blkL E) (ordL E) (sp_set (blkL E) (ordL E)) = true := s1
  generalize hSet : sp_set (blkL E) (ordL E) = S at *
  subst i1
  subst i2
  obtain ⟨bb1, bo1, mp1, sb1, so1, pb1, po1, vo1, wo1, k1⟩ := x_best hB hO i5 hC bb bo mp sb so pb po vo wo
  rw [hSet] at k1
  obtain ⟨fl, bb2, bo2, mp2, q1, q2, q3⟩ := x_find hB hO i5 hC hs8 bb1 bo1 mp1
  have hmt : meets (blkL E) (ordL E) S := (fit_iff.mp hfit).1
  rcases q3 with ⟨-, y⟩ | ⟨rfl, -, q4⟩
  · exact absurd hmt y
  obtain ⟨sb3, so3, pb3, po3, vo3, wo3, r1, r2⟩ := x_worth hB hO i5 hC hs8 q2 q4 sb1 so1 pb1 po1 vo1 wo1
  obtain ⟨F1, g1, g2⟩ := x_give (O := ordL E) hE i3' i4 hB hs8 q4 of'
  unfold f_mk_settleInto
  rw [k1, Option.bind_some]
  show ∃ rem' bb' bo' mp' sb' so' pb' po' vo' wo' op' ov' of2, (f_mk_findPrices w d q bl bb1 bo1 (i3 (blkL E).length) cl cb co cc ca cao mp1 (i3 S)).bind _ = _ ∧ _
  rw [q1, Option.bind_some]
  show ∃ rem' bb' bo' mp' sb' so' pb' po' vo' wo' op' ov' of2, (f_mk_worthOfSet w d q l bl bb2 bo2 (i3 (blkL E).length) cl cb co cc mp2 sb1 so1 pb1 po1 vo1 wo1 (i3 S)).bind _ = _ ∧ _
  rw [r1, Option.bind_some]
  refine lpI (fun n a (z : (Nat → Int32) × (Nat → Int32)) => f_mk_settleInto_L27 w d q l en sl bl (i3 E.length) (i3 (blkL E).length) cl cb co cc ca cao n rem bb2 bo2 mp2 sb3 so3 pb3 po3 vo3 wo3 z.1 z.2 of' (i6 (sp_w (blkL E) (ordL E) S)) (i3 S) od (i3 S) (i3 a)) 3 (fun a z => ∀ h : Nat, h < a → z.1 h = i3 (sp_p (blkL E) (ordL E) S h) ∧ z.2 h = i3 (sp_t (blkL E) (ordL E) S h)) (fun Z => ∃ rem' bb' bo' mp' sb' so' pb' po' vo' wo' op' ov' of2, Z = some (rem', bb', bo', mp', sb', so', pb', po', vo', wo', op', ov', of2, i6 (sp_w (blkL E) (ordL E) S), i3 S, 1) ∧ (∀ h : Nat, h < 3 → op' h = i3 (sp_p (blkL E) (ordL E) S h) ∧ ov' h = i3 (sp_t (blkL E) (ordL E) S h)) ∧ flR E S of2) ?_ ?_ 1000 0 (op, ov) (by omega) (by omega) (fun h hh => by omega)
  · intro n a z ha hI
    obtain ⟨-, -, -, -, m5⟩ := r2 a ha
    refine ⟨(upd z.1 a (i3 (sp_p (blkL E) (ordL E) S a)), upd z.2 a (i3 (sp_t (blkL E) (ordL E) S a))), fun h hh => ?_, ?_⟩
    · show upd z.1 a _ h = _ ∧ upd z.2 a _ h = _
      rw [updf, updf]
      by_cases u : h = a
      · rw [if_pos u, if_pos u, u]
        exact ⟨rfl, rfl⟩
      · rw [if_neg u, if_neg u]
        exact hI h (by omega)
    · show f_mk_settleInto_L27 w d q l en sl bl (i3 E.length) (i3 (blkL E).length) cl cb co cc ca cao (n + 1) rem bb2 bo2 mp2 sb3 so3 pb3 po3 vo3 wo3 z.1 z.2 of' (i6 (sp_w (blkL E) (ordL E) S)) (i3 S) od (i3 S) (i3 a) = f_mk_settleInto_L27 w d q l en sl bl (i3 E.length) (i3 (blkL E).length) cl cb co cc ca cao n rem bb2 bo2 mp2 sb3 so3 pb3 po3 vo3 wo3 _ _ of' (i6 (sp_w (blkL E) (ordL E) S)) (i3 S) od (i3 S) (i3 ((a + 1 : Nat) : Int))
      rw [f_mk_settleInto_L27, if_neg (lt_c (b := 3) (by decide) ha), if_neg (ix_n ha (by omega)), cl_n (by omega), q4 a ha, m5, i3s]
  · intro n z hI
    obtain ⟨rem4, F4, t1, t2⟩ := x_shares (bl := bl) (bb := bb2) (bo := bo2) (wo := wo3) (bc := i3 (blkL E).length) (cl := cl) (cb := cb) (co := co) (cc := cc) (ca := ca) (cao := cao) (op := z.1) (ov := z.2) (ow := i6 (sp_w (blkL E) (ordL E) S)) (ot := i3 S) (od := od) hE i3' i4 hmt q4 r2 rem F1 g2
    refine ⟨rem4, bb2, bo2, mp2, sb3, so3, pb3, po3, vo3, wo3, z.1, z.2, F4, ?_, hI, t2⟩
    show f_mk_settleInto_L27 w d q l en sl bl (i3 E.length) (i3 (blkL E).length) cl cb co cc ca cao (n + 1) rem bb2 bo2 mp2 sb3 so3 pb3 po3 vo3 wo3 z.1 z.2 of' (i6 (sp_w (blkL E) (ordL E) S)) (i3 S) od (i3 S) (i3 (3 : Nat)) = _
    rw [f_mk_settleInto_L27, if_pos (ge_c (by decide)), g1, Option.bind_some]
    exact t1
