/-! The class gives and shares. -/
theorem x_great {rem : Nat → Int32} {E : List En} {r : En → Int} (hlen : E.length ≤ 60) (h1 : 1 ≤ E.length) (hr : ∀ j, j < E.length → (rem j).toInt = r (E.getD j en_0)) : ∃ b, b < E.length ∧ f_mk_greatestRemainder rem (i3 E.length) = some (i3 b) ∧ (∀ j, j < E.length → r (E.getD j en_0) ≤ r (E.getD b en_0)) ∧ ∀ j, j < b → r (E.getD j en_0) < r (E.getD b en_0) := by
  unfold f_mk_greatestRemainder
  refine lpI (fun n a (x1 : Int32) => f_mk_greatestRemainder_L4 rem (i3 E.length) n x1 (i3 ((a : Nat) : Int))) E.length (fun a x1 => ∃ b : Nat, b < a ∧ x1 = i3 b ∧ (∀ j, j < a → r (E.getD j en_0) ≤ r (E.getD b en_0)) ∧ ∀ j, j < b → r (E.getD j en_0) < r (E.getD b en_0)) (fun Z => ∃ b, b < E.length ∧ Z = some (i3 b) ∧ (∀ j, j < E.length → r (E.getD j en_0) ≤ r (E.getD b en_0)) ∧ ∀ j, j < b → r (E.getD j en_0) < r (E.getD b en_0)) ?_ ?_ 1000 1 0 (by omega) (by omega) ⟨0, by omega, rfl, fun j hj => by rw [show j = 0 by omega]; exact Int.le_refl _, fun j hj => by omega⟩
  · intro n a x1 ha hI
    obtain ⟨b, b1, b2, b3, b4⟩ := hI
    have e1 : rem a ≤ rem b ↔ r (E.getD a en_0) ≤ r (E.getD b en_0) := by rw [Int32.le_iff_toInt_le, hr a ha, hr b (by omega)]
    show ∃ s' : Int32, _ ∧ f_mk_greatestRemainder_L4 rem (i3 E.length) (n + 1) x1 (i3 ((a : Nat) : Int)) = f_mk_greatestRemainder_L4 rem (i3 E.length) n s' (i3 ((a + 1 : Nat) : Int))
    rw [f_mk_greatestRemainder_L4, if_neg (by rw [i3_le (by omega)]; omega), if_neg (ix_n (by omega) (by omega)), b2, if_neg (ix_n (by omega) (by omega)), cl_n (by omega), cl_n (by omega), i3s]
    by_cases z : r (E.getD a en_0) ≤ r (E.getD b en_0)
    · rw [if_pos (e1.mpr z)]
      refine ⟨i3 b, ⟨b, by omega, rfl, fun j hj => ?_, b4⟩, rfl⟩
      by_cases u : j = a
      · rw [u]; exact z
      · exact b3 j (by omega)
    · rw [if_neg (fun u => z (e1.mp u))]
      refine ⟨i3 a, ⟨a, by omega, rfl, fun j hj => ?_, fun j hj => ?_⟩, rfl⟩
      · by_cases u : j = a
        · rw [u]; exact Int.le_refl _
        · have := b3 j (by omega)
          omega
      · have := b3 j hj
        omega
  · intro n x1 hI
    obtain ⟨b, b1, b2, b3, b4⟩ := hI
    refine ⟨b, b1, ?_, b3, b4⟩
    show f_mk_greatestRemainder_L4 rem (i3 E.length) (n + 1) x1 (i3 ((E.length : Nat) : Int)) = _
    rw [f_mk_greatestRemainder_L4, if_pos (by rw [i3_le (by omega)]; omega), b2]
theorem x_picks {w d q l en sl : Nat → Int32} {mp sb so pb po vo : Nat → Int32} {E : List En} (hE : okE 60 E) (hsl : xSl sl E) : ∀ (n k f : Nat) (r : En → Int) (rem F : Nat → Int32), n < f → k + n ≤ E.length → (n : Int) ≤ sumE (fun e => if 0 ≤ r e then 1 else 0) E → (∀ j, j < E.length → (rem j).toInt = r (E.getD j en_0)) →
    ∃ rem' F', f_mk_share_L138 w d q l en sl (i3 E.length) mp sb so pb po vo f rem F (i3 ((k + n : Nat) : Int)) (i3 k) = some (rem', F') ∧ ∀ j, j < E.length → F' (en_s (E.getD j en_0)) = F (en_s (E.getD j en_0)) + (if en_s (E.getD j en_0) ∈ pkN n (RL E r) then 1 else 0) := by
  have hlen := hE.1
  have hS := hE.2.2
  intro n
  induction n with
  | zero =>
    intro k f r rem F hf _ _ _
    obtain ⟨f, rfl⟩ : ∃ g, f = g + 1 := ⟨f - 1, by omega⟩
    refine ⟨rem, F, ?_, fun j hj => ?_⟩
    · rw [f_mk_share_L138, if_pos (by rw [i3_le (by omega)]; omega)]
    · rw [if_neg (show ¬ en_s (E.getD j en_0) ∈ pkN 0 (RL E r) from List.not_mem_nil), Int32.add_zero]
  | succ n ih =>
    intro k f r rem F hf hkn hc hr
    obtain ⟨f, rfl⟩ : ∃ g, f = g + 1 := ⟨f - 1, by omega⟩
    obtain ⟨b, b1, b2, b3, b4⟩ := x_great hlen (by omega) hr
    have b5 : 0 ≤ r (E.getD b en_0) := by
      obtain ⟨k', y1, y2⟩ := nn_ex (show 1 ≤ sumE (fun e => if 0 ≤ r e then 1 else 0) E by omega)
      have := b3 k' y1
      omega
    have hpk1 := pkx b1 b5 b3 b4
    have hdec := nn_dec hS b1 b5
    have hs6 := (hE.2.1 _ (getD_mem b1)).2
    have hsb : sl b = i3 (en_s (E.getD b en_0)) := hsl b b1
    obtain ⟨rem', F', k1, k2⟩ := ih (k + 1) f (fun e => if en_s e = en_s (E.getD b en_0) then -1 else r e) (upd rem b (-1)) (upd F (en_s (E.getD b en_0)) (F (en_s (E.getD b en_0)) + 1)) (by omega) (by omega) (by omega) (by
      intro j hj
      rw [updf]
      by_cases z : j = b
      · rw [if_pos z, z, if_pos rfl]
        decide
      · rw [if_neg z, if_neg (fun y => z (okS_get hS hj b1 y))]
        exact hr j hj)
    refine ⟨rem', F', ?_, fun j hj => ?_⟩
    · have hix1 : ¬ (sl b < 0 ∨ 60 ≤ (sl b).toNatClampNeg) := by rw [hsb]; exact ix_n hs6 (by omega)
      have hcl1 : (sl b).toNatClampNeg = en_s (E.getD b en_0) := by rw [hsb]; exact cl_n (by omega)
      rw [f_mk_share_L138, if_neg (by rw [i3_le (by omega)]; omega), if_neg (by rw [i3_le (by omega)]; omega), b2, Option.bind_some, if_neg (ix_n (by omega) (by omega)), cl_n (by omega), if_neg hix1, hcl1, i3s, show k + (n + 1) = k + 1 + n by omega]
      exact k1
    · rw [k2 j hj, updf]
      have hpk : pkN (n + 1) (RL E r) = en_s (E.getD b en_0) :: pkN n (RL E (fun e => if en_s e = en_s (E.getD b en_0) then -1 else r e)) := by
        conv => lhs; unfold pkN
        rw [hpk1]
        show en_s (E.getD b en_0) :: pkN n ((RL E r).map (pkU (en_s (E.getD b en_0)))) = _
        rw [RL_upd]
      rw [hpk]
      by_cases z : en_s (E.getD j en_0) = en_s (E.getD b en_0)
      · have hnot : en_s (E.getD b en_0) ∉ pkN n (RL E (fun e => if en_s e = en_s (E.getD b en_0) then -1 else r e)) := by
          refine pkN_not n _ (fun q hq hqx => ?_)
          obtain ⟨e1, he1, rfl⟩ := List.mem_map.mp hq
          show (if en_s e1 = en_s (E.getD b en_0) then -1 else r e1) < 0
          rw [if_pos hqx]
          decide
        rw [if_pos z, z, if_neg hnot, if_pos (List.mem_cons_self), Int32.add_zero]
      · rw [if_neg z]
        congr 1
        refine ifc ⟨fun y => List.mem_cons.mpr (Or.inr y), fun y => (List.mem_cons.mp y).resolve_left z⟩
theorem sumE_ord {f : En → Int} : ∀ E : List En, (∀ e ∈ E, en_b e = true → f e = 0) → sumE f E = sumE f (ordL E)
  | [], _ => rfl
  | a :: t, h => by
    have ih := sumE_ord t (fun e he => h e (List.mem_cons_of_mem _ he))
    unfold ordL at *
    by_cases z : en_b a = true
    · rw [List.filter_cons_of_neg (by rw [z]; decide)]
      show f a + sumE f t = _
      rw [h a (List.mem_cons_self) z, ih, Int.zero_add]
    · rw [List.filter_cons_of_pos (by rw [Bool.not_eq_true] at z; rw [z]; decide)]
      show f a + sumE f t = f a + sumE f (t.filter (fun e => !en_b e))
      rw [ih]
theorem RL_ord {r : En → Int} : ∀ E : List En, (∀ e ∈ E, en_b e = true → r e < 0) → (RL E r).filter nnB = (RL (ordL E) r).filter nnB
  | [], _ => rfl
  | a :: t, h => by
    have ih := RL_ord t (fun e he => h e (List.mem_cons_of_mem _ he))
    unfold ordL RL at *
    by_cases z : en_b a = true
    · have hneg := h a (List.mem_cons_self) z
      rw [List.filter_cons_of_neg (p := fun e => !en_b e) (by rw [z]; decide), List.map_cons, List.filter_cons_of_neg (show ¬ nnB (en_s a, r a) = true by unfold nnB; rw [decide_eq_true_iff]; show ¬ 0 ≤ r a; omega)]
      exact ih
    · rw [List.filter_cons_of_pos (p := fun e => !en_b e) (by rw [Bool.not_eq_true] at z; rw [z]; decide), List.map_cons, List.map_cons]
      by_cases y : nnB (en_s a, r a) = true
      · rw [List.filter_cons_of_pos y, List.filter_cons_of_pos y, ih]
      · rw [List.filter_cons_of_neg y, List.filter_cons_of_neg y, ih]
theorem blk_at {B O : List En} {S : Nat} {h : Nat} (hh : h < 3) {s : Int} {e : En} (hb : en_b e = true) : ¬ atP B O S h s e := by
  intro y
  unfold en_b at hb
  rw [decide_eq_true_iff] at hb
  have := y.2.1
  omega
theorem x_sharing {w d q l en : Nat → Int32} {E : List En} (hE : okE 60 E) (hG : xBlk w d q l en E) {B O : List En} {S h : Nat} (hh : h < 3) {s : Int} (hs01 : s = 0 ∨ s = 1) {mp : Nat → Int32} (hmp : mp h = i3 (sp_p B O S h)) {a : Nat} (ha : a < E.length) : f_mk_isSharing w d l mp (en a) (i3 h) (i3 s) = some (if atP B O S h s (E.getD a en_0) then 1 else 0) := by
  obtain ⟨g1, g2, g3, g4, g5⟩ := hG a ha
  obtain ⟨⟨k1, k2, k3, k4⟩, k5⟩ := hE.2.1 _ (getD_mem ha)
  have hpb := sp_p_bd B O S h
  have c3 : ¬ (en a < 0 ∨ 240 ≤ (en a).toNatClampNeg) := ix_ok (by omega)
  have hw1 : w (en a).toNatClampNeg < 100 ↔ en_w (E.getD a en_0) < 100 := by rw [Int32.lt_iff_toInt_lt, g2]; rfl
  have e1 : w (en a).toNatClampNeg = i3 h ↔ en_w (E.getD a en_0) = h := by rw [i3n _ (by omega), g2]
  have e2 : d (en a).toNatClampNeg = i3 s ↔ en_d (E.getD a en_0) = s := by rw [i3n _ (by omega), g3]
  have e3 : l (en a).toNatClampNeg = i3 (sp_p B O S h) ↔ en_l (E.getD a en_0) = sp_p B O S h := by rw [i3n _ (by omega), g5]
  unfold f_mk_isSharing f_bk_isBlock
  rw [if_neg c3]
  by_cases z : en_w (E.getD a en_0) < 100
  · rw [if_pos (hw1.mpr z), Option.bind_some, if_pos rfl]
    by_cases z1 : en_w (E.getD a en_0) = h
    · rw [if_pos (e1.mpr z1)]
      by_cases z2 : en_d (E.getD a en_0) = s
      · rw [if_pos (e2.mpr z2), if_neg (ix_n hh (by omega)), cl_n (by omega), hmp]
        by_cases z3 : en_l (E.getD a en_0) = sp_p B O S h
        · rw [if_pos (e3.mpr z3), if_neg c3, if_pos ⟨z2, z1, z3⟩]
        · rw [if_neg (fun y => z3 (e3.mp y)), if_neg c3, if_neg (fun y => z3 y.2.2)]
      · rw [if_neg (fun y => z2 (e2.mp y)), if_neg c3, if_neg (fun y => z2 y.1)]
    · rw [if_neg (fun y => z1 (e1.mp y)), if_neg c3, if_neg (fun y => z1 y.2.1)]
  · rw [if_neg (fun y => z (hw1.mp y)), Option.bind_some, if_neg n10, if_neg (fun y => by have := y.2.1; omega)]
theorem x_floors {w d q l en sl : Nat → Int32} {mp sb so pb po vo : Nat → Int32} {E : List En} (hE : okE 60 E) (hG : xBlk w d q l en E) (hsl : xSl sl E) {B O : List En} {S h : Nat} (hh : h < 3) {s : Int} (hs01 : s = 0 ∨ s = 1) (hmp : mp h = i3 (sp_p B O S h)) (hb : 0 ≤ sp_sh B O S h s ∧ sp_sh B O S h s ≤ 68000) (hall : 0 < sp_all B O S h s ∧ sp_all B O S h s ≤ 68000) (rem F : Nat → Int32) :
    ∃ rem' F', f_mk_share_L37 w d q l en sl (i3 E.length) mp sb so pb po vo (i3 h) (i3 s) 1000 rem F (i3 (sp_sh B O S h s)) (i3 (sp_all B O S h s)) (i3 (sp_sh B O S h s)) 0 = f_mk_share_L138 w d q l en sl (i3 E.length) mp sb so pb po vo 1000 rem' F' (i3 (sp_sh B O S h s - sumE (fun e => if atP B O S h s e then en_q e * sp_sh B O S h s / sp_all B O S h s else 0) E)) 0 ∧
      (∀ k, k < E.length → rem' k = i3 (remF B O S h s (E.getD k en_0))) ∧ (∀ k, k < E.length → F' (en_s (E.getD k en_0)) = if atP B O S h s (E.getD k en_0) then i3 (en_q (E.getD k en_0) * sp_sh B O S h s / sp_all B O S h s) else F (en_s (E.getD k en_0))) := by
  have hlen := hE.1
  have hS := hE.2.2
  rw [sumE_smN]
  have key : ∀ (n a : Nat) (z : (Nat → Int32) × (Nat → Int32)), a ≤ E.length → E.length - a < n → ((∀ k, k < a → z.1 k = i3 (remF B O S h s (E.getD k en_0))) ∧ (∀ k, k < E.length → z.2 (en_s (E.getD k en_0)) = if k < a ∧ atP B O S h s (E.getD k en_0) then i3 (en_q (E.getD k en_0) * sp_sh B O S h s / sp_all B O S h s) else F (en_s (E.getD k en_0)))) → ∃ rem' F', f_mk_share_L37 w d q l en sl (i3 E.length) mp sb so pb po vo (i3 h) (i3 s) n z.1 z.2 (i3 (sp_sh B O S h s)) (i3 (sp_all B O S h s)) (i3 (sp_sh B O S h s - smN (fun k => if atP B O S h s (E.getD k en_0) then en_q (E.getD k en_0) * sp_sh B O S h s / sp_all B O S h s else 0) a)) (i3 a) = f_mk_share_L138 w d q l en sl (i3 E.length) mp sb so pb po vo 1000 rem' F' (i3 (sp_sh B O S h s - smN (fun k => if atP B O S h s (E.getD k en_0) then en_q (E.getD k en_0) * sp_sh B O S h s / sp_all B O S h s else 0) E.length)) 0 ∧ (∀ k, k < E.length → rem' k = i3 (remF B O S h s (E.getD k en_0))) ∧ (∀ k, k < E.length → F' (en_s (E.getD k en_0)) = if atP B O S h s (E.getD k en_0) then i3 (en_q (E.getD k en_0) * sp_sh B O S h s / sp_all B O S h s) else F (en_s (E.getD k en_0))) := by
    intro n
    induction n with
    | zero => intro a z h1 h2; omega
    | succ n ih =>
      intro a z h1 h2 hI
      by_cases hae : a = E.length
      · subst hae
        refine ⟨z.1, z.2, ?_, hI.1, fun k hk => ?_⟩
        · rw [f_mk_share_L37, if_pos (by rw [i3_le (by omega)]; omega)]
        · rw [hI.2 k hk]
          exact ifc ⟨fun y => y.2, fun y => ⟨hk, y⟩⟩
      · have ha : a < E.length := by omega
        obtain ⟨g1, g2, g3, g4, g5⟩ := hG a ha
        obtain ⟨⟨k1, k2, k3, k4⟩, k5⟩ := hE.2.1 _ (getD_mem ha)
        have c3 : ¬ (en a < 0 ∨ 240 ≤ (en a).toNatClampNeg) := ix_ok (by omega)
        have hsb : sl a = i3 (en_s (E.getD a en_0)) := hsl a ha
        have hix1 : ¬ (sl a < 0 ∨ 60 ≤ (sl a).toNatClampNeg) := by rw [hsb]; exact ix_n k5 (by omega)
        have hcl1 : (sl a).toNatClampNeg = en_s (E.getD a en_0) := by rw [hsb]; exact cl_n (by omega)
        have qv : q (en a).toNatClampNeg = i3 (en_q (E.getD a en_0)) := by rw [i3_of (q (en a).toNatClampNeg), g4]
        rw [f_mk_share_L37, if_neg (by rw [i3_le (by omega)]; omega), if_neg (ix_n (by omega) (by omega)), cl_n (by omega), x_sharing hE hG hh hs01 hmp ha, Option.bind_some, i3s]
        by_cases hat : atP B O S h s (E.getD a en_0)
        · have hprod : 0 ≤ en_q (E.getD a en_0) * sp_sh B O S h s := Int.mul_nonneg (by omega) hb.1
          have hprod2 : en_q (E.getD a en_0) * sp_sh B O S h s ≤ 68000000 := by
            have h1 : en_q (E.getD a en_0) * sp_sh B O S h s ≤ 1000 * sp_sh B O S h s := Int.mul_le_mul_of_nonneg_right (by omega) hb.1
            omega
          have hdiv : i3 (en_q (E.getD a en_0)) * i3 (sp_sh B O S h s) / i3 (sp_all B O S h s) = i3 (en_q (E.getD a en_0) * sp_sh B O S h s / sp_all B O S h s) := by
            rw [i3_mul, i3_div (by omega), Int.tdiv_eq_ediv_of_nonneg hprod]
          have hx9 : ¬ i3 (sp_all B O S h s) = 0 := by
            rw [show (0 : Int32) = i3 0 from rfl, i3_eq (by omega)]
            omega
          have hrem : remF B O S h s (E.getD a en_0) = en_q (E.getD a en_0) * sp_sh B O S h s - en_q (E.getD a en_0) * sp_sh B O S h s / sp_all B O S h s * sp_all B O S h s := by
            unfold remF
            rw [if_pos hat, Int.emod_def, Int.mul_comm (sp_all B O S h s)]
          rw [if_pos hat, if_neg n10, if_neg c3, if_neg hx9, if_neg hix1, hcl1, qv, hdiv, i3_mul, i3_mul, i3_sub, i3_sub, Int.sub_sub]
          have hsm : smN (fun k => if atP B O S h s (E.getD k en_0) then en_q (E.getD k en_0) * sp_sh B O S h s / sp_all B O S h s else 0) a + en_q (E.getD a en_0) * sp_sh B O S h s / sp_all B O S h s = smN (fun k => if atP B O S h s (E.getD k en_0) then en_q (E.getD k en_0) * sp_sh B O S h s / sp_all B O S h s else 0) (a + 1) := by
            show _ = smN _ a + (if atP B O S h s (E.getD a en_0) then en_q (E.getD a en_0) * sp_sh B O S h s / sp_all B O S h s else 0)
            rw [if_pos hat]
          rw [hsm]
          refine ih (a + 1) (_, _) (by omega) (by omega) ⟨fun k hk => ?_, fun k hk => ?_⟩
          · show upd (upd z.1 a (-1)) a _ k = _
            rw [updf]
            by_cases u : k = a
            · rw [if_pos u, u, hrem]
            · rw [if_neg u, updf, if_neg u]
              exact hI.1 k (by omega)
          · show upd z.2 (en_s (E.getD a en_0)) _ (en_s (E.getD k en_0)) = _
            rw [updf]
            by_cases u : k = a
            · rw [u, if_pos rfl, if_pos ⟨by omega, hat⟩]
            · rw [if_neg (fun y => u (okS_get hS hk ha y)), hI.2 k hk]
              exact ifc ⟨fun y => ⟨by omega, y.2⟩, fun y => ⟨by omega, y.2⟩⟩
        · have hrem : remF B O S h s (E.getD a en_0) = -1 := if_neg hat
          rw [if_neg hat, if_pos rfl]
          have hsm : smN (fun k => if atP B O S h s (E.getD k en_0) then en_q (E.getD k en_0) * sp_sh B O S h s / sp_all B O S h s else 0) a = smN (fun k => if atP B O S h s (E.getD k en_0) then en_q (E.getD k en_0) * sp_sh B O S h s / sp_all B O S h s else 0) (a + 1) := by
            show _ = smN _ a + (if atP B O S h s (E.getD a en_0) then en_q (E.getD a en_0) * sp_sh B O S h s / sp_all B O S h s else 0)
            rw [if_neg hat, Int.add_zero]
          rw [hsm]
          refine ih (a + 1) (upd z.1 a (-1), z.2) (by omega) (by omega) ⟨fun k hk => ?_, fun k hk => ?_⟩
          · show upd z.1 a (-1) k = _
            rw [updf]
            by_cases u : k = a
            · rw [if_pos u, u, hrem]
              decide
            · rw [if_neg u]
              exact hI.1 k (by omega)
          · show z.2 (en_s (E.getD k en_0)) = _
            rw [hI.2 k hk]
            refine ifc ⟨fun y => ⟨by omega, y.2⟩, fun y => ⟨?_, y.2⟩⟩
            by_cases u : k = a
            · exact absurd (u ▸ y.2) hat
            · omega
  have k0 := key 1000 0 (rem, F) (by omega) (by omega) ⟨fun k hk => by omega, fun k hk => (if_neg (fun y => by omega)).symm⟩
  rw [show smN (fun k => if atP B O S h s (E.getD k en_0) then en_q (E.getD k en_0) * sp_sh B O S h s / sp_all B O S h s else 0) 0 = 0 from rfl, Int.sub_zero] at k0
  exact k0
theorem mem_ord {E : List En} {e : En} (he : e ∈ E) (hw : en_w e < 100) : e ∈ ordL E := by
  refine List.mem_filter.mpr ⟨he, ?_⟩
  unfold en_b
  rw [Bool.not_eq_true', decide_eq_false_iff_not]
  omega
theorem x_share {w d q l en sl : Nat → Int32} {mp sb so pb po vo : Nat → Int32} {E : List En} (hE : okE 60 E) (hG : xBlk w d q l en E) (hsl : xSl sl E) {S h : Nat} (hh : h < 3) {s : Int} (hs01 : s = 0 ∨ s = 1) (hm : sp_lo (blkL E) (ordL E) S h ≤ sp_hi (blkL E) (ordL E) S h) (hmp : mp h = i3 (sp_p (blkL E) (ordL E) S h)) (hms : msR (blkL E) (ordL E) S sb so pb po vo) (rem F : Nat → Int32) :
    ∃ rem' F', f_mk_share w d q l en sl rem (i3 E.length) mp sb so pb po vo F (i3 h) (i3 s) = some (rem', F') ∧ ∀ k, k < E.length → F' (en_s (E.getD k en_0)) = if atP (blkL E) (ordL E) S h s (E.getD k en_0) then i3 (sp_fill (blkL E) (ordL E) S (E.getD k en_0)) else F (en_s (E.getD k en_0)) := by
  obtain ⟨hO, hS⟩ := okO_of hE
  have hB := okB_of hE
  have hlen := hE.1
  obtain ⟨s1, s2, s3, s4⟩ := sh_68 hB hO (S := S) hs01 hm
  obtain ⟨m1, m2, m3, m4, m5⟩ := hms h hh
  have hsh : f_c_shared (sb h) (so h) (vo h) (i3 s) = some (i3 (sp_sh (blkL E) (ordL E) S h s)) := by
    unfold f_c_shared
    rcases hs01 with rfl | rfl
    · rw [if_pos (show i3 0 = 0 from rfl), m5, m1, i3_sub]
      rfl
    · rw [if_neg (by decide), m5, m2, i3_sub]
      rfl
  have hqa : f_c_quantityAtPrice (pb h) (po h) (i3 s) = some (i3 (sp_all (blkL E) (ordL E) S h s)) := by
    unfold f_c_quantityAtPrice
    rcases hs01 with rfl | rfl
    · rw [if_pos (show i3 0 = 0 from rfl), m3]
    · rw [if_neg (by decide), m4]
  unfold f_mk_share
  rw [if_neg (ix_n hh (by omega)), cl_n (by omega), hsh, Option.bind_some, hqa, Option.bind_some]
  have hpos : (0 : Int32) < i3 (sp_all (blkL E) (ordL E) S h s) ↔ 0 < sp_all (blkL E) (ordL E) S h s := i3_lt (a := 0) (by omega)
  by_cases z : 0 < sp_all (blkL E) (ordL E) S h s
  · rw [if_pos (hpos.mpr z)]
    obtain ⟨rem1, F1, k1, k2, k3⟩ := x_floors (sb := sb) (so := so) (pb := pb) (po := po) (vo := vo) hE hG hsl hh hs01 hmp ⟨s1, s3⟩ ⟨z, s4⟩ rem F
    have hsum : sumE (fun e => if atP (blkL E) (ordL E) S h s e then en_q e * sp_sh (blkL E) (ordL E) S h s / sp_all (blkL E) (ordL E) S h s else 0) E = sumE (fun e => if atP (blkL E) (ordL E) S h s e then en_q e * sp_sh (blkL E) (ordL E) S h s / sp_all (blkL E) (ordL E) S h s else 0) (ordL E) := sumE_ord E (fun e _ hb => if_neg (blk_at hh hb))
    have hcnt : sumE (fun e => if 0 ≤ remF (blkL E) (ordL E) S h s e then 1 else 0) E = sumE (fun e => if 0 ≤ remF (blkL E) (ordL E) S h s e then 1 else 0) (ordL E) := sumE_ord E (fun e _ hb => if_neg (by unfold remF; rw [if_neg (blk_at hh hb)]; decide))
    have hleft : sp_sh (blkL E) (ordL E) S h s - sumE (fun e => if atP (blkL E) (ordL E) S h s e then en_q e * sp_sh (blkL E) (ordL E) S h s / sp_all (blkL E) (ordL E) S h s else 0) E = sp_left (blkL E) (ordL E) S h s := by
      rw [hsum]
      rfl
    have hl := left_ok hO (S := S) hs01 hm
    have hl6 := left_60 hO (S := S) hs01 hm
    have hcl : sumE (fun e => if 0 ≤ remF (blkL E) (ordL E) S h s e then 1 else 0) E ≤ E.length := by
      have := sumE_bd (M := 1) (by omega) E (f := fun e => if 0 ≤ remF (blkL E) (ordL E) S h s e then 1 else 0) (fun e _ => by
        show (if 0 ≤ remF (blkL E) (ordL E) S h s e then (1 : Int) else 0) ≤ 1
        split <;> omega)
      omega
    have hrb : ∀ k, k < E.length → (rem1 k).toInt = remF (blkL E) (ordL E) S h s (E.getD k en_0) := by
      intro k hk
      have : -1 ≤ remF (blkL E) (ordL E) S h s (E.getD k en_0) ∧ remF (blkL E) (ordL E) S h s (E.getD k en_0) ≤ 68000 := by
        unfold remF
        by_cases y : atP (blkL E) (ordL E) S h s (E.getD k en_0)
        · rw [if_pos y]
          have y1 := Int.emod_nonneg (en_q (E.getD k en_0) * sp_sh (blkL E) (ordL E) S h s) (show sp_all (blkL E) (ordL E) S h s ≠ 0 by omega)
          have y2 := Int.emod_lt_of_pos (en_q (E.getD k en_0) * sp_sh (blkL E) (ordL E) S h s) z
          omega
        · rw [if_neg y]
          omega
      rw [k2 k hk, i3_toInt (by omega)]
    obtain ⟨rem2, F2, j1, j2⟩ := x_picks (w := w) (d := d) (q := q) (l := l) (en := en) (mp := mp) (sb := sb) (so := so) (pb := pb) (po := po) (vo := vo) hE hsl (sp_left (blkL E) (ordL E) S h s).toNat 0 1000 (remF (blkL E) (ordL E) S h s) rem1 F1 (by omega) (by rw [hcnt] at hcl; omega) (by rw [hcnt]; omega) hrb
    refine ⟨rem2, F2, ?_, fun k hk => ?_⟩
    · rw [k1, hleft, show sp_left (blkL E) (ordL E) S h s = ((0 + (sp_left (blkL E) (ordL E) S h s).toNat : Nat) : Int) by omega]
      exact j1
    · have hpn : pkN (sp_left (blkL E) (ordL E) S h s).toNat (RL E (remF (blkL E) (ordL E) S h s)) = pkN (sp_left (blkL E) (ordL E) S h s).toNat (sp_rems (blkL E) (ordL E) S h s) := by
        rw [pkN_filter, RL_ord E (fun e _ hb => by unfold remF; rw [if_neg (blk_at hh hb)]; decide), ← pkN_filter, rems_eq]
      rw [j2 k hk, k3 k hk, hpn]
      by_cases y : atP (blkL E) (ordL E) S h s (E.getD k en_0)
      · rw [if_pos y, if_pos y]
        have hmo := mem_ord (getD_mem hk) (by have := y.2.1; omega)
        rw [fill_ba hS hmo ⟨y.1, y.2.1⟩, ← i3_add]
        have hba : baF (blkL E) (ordL E) S h s (E.getD k en_0) = en_q (E.getD k en_0) * sp_sh (blkL E) (ordL E) S h s / sp_all (blkL E) (ordL E) S h s := by
          unfold baF
          rw [if_neg (by have := y.2.2; split <;> omega), if_pos y.2.2]
        rw [hba]
        congr 1
        split <;> rfl
      · rw [if_neg y, if_neg y, if_neg, Int32.add_zero]
        intro u
        by_cases v : en_w (E.getD k en_0) < 100
        · exact y (pick_at hS (mem_ord (getD_mem hk) v) u)
        · rw [← hpn] at u
          refine absurd u (pkN_not _ _ (fun q' hq' hqx => ?_))
          obtain ⟨e1, he1, rfl⟩ := List.mem_map.mp hq'
          have := okS_inj hE.2.2 he1 (getD_mem hk) hqx
          subst this
          show remF (blkL E) (ordL E) S h s (E.getD k en_0) < 0
          unfold remF
          rw [if_neg y]
          decide
  · rw [if_neg (fun y => z (hpos.mp y))]
    refine ⟨rem, F, rfl, fun k hk => ?_⟩
    rw [if_neg]
    intro y
    have hmo := mem_ord (getD_mem hk) (by have := y.2.1; omega)
    have h1 := all_eq (B := blkL E) (O := ordL E) (S := S) (h := h) hs01
    have h2 : en_q (E.getD k en_0) ≤ sumE (fun e => if atP (blkL E) (ordL E) S h s e then en_q e else 0) (ordL E) := by
      have h3 := sum1 (f := fun e => if atP (blkL E) (ordL E) S h s e then en_q e else 0) (ordL E) hS hmo
      rw [if_pos y] at h3
      rw [← h3]
      refine sumE_le _ (fun e he => ?_)
      have hq := (hO.1 e he).1.2.1
      have := ite_bd (c := atP (blkL E) (ordL E) S h s e) (a := en_q e) (M := 1000) (by omega) (by omega)
      split <;> omega
    have hq := (hO.1 _ hmo).1.2.1
    omega
