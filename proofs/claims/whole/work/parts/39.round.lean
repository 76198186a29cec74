/-! The rounds. -/
def vecI (N : Nat) (c w d q l : Nat → Int32) (o p : Nat) (v v' : Nat → Int32) : Prop := ∀ o' p', o' < 4 → p' < N → (o' < o ∨ (o' = o ∧ p' < p)) → bkq c w d q l (v (6 * o' + p')) (v' (6 * o' + p'))
theorem rd_in {n n' liar : Int32} (hn : iv_n n n') {c : Nat → Int32} {e : Nat → Int64} {w ib hs d q l : Nat → Int32} (hb : iv_b c c e e w ib hs d d q q l l) {tl tl' pl pl' sl : Nat → Int32} (ht : ∀ k, k < 24 → lieq n (tl k) (tl' k)) (ht' : ∀ k, k < 96 → lieq n (pl k) (pl' k)) {o : Nat} (ho : o < 4) {R t : Int32} (K1 : (Nat → Int32) → (Nat → Int32) → Int32 → Int32 → Option (Int32 × (Nat → Int32) × (Nat → Int32) × Int32)) (K2 : Int32 → Int32 → (Nat → Int32) → Int32 → Option (Int32 × Int32 × Int32 × (Nat → Int32))) :
    ∀ (r p : Nat), p + r = n.toInt.toNat → ∀ (f1 f2 : Nat), r < f1 → r < f2 → ∀ (wd v v' : Nat → Int32), vecI n.toInt.toNat c w d q l o p v v' →
      ∃ (wd2 v2 v2' : Nat → Int32), vecI n.toInt.toNat c w d q l (o + 1) 0 v2 v2' ∧
        f_ag_goOn_L26 c w d q l tl pl liar n K1 f1 wd v R (i3 o) (i3 p) = K1 wd2 v2 R (i3 ((o + 1 : Nat) : Int)) ∧
        f_m_round_L61 n c ib hs d q l sl liar tl' pl' K2 f2 t R v' (i3 o) (i3 p) = K2 t R v2' (i3 ((o + 1 : Nat) : Int)) := by
  have n1 := hn.2.1
  have n2 := hn.2.2
  intro r
  induction r with
  | zero =>
    intro p hp f1 f2 h1 h2 wd v v' hI
    obtain ⟨f1, rfl⟩ : ∃ f, f1 = f + 1 := ⟨f1 - 1, by omega⟩
    obtain ⟨f2, rfl⟩ : ∃ f, f2 = f + 1 := ⟨f2 - 1, by omega⟩
    have hge : n ≤ i3 p := by rw [Int32.le_iff_toInt_le, i3_toInt (by omega)]; omega
    refine ⟨wd, v, v', ?_, ?_, ?_⟩
    · intro o' p' y1 y2 y3
      exact hI o' p' y1 y2 (by omega)
    · rw [f_ag_goOn_L26, if_pos hge, i3s]
    · rw [f_m_round_L61, if_pos hge, i3s]
  | succ r ih =>
    intro p hp f1 f2 h1 h2 wd v v' hI
    obtain ⟨f1, rfl⟩ : ∃ f, f1 = f + 1 := ⟨f1 - 1, by omega⟩
    obtain ⟨f2, rfl⟩ : ∃ f, f2 = f + 1 := ⟨f2 - 1, by omega⟩
    have hlt : ¬ n ≤ i3 p := by rw [Int32.le_iff_toInt_le, i3_toInt (by omega)]; omega
    obtain ⟨a, wd', b, k1, k2, k3⟩ := vote_both (liar := liar) hn hb ht ht' ho (show p < n.toInt.toNat by omega) wd
    have hpl : (6 * i3 o + i3 p).toInt = 6 * o + p := by rw [show (6 : Int32) = i3 6 from rfl, i3_mul, i3_add, i3_toInt (by omega)]
    have hix : ¬ (6 * i3 o + i3 p < 0 ∨ 24 ≤ (6 * i3 o + i3 p).toNatClampNeg) := ix_ok (by omega)
    have hcl : (6 * i3 o + i3 p).toNatClampNeg = 6 * o + p := by
      show (6 * i3 o + i3 p).toInt.toNat = _
      omega
    obtain ⟨wd2, v2, v2', g1, g2, g3⟩ := ih (p + 1) (by omega) f1 f2 (by omega) (by omega) wd' (upd v (6 * o + p) a) (upd v' (6 * o + p) b) (by
      intro o' p' y1 y2 y3
      rw [updf, updf]
      by_cases z : 6 * o' + p' = 6 * o + p
      · rw [if_pos z, if_pos z]
        exact k3
      · rw [if_neg z, if_neg z]
        exact hI o' p' y1 y2 (by omega))
    refine ⟨wd2, v2, v2', g1, ?_, ?_⟩
    · rw [f_ag_goOn_L26, if_neg hlt]
      unfold f_ag_vectorPlace
      rw [Option.bind_some, k1, Option.bind_some, if_neg hix, hcl, i3s]
      exact g2
    · rw [f_m_round_L61, if_neg hlt, k2, Option.bind_some, if_neg hix, hcl, i3s]
      exact g3
theorem rd_out {n n' liar : Int32} (hn : iv_n n n') {c : Nat → Int32} {e : Nat → Int64} {w ib hs d q l : Nat → Int32} (hb : iv_b c c e e w ib hs d d q q l l) {tl tl' pl pl' sl : Nat → Int32} (ht : ∀ k, k < 24 → lieq n (tl k) (tl' k)) (ht' : ∀ k, k < 96 → lieq n (pl k) (pl' k)) {R t : Int32} :
    ∀ (r o : Nat), o + r = 4 → ∀ (f1 f2 : Nat), r < f1 → r < f2 → ∀ (wd v v' : Nat → Int32), vecI n.toInt.toNat c w d q l o 0 v v' →
      ∃ (wd2 v2 v2' : Nat → Int32), vecI n.toInt.toNat c w d q l 4 0 v2 v2' ∧
        f_ag_goOn_L19 c w d q l tl pl liar n f1 wd v R (i3 o) = some (R, wd2, v2, R) ∧
        f_m_round_L54 n c ib hs d q l sl liar tl' pl' f2 t R v' (i3 o) = some (R, t, R, v2') := by
  have n1 := hn.2.1
  have n2 := hn.2.2
  intro r
  induction r with
  | zero =>
    intro o hp f1 f2 h1 h2 wd v v' hI
    obtain ⟨f1, rfl⟩ : ∃ f, f1 = f + 1 := ⟨f1 - 1, by omega⟩
    obtain ⟨f2, rfl⟩ : ∃ f, f2 = f + 1 := ⟨f2 - 1, by omega⟩
    have ho : o = 4 := by omega
    subst ho
    refine ⟨wd, v, v', hI, ?_, ?_⟩
    · rw [f_ag_goOn_L19, if_pos c4_ge]
    · rw [f_m_round_L54, if_pos c4_ge]
  | succ r ih =>
    intro o hp f1 f2 h1 h2 wd v v' hI
    obtain ⟨f1, rfl⟩ : ∃ f, f1 = f + 1 := ⟨f1 - 1, by omega⟩
    obtain ⟨f2, rfl⟩ : ∃ f, f2 = f + 1 := ⟨f2 - 1, by omega⟩
    obtain ⟨wd2, v2, v2', g1, g2, g3⟩ := rd_in (liar := liar) (sl := sl) hn hb ht ht' (show o < 4 by omega) (R := R) (t := t) (f_ag_goOn_L19 c w d q l tl pl liar n f1) (f_m_round_L54 n c ib hs d q l sl liar tl' pl' f2) n.toInt.toNat 0 (by omega) 1000 1000 (by omega) (by omega) wd v v' hI
    obtain ⟨wd3, v3, v3', j1, j2, j3⟩ := ih (o + 1) (by omega) f1 f2 (by omega) (by omega) wd2 v2 v2' g1
    refine ⟨wd3, v3, v3', j1, ?_, ?_⟩
    · rw [f_ag_goOn_L19, if_neg (c4_lt (by omega))]
      exact g2.trans j2
    · rw [f_m_round_L54, if_neg (c4_lt (by omega))]
      exact g3.trans j3
theorem cntS_bd {f : Nat → Int32} : ∀ n : Nat, 0 ≤ cntS f n ∧ cntS f n ≤ n
  | 0 => ⟨Int.le_refl _, Int.le_refl _⟩
  | n + 1 => by
    have h := cntS_bd (f := f) n
    show 0 ≤ cntS f n + (if f n = 0 then 0 else 1) ∧ cntS f n + (if f n = 0 then 0 else 1) ≤ ((n + 1 : Nat) : Int)
    split <;> omega
theorem cntS_full {f : Nat → Int32} : ∀ n : Nat, (n : Int) ≤ cntS f n → ∀ p, p < n → f p ≠ 0
  | 0, _, p, hp => by omega
  | n + 1, h, p, hp => by
    have hb := cntS_bd (f := f) n
    have h' : ((n + 1 : Nat) : Int) ≤ cntS f n + (if f n = 0 then 0 else 1) := h
    by_cases z : f n = 0
    · rw [if_pos z] at h'
      omega
    · rw [if_neg z] at h'
      by_cases y : p = n
      · rw [y]; exact z
      · exact cntS_full n (by omega) p (by omega)
theorem step_round (x : SX) (m : SM) (hI : Inv x m) : ∃ c x' m', St_round x m c x' m' ∧ Inv x' m' := by
  obtain ⟨hn, hc, ⟨hs1, hs2, hs3⟩, hm, hb, hr, ht, hv, ho⟩ := id hI
  have n1 := hn.2.1
  have n2 := hn.2.2
  have hcb := cntS_bd (f := x.x_isSealed) x.x_members.toInt.toNat
  obtain ⟨r1, r2, r3, r4, r5⟩ := id hr
  have hsl : x.x_sealedCount < x.x_members ↔ cntS x.x_isSealed x.x_members.toInt.toNat < x.x_members.toInt := by
    rw [Int32.lt_iff_toInt_lt, hs3, i3_toInt (by omega)]
  have hbad : (x.x_sealedCount < x.x_members ∨ x.ag_rounds = 3) → ∃ c x' m', St_round x m c x' m' ∧ Inv x' m' := by
    intro hor
    have hx : f_law_round x.x_members x.x_sealedCount x.bk_counts x.bk_whens x.bk_sides x.bk_quantities x.bk_limits x.ag_toldLies x.ag_passedLies x.ag_words x.ag_vectors x.ag_liarOperator x.ag_rounds m.m_out = some (1, x.ag_words, x.ag_vectors, x.ag_rounds, m.m_out) := by
      unfold f_law_round f_x_round f_x_round_b21
      by_cases h1 : x.x_sealedCount < x.x_members
      · rw [if_pos h1]
        rfl
      · rw [if_neg h1, x_over r4, Option.bind_some, if_pos (hor.resolve_left h1), if_neg n10]
        rfl
    have hm' : f_m_round m.m_thrown m.m_n m.m_many m.m_isBlock m.m_hours m.m_side m.m_quantity m.m_limit m.m_sealed m.m_rounds m.m_liar m.m_told m.m_passed m.m_vectors = some (0, 1, m.m_rounds, m.m_vectors) := by
      unfold f_m_round f_m_round_b20
      rw [m_ones hn, Option.bind_some, ← hs2, ← hs3, ← r3, ← hn.1]
      have e1 : f_m_round_b25 x.x_members m.m_many m.m_isBlock m.m_hours m.m_side m.m_quantity m.m_limit x.x_isSealed m.m_liar m.m_told m.m_passed m.m_thrown x.ag_rounds m.m_vectors 1 = some (0, 1, x.ag_rounds, m.m_vectors) := by
        unfold f_m_round_b25
        rw [m_thr, Option.bind_some, if_neg n10]
        rfl
      by_cases h1 : x.x_sealedCount < x.x_members
      · rw [if_pos h1, e1]
      · rw [if_neg h1, if_pos (hor.resolve_left h1), e1]
    exact ⟨_, _, _, ⟨_, _, hx, hm', rfl, fun q => absurd q n10, rfl, rfl, rfl⟩, Inv_mk hn hc ⟨hs1, hs2, hs3⟩ hm hb hr ht hv ho⟩
  by_cases h1 : x.x_sealedCount < x.x_members
  · exact hbad (Or.inl h1)
  · by_cases h2 : x.ag_rounds = 3
    · exact hbad (Or.inr h2)
    · obtain ⟨b1, b2, b3, b4, b5⟩ := hb.1
      have e3 : x.ag_rounds = 3 ↔ x.ag_rounds.toInt = 3 := i3n x.ag_rounds (z := 3) (by omega)
      have hr3 : ¬ x.ag_rounds.toInt = 3 := fun z => h2 (e3.mpr z)
      have ev : (x.ag_rounds + 1).toInt = x.ag_rounds.toInt + 1 := by rw [Int32.toInt_add, show (1 : Int32).toInt = 1 from rfl, Int.bmod_eq_of_le (by omega) (by omega)]
      have hall : ∀ p : Nat, p < x.x_members.toInt.toNat → x.x_isSealed p ≠ 0 := cntS_full _ (by have : ¬ cntS x.x_isSealed x.x_members.toInt.toNat < x.x_members.toInt := fun z => h1 (hsl.mpr z); omega)
      have hnd : ∀ o : Nat, o < 4 → ¬ x.oc_isDone o ≠ 0 := fun o ho4 hd => h2 (ho.2 o ho4 hd).1
      have hb' : iv_b x.bk_counts x.bk_counts x.bk_needs x.bk_needs x.bk_whens m.m_isBlock m.m_hours x.bk_sides x.bk_sides x.bk_quantities x.bk_quantities x.bk_limits x.bk_limits := ⟨⟨rfl, rfl, rfl, rfl, rfl⟩, hb.2⟩
      have hr' : iv_r x.x_members x.ag_liarOperator m.m_liar (x.ag_rounds + 1) (m.m_rounds + 1) x.x_isSealed := ⟨r1, r2, by rw [r3], by rw [ev]; omega, fun _ => hall⟩
      by_cases h3 : x.ag_rounds + 1 = 3
      · obtain ⟨wd2, v2, v2', g1, g2, g3⟩ := rd_out (liar := x.ag_liarOperator) (sl := x.x_isSealed) (R := x.ag_rounds + 1) (t := 0) hn hb' ht.1 ht.2 4 0 rfl 1000 1000 (by omega) (by omega) x.ag_words x.ag_vectors m.m_vectors (fun o' p' _ _ z => by omega)
        have hx : f_law_round x.x_members x.x_sealedCount x.bk_counts x.bk_whens x.bk_sides x.bk_quantities x.bk_limits x.ag_toldLies x.ag_passedLies x.ag_words x.ag_vectors x.ag_liarOperator x.ag_rounds m.m_out = some (0, wd2, v2, x.ag_rounds + 1, vp_updL m.m_out 0 (Int32.toInt64 (x.ag_rounds + 1))) := by
          unfold f_law_round f_x_round f_ag_goOn
          rw [if_neg h1, x_over r4, Option.bind_some, if_neg h2, if_pos rfl, x_over (by rw [ev]; omega), Option.bind_some, if_pos h3, if_neg n10, show (0 : Int32) = i3 ((0 : Nat) : Int) from rfl, g2]
          rfl
        have hm' : f_m_round m.m_thrown m.m_n m.m_many m.m_isBlock m.m_hours m.m_side m.m_quantity m.m_limit m.m_sealed m.m_rounds m.m_liar m.m_told m.m_passed m.m_vectors = some (x.ag_rounds + 1, 0, x.ag_rounds + 1, v2') := by
          unfold f_m_round f_m_round_b25
          rw [m_ones hn, Option.bind_some, ← hs2, ← hs3, ← r3, ← hn.1, ← b1, ← b3, ← b4, ← b5, ← r1, if_neg h1, if_neg h2, m_thr, Option.bind_some, if_pos rfl, if_pos h3]
          exact g3
        refine ⟨_, _, _, ⟨_, _, hx, hm', rfl, fun _ => rfl, rfl, rfl, rfl⟩, Inv_mk hn hc ⟨hs1, hs2, hs3⟩ hm hb (r3 ▸ hr' : iv_r x.x_members x.ag_liarOperator m.m_liar (x.ag_rounds + 1) (x.ag_rounds + 1) x.x_isSealed) ht ?_ ⟨ho.1, fun o ho4 hd => absurd hd (hnd o ho4)⟩⟩
        intro _ o p ho4 hp
        exact g1 o p ho4 hp (by omega)
      · have hx : f_law_round x.x_members x.x_sealedCount x.bk_counts x.bk_whens x.bk_sides x.bk_quantities x.bk_limits x.ag_toldLies x.ag_passedLies x.ag_words x.ag_vectors x.ag_liarOperator x.ag_rounds m.m_out = some (0, x.ag_words, x.ag_vectors, x.ag_rounds + 1, vp_updL m.m_out 0 (Int32.toInt64 (x.ag_rounds + 1))) := by
          unfold f_law_round f_x_round f_ag_goOn
          rw [if_neg h1, x_over r4, Option.bind_some, if_neg h2, if_pos rfl, x_over (by rw [ev]; omega), Option.bind_some, if_neg h3, if_pos rfl]
          rfl
        have hm' : f_m_round m.m_thrown m.m_n m.m_many m.m_isBlock m.m_hours m.m_side m.m_quantity m.m_limit m.m_sealed m.m_rounds m.m_liar m.m_told m.m_passed m.m_vectors = some (x.ag_rounds + 1, 0, x.ag_rounds + 1, m.m_vectors) := by
          unfold f_m_round f_m_round_b25
          rw [m_ones hn, Option.bind_some, ← hs2, ← hs3, ← r3, ← hn.1, if_neg h1, if_neg h2, m_thr, Option.bind_some, if_pos rfl, if_neg h3]
          rfl
        refine ⟨_, _, _, ⟨_, _, hx, hm', rfl, fun _ => rfl, rfl, rfl, rfl⟩, Inv_mk hn hc ⟨hs1, hs2, hs3⟩ hm hb (r3 ▸ hr' : iv_r x.x_members x.ag_liarOperator m.m_liar (x.ag_rounds + 1) (x.ag_rounds + 1) x.x_isSealed) ht ?_ ⟨ho.1, fun o ho4 hd => absurd hd (hnd o ho4)⟩⟩
        intro z
        exact absurd z h3
