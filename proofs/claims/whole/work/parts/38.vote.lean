/-! The vote of an operator on a member's book: three alike of four words. -/
def cnC (C : Nat → List En) (X : List En) (a : Nat) : Int := smN (fun j => if C j = X then 1 else 0) a
theorem cnC_bd {C : Nat → List En} {X : List En} : ∀ a : Nat, 0 ≤ cnC C X a ∧ cnC C X a ≤ a
  | 0 => ⟨Int.le_refl _, Int.le_refl _⟩
  | a + 1 => by
    have h := cnC_bd (C := C) (X := X) a
    show 0 ≤ cnC C X a + (if C a = X then 1 else 0) ∧ cnC C X a + (if C a = X then 1 else 0) ≤ ((a + 1 : Nat) : Int)
    split <;> omega
theorem cnC_two {C : Nat → List En} {X Y : List En} (h : X ≠ Y) : ∀ a : Nat, cnC C X a + cnC C Y a ≤ a
  | 0 => Int.le_refl _
  | a + 1 => by
    have ih := cnC_two (C := C) h a
    show (cnC C X a + (if C a = X then 1 else 0)) + (cnC C Y a + (if C a = Y then 1 else 0)) ≤ ((a + 1 : Nat) : Int)
    by_cases z : C a = X
    · rw [if_pos z, if_neg (fun y => h (z.symm.trans y))]
      omega
    · rw [if_neg z]
      split <;> omega
def majR (C : Nat → List En) (R : List En) : Prop := (∃ u, u < 4 ∧ 3 ≤ cnC C (C u) 4 ∧ R = C u) ∨ ((∀ u, u < 4 → cnC C (C u) 4 < 3) ∧ R = [])
theorem maj_one {C : Nat → List En} {u v : Nat} (h1 : 3 ≤ cnC C (C u) 4) (h2 : 3 ≤ cnC C (C v) 4) : C u = C v := by
  by_cases z : C u = C v
  · exact z
  · have := cnC_two (C := C) z 4
    omega
theorem maj_uniq {C : Nat → List En} {R R' : List En} (h : majR C R) (h' : majR C R') : R = R' := by
  rcases h with ⟨u, hu, h1, h2⟩ | ⟨h1, h2⟩
  · rcases h' with ⟨v, hv, g1, g2⟩ | ⟨g1, g2⟩
    · rw [h2, g2]
      exact maj_one h1 g1
    · have := g1 u hu
      omega
  · rcases h' with ⟨v, hv, g1, g2⟩ | ⟨g1, g2⟩
    · have := h1 v hv
      omega
    · rw [h2, g2]
theorem cnC_congr {C D : Nat → List En} {X : List En} (h : ∀ u, u < 4 → C u = D u) : ∀ a : Nat, a ≤ 4 → cnC C X a = cnC D X a
  | 0, _ => rfl
  | a + 1, ha => by
    show cnC C X a + (if C a = X then 1 else 0) = cnC D X a + (if D a = X then 1 else 0)
    rw [cnC_congr h a (by omega), h a (by omega)]
theorem maj_congr {C D : Nat → List En} {R : List En} (h : ∀ u, u < 4 → C u = D u) (hm : majR C R) : majR D R := by
  rcases hm with ⟨u, hu, h1, h2⟩ | ⟨h1, h2⟩
  · refine Or.inl ⟨u, hu, ?_, ?_⟩
    · rw [← h u hu, ← cnC_congr h 4 (Nat.le_refl _)]
      exact h1
    · rw [h2, h u hu]
  · refine Or.inr ⟨fun u hu => ?_, h2⟩
    rw [← h u hu, ← cnC_congr h 4 (Nat.le_refl _)]
    exact h1 u hu
theorem x_like {c c' : Nat → Int32} {e e' : Nat → Int64} {w ib hs d d' q q' l l' : Nat → Int32} (hb : iv_b c c' e e' w ib hs d d' q q' l l') {W : Nat → Int32} (hW : ∀ u, u < 4 → 0 ≤ (W u).toInt ∧ (W u).toInt ≤ 24) {x : Int32} (hx : 0 ≤ x.toInt ∧ x.toInt ≤ 24) :
    f_ag_wordsLike c w d q l W x = some (i3 (cnC (fun u => bkK c w d q l (W u)) (bkK c w d q l x) 4)) := by
  unfold f_ag_wordsLike
  exact lp (fun n a => f_ag_wordsLike_L4 c w d q l W x n (i3 (cnC (fun u => bkK c w d q l (W u)) (bkK c w d q l x) a)) (i3 a)) 4 _ (by
      intro n a ha
      show f_ag_wordsLike_L4 c w d q l W x (n + 1) (i3 (cnC (fun u => bkK c w d q l (W u)) (bkK c w d q l x) a)) (i3 a) = f_ag_wordsLike_L4 c w d q l W x n (i3 (cnC (fun u => bkK c w d q l (W u)) (bkK c w d q l x) a + (if bkK c w d q l (W a) = bkK c w d q l x then 1 else 0))) (i3 ((a + 1 : Nat) : Int))
      rw [f_ag_wordsLike_L4, if_neg (c4_lt ha), if_neg (ix_n ha (by omega)), cl_n (by omega), x_eq hb (hW a ha) hx, Option.bind_some, i3s]
      by_cases z : bkK c w d q l (W a) = bkK c w d q l x
      · rw [if_pos z, if_neg n10, if_pos z, ← i3_add]
        rfl
      · rw [if_neg z, if_pos rfl, if_neg z, Int.add_zero]) (by
      intro n
      show f_ag_wordsLike_L4 c w d q l W x (n + 1) _ (i3 (4 : Nat)) = _
      rw [f_ag_wordsLike_L4, if_pos c4_ge]) 1000 0 (by omega) (by omega)
theorem x_L41 {c c' : Nat → Int32} {e e' : Nat → Int64} {w ib hs d d' q q' l l' : Nat → Int32} (hb : iv_b c c' e e' w ib hs d d' q q' l l') (h24 : c 24 = 0) {tl pl : Nat → Int32} {liar : Int32} {W : Nat → Int32} (hW : ∀ u, u < 4 → 0 ≤ (W u).toInt ∧ (W u).toInt ≤ 24) :
    ∃ r, f_ag_agreeOn_L41 c w d q l tl pl liar 1000 W 0 = some (r, W) ∧ (0 ≤ r.toInt ∧ r.toInt ≤ 24) ∧ majR (fun u => bkK c w d q l (W u)) (bkK c w d q l r) := by
  refine lpX (fun n a (_ : Unit) => f_ag_agreeOn_L41 c w d q l tl pl liar n W (i3 a)) 4 (fun a _ => ∀ u, u < a → cnC (fun u => bkK c w d q l (W u)) (bkK c w d q l (W u)) 4 < 3) (fun R => ∃ r, R = some (r, W) ∧ (0 ≤ r.toInt ∧ r.toInt ≤ 24) ∧ majR (fun u => bkK c w d q l (W u)) (bkK c w d q l r)) ?_ ?_ 1000 0 () (by omega) (by omega) (fun u hu => by omega)
  · intro n a _ ha hI
    have hcb := cnC_bd (C := fun u => bkK c w d q l (W u)) (X := bkK c w d q l (W a)) 4
    have e1 : f_ag_agreeOn_L41 c w d q l tl pl liar (n + 1) W (i3 a) = if i3 (cnC (fun u => bkK c w d q l (W u)) (bkK c w d q l (W a)) 4) < 3 then f_ag_agreeOn_L41 c w d q l tl pl liar n W (i3 ((a + 1 : Nat) : Int)) else some (W a, W) := by
      rw [f_ag_agreeOn_L41, if_neg (c4_lt ha), if_neg (ix_n ha (by omega)), cl_n (by omega), x_like hb hW (hW a ha), Option.bind_some, i3s]
    have e2 : i3 (cnC (fun u => bkK c w d q l (W u)) (bkK c w d q l (W a)) 4) < 3 ↔ cnC (fun u => bkK c w d q l (W u)) (bkK c w d q l (W a)) 4 < 3 := i3_lt (b := 3) (by omega)
    by_cases z : cnC (fun u => bkK c w d q l (W u)) (bkK c w d q l (W a)) 4 < 3
    · refine Or.inr ⟨(), ?_, ?_⟩
      · intro u hu
        by_cases y : u = a
        · rw [y]; exact z
        · exact hI u (by omega)
      · rw [e1, if_pos (e2.mpr z)]
    · refine Or.inl ⟨W a, ?_, hW a ha, Or.inl ⟨a, ha, Int.not_lt.mp z, rfl⟩⟩
      rw [e1, if_neg (fun y => z (e2.mp y))]
  · intro n _ hI
    refine ⟨24, ?_, ⟨by decide, by decide⟩, Or.inr ⟨hI, bkK_24 h24⟩⟩
    show f_ag_agreeOn_L41 c w d q l tl pl liar (n + 1) W (i3 (4 : Nat)) = _
    rw [f_ag_agreeOn_L41, if_pos c4_ge]
theorem x_agree {c c' : Nat → Int32} {e e' : Nat → Int64} {w ib hs d d' q q' l l' : Nat → Int32} (hb : iv_b c c' e e' w ib hs d d' q q' l l') (h24 : c 24 = 0) {tl pl : Nat → Int32} {liar : Int32} {W : Nat → Int32} (hW : ∀ u, u < 4 → 0 ≤ (W u).toInt ∧ (W u).toInt ≤ 24) {o p : Nat} (ho : o < 4) (hWo : W o = 4 * i3 p + i3 o) (hWu : ∀ u : Nat, u < 4 → o ≠ u → f_ag_word c w d q l tl pl liar (i3 o) (i3 u) (i3 p) = some (W u)) (wd : Nat → Int32) :
    ∃ r wd', f_ag_agreeOn c w d q l tl pl wd liar (i3 o) (i3 p) = some (r, wd') ∧ (0 ≤ r.toInt ∧ r.toInt ≤ 24) ∧ majR (fun u => bkK c w d q l (W u)) (bkK c w d q l r) := by
  unfold f_ag_agreeOn
  have key : ∀ (n a : Nat) (s : Nat → Int32), a ≤ 4 → 4 - a < n → (∀ u, u < a → s u = W u) → ∃ r wd', f_ag_agreeOn_L2 c w d q l tl pl liar (i3 o) (i3 p) n s (i3 a) = some (r, wd') ∧ (0 ≤ r.toInt ∧ r.toInt ≤ 24) ∧ majR (fun u => bkK c w d q l (W u)) (bkK c w d q l r) := by
    refine lpI (fun n a s => f_ag_agreeOn_L2 c w d q l tl pl liar (i3 o) (i3 p) n s (i3 a)) 4 (fun a s => ∀ u, u < a → s u = W u) (fun R => ∃ r wd', R = some (r, wd') ∧ (0 ≤ r.toInt ∧ r.toInt ≤ 24) ∧ majR (fun u => bkK c w d q l (W u)) (bkK c w d q l r)) ?_ ?_
    · intro n a s ha hI
      refine ⟨upd s a (W a), ?_, ?_⟩
      · intro u hu
        rw [updf]
        by_cases z : u = a
        · rw [if_pos z, z]
        · rw [if_neg z]
          exact hI u (by omega)
      · show f_ag_agreeOn_L2 c w d q l tl pl liar (i3 o) (i3 p) (n + 1) s (i3 a) = f_ag_agreeOn_L2 c w d q l tl pl liar (i3 o) (i3 p) n (upd s a (W a)) (i3 ((a + 1 : Nat) : Int))
        rw [f_ag_agreeOn_L2, if_neg (c4_lt ha)]
        by_cases z : a = o
        · subst z
          unfold f_ag_own
          rw [if_pos rfl, hWo, Option.bind_some, if_neg (ix_n ha (by omega)), cl_n (by omega), i3s]
        · rw [if_neg (i3_ne (by omega) (by omega) z), hWu a ha (fun y => z y.symm), Option.bind_some, if_neg (ix_n ha (by omega)), cl_n (by omega), i3s]
    · intro n s hI
      have e0 : ∀ u, u < 4 → 0 ≤ (s u).toInt ∧ (s u).toInt ≤ 24 := fun u hu => by rw [hI u hu]; exact hW u hu
      obtain ⟨r, k1, k2, k3⟩ := x_L41 (tl := tl) (pl := pl) (liar := liar) hb h24 e0
      refine ⟨r, s, ?_, k2, ?_⟩
      · show f_ag_agreeOn_L2 c w d q l tl pl liar (i3 o) (i3 p) (n + 1) s (i3 (4 : Nat)) = _
        rw [f_ag_agreeOn_L2, if_pos c4_ge]
        exact k1
      · exact maj_congr (C := fun u => bkK c w d q l (s u)) (D := fun u => bkK c w d q l (W u)) (fun u hu => by show bkK c w d q l (s u) = bkK c w d q l (W u); rw [hI u hu]) k3
  exact key 1000 0 wd (by omega) (by omega) (fun u hu => by omega)
theorem m_vote {c : Nat → Int32} {e : Nat → Int64} {w ib hs d q l : Nat → Int32} (hb : iv_b c c e e w ib hs d d q q l l) {tl pl : Nat → Int32} {liar : Int32} {W : Nat → Int32} (hW : ∀ u, u < 4 → -1 ≤ (W u).toInt ∧ (W u).toInt ≤ 23) {o p : Nat} (hWu : ∀ u : Nat, u < 4 → f_m_word c ib hs d q l liar tl pl (i3 o) (i3 u) (i3 p) = some (W u)) :
    ∃ r, f_m_vote c ib hs d q l liar tl pl (i3 o) (i3 p) = some r ∧ (-1 ≤ r.toInt ∧ r.toInt ≤ 23) ∧ majR (fun u => bkK c w d q l (W u)) (bkK c w d q l r) := by
  unfold f_m_vote
  have inner : ∀ (K : Int32 → Int32 → Option Int32) (x3 : Int32) (a : Nat), a < 4 → f_m_vote_L27 c ib hs d q l liar tl pl (i3 o) (i3 p) K 1000 x3 (i3 a) (W a) 0 0 = K (if 3 ≤ cnC (fun u => bkK c w d q l (W u)) (bkK c w d q l (W a)) 4 then W a else x3) (i3 ((a + 1 : Nat) : Int)) := by
    intro K x3 a ha
    exact lp (fun n j => f_m_vote_L27 c ib hs d q l liar tl pl (i3 o) (i3 p) K n x3 (i3 a) (W a) (i3 (cnC (fun u => bkK c w d q l (W u)) (bkK c w d q l (W a)) j)) (i3 j)) 4 _ (by
        intro n j hj
        show f_m_vote_L27 c ib hs d q l liar tl pl (i3 o) (i3 p) K (n + 1) x3 (i3 a) (W a) (i3 (cnC (fun u => bkK c w d q l (W u)) (bkK c w d q l (W a)) j)) (i3 j) = f_m_vote_L27 c ib hs d q l liar tl pl (i3 o) (i3 p) K n x3 (i3 a) (W a) (i3 (cnC (fun u => bkK c w d q l (W u)) (bkK c w d q l (W a)) j + (if bkK c w d q l (W j) = bkK c w d q l (W a) then 1 else 0))) (i3 ((j + 1 : Nat) : Int))
        rw [f_m_vote_L27, if_neg (c4_lt hj), hWu j hj, Option.bind_some, m_eq hb (hW a ha) (hW j hj), Option.bind_some, i3s]
        by_cases z : bkK c w d q l (W j) = bkK c w d q l (W a)
        · rw [if_pos z.symm, if_neg n10, if_pos z, ← i3_add]
          rfl
        · rw [if_neg (fun y : bkK c w d q l (W a) = bkK c w d q l (W j) => z y.symm), if_pos rfl, if_neg z, ← i3_add]
          rfl) (by
        intro n
        have hcb := cnC_bd (C := fun u => bkK c w d q l (W u)) (X := bkK c w d q l (W a)) 4
        have e2 : i3 (cnC (fun u => bkK c w d q l (W u)) (bkK c w d q l (W a)) 4) ≤ 2 ↔ cnC (fun u => bkK c w d q l (W u)) (bkK c w d q l (W a)) 4 ≤ 2 := i3_le (b := 2) (by omega)
        show f_m_vote_L27 c ib hs d q l liar tl pl (i3 o) (i3 p) K (n + 1) x3 (i3 a) (W a) _ (i3 (4 : Nat)) = _
        rw [f_m_vote_L27, if_pos c4_ge, i3s]
        by_cases z : 3 ≤ cnC (fun u => bkK c w d q l (W u)) (bkK c w d q l (W a)) 4
        · rw [if_neg (fun y => by have := e2.mp y; omega), if_pos z]
        · rw [if_pos (e2.mpr (by omega)), if_neg z]) 1000 0 (by omega) (by omega)
  refine lpI (fun n a (s : Int32) => f_m_vote_L5 c ib hs d q l liar tl pl (i3 o) (i3 p) n s (i3 a)) 4 (fun a s => (-1 ≤ s.toInt ∧ s.toInt ≤ 23) ∧ ((∃ u, u < a ∧ u < 4 ∧ 3 ≤ cnC (fun u => bkK c w d q l (W u)) (bkK c w d q l (W u)) 4 ∧ bkK c w d q l s = bkK c w d q l (W u)) ∨ ((∀ u, u < a → cnC (fun u => bkK c w d q l (W u)) (bkK c w d q l (W u)) 4 < 3) ∧ bkK c w d q l s = []))) (fun R => ∃ r, R = some r ∧ (-1 ≤ r.toInt ∧ r.toInt ≤ 23) ∧ majR (fun u => bkK c w d q l (W u)) (bkK c w d q l r)) ?_ ?_ 1000 0 (-1) (by omega) (by omega) ⟨⟨by decide, by decide⟩, Or.inr ⟨fun u hu => by omega, bkK_nil (by decide)⟩⟩
  · intro n a s ha hI
    refine ⟨if 3 ≤ cnC (fun u => bkK c w d q l (W u)) (bkK c w d q l (W a)) 4 then W a else s, ?_, ?_⟩
    · by_cases z : 3 ≤ cnC (fun u => bkK c w d q l (W u)) (bkK c w d q l (W a)) 4
      · rw [if_pos z]
        exact ⟨hW a ha, Or.inl ⟨a, by omega, ha, z, rfl⟩⟩
      · rw [if_neg z]
        refine ⟨hI.1, ?_⟩
        rcases hI.2 with ⟨u, h1, h2⟩ | ⟨h1, h2⟩
        · exact Or.inl ⟨u, by omega, h2⟩
        · refine Or.inr ⟨fun u hu => ?_, h2⟩
          by_cases y : u = a
          · rw [y]; exact Int.not_le.mp z
          · exact h1 u (by omega)
    · show f_m_vote_L5 c ib hs d q l liar tl pl (i3 o) (i3 p) (n + 1) s (i3 a) = _
      rw [f_m_vote_L5, if_neg (c4_lt ha), hWu a ha, Option.bind_some, inner _ _ a ha]
  · intro n s hI
    refine ⟨s, ?_, hI.1, ?_⟩
    · show f_m_vote_L5 c ib hs d q l liar tl pl (i3 o) (i3 p) (n + 1) s (i3 (4 : Nat)) = _
      rw [f_m_vote_L5, if_pos c4_ge]
    · rcases hI.2 with ⟨u, h1, h2, h3, h4⟩ | ⟨h1, h2⟩
      · exact Or.inl ⟨u, h2, h3, h4⟩
      · exact Or.inr ⟨h1, h2⟩
theorem vote_both {n n' liar : Int32} (hn : iv_n n n') {c : Nat → Int32} {e : Nat → Int64} {w ib hs d q l : Nat → Int32} (hb : iv_b c c e e w ib hs d d q q l l) {tl tl' pl pl' : Nat → Int32} (ht : ∀ k, k < 24 → lieq n (tl k) (tl' k)) (ht' : ∀ k, k < 96 → lieq n (pl k) (pl' k)) {o p : Nat} (ho : o < 4) (hp : p < n.toInt.toNat) (wd : Nat → Int32) :
    ∃ a wd' b, f_ag_agreeOn c w d q l tl pl wd liar (i3 o) (i3 p) = some (a, wd') ∧ f_m_vote c ib hs d q l liar tl' pl' (i3 o) (i3 p) = some b ∧ bkq c w d q l a b := by
  have h24 : c 24 = 0 := (hb.2.2.2.2.1 24 (by omega)).1
  have hown := own_sm (c := c) (w := w) (d := d) (q := q) (l := l) hn hp ho
  have hex : ∀ u : Nat, ∃ A B : Int32, u < 4 → (smB c w d q l A B ∧ (u = o → A = 4 * i3 p + i3 o) ∧ (o ≠ u → f_ag_word c w d q l tl pl liar (i3 o) (i3 u) (i3 p) = some A) ∧ f_m_word c ib hs d q l liar tl' pl' (i3 o) (i3 u) (i3 p) = some B) := by
    intro u
    by_cases hu : u < 4
    · by_cases z : o = u
      · refine ⟨4 * i3 p + i3 o, 4 * i3 p + i3 o, fun _ => ⟨hown, fun _ => rfl, fun y => absurd z y, ?_⟩⟩
        unfold f_m_word
        rw [← z, if_pos rfl]
      · obtain ⟨A, B, k1, k2, k3⟩ := word_both (liar := liar) hn hb ht ht' ho hu z hp
        exact ⟨A, B, fun _ => ⟨k3, fun y => absurd y.symm z, fun _ => k1, k2⟩⟩
    · exact ⟨0, 0, fun y => absurd y hu⟩
  have hX : ∀ u, u < 4 → _ := fun u hu => (Classical.choose_spec (Classical.choose_spec (hex u))) hu
  obtain ⟨a, wd', k1, k2, k3⟩ := x_agree (tl := tl) (pl := pl) (liar := liar) hb h24 (W := fun u => Classical.choose (hex u)) (fun u hu => (hX u hu).1.1) ho ((hX o ho).2.1 rfl) (fun u hu hou => (hX u hu).2.2.1 hou) wd
  obtain ⟨b, g1, g2, g3⟩ := m_vote (tl := tl') (pl := pl') (liar := liar) hb (W := fun u => Classical.choose (Classical.choose_spec (hex u))) (fun u hu => (hX u hu).1.2.1) (o := o) (p := p) (fun u hu => (hX u hu).2.2.2)
  refine ⟨a, wd', b, k1, g1, bkq_of (fun k => (hb.2.2.2.1 k).1) k2 g2 ?_⟩
  exact maj_uniq k3 (maj_congr (fun u hu => (hX u hu).1.2.2.symm) g3)
