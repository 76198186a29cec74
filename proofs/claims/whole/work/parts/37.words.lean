/-! What operators tell, pass on, and take for the word of another. -/
def smB (c w d q l : Nat → Int32) (a b : Int32) : Prop := (0 ≤ a.toInt ∧ a.toInt ≤ 24) ∧ (-1 ≤ b.toInt ∧ b.toInt ≤ 23) ∧ bkK c w d q l a = bkK c w d q l b
theorem bkK_24 {c w d q l : Nat → Int32} (h : c 24 = 0) : bkK c w d q l 24 = [] := by
  unfold bkK
  rw [if_neg (by decide), show (24 : Int32).toInt.toNat = 24 from rfl, h]
  rfl
theorem lie_use {n n' : Int32} (hn : iv_n n n') {c w d q l : Nat → Int32} (h24 : c 24 = 0) {a b : Int32} (h : lieq n a b) : (a = -1 ∧ b = -2) ∨ (¬ a = -1 ∧ ¬ b = -2 ∧ smB c w d q l a b) := by
  obtain ⟨-, n1, n2⟩ := hn
  rcases h with h | ⟨rfl, rfl⟩ | ⟨rfl, h1, h2⟩
  · exact Or.inl h
  · refine Or.inr ⟨by decide, by decide, ⟨by decide, by decide⟩, ⟨by decide, by decide⟩, ?_⟩
    rw [bkK_24 h24, bkK_nil (by decide)]
  · refine Or.inr ⟨?_, ?_, ⟨h1, by omega⟩, ⟨by omega, by omega⟩, rfl⟩
    · intro z
      rw [z] at h1
      exact absurd h1 (by decide)
    · intro z
      rw [z] at h1
      exact absurd h1 (by decide)
theorem own_v {n n' : Int32} (hn : iv_n n n') {p u : Nat} (hp : p < n.toInt.toNat) (hu : u < 4) : (4 * i3 p + i3 u).toInt = 4 * p + u := by
  obtain ⟨-, n1, n2⟩ := hn
  rw [show (4 : Int32) = i3 4 from rfl, i3_mul, i3_add, i3_toInt (by omega)]
theorem own_sm {n n' : Int32} (hn : iv_n n n') {c w d q l : Nat → Int32} {p u : Nat} (hp : p < n.toInt.toNat) (hu : u < 4) : smB c w d q l (4 * i3 p + i3 u) (4 * i3 p + i3 u) := by
  have h := own_v hn hp hu
  obtain ⟨-, n1, n2⟩ := hn
  exact ⟨by omega, by omega, rfl⟩
theorem told_both {n n' liar : Int32} {tl tl' c w d q l : Nat → Int32} (hn : iv_n n n') (h24 : c 24 = 0) (ht : ∀ k, k < 24 → lieq n (tl k) (tl' k)) {u o p : Nat} (hu : u < 4) (ho : o < 4) (hp : p < n.toInt.toNat) :
    ∃ a b, f_ag_told tl liar (i3 u) (i3 o) (i3 p) = some a ∧ f_m_toldTo liar tl' (i3 u) (i3 o) (i3 p) = some b ∧ smB c w d q l a b := by
  have n1 := hn.2.1
  have n2 := hn.2.2
  have hpl : (6 * i3 o + i3 p).toInt = 6 * o + p := by rw [show (6 : Int32) = i3 6 from rfl, i3_mul, i3_add, i3_toInt (by omega)]
  have hix : ¬ (6 * i3 o + i3 p < 0 ∨ 24 ≤ (6 * i3 o + i3 p).toNatClampNeg) := ix_ok (by omega)
  have hcl : (6 * i3 o + i3 p).toNatClampNeg = (6 * i3 o + i3 p).toInt.toNat := rfl
  have hown := own_sm (c := c) (w := w) (d := d) (q := q) (l := l) hn hp hu
  unfold f_ag_told f_ag_told_b22 f_m_toldTo f_ag_toldPlace f_ag_own
  by_cases h : i3 u = liar
  · simp only [if_pos h, Option.bind_some, if_neg hix]
    rcases lie_use (w := w) (d := d) (q := q) (l := l) hn h24 (ht (6 * i3 o + i3 p).toNatClampNeg (by omega)) with ⟨z1, z2⟩ | ⟨z1, z2, z3⟩
    · simp only [if_pos z1, if_pos z2]
      exact ⟨_, _, rfl, rfl, hown⟩
    · simp only [if_neg z1, if_neg z2]
      exact ⟨_, _, rfl, rfl, z3⟩
  · simp only [if_neg h, Option.bind_some, ite_true]
    exact ⟨_, _, rfl, rfl, hown⟩
theorem passed_both {n n' liar : Int32} {tl tl' pl pl' c w d q l : Nat → Int32} (hn : iv_n n n') (h24 : c 24 = 0) (ht : ∀ k, k < 24 → lieq n (tl k) (tl' k)) (ht' : ∀ k, k < 96 → lieq n (pl k) (pl' k)) {v u o p : Nat} (hv : v < 4) (hu : u < 4) (ho : o < 4) (hp : p < n.toInt.toNat) :
    ∃ a b, f_ag_passed tl pl liar (i3 v) (i3 u) (i3 o) (i3 p) = some a ∧ f_m_passedTo liar tl' pl' (i3 v) (i3 u) (i3 o) (i3 p) = some b ∧ smB c w d q l a b := by
  have n1 := hn.2.1
  have n2 := hn.2.2
  have e1 : 6 * (4 * i3 o + i3 u) + i3 p = i3 (24 * o + 6 * u + p) := by
    rw [show (6 : Int32) = i3 6 from rfl, show (4 : Int32) = i3 4 from rfl, i3_mul, i3_add, i3_mul, i3_add]
    congr 1
    omega
  have e2 : 24 * i3 o + 6 * i3 u + i3 p = i3 (24 * o + 6 * u + p) := by
    rw [show (6 : Int32) = i3 6 from rfl, show (24 : Int32) = i3 24 from rfl, i3_mul, i3_mul, i3_add, i3_add]
  have hix : ¬ (i3 (24 * o + 6 * u + p) < 0 ∨ 96 ≤ (i3 (24 * o + 6 * u + p)).toNatClampNeg) := ix_i3 (by omega)
  have hcl : (i3 (24 * o + 6 * u + p)).toNatClampNeg < 96 := by rw [i3_cl (by omega)]; omega
  obtain ⟨a, b, k1, k2, k3⟩ := told_both (liar := liar) (w := w) (d := d) (q := q) (l := l) hn h24 ht hu hv hp
  unfold f_ag_passed f_ag_passed_b24 f_m_passedTo f_m_passedTo_b44 f_ag_passedPlace
  rw [e2]
  by_cases h : i3 v = liar
  · simp only [if_pos h, Option.bind_some, e1, if_neg hix, k1, k2]
    rcases lie_use (w := w) (d := d) (q := q) (l := l) hn h24 (ht' _ hcl) with ⟨z1, z2⟩ | ⟨z1, z2, z3⟩
    · simp only [if_pos z1, if_pos z2]
      exact ⟨_, _, rfl, rfl, k3⟩
    · simp only [if_neg z1, if_neg z2]
      exact ⟨_, _, rfl, rfl, z3⟩
  · simp only [if_neg h, Option.bind_some, ite_true, k1, k2]
    exact ⟨_, _, rfl, rfl, k3⟩
/-- the word, of what was told and what two passed on -/
def wdX (c w d q l : Nat → Int32) (t a b : Int32) : Int32 := if bkK c w d q l a = bkK c w d q l t then t else if bkK c w d q l b = bkK c w d q l t then t else if bkK c w d q l b = bkK c w d q l a then b else 24
def wdM (c w d q l : Nat → Int32) (t a b : Int32) : Int32 := if bkK c w d q l t = bkK c w d q l a then t else if bkK c w d q l t = bkK c w d q l b then t else if bkK c w d q l a = bkK c w d q l b then a else -1
theorem wd_sm {c w d q l : Nat → Int32} (h24 : c 24 = 0) {t a b t' a' b' : Int32} (h1 : smB c w d q l t t') (h2 : smB c w d q l a a') (h3 : smB c w d q l b b') : smB c w d q l (wdX c w d q l t a b) (wdM c w d q l t' a' b') := by
  unfold wdX wdM
  rw [← h1.2.2, ← h2.2.2, ← h3.2.2]
  by_cases z1 : bkK c w d q l a = bkK c w d q l t
  · rw [if_pos z1, if_pos z1.symm]
    exact h1
  · rw [if_neg z1, if_neg (fun z : bkK c w d q l t = bkK c w d q l a => z1 z.symm)]
    by_cases z2 : bkK c w d q l b = bkK c w d q l t
    · rw [if_pos z2, if_pos z2.symm]
      exact h1
    · rw [if_neg z2, if_neg (fun z : bkK c w d q l t = bkK c w d q l b => z2 z.symm)]
      by_cases z3 : bkK c w d q l b = bkK c w d q l a
      · rw [if_pos z3, if_pos z3.symm]
        exact ⟨h3.1, h2.2.1, z3.trans h2.2.2⟩
      · rw [if_neg z3, if_neg (fun z : bkK c w d q l a = bkK c w d q l b => z3 z.symm)]
        refine ⟨⟨by decide, by decide⟩, ⟨by decide, by decide⟩, ?_⟩
        rw [bkK_24 h24, bkK_nil (by decide)]
theorem i3_ne {a b : Nat} (ha : a < 2147483648) (hb : b < 2147483648) (h : a ≠ b) : ¬ i3 a = i3 b := by
  rw [i3_eq (by omega)]
  omega
theorem c4_lt {v : Nat} (h : v < 4) : ¬ (4 : Int32) ≤ i3 v := lt_c (b := 4) (by decide) h
theorem c4_ge : (4 : Int32) ≤ i3 (4 : Nat) := by decide
theorem wx_skip {c w d q l tl pl : Nat → Int32} {liar t x5 : Int32} {o u p : Nat} (ho : o < 4) (hu : u < 4) : ∀ (m v n : Nat), v + m ≤ 4 → (∀ s, v ≤ s → s < v + m → s = o ∨ s = u) → f_ag_word_L15 c w d q l tl pl liar (i3 o) (i3 u) (i3 p) (n + m) t x5 (i3 v) = f_ag_word_L15 c w d q l tl pl liar (i3 o) (i3 u) (i3 p) n t x5 (i3 ((v + m : Nat) : Int)) := by
  intro m
  induction m with
  | zero => intro v n _ _; rfl
  | succ m ih =>
    intro v n h1 h2
    rw [show n + (m + 1) = (n + m) + 1 from rfl, f_ag_word_L15, if_neg (c4_lt (by omega)), i3s, ih (v + 1) n (by omega) (fun s y1 y2 => h2 s (by omega) (by omega)), show v + 1 + m = v + (m + 1) by omega]
    rcases h2 v (by omega) (by omega) with z | z
    · rw [z, if_pos rfl]
    · by_cases y : i3 v = i3 o
      · rw [if_pos y]
      · rw [if_neg y, z, if_pos rfl]
theorem wx {c c' : Nat → Int32} {e e' : Nat → Int64} {w ib hs d d' q q' l l' : Nat → Int32} (hb : iv_b c c' e e' w ib hs d d' q q' l l') {tl pl : Nat → Int32} {liar t : Int32} {o u p v1 v2 : Nat} (ho : o < 4) (hu : u < 4) (hv : v1 < v2) (hv2 : v2 < 4) (hn1 : v1 ≠ o ∧ v1 ≠ u ∧ v2 ≠ o ∧ v2 ≠ u) (hoth : ∀ s, s < 4 → s ≠ v1 → s ≠ v2 → s = o ∨ s = u) (ht : 0 ≤ t.toInt ∧ t.toInt ≤ 24) {a b : Int32} (ha : f_ag_passed tl pl liar (i3 v1) (i3 u) (i3 o) (i3 p) = some a) (hbb : f_ag_passed tl pl liar (i3 v2) (i3 u) (i3 o) (i3 p) = some b) (ha24 : 0 ≤ a.toInt ∧ a.toInt ≤ 24) (hb24 : 0 ≤ b.toInt ∧ b.toInt ≤ 24) :
    f_ag_word_L15 c w d q l tl pl liar (i3 o) (i3 u) (i3 p) 1000 t (-1) 0 = some (wdX c w d q l t a b) := by
  have s1 := wx_skip (c := c) (w := w) (d := d) (q := q) (l := l) (tl := tl) (pl := pl) (liar := liar) (t := t) (x5 := -1) (p := p) ho hu v1 0 (1000 - v1) (by omega) (fun s y1 y2 => hoth s (by omega) (by omega) (by omega))
  have s2 := wx_skip (c := c) (w := w) (d := d) (q := q) (l := l) (tl := tl) (pl := pl) (liar := liar) (t := t) (x5 := a) (p := p) ho hu (v2 - (v1 + 1)) (v1 + 1) (1000 - v2) (by omega) (fun s y1 y2 => hoth s (by omega) (by omega) (by omega))
  have s3 := wx_skip (c := c) (w := w) (d := d) (q := q) (l := l) (tl := tl) (pl := pl) (liar := liar) (t := t) (x5 := b) (p := p) ho hu (4 - (v2 + 1)) (v2 + 1) 996 (by omega) (fun s y1 y2 => hoth s (by omega) (by omega) (by omega))
  rw [show 1000 - v1 + v1 = 1000 by omega, show 0 + v1 = v1 by omega] at s1
  rw [show 1000 - v2 + (v2 - (v1 + 1)) = 1000 - v1 - 1 by omega, show v1 + 1 + (v2 - (v1 + 1)) = v2 by omega] at s2
  rw [show 996 + (4 - (v2 + 1)) = 1000 - v2 - 1 by omega, show v2 + 1 + (4 - (v2 + 1)) = 4 by omega] at s3
  have hm1 : ¬ a = -1 := fun z => by rw [z] at ha24; exact absurd ha24.1 (by decide)
  unfold wdX
  rw [show (0 : Int32) = i3 ((0 : Nat) : Int) from rfl, s1, show 1000 - v1 = (1000 - v1 - 1) + 1 by omega, f_ag_word_L15, if_neg (c4_lt (by omega)), if_neg (i3_ne (by omega) (by omega) hn1.1), if_neg (i3_ne (by omega) (by omega) hn1.2.1), ha, Option.bind_some, x_eq hb ha24 ht, Option.bind_some, i3s]
  by_cases z1 : bkK c w d q l a = bkK c w d q l t
  · rw [if_pos z1, if_neg n10, if_pos z1]
  · rw [if_neg z1, if_pos rfl, if_pos rfl, if_neg z1, s2, show 1000 - v2 = (1000 - v2 - 1) + 1 by omega, f_ag_word_L15, if_neg (c4_lt (by omega)), if_neg (i3_ne (by omega) (by omega) hn1.2.2.1), if_neg (i3_ne (by omega) (by omega) hn1.2.2.2), hbb, Option.bind_some, x_eq hb hb24 ht, Option.bind_some, i3s]
    by_cases z2 : bkK c w d q l b = bkK c w d q l t
    · rw [if_pos z2, if_neg n10, if_pos z2]
    · rw [if_neg z2, if_pos rfl, if_neg hm1, x_eq hb hb24 ha24, Option.bind_some, if_neg z2]
      by_cases z3 : bkK c w d q l b = bkK c w d q l a
      · rw [if_pos z3, if_neg n10, if_pos z3]
      · rw [if_neg z3, if_pos rfl, if_neg z3, s3, f_ag_word_L15, if_pos c4_ge]
theorem wm_skip {c ib hs d q l tl pl : Nat → Int32} {liar t x5 x6 x7 : Int32} {o u p : Nat} (ho : o < 4) (hu : u < 4) : ∀ (m v n : Nat), v + m ≤ 4 → (∀ s, v ≤ s → s < v + m → s = o ∨ s = u) → f_m_word_L32 c ib hs d q l liar tl pl (i3 o) (i3 u) (i3 p) (n + m) t x5 x6 x7 (i3 v) = f_m_word_L32 c ib hs d q l liar tl pl (i3 o) (i3 u) (i3 p) n t x5 x6 x7 (i3 ((v + m : Nat) : Int)) := by
  intro m
  induction m with
  | zero => intro v n _ _; rfl
  | succ m ih =>
    intro v n h1 h2
    rw [show n + (m + 1) = (n + m) + 1 from rfl, f_m_word_L32, if_neg (c4_lt (by omega)), i3s, ih (v + 1) n (by omega) (fun s y1 y2 => h2 s (by omega) (by omega)), show v + 1 + m = v + (m + 1) by omega]
    rcases h2 v (by omega) (by omega) with z | z
    · rw [z, if_pos rfl]
    · by_cases y : i3 v = i3 o
      · rw [if_pos y]
      · rw [if_neg y, z, if_pos rfl]
theorem wm {c : Nat → Int32} {e : Nat → Int64} {w ib hs d q l : Nat → Int32} (hb : iv_b c c e e w ib hs d d q q l l) {tl pl : Nat → Int32} {liar t : Int32} {o u p v1 v2 : Nat} (ho : o < 4) (hu : u < 4) (hv : v1 < v2) (hv2 : v2 < 4) (hn1 : v1 ≠ o ∧ v1 ≠ u ∧ v2 ≠ o ∧ v2 ≠ u) (hoth : ∀ s, s < 4 → s ≠ v1 → s ≠ v2 → s = o ∨ s = u) (ht : -1 ≤ t.toInt ∧ t.toInt ≤ 23) {a b : Int32} (ha : f_m_passedTo liar tl pl (i3 v1) (i3 u) (i3 o) (i3 p) = some a) (hbb : f_m_passedTo liar tl pl (i3 v2) (i3 u) (i3 o) (i3 p) = some b) (ha24 : -1 ≤ a.toInt ∧ a.toInt ≤ 23) (hb24 : -1 ≤ b.toInt ∧ b.toInt ≤ 23) :
    f_m_word_L32 c ib hs d q l liar tl pl (i3 o) (i3 u) (i3 p) 1000 t (-1) (-1) 1 0 = some (wdM c w d q l t a b) := by
  have s1 := wm_skip (c := c) (ib := ib) (hs := hs) (d := d) (q := q) (l := l) (tl := tl) (pl := pl) (liar := liar) (t := t) (x5 := -1) (x6 := -1) (x7 := 1) (p := p) ho hu v1 0 (1000 - v1) (by omega) (fun s y1 y2 => hoth s (by omega) (by omega) (by omega))
  have s2 := wm_skip (c := c) (ib := ib) (hs := hs) (d := d) (q := q) (l := l) (tl := tl) (pl := pl) (liar := liar) (t := t) (x5 := a) (x6 := -1) (x7 := 0) (p := p) ho hu (v2 - (v1 + 1)) (v1 + 1) (1000 - v2) (by omega) (fun s y1 y2 => hoth s (by omega) (by omega) (by omega))
  have s3 := wm_skip (c := c) (ib := ib) (hs := hs) (d := d) (q := q) (l := l) (tl := tl) (pl := pl) (liar := liar) (t := t) (x5 := a) (x6 := b) (x7 := 0) (p := p) ho hu (4 - (v2 + 1)) (v2 + 1) 996 (by omega) (fun s y1 y2 => hoth s (by omega) (by omega) (by omega))
  rw [show 1000 - v1 + v1 = 1000 by omega, show 0 + v1 = v1 by omega] at s1
  rw [show 1000 - v2 + (v2 - (v1 + 1)) = 1000 - v1 - 1 by omega, show v1 + 1 + (v2 - (v1 + 1)) = v2 by omega] at s2
  rw [show 996 + (4 - (v2 + 1)) = 1000 - v2 - 1 by omega, show v2 + 1 + (4 - (v2 + 1)) = 4 by omega] at s3
  unfold wdM
  rw [show (0 : Int32) = i3 ((0 : Nat) : Int) from rfl, s1, show 1000 - v1 = (1000 - v1 - 1) + 1 by omega, f_m_word_L32, if_neg (c4_lt (by omega)), if_neg (i3_ne (by omega) (by omega) hn1.1), if_neg (i3_ne (by omega) (by omega) hn1.2.1), ha, Option.bind_some, if_neg n10]
  unfold f_m_word_b73
  rw [if_neg n10, i3s, s2, show 1000 - v2 = (1000 - v2 - 1) + 1 by omega, f_m_word_L32, if_neg (c4_lt (by omega)), if_neg (i3_ne (by omega) (by omega) hn1.2.2.1), if_neg (i3_ne (by omega) (by omega) hn1.2.2.2), hbb, Option.bind_some, if_pos rfl]
  unfold f_m_word_b73
  rw [if_pos rfl, i3s, s3, f_m_word_L32, if_pos c4_ge, m_eq hb ht ha24, Option.bind_some]
  unfold f_m_word_b120
  by_cases z1 : bkK c w d q l t = bkK c w d q l a
  · rw [if_pos z1, if_neg n10, if_pos z1]
  · rw [if_neg z1, if_pos rfl, if_neg z1, m_eq hb ht hb24, Option.bind_some]
    by_cases z2 : bkK c w d q l t = bkK c w d q l b
    · rw [if_pos z2, if_neg n10, if_pos z2]
    · rw [if_neg z2, if_pos rfl, if_neg z2, m_eq hb ha24 hb24, Option.bind_some]
      by_cases z3 : bkK c w d q l a = bkK c w d q l b
      · rw [if_pos z3, if_neg n10, if_pos z3]
      · rw [if_neg z3, if_pos rfl, if_neg z3]
theorem others : ∀ o u : Fin 4, o ≠ u → ∃ v1 v2 : Fin 4, v1.val < v2.val ∧ (v1.val ≠ o.val ∧ v1.val ≠ u.val ∧ v2.val ≠ o.val ∧ v2.val ≠ u.val) ∧ ∀ s : Fin 4, s.val ≠ v1.val → s.val ≠ v2.val → s.val = o.val ∨ s.val = u.val := by decide
theorem word_both {n n' liar : Int32} (hn : iv_n n n') {c : Nat → Int32} {e : Nat → Int64} {w ib hs d q l : Nat → Int32} (hb : iv_b c c e e w ib hs d d q q l l) {tl tl' pl pl' : Nat → Int32} (ht : ∀ k, k < 24 → lieq n (tl k) (tl' k)) (ht' : ∀ k, k < 96 → lieq n (pl k) (pl' k)) {o u p : Nat} (ho : o < 4) (hu : u < 4) (hou : o ≠ u) (hp : p < n.toInt.toNat) :
    ∃ a b, f_ag_word c w d q l tl pl liar (i3 o) (i3 u) (i3 p) = some a ∧ f_m_word c ib hs d q l liar tl' pl' (i3 o) (i3 u) (i3 p) = some b ∧ smB c w d q l a b := by
  have h24 : c 24 = 0 := (hb.2.2.2.2.1 24 (by omega)).1
  obtain ⟨⟨v1, v1l⟩, ⟨v2, v2l⟩, y1, y2, y3⟩ := others ⟨o, ho⟩ ⟨u, hu⟩ (fun z => hou (Fin.mk.inj z))
  obtain ⟨t, t', t1, t2, t3⟩ := told_both (liar := liar) (w := w) (d := d) (q := q) (l := l) hn h24 ht hu ho hp
  obtain ⟨a, a', a1, a2, a3⟩ := passed_both (liar := liar) (w := w) (d := d) (q := q) (l := l) hn h24 ht ht' v1l hu ho hp
  obtain ⟨b, b', b1, b2, b3⟩ := passed_both (liar := liar) (w := w) (d := d) (q := q) (l := l) hn h24 ht ht' v2l hu ho hp
  refine ⟨wdX c w d q l t a b, wdM c w d q l t' a' b', ?_, ?_, wd_sm h24 t3 a3 b3⟩
  · unfold f_ag_word
    rw [t1, Option.bind_some]
    exact wx hb ho hu y1 v2l y2 (fun s s4 z1 z2 => y3 ⟨s, s4⟩ z1 z2) t3.1 a1 b1 a3.1 b3.1
  · unfold f_m_word
    rw [if_neg (i3_ne (by omega) (by omega) hou), t2, Option.bind_some]
    exact wm hb ho hu y1 v2l y2 (fun s s4 z1 z2 => y3 ⟨s, s4⟩ z1 z2) t3.2.1 a2 b2 a3.2.1 b3.2.1
