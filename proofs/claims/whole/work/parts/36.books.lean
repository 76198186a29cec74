/-! What a book holds; when two books hold the same. -/
def bkK (c w d q l : Nat → Int32) (a : Int32) : List En := if a.toInt < 0 then [] else (List.range (c a.toInt.toNat).toInt.toNat).map (fun i => en_at w d q l 0 (10 * a.toInt.toNat + i))
theorem mre_eq {α : Type} (f g : Nat → α) (n m : Nat) : (List.range n).map f = (List.range m).map g ↔ n = m ∧ ∀ i, i < n → f i = g i := by
  constructor
  · intro h
    have hl := congrArg List.length h
    rw [List.length_map, List.length_map, List.length_range, List.length_range] at hl
    subst hl
    exact ⟨rfl, fun i hi => List.map_inj_left.mp h i (List.mem_range.mpr hi)⟩
  · rintro ⟨rfl, h⟩
    exact List.map_congr_left (fun i hi => h i (List.mem_range.mp hi))
theorem en_eq {w d q l : Nat → Int32} {s i j : Nat} : en_at w d q l s i = en_at w d q l s j ↔ w i = w j ∧ d i = d j ∧ q i = q j ∧ l i = l j := by
  unfold en_at
  simp only [Prod.mk.injEq, Int32.toInt_inj, true_and]
abbrev sameE (w d q l : Nat → Int32) (a b i : Nat) : Prop := en_at w d q l 0 (10 * a + i) = en_at w d q l 0 (10 * b + i)
theorem x_eeq {w d q l : Nat → Int32} {x y : Int32} (hx : 0 ≤ x.toInt ∧ x.toInt < 240) (hy : 0 ≤ y.toInt ∧ y.toInt < 240) : f_bk_areEntriesEqual w d q l x y = some (if en_at w d q l 0 x.toNatClampNeg = en_at w d q l 0 y.toNatClampNeg then 1 else 0) := by
  unfold f_bk_areEntriesEqual
  rw [if_neg (ix_ok (by omega)), if_neg (ix_ok (by omega))]
  simp only [en_eq]
  by_cases h1 : w x.toNatClampNeg = w y.toNatClampNeg
  · rw [if_pos h1]
    by_cases h2 : d x.toNatClampNeg = d y.toNatClampNeg
    · rw [if_pos h2]
      by_cases h3 : q x.toNatClampNeg = q y.toNatClampNeg
      · rw [if_pos h3]
        by_cases h4 : l x.toNatClampNeg = l y.toNatClampNeg
        · rw [if_pos h4, if_pos ⟨h1, h2, h3, h4⟩]
        · rw [if_neg h4, if_neg (fun z => h4 z.2.2.2)]
      · rw [if_neg h3, if_neg (fun z => h3 z.2.2.1)]
    · rw [if_neg h2, if_neg (fun z => h2 z.2.1)]
  · rw [if_neg h1, if_neg (fun z => h1 z.1)]
theorem bkK_eq {c w d q l : Nat → Int32} {a b : Int32} (hc : ∀ k, 0 ≤ (c k).toInt) (ha : 0 ≤ a.toInt) (hb : 0 ≤ b.toInt) : bkK c w d q l a = bkK c w d q l b ↔ c a.toNatClampNeg = c b.toNatClampNeg ∧ ∀ i, i < (c a.toNatClampNeg).toInt.toNat → sameE w d q l a.toNatClampNeg b.toNatClampNeg i := by
  unfold bkK
  rw [if_neg (by omega), if_neg (by omega), mre_eq]
  have h1 := hc a.toNatClampNeg
  have h2 := hc b.toNatClampNeg
  show (c a.toNatClampNeg).toInt.toNat = (c b.toNatClampNeg).toInt.toNat ∧ _ ↔ _
  constructor
  · rintro ⟨y1, y2⟩
    exact ⟨Int32.toInt_inj.mp (by omega), y2⟩
  · rintro ⟨y1, y2⟩
    exact ⟨by rw [y1], y2⟩
theorem x_eqL {c w d q l : Nat → Int32} {a b : Int32} (ha : 0 ≤ a.toInt ∧ a.toInt < 25) (hb : 0 ≤ b.toInt ∧ b.toInt < 25) (hc : 0 ≤ (c a.toNatClampNeg).toInt ∧ (c a.toNatClampNeg).toInt ≤ 10) (h24 : (c a.toNatClampNeg).toInt ≠ 0 → a.toInt < 24 ∧ b.toInt < 24) :
    ∀ (n k : Nat), k ≤ (c a.toNatClampNeg).toInt.toNat → (c a.toNatClampNeg).toInt.toNat - k < n → ((∀ i, k ≤ i → i < (c a.toNatClampNeg).toInt.toNat → sameE w d q l a.toNatClampNeg b.toNatClampNeg i) → f_bk_areEqual_L19 c w d q l a b n (i3 k) = some 1) ∧ ((¬ ∀ i, k ≤ i → i < (c a.toNatClampNeg).toInt.toNat → sameE w d q l a.toNatClampNeg b.toNatClampNeg i) → f_bk_areEqual_L19 c w d q l a b n (i3 k) = some 0) := by
  have han : a.toNatClampNeg = a.toInt.toNat := rfl
  have hbn : b.toNatClampNeg = b.toInt.toNat := rfl
  intro n
  induction n with
  | zero => intro k h1 h2; omega
  | succ n ih =>
    intro k h1 h2
    rw [f_bk_areEqual_L19, if_neg (ix_ok (by omega))]
    by_cases hk : k = (c a.toNatClampNeg).toInt.toNat
    · have e1 : c a.toNatClampNeg ≤ i3 k := by rw [Int32.le_iff_toInt_le, i3_toInt (by omega)]; omega
      rw [if_pos e1]
      exact ⟨fun _ => rfl, fun z => absurd (fun i y1 y2 => by omega) z⟩
    · have e1 : ¬ c a.toNatClampNeg ≤ i3 k := by rw [Int32.le_iff_toInt_le, i3_toInt (by omega)]; omega
      have h24' := h24 (by omega)
      have ja := lj (c := 10) (a := a) (j := k) (by omega) (by omega)
      have jb := lj (c := 10) (a := b) (j := k) (by omega) (by omega)
      rw [show i3 10 = (10 : Int32) from rfl] at ja jb
      have ja2 : (10 * a + i3 k).toNatClampNeg = 10 * a.toNatClampNeg + k := by rw [ja.2]; omega
      have jb2 : (10 * b + i3 k).toNatClampNeg = 10 * b.toNatClampNeg + k := by rw [jb.2]; omega
      rw [if_neg e1, x_eeq (by rw [ja.1]; omega) (by rw [jb.1]; omega), Option.bind_some, ja2, jb2, i3s]
      obtain ⟨ih1, ih2⟩ := ih (k + 1) (by omega) (by omega)
      by_cases he : sameE w d q l a.toNatClampNeg b.toNatClampNeg k
      · rw [if_pos he, if_neg n10]
        refine ⟨fun z => ih1 (fun i y1 y2 => z i (by omega) y2), fun z => ih2 (fun y => z (fun i y1 y2 => ?_))⟩
        by_cases hik : i = k
        · rw [hik]; exact he
        · exact y i (by omega) y2
      · rw [if_neg he, if_pos rfl]
        exact ⟨fun z => absurd (z k (by omega) (by omega)) he, fun _ => rfl⟩
theorem x_eq {c c' : Nat → Int32} {e e' : Nat → Int64} {w ib hs d d' q q' l l' : Nat → Int32} (hb : iv_b c c' e e' w ib hs d d' q q' l l') {x y : Int32} (hx : 0 ≤ x.toInt ∧ x.toInt ≤ 24) (hy : 0 ≤ y.toInt ∧ y.toInt ≤ 24) : f_bk_areEqual c w d q l x y = some (if bkK c w d q l x = bkK c w d q l y then 1 else 0) := by
  obtain ⟨-, -, -, hc10, hc24, -, -⟩ := hb
  have hxn : x.toNatClampNeg = x.toInt.toNat := rfl
  have hyn : y.toNatClampNeg = y.toInt.toNat := rfl
  have hK := bkK_eq (c := c) (w := w) (d := d) (q := q) (l := l) (a := x) (b := y) (fun k => (hc10 k).1) hx.1 hy.1
  unfold f_bk_areEqual
  rw [if_neg (ix_ok (by omega)), if_neg (ix_ok (by omega))]
  by_cases h : c x.toNatClampNeg = c y.toNatClampNeg
  · rw [if_pos h]
    have h24 : (c x.toNatClampNeg).toInt ≠ 0 → x.toInt < 24 ∧ y.toInt < 24 := by
      intro z
      refine ⟨Int.not_le.mp (fun u => z ?_), Int.not_le.mp (fun u => z ?_)⟩
      · rw [(hc24 x.toNatClampNeg (by omega)).1]; rfl
      · rw [h, (hc24 y.toNatClampNeg (by omega)).1]; rfl
    obtain ⟨k1, k2⟩ := x_eqL (w := w) (d := d) (q := q) (l := l) (a := x) (b := y) (by omega) (by omega) (hc10 _) h24 1000 0 (by omega) (by have := hc10 x.toNatClampNeg; omega)
    by_cases hall : ∀ i, i < (c x.toNatClampNeg).toInt.toNat → sameE w d q l x.toNatClampNeg y.toNatClampNeg i
    · rw [if_pos (hK.mpr ⟨h, hall⟩)]
      exact k1 (fun i _ hi => hall i hi)
    · rw [if_neg (fun z => hall (hK.mp z).2)]
      exact k2 (fun z => hall (fun i hi => z i (by omega) hi))
  · rw [if_neg h, if_neg (fun z => h (hK.mp z).1)]
/-- a size, of a book of the reference -/
theorem m_sz {c : Nat → Int32} {a : Int32} (ha : -1 ≤ a.toInt ∧ a.toInt ≤ 23) : f_m_size c a = some (if a.toInt < 0 then 0 else c a.toNatClampNeg) := by
  have han : a.toNatClampNeg = a.toInt.toNat := rfl
  unfold f_m_size
  by_cases h : a.toInt < 0
  · rw [if_neg (fun z => by have y : (0 : Int) ≤ a.toInt := Int32.le_iff_toInt_le.mp z; omega), if_pos h]
  · rw [if_pos (Int32.le_iff_toInt_le.mpr (by show (0 : Int) ≤ a.toInt; omega)), if_neg (ix_ok (by omega)), if_neg h]
theorem m_eqL {c : Nat → Int32} {e : Nat → Int64} {w ib hs d q l : Nat → Int32} (hb : iv_b c c e e w ib hs d d q q l l) {a b : Int32} (ha : 0 ≤ a.toInt ∧ a.toInt < 24) (hbb : 0 ≤ b.toInt ∧ b.toInt < 24) (hcc : c a.toNatClampNeg = c b.toNatClampNeg) :
    ∀ (n k : Nat), k ≤ (c a.toNatClampNeg).toInt.toNat → (c a.toNatClampNeg).toInt.toNat - k < n → ((∀ i, k ≤ i → i < (c a.toNatClampNeg).toInt.toNat → sameE w d q l a.toNatClampNeg b.toNatClampNeg i) → f_m_alike_L22 c ib hs d q l a b n 1 (i3 k) = some 1) ∧ ((¬ ∀ i, k ≤ i → i < (c a.toNatClampNeg).toInt.toNat → sameE w d q l a.toNatClampNeg b.toNatClampNeg i) → f_m_alike_L22 c ib hs d q l a b n 1 (i3 k) = some 0) := by
  have han : a.toNatClampNeg = a.toInt.toNat := rfl
  have hbn : b.toNatClampNeg = b.toInt.toNat := rfl
  obtain ⟨-, hw, -, hc10, hc24, -, hent⟩ := hb
  have hca := hc10 a.toNatClampNeg
  have hzero : ∀ (n k : Nat), 0 < n → f_m_alike_L22 c ib hs d q l a b n 0 (i3 k) = some 0 := by
    intro n k hn
    obtain ⟨n, rfl⟩ : ∃ f, n = f + 1 := ⟨n - 1, by omega⟩
    rw [f_m_alike_L22, m_sz (by omega), Option.bind_some, nar0, if_pos (show (0 : Int32) = 0 from rfl), ite_self]
  intro n
  induction n with
  | zero => intro k h1 h2; omega
  | succ n ih =>
    intro k h1 h2
    rw [f_m_alike_L22, m_sz (by omega), Option.bind_some, if_neg (show ¬ a.toInt < 0 by omega), nar1]
    by_cases hk : k = (c a.toNatClampNeg).toInt.toNat
    · have e1 : c a.toNatClampNeg ≤ i3 k := by rw [Int32.le_iff_toInt_le, i3_toInt (by omega)]; omega
      rw [if_pos e1]
      exact ⟨fun _ => rfl, fun z => absurd (fun i y1 y2 => by omega) z⟩
    · have e1 : ¬ c a.toNatClampNeg ≤ i3 k := by rw [Int32.le_iff_toInt_le, i3_toInt (by omega)]; omega
      have ja := lj (c := 10) (a := a) (j := k) (by omega) (by omega)
      have jb := lj (c := 10) (a := b) (j := k) (by omega) (by omega)
      rw [show i3 10 = (10 : Int32) from rfl] at ja jb
      have ja2 : (10 * a + i3 k).toNatClampNeg = 10 * a.toNatClampNeg + k := by rw [ja.2]; omega
      have jb2 : (10 * b + i3 k).toNatClampNeg = 10 * b.toNatClampNeg + k := by rw [jb.2]; omega
      have hixa : ¬ (10 * a + i3 k < 0 ∨ 240 ≤ (10 * a + i3 k).toNatClampNeg) := ix_ok (by rw [ja.1]; omega)
      have hixb : ¬ (10 * b + i3 k < 0 ∨ 240 ≤ (10 * b + i3 k).toNatClampNeg) := ix_ok (by rw [jb.1]; omega)
      rw [if_neg e1, if_neg n10, if_neg hixa, if_neg hixb, ja2, jb2, i3s]
      obtain ⟨ih1, ih2⟩ := ih (k + 1) (by omega) (by omega)
      have hz := hzero n (k + 1) (by omega)
      have ea := hent a.toNatClampNeg k (by omega) (by omega)
      have eb := hent b.toNatClampNeg k (by omega) (by rw [← hcc]; omega)
      have hwe : w (10 * a.toNatClampNeg + k) = w (10 * b.toNatClampNeg + k) ↔ ib (10 * a.toNatClampNeg + k) = ib (10 * b.toNatClampNeg + k) ∧ hs (10 * a.toNatClampNeg + k) = hs (10 * b.toNatClampNeg + k) := by
        rw [hw]
        have ad : ∀ z : Int32, 0 ≤ z.toInt → z.toInt ≤ 10 → (z + 100).toInt = z.toInt + 100 := by
          intro z z1 z2
          rw [Int32.toInt_add, show (100 : Int32).toInt = 100 from rfl, Int.bmod_eq_of_le (by omega) (by omega)]
        constructor
        · intro h
          rcases ea.2 with ⟨z1, z2, z3⟩ | ⟨z1, z2, z3⟩
          · rcases eb.2 with ⟨y1, y2, y3⟩ | ⟨y1, y2, y3⟩
            · simp only [z1, y1, if_true, Int32.add_zero] at h
              exact ⟨z1.trans y1.symm, h⟩
            · exfalso
              simp only [z1, y1, if_true, if_neg n10, Int32.add_zero] at h
              have := congrArg Int32.toInt h
              rw [ad _ y2 y3] at this
              omega
          · rcases eb.2 with ⟨y1, y2, y3⟩ | ⟨y1, y2, y3⟩
            · exfalso
              simp only [z1, y1, if_true, if_neg n10, Int32.add_zero] at h
              have := congrArg Int32.toInt h
              rw [ad _ z2 z3] at this
              omega
            · simp only [z1, y1, if_neg n10] at h
              have := congrArg Int32.toInt h
              rw [ad _ z2 z3, ad _ y2 y3] at this
              exact ⟨z1.trans y1.symm, Int32.toInt_inj.mp (by omega)⟩
        · rintro ⟨z1, z2⟩
          show hs _ + (if ib _ = 0 then 0 else 100) = hs _ + (if ib _ = 0 then 0 else 100)
          rw [z1, z2]
      have hno : ¬ sameE w d q l a.toNatClampNeg b.toNatClampNeg k → ((∀ i, k ≤ i → i < (c a.toNatClampNeg).toInt.toNat → sameE w d q l a.toNatClampNeg b.toNatClampNeg i) → f_m_alike_L22 c ib hs d q l a b n 0 (i3 ((k + 1 : Nat) : Int)) = some 1) ∧ ((¬ ∀ i, k ≤ i → i < (c a.toNatClampNeg).toInt.toNat → sameE w d q l a.toNatClampNeg b.toNatClampNeg i) → f_m_alike_L22 c ib hs d q l a b n 0 (i3 ((k + 1 : Nat) : Int)) = some 0) := fun he => ⟨fun z => absurd (z k (by omega) (by omega)) he, fun _ => hz⟩
      by_cases h1 : ib (10 * a.toNatClampNeg + k) = ib (10 * b.toNatClampNeg + k)
      · rw [if_pos h1]
        by_cases h2 : hs (10 * a.toNatClampNeg + k) = hs (10 * b.toNatClampNeg + k)
        · rw [if_pos h2]
          by_cases h3 : d (10 * a.toNatClampNeg + k) = d (10 * b.toNatClampNeg + k)
          · rw [if_pos h3]
            by_cases h4 : q (10 * a.toNatClampNeg + k) = q (10 * b.toNatClampNeg + k)
            · rw [if_pos h4]
              by_cases h5 : l (10 * a.toNatClampNeg + k) = l (10 * b.toNatClampNeg + k)
              · rw [if_pos h5]
                have he : sameE w d q l a.toNatClampNeg b.toNatClampNeg k := en_eq.mpr ⟨hwe.mpr ⟨h1, h2⟩, h3, h4, h5⟩
                refine ⟨fun z => ih1 (fun i y1 y2 => z i (by omega) y2), fun z => ih2 (fun y => z (fun i y1 y2 => ?_))⟩
                by_cases hik : i = k
                · rw [hik]; exact he
                · exact y i (by omega) y2
              · rw [if_neg h5]
                exact hno (fun z => h5 (en_eq.mp z).2.2.2)
            · rw [if_neg h4]
              exact hno (fun z => h4 (en_eq.mp z).2.2.1)
          · rw [if_neg h3]
            exact hno (fun z => h3 (en_eq.mp z).2.1)
        · rw [if_neg h2]
          exact hno (fun z => h2 (hwe.mp (en_eq.mp z).1).2)
      · rw [if_neg h1]
        exact hno (fun z => h1 (hwe.mp (en_eq.mp z).1).1)
theorem bkK_nil {c w d q l : Nat → Int32} {a : Int32} (h : a.toInt < 0) : bkK c w d q l a = [] := if_pos h
theorem bkK_nil_iff {c w d q l : Nat → Int32} {a : Int32} (hc : ∀ k, 0 ≤ (c k).toInt) (ha : 0 ≤ a.toInt) : bkK c w d q l a = [] ↔ c a.toNatClampNeg = 0 := by
  unfold bkK
  rw [if_neg (by omega), List.map_eq_nil_iff, List.range_eq_nil]
  have h1 := hc a.toNatClampNeg
  show (c a.toNatClampNeg).toInt.toNat = 0 ↔ _
  rw [show (0 : Int32) = i3 0 from rfl, i3n (c a.toNatClampNeg) (z := 0) (by omega)]
  omega
theorem m_eq {c : Nat → Int32} {e : Nat → Int64} {w ib hs d q l : Nat → Int32} (hb : iv_b c c e e w ib hs d d q q l l) {x y : Int32} (hx : -1 ≤ x.toInt ∧ x.toInt ≤ 23) (hy : -1 ≤ y.toInt ∧ y.toInt ≤ 23) : f_m_alike c ib hs d q l x y = some (if bkK c w d q l x = bkK c w d q l y then 1 else 0) := by
  have hxn : x.toNatClampNeg = x.toInt.toNat := rfl
  have hyn : y.toNatClampNeg = y.toInt.toNat := rfl
  have hc10 := hb.2.2.2.1
  have hc0 : ∀ k, 0 ≤ (c k).toInt := fun k => (hc10 k).1
  have hzero : ∀ (n k : Nat), 0 < n → f_m_alike_L22 c ib hs d q l x y n 0 (i3 k) = some 0 := by
    intro n k hn
    obtain ⟨n, rfl⟩ : ∃ f, n = f + 1 := ⟨n - 1, by omega⟩
    rw [f_m_alike_L22, m_sz (by omega), Option.bind_some, nar0, if_pos (show (0 : Int32) = 0 from rfl), ite_self]
  unfold f_m_alike f_m_alike_b18
  rw [m_sz hx, m_sz hy, Option.bind_some, Option.bind_some]
  have hz := hzero 1000 0 (by omega)
  by_cases x0 : x.toInt < 0
  · rw [if_pos x0, bkK_nil x0]
    have hone : f_m_alike_L22 c ib hs d q l x y 1000 1 0 = some 1 := by
      rw [f_m_alike_L22, m_sz hx, Option.bind_some, if_pos x0, if_pos (by decide), nar1]
    by_cases y0 : y.toInt < 0
    · rw [if_pos y0, bkK_nil y0, if_pos rfl, if_pos rfl]
      exact hone
    · rw [if_neg y0]
      have hN := bkK_nil_iff (w := w) (d := d) (q := q) (l := l) hc0 (Int.not_lt.mp y0)
      by_cases h : c y.toNatClampNeg = 0
      · rw [if_pos h.symm, if_pos (hN.mpr h).symm]
        exact hone
      · rw [if_neg (fun z => h z.symm), if_neg (fun z => h (hN.mp z.symm))]
        exact hz
  · rw [if_neg x0]
    by_cases y0 : y.toInt < 0
    · rw [if_pos y0, bkK_nil y0]
      have hN := bkK_nil_iff (w := w) (d := d) (q := q) (l := l) hc0 (Int.not_lt.mp x0)
      by_cases h : c x.toNatClampNeg = 0
      · rw [if_pos h, if_pos (hN.mpr h)]
        rw [f_m_alike_L22, m_sz hx, Option.bind_some, if_neg x0, h, if_pos (by decide), nar1]
      · rw [if_neg h, if_neg (fun z => h (hN.mp z))]
        exact hz
    · rw [if_neg y0]
      have hK := bkK_eq (c := c) (w := w) (d := d) (q := q) (l := l) (a := x) (b := y) hc0 (Int.not_lt.mp x0) (Int.not_lt.mp y0)
      by_cases h : c x.toNatClampNeg = c y.toNatClampNeg
      · rw [if_pos h]
        obtain ⟨k1, k2⟩ := m_eqL hb (a := x) (b := y) (by omega) (by omega) h 1000 0 (by omega) (by have := hc10 x.toNatClampNeg; omega)
        by_cases hall : ∀ i, i < (c x.toNatClampNeg).toInt.toNat → sameE w d q l x.toNatClampNeg y.toNatClampNeg i
        · rw [if_pos (hK.mpr ⟨h, hall⟩)]
          exact k1 (fun i _ hi => hall i hi)
        · rw [if_neg (fun z => hall (hK.mp z).2)]
          exact k2 (fun z => hall (fun i hi => z i (by omega) hi))
      · rw [if_neg h, if_neg (fun z => h (hK.mp z).1)]
        exact hz
/-- books that hold the same are books that hold the same -/
theorem bkq_of {c w d q l : Nat → Int32} {a b : Int32} (hc : ∀ k, 0 ≤ (c k).toInt) (ha : 0 ≤ a.toInt ∧ a.toInt ≤ 24) (hb : -1 ≤ b.toInt ∧ b.toInt ≤ 23) (h : bkK c w d q l a = bkK c w d q l b) : bkq c w d q l a b := by
  refine ⟨ha, hb, ?_⟩
  by_cases y0 : b.toInt < 0
  · rw [bkK_nil y0, bkK_nil_iff hc ha.1] at h
    rw [if_pos y0]
    refine ⟨h, fun i hi => ?_⟩
    rw [show c a.toInt.toNat = 0 from h] at hi
    exact absurd hi (by show ¬ i < (0 : Int32).toInt.toNat; rw [show (0 : Int32).toInt.toNat = 0 from rfl]; omega)
  · rw [if_neg y0]
    exact (bkK_eq hc ha.1 (Int.not_lt.mp y0)).mp h
