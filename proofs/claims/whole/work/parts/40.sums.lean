/-! Sums, volumes, and where prices serve: mathematics alone. -/
theorem sumE_le {f g : En → Int} : ∀ L : List En, (∀ e ∈ L, f e ≤ g e) → sumE f L ≤ sumE g L
  | [], _ => Int.le_refl _
  | a :: t, h => by
    have h1 := h a (List.mem_cons_self)
    have h2 := sumE_le t (fun e he => h e (List.mem_cons_of_mem _ he))
    show f a + sumE f t ≤ g a + sumE g t
    omega
theorem sumE_congr {f g : En → Int} : ∀ L : List En, (∀ e ∈ L, f e = g e) → sumE f L = sumE g L
  | [], _ => rfl
  | a :: t, h => by
    show f a + sumE f t = g a + sumE g t
    rw [h a (List.mem_cons_self), sumE_congr t (fun e he => h e (List.mem_cons_of_mem _ he))]
theorem sumE_add {f g : En → Int} : ∀ L : List En, sumE (fun e => f e + g e) L = sumE f L + sumE g L
  | [] => rfl
  | a :: t => by
    show f a + g a + sumE _ t = f a + sumE f t + (g a + sumE g t)
    rw [sumE_add t]
    omega
theorem sumE_sub {f g : En → Int} : ∀ L : List En, sumE (fun e => f e - g e) L = sumE f L - sumE g L
  | [] => rfl
  | a :: t => by
    show f a - g a + sumE _ t = f a + sumE f t - (g a + sumE g t)
    rw [sumE_sub t]
    omega
theorem sumE_mul {f : En → Int} {k : Int} : ∀ L : List En, sumE (fun e => k * f e) L = k * sumE f L
  | [] => (Int.mul_zero k).symm
  | a :: t => by
    show k * f a + sumE _ t = k * (f a + sumE f t)
    rw [sumE_mul t, Int.mul_add]
theorem sumE_0 {f : En → Int} (L : List En) (h : ∀ e ∈ L, f e = 0) : sumE f L = 0 := by
  induction L with
  | nil => rfl
  | cons a t ih =>
    show f a + sumE f t = 0
    rw [h a (List.mem_cons_self), ih (fun e he => h e (List.mem_cons_of_mem _ he))]
    rfl
theorem sumE_nn {f : En → Int} (L : List En) (h : ∀ e ∈ L, 0 ≤ f e) : 0 ≤ sumE f L := by
  have := sumE_le (f := fun _ => 0) (g := f) L h
  rw [sumE_0 L (fun _ _ => rfl)] at this
  exact this
theorem sumE_bd {f : En → Int} {M : Int} (hM : 0 ≤ M) : ∀ L : List En, (∀ e ∈ L, f e ≤ M) → sumE f L ≤ M * L.length
  | [], _ => by
    show (0 : Int) ≤ M * ((0 : Nat) : Int)
    rw [show ((0 : Nat) : Int) = 0 from rfl, Int.mul_zero]
    exact Int.le_refl _
  | a :: t, h => by
    have h1 := h a (List.mem_cons_self)
    have h2 := sumE_bd hM t (fun e he => h e (List.mem_cons_of_mem _ he))
    show f a + sumE f t ≤ M * ((t.length + 1 : Nat) : Int)
    rw [Int.natCast_add, Int.mul_add]
    omega
theorem sumE_append {f : En → Int} : ∀ L L' : List En, sumE f (L ++ L') = sumE f L + sumE f L'
  | [], L' => (Int.zero_add _).symm
  | a :: t, L' => by
    show f a + sumE f (t ++ L') = f a + sumE f t + sumE f L'
    rw [sumE_append t L']
    omega
theorem smN_congr {f g : Nat → Int} : ∀ a : Nat, (∀ k, k < a → f k = g k) → smN f a = smN g a
  | 0, _ => rfl
  | a + 1, h => by
    show smN f a + f a = smN g a + g a
    rw [smN_congr a (fun k hk => h k (by omega)), h a (by omega)]
theorem smN_0 {f : Nat → Int} : ∀ a : Nat, (∀ k, k < a → f k = 0) → smN f a = 0
  | 0, _ => rfl
  | a + 1, h => by
    show smN f a + f a = 0
    rw [smN_0 a (fun k hk => h k (by omega)), h a (by omega)]
    rfl
theorem smN_le {f g : Nat → Int} : ∀ a : Nat, (∀ k, k < a → f k ≤ g k) → smN f a ≤ smN g a
  | 0, _ => Int.le_refl _
  | a + 1, h => by
    show smN f a + f a ≤ smN g a + g a
    have h1 := smN_le a (fun k hk => h k (by omega))
    have h2 := h a (by omega)
    omega
theorem smN_bd {f : Nat → Int} {M : Int} : ∀ a : Nat, (∀ k, k < a → 0 ≤ f k ∧ f k ≤ M) → 0 ≤ smN f a ∧ smN f a ≤ M * a
  | 0, _ => by
    show 0 ≤ (0 : Int) ∧ (0 : Int) ≤ M * ((0 : Nat) : Int)
    rw [show ((0 : Nat) : Int) = 0 from rfl, Int.mul_zero]
    exact ⟨Int.le_refl _, Int.le_refl _⟩
  | a + 1, h => by
    have h1 := smN_bd a (fun k hk => h k (by omega))
    have h2 := h a (by omega)
    show 0 ≤ smN f a + f a ∧ smN f a + f a ≤ M * ((a + 1 : Nat) : Int)
    rw [Int.natCast_add, Int.mul_add]
    omega
theorem smN_add {f g : Nat → Int} : ∀ a : Nat, smN (fun k => f k + g k) a = smN f a + smN g a
  | 0 => rfl
  | a + 1 => by
    show smN _ a + (f a + g a) = smN f a + f a + (smN g a + g a)
    rw [smN_add a]
    omega
/-- orders as they may be sent, at most sixty -/
def okO (O : List En) : Prop := (∀ e ∈ O, en_ok e ∧ en_w e < 100) ∧ O.length ≤ 60
def okB (B : List En) : Prop := (∀ e ∈ B, en_ok e ∧ 100 ≤ en_w e) ∧ B.length ≤ 8
theorem ifc {α : Type} {a b : Prop} [Decidable a] [Decidable b] (h : a ↔ b) {x y : α} : (if a then x else y) = (if b then x else y) := by
  by_cases z : a
  · rw [if_pos z, if_pos (h.mp z)]
  · rw [if_neg z, if_neg (fun y => z (h.mpr y))]
theorem ite_bd {c : Prop} [Decidable c] {a M : Int} (h0 : 0 ≤ a) (hM : a ≤ M) : 0 ≤ (if c then a else 0) ∧ (if c then a else 0) ≤ M := by split <;> omega
theorem ordV_0 {O : List En} {h x : Int} {m : Bool} : ordV O h 0 x m = sumE (fun e => if en_d e = 0 ∧ en_w e = h ∧ (x < en_l e ∨ (m = true ∧ en_l e = x)) then en_q e else 0) O := sumE_congr O (fun e _ => ifc (by rw [if_pos (show (0 : Int) = 0 from rfl)]))
theorem ordV_1 {O : List En} {h x : Int} {m : Bool} : ordV O h 1 x m = sumE (fun e => if en_d e = 1 ∧ en_w e = h ∧ (en_l e < x ∨ (m = true ∧ en_l e = x)) then en_q e else 0) O := sumE_congr O (fun e _ => ifc (by rw [if_neg (show ¬ (1 : Int) = 0 by decide)]))
theorem ordV_bd {O : List En} (hO : okO O) (h s x : Int) (m : Bool) : 0 ≤ ordV O h s x m ∧ ordV O h s x m ≤ 60000 := by
  unfold ordV
  have hone : ∀ e ∈ O, 0 ≤ en_q e ∧ en_q e ≤ 1000 := fun e he => by have := (hO.1 e he).1.2.1; omega
  constructor
  · exact sumE_nn O (fun e he => (ite_bd (hone e he).1 (hone e he).2).1)
  · have h1 := sumE_bd (M := 1000) (by omega) O (f := fun e => if en_d e = s ∧ en_w e = h ∧ ((if s = 0 then x < en_l e else en_l e < x) ∨ (m = true ∧ en_l e = x)) then en_q e else 0) (fun e he => (ite_bd (hone e he).1 (hone e he).2).2)
    have := hO.2
    omega
theorem getD_mem {L : List En} {k : Nat} (h : k < L.length) : L.getD k en_0 ∈ L := by
  rw [List.getD_eq_getElem?_getD, List.getElem?_eq_getElem h]
  exact List.getElem_mem h
theorem blkV_bd {B : List En} (hB : okB B) (S : Nat) (h s : Int) : 0 ≤ blkV B S h s ∧ blkV B S h s ≤ 8000 := by
  unfold blkV
  have h1 := smN_bd (M := 1000) (f := fun k => if S.testBit k = true ∧ en_d (B.getD k en_0) = s ∧ cov (B.getD k en_0) h then en_q (B.getD k en_0) else 0) B.length (fun k hk => by
    have := (hB.1 _ (getD_mem hk)).1.2.1
    show 0 ≤ (if _ then en_q (B.getD k en_0) else 0) ∧ (if _ then en_q (B.getD k en_0) else 0) ≤ 1000
    split <;> omega)
  have := hB.2
  omega
theorem vol_bd {B O : List En} (hB : okB B) (hO : okO O) (S : Nat) (h s x : Int) (m : Bool) : 0 ≤ vol B O S h s x m ∧ vol B O S h s x m ≤ 68000 := by
  have h1 := ordV_bd hO h s x m
  have h2 := blkV_bd hB S h s
  unfold vol
  omega
theorem ordV_up {O : List En} (hO : okO O) {h x y : Int} {m m' : Bool} (hxy : ∀ l : Int, (y < l ∨ (m' = true ∧ l = y)) → (x < l ∨ (m = true ∧ l = x))) : ordV O h 0 y m' ≤ ordV O h 0 x m := by
  rw [ordV_0, ordV_0]
  refine sumE_le O (fun e he => ?_)
  have hq := (hO.1 e he).1.2.1
  by_cases z : en_d e = 0 ∧ en_w e = h ∧ (y < en_l e ∨ (m' = true ∧ en_l e = y))
  · rw [if_pos z, if_pos ⟨z.1, z.2.1, hxy _ z.2.2⟩]
    exact Int.le_refl _
  · rw [if_neg z]
    split <;> omega
theorem ordV_dn {O : List En} (hO : okO O) {h x y : Int} {m m' : Bool} (hxy : ∀ l : Int, (l < y ∨ (m' = true ∧ l = y)) → (l < x ∨ (m = true ∧ l = x))) : ordV O h 1 y m' ≤ ordV O h 1 x m := by
  rw [ordV_1, ordV_1]
  refine sumE_le O (fun e he => ?_)
  have hq := (hO.1 e he).1.2.1
  by_cases z : en_d e = 1 ∧ en_w e = h ∧ (en_l e < y ∨ (m' = true ∧ en_l e = y))
  · rw [if_pos z, if_pos ⟨z.1, z.2.1, hxy _ z.2.2⟩]
    exact Int.le_refl _
  · rw [if_neg z]
    split <;> omega
/-- a price serves from below, from above -/
def pLo (B O : List En) (S : Nat) (h x : Int) : Bool := decide (vol B O S h 0 x false ≤ vol B O S h 1 x true)
def pHi (B O : List En) (S : Nat) (h x : Int) : Bool := decide (vol B O S h 1 x false ≤ vol B O S h 0 x true)
theorem pLo_up {B O : List En} (hO : okO O) {S : Nat} {h x y : Int} (hxy : x ≤ y) (hp : pLo B O S h x = true) : pLo B O S h y = true := by
  unfold pLo at *
  rw [decide_eq_true_iff] at *
  have h1 := ordV_up hO (h := h) (x := x) (y := y) (m := false) (m' := false) (fun l z => by rcases z with z | ⟨z, -⟩; exact Or.inl (by omega); cases z)
  have h2 := ordV_dn hO (h := h) (x := y) (y := x) (m := true) (m' := true) (fun l z => by rcases z with z | ⟨-, z⟩; exact Or.inl (by omega); by_cases hl : l < y; exact Or.inl hl; exact Or.inr ⟨rfl, by omega⟩)
  unfold vol at *
  omega
theorem pHi_dn {B O : List En} (hO : okO O) {S : Nat} {h x y : Int} (hxy : y ≤ x) (hp : pHi B O S h x = true) : pHi B O S h y = true := by
  unfold pHi at *
  rw [decide_eq_true_iff] at *
  have h1 := ordV_dn hO (h := h) (x := x) (y := y) (m := false) (m' := false) (fun l z => by rcases z with z | ⟨z, -⟩; exact Or.inl (by omega); cases z)
  have h2 := ordV_up hO (h := h) (x := y) (y := x) (m := true) (m' := true) (fun l z => by rcases z with z | ⟨-, z⟩; exact Or.inl (by omega); by_cases hl : y < l; exact Or.inl hl; exact Or.inr ⟨rfl, by omega⟩)
  unfold vol at *
  omega
theorem upF_sp (P : Int → Bool) : ∀ (n : Nat) (x : Int), (∀ y, x ≤ y → y < upF P n x → P y = false) ∧ (upF P n x < x + n → P (upF P n x) = true)
  | 0, x => ⟨fun y h1 h2 => by unfold upF at h2; omega, fun h => by unfold upF at h; omega⟩
  | n + 1, x => by
    unfold upF
    by_cases z : P x = true
    · rw [if_pos z]
      exact ⟨fun y h1 h2 => by omega, fun _ => z⟩
    · rw [if_neg z]
      obtain ⟨i1, i2⟩ := upF_sp P n (x + 1)
      refine ⟨fun y h1 h2 => ?_, fun h => i2 (by omega)⟩
      by_cases hy : y = x
      · rw [hy]
        exact Bool.not_eq_true _ ▸ z
      · exact i1 y (by omega) h2
theorem upF_eq (P : Int → Bool) {n : Nat} {x r : Int} (h1 : x ≤ r) (h2 : r ≤ x + n) (h3 : ∀ y, x ≤ y → y < r → P y = false) (h4 : r < x + n → P r = true) : upF P n x = r := by
  obtain ⟨i1, i2⟩ := upF_sp P n x
  have hb := upF_bd P n x
  by_cases z : upF P n x < r
  · have := h3 _ hb.1 z
    rw [i2 (by omega)] at this
    cases this
  · by_cases y : r < upF P n x
    · have := i1 r h1 y
      rw [h4 (by omega)] at this
      cases this
    · omega
theorem dnF_sp (P : Int → Bool) : ∀ (n : Nat) (x : Int), (∀ y, y ≤ x → dnF P n x < y → P y = false) ∧ (x - n < dnF P n x → P (dnF P n x) = true)
  | 0, x => ⟨fun y h1 h2 => by unfold dnF at h2; omega, fun h => by unfold dnF at h; omega⟩
  | n + 1, x => by
    unfold dnF
    by_cases z : P x = true
    · rw [if_pos z]
      exact ⟨fun y h1 h2 => by omega, fun _ => z⟩
    · rw [if_neg z]
      obtain ⟨i1, i2⟩ := dnF_sp P n (x - 1)
      refine ⟨fun y h1 h2 => ?_, fun h => i2 (by omega)⟩
      by_cases hy : y = x
      · rw [hy]
        exact Bool.not_eq_true _ ▸ z
      · exact i1 y (by omega) h2
theorem dnF_eq (P : Int → Bool) {n : Nat} {x r : Int} (h1 : r ≤ x) (h2 : x - n ≤ r) (h3 : ∀ y, y ≤ x → r < y → P y = false) (h4 : x - n < r → P r = true) : dnF P n x = r := by
  obtain ⟨i1, i2⟩ := dnF_sp P n x
  have hb := dnF_bd P n x
  by_cases z : r < dnF P n x
  · have := h3 _ hb.1 z
    rw [i2 (by omega)] at this
    cases this
  · by_cases y : dnF P n x < r
    · have := i1 r h1 y
      rw [h4 (by omega)] at this
      cases this
    · omega
theorem lo_eq {B O : List En} {S : Nat} {h r : Int} (h1 : -5000 ≤ r) (h2 : r ≤ 40001) (h3 : ∀ y, -5000 ≤ y → y < r → pLo B O S h y = false) (h4 : r ≤ 40000 → pLo B O S h r = true) : sp_lo B O S h = r := upF_eq (pLo B O S h) h1 (by omega) h3 (fun z => h4 (by omega))
theorem hi_eq {B O : List En} {S : Nat} {h r : Int} (h1 : -5001 ≤ r) (h2 : r ≤ 40000) (h3 : ∀ y, y ≤ 40000 → r < y → pHi B O S h y = false) (h4 : -5000 ≤ r → pHi B O S h r = true) : sp_hi B O S h = r := dnF_eq (pHi B O S h) h2 (by omega) h3 (fun z => h4 (by omega))
theorem lo_sp (B O : List En) (S : Nat) (h : Int) : (∀ y, -5000 ≤ y → y < sp_lo B O S h → pLo B O S h y = false) ∧ (sp_lo B O S h ≤ 40000 → pLo B O S h (sp_lo B O S h) = true) := by
  obtain ⟨i1, i2⟩ := upF_sp (pLo B O S h) 45001 (-5000)
  exact ⟨i1, fun z => i2 (by show sp_lo B O S h < _; omega)⟩
theorem hi_sp (B O : List En) (S : Nat) (h : Int) : (∀ y, y ≤ 40000 → sp_hi B O S h < y → pHi B O S h y = false) ∧ (-5000 ≤ sp_hi B O S h → pHi B O S h (sp_hi B O S h) = true) := by
  obtain ⟨i1, i2⟩ := dnF_sp (pHi B O S h) 45001 40000
  exact ⟨i1, fun z => i2 (by show _ < sp_hi B O S h; omega)⟩
theorem ordV_t0 {O : List En} {h x : Int} : ordV O h 0 x true = ordV O h 0 (x - 1) false := by
  rw [ordV_0, ordV_0]
  refine sumE_congr O (fun e _ => ?_)
  have : (en_d e = 0 ∧ en_w e = h ∧ (x < en_l e ∨ (true = true ∧ en_l e = x))) ↔ (en_d e = 0 ∧ en_w e = h ∧ (x - 1 < en_l e ∨ (false = true ∧ en_l e = x - 1))) := by
    constructor
    · rintro ⟨y1, y2, y3⟩
      exact ⟨y1, y2, Or.inl (by rcases y3 with z | ⟨-, z⟩ <;> omega)⟩
    · rintro ⟨y1, y2, y3⟩
      refine ⟨y1, y2, ?_⟩
      rcases y3 with z | ⟨z, -⟩
      · by_cases u : x < en_l e
        · exact Or.inl u
        · exact Or.inr ⟨rfl, by omega⟩
      · cases z
  exact ifc this
theorem ordV_t1 {O : List En} {h x : Int} : ordV O h 1 x true = ordV O h 1 (x + 1) false := by
  rw [ordV_1, ordV_1]
  refine sumE_congr O (fun e _ => ?_)
  have : (en_d e = 1 ∧ en_w e = h ∧ (en_l e < x ∨ (true = true ∧ en_l e = x))) ↔ (en_d e = 1 ∧ en_w e = h ∧ (en_l e < x + 1 ∨ (false = true ∧ en_l e = x + 1))) := by
    constructor
    · rintro ⟨y1, y2, y3⟩
      exact ⟨y1, y2, Or.inl (by rcases y3 with z | ⟨-, z⟩ <;> omega)⟩
    · rintro ⟨y1, y2, y3⟩
      refine ⟨y1, y2, ?_⟩
      rcases y3 with z | ⟨z, -⟩
      · by_cases u : en_l e < x
        · exact Or.inl u
        · exact Or.inr ⟨rfl, by omega⟩
      · cases z
  exact ifc this
theorem blkV_0 (B : List En) (h s : Int) : blkV B 0 h s = 0 := smN_0 _ (fun k _ => by rw [if_neg (by rw [Nat.zero_testBit]; rintro ⟨z, -⟩; cases z)])
/-- without blocks there is always a price -/
theorem meet_0 {B O : List En} (hO : okO O) (h : Int) : sp_lo B O 0 h ≤ sp_hi B O 0 h := by
  obtain ⟨l1, l2⟩ := lo_sp B O 0 h
  obtain ⟨g1, g2⟩ := hi_sp B O 0 h
  have lb := sp_lo_bd B O 0 h
  have hb := sp_hi_bd B O 0 h
  have hlo : sp_lo B O 0 h ≤ 40000 := by
    refine Int.not_lt.mp (fun z => ?_)
    have := l1 40000 (by omega) z
    unfold pLo at this
    rw [decide_eq_false_iff_not] at this
    apply this
    unfold vol
    rw [blkV_0, blkV_0]
    have h1 := (ordV_bd hO h 1 40000 true).1
    have h0 : ordV O h 0 40000 false = 0 := ordV_0.trans (sumE_0 O (fun e he => by
      have := (hO.1 e he).1.2.2.1
      rw [if_neg]
      rintro ⟨-, -, z | ⟨z, -⟩⟩
      · omega
      · cases z))
    omega
  refine Int.not_lt.mp (fun z => ?_)
  have hno := g1 (sp_lo B O 0 h) hlo z
  unfold pHi at hno
  rw [decide_eq_false_iff_not] at hno
  apply hno
  unfold vol
  rw [blkV_0, blkV_0]
  by_cases y : sp_lo B O 0 h = -5000
  · have h1 := (ordV_bd hO h 0 (sp_lo B O 0 h) true).1
    have h0 : ordV O h 1 (sp_lo B O 0 h) false = 0 := ordV_1.trans (sumE_0 O (fun e he => by
      have := (hO.1 e he).1.2.2.1
      rw [if_neg]
      rintro ⟨-, -, z | ⟨z, -⟩⟩
      · omega
      · cases z))
    omega
  · have hp := l1 (sp_lo B O 0 h - 1) (by omega) (by omega)
    unfold pLo at hp
    rw [decide_eq_false_iff_not] at hp
    unfold vol at hp
    rw [blkV_0, blkV_0, ← ordV_t0, ordV_t1, show sp_lo B O 0 h - 1 + 1 = sp_lo B O 0 h by omega] at hp
    omega
/-- at the price both sides reach the traded volume, and no side must go beyond it -/
theorem sh_bd {B O : List En} (hO : okO O) {S : Nat} {h : Int} (hm : sp_lo B O S h ≤ sp_hi B O S h) {s : Int} (hs : s = 0 ∨ s = 1) : 0 ≤ sp_sh B O S h s ∧ sp_sh B O S h s ≤ sp_all B O S h s := by
  obtain ⟨l1, l2⟩ := lo_sp B O S h
  obtain ⟨g1, g2⟩ := hi_sp B O S h
  have lb := sp_lo_bd B O S h
  have hb := sp_hi_bd B O S h
  have hp1 : sp_lo B O S h ≤ sp_p B O S h := by unfold sp_p; omega
  have hp2 : sp_p B O S h ≤ sp_hi B O S h := by unfold sp_p; omega
  have k1 := pLo_up hO hp1 (l2 (by omega))
  have k2 := pHi_dn hO hp2 (g2 (by omega))
  have m0 := ordV_up hO (h := h) (x := sp_p B O S h) (y := sp_p B O S h) (m := true) (m' := false) (fun l z => by rcases z with z | ⟨z, -⟩; exact Or.inl z; cases z)
  have m1 := ordV_dn hO (h := h) (x := sp_p B O S h) (y := sp_p B O S h) (m := true) (m' := false) (fun l z => by rcases z with z | ⟨z, -⟩; exact Or.inl z; cases z)
  unfold pLo at k1
  unfold pHi at k2
  rw [decide_eq_true_iff] at k1 k2
  unfold sp_sh sp_all sp_t
  rcases hs with rfl | rfl
  · unfold vol at *
    omega
  · unfold vol at *
    omega
