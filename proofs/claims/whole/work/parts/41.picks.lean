/-! The greatest remainders, and what a side's orders at the price get together. -/
theorem pk_spec : ∀ R : List (Nat × Int), (pk R = none → ∀ q ∈ R, q.2 < 0) ∧ (∀ s, pk R = some s → s ∈ R ∧ 0 ≤ s.2 ∧ ∀ q ∈ R, q.2 ≤ s.2)
  | [] => ⟨fun _ q hq => (by cases hq), fun s h => (by cases h)⟩
  | q :: t => by
    obtain ⟨i1, i2⟩ := pk_spec t
    unfold pk
    cases hp : pk t with
    | none =>
      have i1' := i1 hp
      by_cases z : 0 ≤ q.2
      · simp only [if_pos z]
        refine ⟨fun h => (by cases h), fun s hs => ?_⟩
        cases hs
        refine ⟨List.mem_cons_self, z, fun u hu => ?_⟩
        rcases List.mem_cons.mp hu with rfl | hu
        · exact Int.le_refl _
        · have := i1' u hu
          omega
      · simp only [if_neg z]
        refine ⟨fun _ u hu => ?_, fun s hs => (by cases hs)⟩
        rcases List.mem_cons.mp hu with rfl | hu
        · omega
        · exact i1' u hu
    | some r =>
      obtain ⟨j1, j2, j3⟩ := i2 r hp
      by_cases z : r.2 ≤ q.2
      · simp only [if_pos z]
        refine ⟨fun h => (by cases h), fun s hs => ?_⟩
        cases hs
        refine ⟨List.mem_cons_self, by omega, fun u hu => ?_⟩
        rcases List.mem_cons.mp hu with rfl | hu
        · exact Int.le_refl _
        · have := j3 u hu
          omega
      · simp only [if_neg z]
        refine ⟨fun h => (by cases h), fun s hs => ?_⟩
        cases hs
        refine ⟨List.mem_cons_of_mem _ j1, j2, fun u hu => ?_⟩
        rcases List.mem_cons.mp hu with rfl | hu
        · omega
        · exact j3 u hu
theorem pk_first : ∀ (R : List (Nat × Int)) (b : Nat) (hb : b < R.length), 0 ≤ (R[b]).2 → (∀ j (hj : j < R.length), (R[j]).2 ≤ (R[b]).2) → (∀ j (hj : j < R.length), j < b → (R[j]).2 < (R[b]).2) → pk R = some R[b]
  | [], b, hb, _, _, _ => by cases hb
  | q :: t, 0, hb, h0, hall, _ => by
    obtain ⟨i1, i2⟩ := pk_spec t
    unfold pk
    cases hp : pk t with
    | none =>
      show (if 0 ≤ q.2 then some q else none) = some q
      rw [if_pos (show 0 ≤ q.2 from h0)]
    | some r =>
      obtain ⟨j1, j2, j3⟩ := i2 r hp
      obtain ⟨k, hk, hr⟩ := List.getElem_of_mem j1
      have := hall (k + 1) (by show k + 1 < t.length + 1; omega)
      show (if r.2 ≤ q.2 then some q else some r) = some q
      rw [if_pos]
      rw [← hr]
      exact this
  | q :: t, b + 1, hb, h0, hall, hf => by
    have hb' : b < t.length := by simpa using hb
    have ih := pk_first t b hb' h0 (fun j hj => hall (j + 1) (by show j + 1 < t.length + 1; omega)) (fun j hj hjb => hf (j + 1) (by show j + 1 < t.length + 1; omega) (by omega))
    have hq : q.2 < (t[b]).2 := hf 0 (by show 0 < t.length + 1; omega) (by omega)
    unfold pk
    rw [ih]
    show (if (t[b]).2 ≤ q.2 then some q else some t[b]) = some t[b]
    rw [if_neg (by omega)]
def nnB (q : Nat × Int) : Bool := decide (0 ≤ q.2)
theorem pk_drop {q : Nat × Int} {t : List (Nat × Int)} (h : q.2 < 0) : pk (q :: t) = pk t := by
  obtain ⟨i1, i2⟩ := pk_spec t
  conv => lhs; unfold pk
  cases hp : pk t with
  | none =>
    show (if 0 ≤ q.2 then some q else none) = none
    rw [if_neg (by omega)]
  | some r =>
    have := (i2 r hp).2.1
    show (if r.2 ≤ q.2 then some q else some r) = some r
    rw [if_neg (by omega)]
theorem pk_filter : ∀ R : List (Nat × Int), pk R = pk (R.filter nnB)
  | [] => rfl
  | q :: t => by
    have ih := pk_filter t
    by_cases z : 0 ≤ q.2
    · rw [List.filter_cons_of_pos (show nnB q = true from decide_eq_true z)]
      unfold pk
      rw [ih]
    · rw [List.filter_cons_of_neg (show ¬ nnB q = true by unfold nnB; rw [decide_eq_true_iff]; exact z), pk_drop (by omega), ih]
abbrev pkU (x : Nat) (q : Nat × Int) : Nat × Int := if q.1 = x then (q.1, -1) else q
theorem pkU_filter (x : Nat) : ∀ R : List (Nat × Int), (R.map (pkU x)).filter nnB = ((R.filter nnB).map (pkU x)).filter nnB
  | [] => rfl
  | q :: t => by
    have ih := pkU_filter x t
    by_cases z : 0 ≤ q.2
    · rw [List.filter_cons_of_pos (show nnB q = true from decide_eq_true z), List.map_cons, List.map_cons]
      by_cases y : nnB (pkU x q) = true
      · rw [List.filter_cons_of_pos y, List.filter_cons_of_pos y, ih]
      · rw [List.filter_cons_of_neg y, List.filter_cons_of_neg y, ih]
    · have hn : ¬ nnB q = true := by unfold nnB; rw [decide_eq_true_iff]; exact z
      have hn2 : ¬ nnB (pkU x q) = true := by
        unfold nnB
        rw [decide_eq_true_iff]
        unfold pkU
        split
        · show ¬ (0 : Int) ≤ -1
          decide
        · exact z
      rw [List.filter_cons_of_neg hn, List.map_cons, List.filter_cons_of_neg hn2, ih]
theorem pkN_filter : ∀ (n : Nat) (R : List (Nat × Int)), pkN n R = pkN n (R.filter nnB)
  | 0, _ => rfl
  | n + 1, R => by
    unfold pkN
    rw [← pk_filter R]
    cases pk R with
    | none => rfl
    | some s =>
      show s.1 :: pkN n (R.map (pkU s.1)) = s.1 :: pkN n ((R.filter nnB).map (pkU s.1))
      rw [pkN_filter n (R.map (pkU s.1)), pkU_filter, ← pkN_filter n]
theorem pkN_not {x : Nat} : ∀ (n : Nat) (R : List (Nat × Int)), (∀ q ∈ R, q.1 = x → q.2 < 0) → x ∉ pkN n R
  | 0, _, _ => List.not_mem_nil
  | n + 1, R, h => by
    unfold pkN
    cases hp : pk R with
    | none => exact List.not_mem_nil
    | some s =>
      obtain ⟨j1, j2, j3⟩ := (pk_spec R).2 s hp
      show x ∉ s.1 :: pkN n (R.map (pkU s.1))
      intro hm
      rcases List.mem_cons.mp hm with z | z
      · have := h s j1 z.symm
        omega
      · refine pkN_not n _ (fun q hq hqx => ?_) z
        obtain ⟨q', hq', rfl⟩ := List.mem_map.mp hq
        unfold pkU at hqx ⊢
        by_cases y : q'.1 = s.1
        · rw [if_pos y]
          show (-1 : Int) < 0
          decide
        · rw [if_neg y] at hqx ⊢
          exact h q' hq' hqx
/-- distinct slots -/
def okS (O : List En) : Prop := O.Pairwise (fun a b => en_s a ≠ en_s b)
theorem sum1 {f : En → Int} {e0 : En} : ∀ O : List En, okS O → e0 ∈ O → sumE (fun e => if en_s e = en_s e0 then f e else 0) O = f e0
  | [], _, h => by cases h
  | a :: t, hS, hm => by
    obtain ⟨h1, h2⟩ := List.pairwise_cons.mp hS
    show (if en_s a = en_s e0 then f a else 0) + sumE (fun e => if en_s e = en_s e0 then f e else 0) t = f e0
    rcases List.mem_cons.mp hm with rfl | hm
    · rw [if_pos rfl, sumE_0 t (fun e he => if_neg (fun z => h1 e he z.symm)), Int.add_zero]
    · rw [if_neg (h1 e0 hm), sum1 t h2 hm, Int.zero_add]
theorem okS_inj : ∀ {O : List En}, okS O → ∀ {a b : En}, a ∈ O → b ∈ O → en_s a = en_s b → a = b
  | [], _, a, b, h, _, _ => by cases h
  | c :: t, hS, a, b, ha, hb, hab => by
    obtain ⟨h1, h2⟩ := List.pairwise_cons.mp hS
    rcases List.mem_cons.mp ha with y1 | y1
    · rcases List.mem_cons.mp hb with y2 | y2
      · rw [y1, y2]
      · rw [y1] at hab
        exact absurd hab (h1 b y2)
    · rcases List.mem_cons.mp hb with y2 | y2
      · rw [y2] at hab
        exact absurd hab.symm (h1 a y1)
      · exact okS_inj h2 y1 y2 hab
def RL (O : List En) (r : En → Int) : List (Nat × Int) := O.map (fun e => (en_s e, r e))
theorem RL_upd {O : List En} {r : En → Int} {x : Nat} : (RL O r).map (pkU x) = RL O (fun e => if en_s e = x then -1 else r e) := by
  unfold RL
  rw [List.map_map]
  refine List.map_congr_left (fun e _ => ?_)
  show (if en_s e = x then (en_s e, (-1 : Int)) else (en_s e, r e)) = (en_s e, if en_s e = x then -1 else r e)
  split <;> rfl
theorem pkN_cnt {O : List En} (hS : okS O) : ∀ (n : Nat) (r : En → Int), (n : Int) ≤ sumE (fun e => if 0 ≤ r e then 1 else 0) O → sumE (fun e => if en_s e ∈ pkN n (RL O r) then 1 else 0) O = n
  | 0, r, _ => sumE_0 O (fun e _ => if_neg List.not_mem_nil)
  | n + 1, r, h => by
    unfold pkN
    cases hp : pk (RL O r) with
    | none =>
      exfalso
      have hneg := (pk_spec (RL O r)).1 hp
      have : sumE (fun e => if 0 ≤ r e then 1 else 0) O = 0 := sumE_0 O (fun e he => if_neg (by have := hneg (en_s e, r e) (List.mem_map.mpr ⟨e, he, rfl⟩); show ¬ 0 ≤ r e; have h2 : r e < 0 := this; omega))
      omega
    | some s =>
      obtain ⟨j1, j2, j3⟩ := (pk_spec (RL O r)).2 s hp
      obtain ⟨e0, he0, rfl⟩ := List.mem_map.mp j1
      have j2' : 0 ≤ r e0 := j2
      show sumE (fun e => if en_s e ∈ en_s e0 :: pkN n ((RL O r).map (pkU (en_s e0))) then 1 else 0) O = ((n + 1 : Nat) : Int)
      rw [RL_upd]
      have hcn : sumE (fun e => if 0 ≤ r e then 1 else 0) O = 1 + sumE (fun e => if 0 ≤ (if en_s e = en_s e0 then -1 else r e) then 1 else 0) O := by
        have h1 := sum1 (f := fun _ => 1) O hS he0
        have h2 : sumE (fun e => if 0 ≤ r e then 1 else 0) O = sumE (fun e => if en_s e = en_s e0 then 1 else 0) O + sumE (fun e => if 0 ≤ (if en_s e = en_s e0 then -1 else r e) then 1 else 0) O := by
          rw [← sumE_add]
          refine sumE_congr O (fun e he => ?_)
          by_cases z : en_s e = en_s e0
          · have := okS_inj hS he he0 z
            subst this
            rw [if_pos j2', if_pos rfl, if_pos rfl, if_neg (by decide)]
            rfl
          · rw [if_neg z, if_neg z, Int.zero_add]
        rw [h2, h1]
      have ih := pkN_cnt hS n (fun e => if en_s e = en_s e0 then -1 else r e) (by omega)
      have hnot : en_s e0 ∉ pkN n (RL O (fun e => if en_s e = en_s e0 then -1 else r e)) := by
        refine pkN_not n _ (fun q hq hqx => ?_)
        obtain ⟨e1, he1, rfl⟩ := List.mem_map.mp hq
        show (if en_s e1 = en_s e0 then -1 else r e1) < 0
        rw [if_pos hqx]
        decide
      have h1 := sum1 (f := fun _ => 1) O hS he0
      have h2 : sumE (fun e => if en_s e ∈ en_s e0 :: pkN n (RL O (fun e => if en_s e = en_s e0 then -1 else r e)) then 1 else 0) O = sumE (fun e => if en_s e = en_s e0 then 1 else 0) O + sumE (fun e => if en_s e ∈ pkN n (RL O (fun e => if en_s e = en_s e0 then -1 else r e)) then 1 else 0) O := by
        rw [← sumE_add]
        refine sumE_congr O (fun e he => ?_)
        by_cases z : en_s e = en_s e0
        · rw [if_pos z, if_pos (List.mem_cons.mpr (Or.inl z)), if_neg (by rw [z]; exact hnot)]
          rfl
        · rw [if_neg z, Int.zero_add]
          exact ifc ⟨fun y => (List.mem_cons.mp y).resolve_left z, fun y => List.mem_cons.mpr (Or.inr y)⟩
      rw [h2, h1, ih]
      omega
/-- shares, floors and what is left -/
theorem left_bd {O : List En} {at' : En → Prop} [∀ e, Decidable (at' e)] {sh : Int} (hq : ∀ e ∈ O, 1 ≤ en_q e) (h0 : 0 ≤ sh) (h1 : sh ≤ sumE (fun e => if at' e then en_q e else 0) O) :
    0 ≤ sh - sumE (fun e => if at' e then en_q e * sh / sumE (fun e => if at' e then en_q e else 0) O else 0) O ∧ sh - sumE (fun e => if at' e then en_q e * sh / sumE (fun e => if at' e then en_q e else 0) O else 0) O ≤ sumE (fun e => if 0 ≤ (if at' e then en_q e * sh % sumE (fun e => if at' e then en_q e else 0) O else -1) then 1 else 0) O := by
  generalize hA : sumE (fun e => if at' e then en_q e else 0) O = A at *
  have hA0 : 0 ≤ A := by
    rw [← hA]
    refine sumE_nn O (fun e he => ?_)
    have := hq e he
    split <;> omega
  by_cases hz : A = 0
  · have hno : ∀ e ∈ O, ¬ at' e := by
      intro e he hat
      have hle : ∀ L : List En, (∀ e ∈ L, 1 ≤ en_q e) → ∀ e ∈ L, at' e → 1 ≤ sumE (fun e => if at' e then en_q e else 0) L := by
        intro L
        induction L with
        | nil => intro _ e he; cases he
        | cons a t ih =>
          intro hL e he hat
          have hnn : 0 ≤ sumE (fun e => if at' e then en_q e else 0) t := sumE_nn t (fun u hu => by have := hL u (List.mem_cons_of_mem _ hu); split <;> omega)
          show 1 ≤ (if at' a then en_q a else 0) + sumE (fun e => if at' e then en_q e else 0) t
          have ha := hL a (List.mem_cons_self)
          rcases List.mem_cons.mp he with rfl | he
          · rw [if_pos hat]
            omega
          · have := ih (fun u hu => hL u (List.mem_cons_of_mem _ hu)) e he hat
            split <;> omega
      have := hle O hq e he hat
      omega
    rw [sumE_0 O (fun e he => if_neg (hno e he)), sumE_0 O (fun e he => if_neg (by rw [if_neg (hno e he)]; decide))]
    omega
  · have hpos : 0 < A := by omega
    have e1 : A * sh = A * sumE (fun e => if at' e then en_q e * sh / A else 0) O + sumE (fun e => if at' e then en_q e * sh % A else 0) O := by
      rw [← sumE_mul, ← sumE_add]
      conv => lhs; rw [← hA, Int.mul_comm, ← sumE_mul]
      refine sumE_congr O (fun e _ => ?_)
      by_cases z : at' e
      · rw [if_pos z, if_pos z, if_pos z, Int.mul_comm sh, Int.mul_ediv_add_emod]
      · rw [if_neg z, if_neg z, if_neg z, Int.mul_zero, Int.mul_zero]
        rfl
    have e2 : 0 ≤ sumE (fun e => if at' e then en_q e * sh % A else 0) O := sumE_nn O (fun e _ => by
      have := Int.emod_nonneg (en_q e * sh) hz
      split <;> omega)
    have e3 : sumE (fun e => if at' e then en_q e * sh % A else 0) O ≤ A * sumE (fun e => if 0 ≤ (if at' e then en_q e * sh % A else -1) then 1 else 0) O := by
      rw [← sumE_mul]
      refine sumE_le O (fun e _ => ?_)
      by_cases z : at' e
      · have k1 := Int.emod_nonneg (en_q e * sh) hz
        have k2 := Int.emod_lt_of_pos (en_q e * sh) hpos
        simp only [if_pos z, if_pos k1]
        omega
      · simp only [if_neg z]
        rw [if_neg (by decide)]
        omega
    generalize sumE (fun e => if at' e then en_q e * sh / A else 0) O = F at *
    generalize sumE (fun e => if at' e then en_q e * sh % A else 0) O = G at *
    generalize sumE (fun e => if 0 ≤ (if at' e then en_q e * sh % A else -1) then 1 else 0) O = C at *
    have e4 : A * (sh - F) = G := by
      rw [Int.mul_sub]
      omega
    constructor
    · refine Int.not_lt.mp (fun z => ?_)
      have := Int.mul_lt_mul_of_pos_left z hpos
      omega
    · refine Int.not_lt.mp (fun z => ?_)
      have := Int.mul_lt_mul_of_pos_left z hpos
      omega
