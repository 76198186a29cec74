/-! The entries of a vector, one after the other. -/
def preE (cnt : Nat → Nat) (cont : Nat → Nat → En) (p i : Nat) : List En := elist p cnt cont ++ (List.range i).map (cont p)
theorem preE_succ {cnt : Nat → Nat} {cont : Nat → Nat → En} {p i : Nat} : preE cnt cont p (i + 1) = preE cnt cont p i ++ [cont p i] := by
  unfold preE
  rw [List.range_succ, List.map_append, List.append_assoc]
  rfl
theorem preE_next {cnt : Nat → Nat} {cont : Nat → Nat → En} {p : Nat} : preE cnt cont p (cnt p) = preE cnt cont (p + 1) 0 := by
  unfold preE elist
  rw [List.range_succ, List.flatMap_append]
  show _ = ((List.range p).flatMap (elP cnt cont) ++ ([p].flatMap (elP cnt cont))) ++ (List.range 0).map (cont (p + 1))
  rw [List.range_zero, List.map_nil, List.append_nil, List.flatMap_cons, List.flatMap_nil, List.append_nil]
  rfl
theorem preE_00 {cnt : Nat → Nat} {cont : Nat → Nat → En} : preE cnt cont 0 0 = [] := rfl
theorem preE_n {cnt : Nat → Nat} {cont : Nat → Nat → En} {n : Nat} : preE cnt cont n 0 = elist n cnt cont := List.append_nil _
def vd (n : Nat) (cnt : Nat → Nat) (cont : Nat → Nat → En) : Prop := n ≤ 6 ∧ ∀ p, p < n → cnt p ≤ 10 ∧ ∀ i, i < cnt p → en_ok (cont p i) ∧ en_s (cont p i) = 10 * p + i
/-- what holds of the entries up to one -/
def okE (m : Nat) (E : List En) : Prop := E.length ≤ m ∧ (∀ e ∈ E, en_ok e ∧ en_s e < m) ∧ okS E
theorem okE_mono {m m' : Nat} {E : List En} (h : m ≤ m') (hE : okE m E) : okE m' E := ⟨by have := hE.1; omega, fun e he => ⟨(hE.2.1 e he).1, by have := (hE.2.1 e he).2; omega⟩, hE.2.2⟩
theorem okE_snoc {m : Nat} {E : List En} {e : En} (hE : okE m E) (he : en_ok e) (hs : en_s e = m) : okE (m + 1) (E ++ [e]) := by
  refine ⟨by rw [List.length_append]; have := hE.1; show E.length + 1 ≤ _; omega, fun u hu => ?_, ?_⟩
  · rcases List.mem_append.mp hu with z | z
    · exact ⟨(hE.2.1 u z).1, by have := (hE.2.1 u z).2; omega⟩
    · rw [List.mem_singleton.mp z]
      exact ⟨he, by omega⟩
  · unfold okS
    rw [List.pairwise_append]
    refine ⟨hE.2.2, List.pairwise_singleton _ _, fun a ha b hb => ?_⟩
    rw [List.mem_singleton.mp hb]
    have := (hE.2.1 a ha).2
    omega
theorem okE_pre {n : Nat} {cnt : Nat → Nat} {cont : Nat → Nat → En} (h : vd n cnt cont) : ∀ p, p ≤ n → (∀ i, (p < n → i ≤ cnt p) → (p = n → i = 0) → okE (10 * p + i) (preE cnt cont p i)) := by
  have inner : ∀ p, okE (10 * p) (preE cnt cont p 0) → p < n → ∀ i, i ≤ cnt p → okE (10 * p + i) (preE cnt cont p i) := by
    intro p h0 hp i
    induction i with
    | zero => intro _; exact h0
    | succ i ih =>
      intro hi
      rw [preE_succ]
      obtain ⟨y1, y2⟩ := (h.2 p hp).2 i (by omega)
      exact okE_snoc (ih (by omega)) y1 y2
  have outer : ∀ p, p ≤ n → okE (10 * p) (preE cnt cont p 0) := by
    intro p
    induction p with
    | zero => intro _; exact ⟨Nat.le_refl _, fun e he => (by cases he), List.Pairwise.nil⟩
    | succ p ih =>
      intro hp
      rw [← preE_next]
      have := (h.2 p (by omega)).1
      exact okE_mono (by omega) (inner p (ih (by omega)) (by omega) (cnt p) (Nat.le_refl _))
  intro p hp i h1 h2
  by_cases z : p = n
  · rw [h2 z]
    exact outer p hp
  · exact inner p (outer p hp) (by omega) i (h1 (by omega))
theorem okE_all {n : Nat} {cnt : Nat → Nat} {cont : Nat → Nat → En} (h : vd n cnt cont) : okE 60 (elist n cnt cont) := by
  rw [← preE_n]
  have := h.1
  exact okE_mono (by omega) (okE_pre h n (Nat.le_refl _) 0 (fun z => by omega) (fun _ => rfl))
theorem okO_of {E : List En} (h : okE 60 E) : okO (ordL E) ∧ okS (ordL E) := by
  refine ⟨⟨fun e he => ?_, ?_⟩, h.2.2.filter _⟩
  · obtain ⟨h1, h2⟩ := List.mem_filter.mp he
    refine ⟨(h.2.1 e h1).1, ?_⟩
    unfold en_b at h2
    rw [Bool.not_eq_true', decide_eq_false_iff_not] at h2
    omega
  · exact Nat.le_trans (List.length_filter_le _ _) h.1
theorem okB_of {E : List En} (h : okE 60 E) : okB (blkL E) := by
  refine ⟨fun e he => ?_, ?_⟩
  · obtain ⟨h1, h2⟩ := List.mem_filter.mp (List.mem_of_mem_take he)
    refine ⟨(h.2.1 e h1).1, ?_⟩
    unfold en_b at h2
    rw [decide_eq_true_iff] at h2
    exact h2
  · unfold blkL
    rw [List.length_take]
    omega
theorem ordL_snoc {E : List En} {e : En} : ordL (E ++ [e]) = if en_b e = true then ordL E else ordL E ++ [e] := by
  unfold ordL
  rw [List.filter_append]
  by_cases z : en_b e = true
  · rw [if_pos z, List.filter_cons_of_neg (by rw [z]; decide), List.filter_nil, List.append_nil]
  · rw [if_neg z, List.filter_cons_of_pos (by rw [Bool.not_eq_true] at z; rw [z]; decide), List.filter_nil]
theorem blkL_len {E : List En} : (blkL E).length = min 8 (E.filter en_b).length := List.length_take
theorem blkL_snoc {E : List En} {e : En} : blkL (E ++ [e]) = if en_b e = true ∧ (blkL E).length < 8 then blkL E ++ [e] else blkL E := by
  have hl := blkL_len (E := E)
  unfold blkL at *
  rw [List.filter_append]
  by_cases z : en_b e = true
  · rw [List.filter_cons_of_pos z, List.filter_nil]
    by_cases y : (E.filter en_b).length < 8
    · rw [if_pos ⟨z, by omega⟩, List.take_append, List.take_of_length_le (l := E.filter en_b) (by omega), List.take_of_length_le (l := [e]) (by show 1 ≤ _; omega)]
    · rw [if_neg (fun u => by have := u.2; omega), List.take_append_of_le_length (by omega)]
  · rw [if_neg (fun u => z u.1), List.filter_cons_of_neg z, List.filter_nil, List.append_nil]
theorem getD_snoc {L : List En} {e : En} {k : Nat} (h : k < (L ++ [e]).length) : (L ++ [e]).getD k en_0 = if k = L.length then e else L.getD k en_0 := by
  rw [List.length_append] at h
  have h' : k < L.length + 1 := h
  rw [List.getD_eq_getElem?_getD, List.getD_eq_getElem?_getD, List.getElem?_append]
  by_cases z : k = L.length
  · subst z
    rw [if_neg (by omega), if_pos rfl, Nat.sub_self]
    rfl
  · rw [if_pos (by omega), if_neg z]
theorem mOrd_snoc {hs d q l oe : Nat → Int32} {O : List En} (hG : mOrd hs d q l oe O) {e : En} {x : Int32} (hx : (0 ≤ x.toInt ∧ x.toInt < 240) ∧ (d x.toNatClampNeg).toInt = en_d e ∧ (hs x.toNatClampNeg).toInt = en_w e ∧ (q x.toNatClampNeg).toInt = en_q e ∧ (l x.toNatClampNeg).toInt = en_l e) : mOrd hs d q l (upd oe O.length x) (O ++ [e]) := by
  intro k hk
  rw [getD_snoc hk, updf]
  by_cases z : k = O.length
  · rw [if_pos z, if_pos z]
    exact hx
  · rw [if_neg z, if_neg z]
    rw [List.length_append] at hk
    exact hG k (by have : k < O.length + 1 := hk; omega)
theorem mBlk_snoc {hs d q l be : Nat → Int32} {B : List En} (hG : mBlk hs d q l be B) {e : En} {x : Int32} (hx : (0 ≤ x.toInt ∧ x.toInt < 240) ∧ (d x.toNatClampNeg).toInt = en_d e ∧ (hs x.toNatClampNeg).toInt + 100 = en_w e ∧ (q x.toNatClampNeg).toInt = en_q e ∧ (l x.toNatClampNeg).toInt = en_l e) : mBlk hs d q l (upd be B.length x) (B ++ [e]) := by
  intro k hk
  rw [getD_snoc hk, updf]
  by_cases z : k = B.length
  · rw [if_pos z, if_pos z]
    exact hx
  · rw [if_neg z, if_neg z]
    rw [List.length_append] at hk
    exact hG k (by have : k < B.length + 1 := hk; omega)
/-- where fills go -/
def fOf (o : Nat) (fl : Nat → Int32) (L : List En) : Prop := ∀ k : Nat, k < L.length → fl k = i3 (60 * o + en_s (L.getD k en_0))
theorem fOf_snoc {o : Nat} {fl : Nat → Int32} {L : List En} (hG : fOf o fl L) {e : En} {x : Int32} (hx : x = i3 (60 * o + en_s e)) : fOf o (upd fl L.length x) (L ++ [e]) := by
  intro k hk
  rw [getD_snoc hk, updf]
  by_cases z : k = L.length
  · rw [if_pos z, if_pos z]
    exact hx
  · rw [if_neg z, if_neg z]
    rw [List.length_append] at hk
    exact hG k (by have : k < L.length + 1 := hk; omega)
/-- what the reference has gathered of some entries -/
def gthR (hs d q l : Nat → Int32) (o : Nat) (E : List En) (oe of' : Nat → Int32) (no : Int32) (be bf : Nat → Int32) (nb : Int32) : Prop := no = i3 (ordL E).length ∧ nb = i3 (blkL E).length ∧ mOrd hs d q l oe (ordL E) ∧ mBlk hs d q l be (blkL E) ∧ fOf o of' (ordL E) ∧ fOf o bf (blkL E)
theorem gth_in {n : Int32} {N : Nat} {c : Nat → Int32} {e : Nat → Int64} {w ib hs d q l v' : Nat → Int32} (hb : iv_b c c e e w ib hs d d q q l l) {cnt : Nat → Nat} {cont : Nat → Nat → En} (hv : vd N cnt cont) {o p : Nat} (ho : o < 4) (hp : p < N) {b : Int32} (hbb : -1 ≤ b.toInt ∧ b.toInt ≤ 23) (hcnt : (if b.toInt < 0 then 0 else (c b.toNatClampNeg).toInt.toNat) = cnt p) (hcont : ∀ i, i < cnt p → en_at w d q l (10 * p + i) (10 * b.toNatClampNeg + i) = cont p i)
    (K : (Nat → Int32) → (Nat → Int32) → Int32 → (Nat → Int32) → (Nat → Int32) → Int32 → Int32 → Option ((Nat → Int32) × (Nat → Int32) × Int32 × (Nat → Int32) × (Nat → Int32) × Int32)) :
    ∀ (r i : Nat), i + r = cnt p → ∀ (f : Nat), r < f → ∀ (oe of' : Nat → Int32) (no : Int32) (be bf : Nat → Int32) (nb : Int32), gthR hs d q l o (preE cnt cont p i) oe of' no be bf nb →
      ∃ oe2 of2 no2 be2 bf2 nb2, gthR hs d q l o (preE cnt cont (p + 1) 0) oe2 of2 no2 be2 bf2 nb2 ∧ f_m_gather_L35 n c ib v' (i3 o) K f oe of' no be bf nb (i3 p) b (i3 i) = K oe2 of2 no2 be2 bf2 nb2 (i3 ((p + 1 : Nat) : Int)) := by
  have hN := hv.1
  have hcp := (hv.2 p hp).1
  have hc10 := hb.2.2.2.1
  have hbn : b.toNatClampNeg = b.toInt.toNat := rfl
  have hsz : f_m_size c b = some (i3 (cnt p)) := by
    rw [m_sz hbb, ← hcnt]
    by_cases z : b.toInt < 0
    · rw [if_pos z, if_pos z]
      rfl
    · rw [if_neg z, if_neg z]
      have := hc10 b.toNatClampNeg
      rw [show (((c b.toNatClampNeg).toInt.toNat : Nat) : Int) = (c b.toNatClampNeg).toInt by omega]
      exact congrArg some (i3_of _)
  intro r
  induction r with
  | zero =>
    intro i hi f hf oe of' no be bf nb hI
    obtain ⟨f, rfl⟩ : ∃ g, f = g + 1 := ⟨f - 1, by omega⟩
    refine ⟨oe, of', no, be, bf, nb, ?_, ?_⟩
    · rw [← preE_next, ← show i = cnt p by omega]
      exact hI
    · rw [f_m_gather_L35, hsz, Option.bind_some, if_pos (by rw [i3_le (by omega)]; omega), i3s]
  | succ r ih =>
    intro i hi f hf oe of' no be bf nb hI
    obtain ⟨f, rfl⟩ : ∃ g, f = g + 1 := ⟨f - 1, by omega⟩
    have hb0 : ¬ b.toInt < 0 := by
      intro z
      rw [if_pos z] at hcnt
      omega
    have hi' : i < cnt p := by omega
    have hj := lj (c := 10) (a := b) (j := i) (by omega) (by omega)
    rw [show i3 10 = (10 : Int32) from rfl] at hj
    have hj2 : (10 * b + i3 i).toNatClampNeg = 10 * b.toNatClampNeg + i := by rw [hj.2]; omega
    have hix : ¬ (10 * b + i3 i < 0 ∨ 240 ≤ (10 * b + i3 i).toNatClampNeg) := ix_ok (by rw [hj.1]; omega)
    have hce := hcont i hi'
    obtain ⟨hok, hslot⟩ := (hv.2 p hp).2 i hi'
    have hent := hb.2.2.2.2.2.2 b.toNatClampNeg i (by omega) (by rw [if_neg hb0] at hcnt; omega)
    have hwe : w (10 * b.toNatClampNeg + i) = hs (10 * b.toNatClampNeg + i) + (if ib (10 * b.toNatClampNeg + i) = 0 then 0 else 100) := by rw [hb.2.1]
    have ew : (w (10 * b.toNatClampNeg + i)).toInt = en_w (cont p i) := by rw [← hce]; rfl
    have ed : (d (10 * b.toNatClampNeg + i)).toInt = en_d (cont p i) := by rw [← hce]; rfl
    have eq' : (q (10 * b.toNatClampNeg + i)).toInt = en_q (cont p i) := by rw [← hce]; rfl
    have el : (l (10 * b.toNatClampNeg + i)).toInt = en_l (cont p i) := by rw [← hce]; rfl
    have hpre := okE_pre hv p (by omega) i (fun _ => by omega) (fun z => by omega)
    have hlenO : (ordL (preE cnt cont p i)).length ≤ 10 * p + i := Nat.le_trans (List.length_filter_le _ _) hpre.1
    have hlenB := blkL_len (E := preE cnt cont p i)
    obtain ⟨i1, i2, i3', i4, i5, i6'⟩ := hI
    have hfl : 60 * i3 o + 10 * i3 p + i3 i = i3 (60 * o + en_s (cont p i)) := by
      rw [show (60 : Int32) = i3 60 from rfl, show (10 : Int32) = i3 10 from rfl, i3_mul, i3_mul, i3_add, i3_add, hslot]
      congr 1
      omega
    have hxe : 0 ≤ (10 * b + i3 i).toInt ∧ (10 * b + i3 i).toInt < 240 := by rw [hj.1]; omega
    rw [f_m_gather_L35, hsz, Option.bind_some, if_neg (by rw [i3_le (by omega)]; omega), if_neg hix, hj2, hfl, i3s]
    rcases hent.2 with ⟨z1, z2, z3⟩ | ⟨z1, z2, z3⟩
    · have hw0 : (hs (10 * b.toNatClampNeg + i)).toInt = en_w (cont p i) := by
        rw [← ew, hwe, if_pos z1, Int32.add_zero]
      have hnb : ¬ en_b (cont p i) = true := by
        unfold en_b
        rw [decide_eq_true_iff]
        omega
      have hO' : ordL (preE cnt cont p (i + 1)) = ordL (preE cnt cont p i) ++ [cont p i] := by rw [preE_succ, ordL_snoc, if_neg hnb]
      have hB' : blkL (preE cnt cont p (i + 1)) = blkL (preE cnt cont p i) := by rw [preE_succ, blkL_snoc, if_neg (fun u => hnb u.1)]
      have hno : ¬ (no < 0 ∨ 60 ≤ no.toNatClampNeg) := by rw [i1]; exact ix_n (by omega) (by omega)
      have hnc : no.toNatClampNeg = (ordL (preE cnt cont p i)).length := by rw [i1]; exact cl_n (by omega)
      rw [if_pos z1, if_neg hno, hnc]
      refine ih (i + 1) (by omega) f (by omega) _ _ _ _ _ _ ⟨?_, ?_, ?_, ?_, ?_, ?_⟩
      · rw [hO', List.length_append, i1, i3s]
        rfl
      · rw [hB']; exact i2
      · rw [hO']
        refine mOrd_snoc i3' ⟨hxe, ?_⟩
        rw [hj2]
        exact ⟨ed, hw0, eq', el⟩
      · rw [hB']; exact i4
      · rw [hO']
        exact fOf_snoc i5 rfl
      · rw [hB']; exact i6'
    · have hw1 : (hs (10 * b.toNatClampNeg + i)).toInt + 100 = en_w (cont p i) := by
        rw [← ew, hwe, if_neg (by rw [z1]; decide), Int32.toInt_add, show (100 : Int32).toInt = 100 from rfl, Int.bmod_eq_of_le (by omega) (by omega)]
      have hnb : en_b (cont p i) = true := by
        unfold en_b
        rw [decide_eq_true_iff]
        omega
      have hO' : ordL (preE cnt cont p (i + 1)) = ordL (preE cnt cont p i) := by rw [preE_succ, ordL_snoc, if_pos hnb]
      rw [if_neg (by rw [z1]; decide)]
      by_cases y : (blkL (preE cnt cont p i)).length < 8
      · have hB' : blkL (preE cnt cont p (i + 1)) = blkL (preE cnt cont p i) ++ [cont p i] := by rw [preE_succ, blkL_snoc, if_pos ⟨hnb, y⟩]
        have hno : ¬ (nb < 0 ∨ 8 ≤ nb.toNatClampNeg) := by rw [i2]; exact ix_n (by omega) (by omega)
        have hnc : nb.toNatClampNeg = (blkL (preE cnt cont p i)).length := by rw [i2]; exact cl_n (by omega)
        rw [if_neg (by rw [i2]; exact lt_c (b := 8) (by decide) y), if_neg hno, hnc]
        refine ih (i + 1) (by omega) f (by omega) _ _ _ _ _ _ ⟨?_, ?_, ?_, ?_, ?_, ?_⟩
        · rw [hO']; exact i1
        · rw [hB', List.length_append, i2, i3s]
          rfl
        · rw [hO']; exact i3'
        · rw [hB']
          refine mBlk_snoc i4 ⟨hxe, ?_⟩
          rw [hj2]
          exact ⟨ed, hw1, eq', el⟩
        · rw [hO']; exact i5
        · rw [hB']
          exact fOf_snoc i6' rfl
      · have hB' : blkL (preE cnt cont p (i + 1)) = blkL (preE cnt cont p i) := by rw [preE_succ, blkL_snoc, if_neg (fun u => y u.2)]
        rw [if_pos (by rw [i2]; have h8 : (blkL (preE cnt cont p i)).length = 8 := by omega
                       rw [h8]; decide)]
        refine ih (i + 1) (by omega) f (by omega) _ _ _ _ _ _ ⟨?_, ?_, ?_, ?_, ?_, ?_⟩
        · rw [hO']; exact i1
        · rw [hB']; exact i2
        · rw [hO']; exact i3'
        · rw [hB']; exact i4
        · rw [hO']; exact i5
        · rw [hB']; exact i6'
theorem gth {n : Int32} (hn1 : 1 ≤ n.toInt ∧ n.toInt ≤ 6) {c : Nat → Int32} {e : Nat → Int64} {w ib hs d q l v' : Nat → Int32} (hb : iv_b c c e e w ib hs d d q q l l) {cnt : Nat → Nat} {cont : Nat → Nat → En} (hv : vd n.toInt.toNat cnt cont) {o : Nat} (ho : o < 4)
    (hbb : ∀ p, p < n.toInt.toNat → -1 ≤ (v' (6 * o + p)).toInt ∧ (v' (6 * o + p)).toInt ≤ 23) (hcnt : ∀ p, p < n.toInt.toNat → (if (v' (6 * o + p)).toInt < 0 then 0 else (c (v' (6 * o + p)).toNatClampNeg).toInt.toNat) = cnt p) (hcont : ∀ p, p < n.toInt.toNat → ∀ i, i < cnt p → en_at w d q l (10 * p + i) (10 * (v' (6 * o + p)).toNatClampNeg + i) = cont p i) (oe of' : Nat → Int32) (no : Int32) (be bf : Nat → Int32) (nb : Int32) :
    ∃ oe2 of2 no2 be2 bf2 nb2, gthR hs d q l o (elist n.toInt.toNat cnt cont) oe2 of2 no2 be2 bf2 nb2 ∧ f_m_gather n c ib v' oe of' no be bf nb (i3 o) = some (oe2, of2, no2, be2, bf2, nb2) := by
  have key : ∀ (r p : Nat), p + r = n.toInt.toNat → ∀ (f : Nat), r < f → ∀ (oe of' : Nat → Int32) (no : Int32) (be bf : Nat → Int32) (nb : Int32), gthR hs d q l o (preE cnt cont p 0) oe of' no be bf nb →
      ∃ oe2 of2 no2 be2 bf2 nb2, gthR hs d q l o (preE cnt cont n.toInt.toNat 0) oe2 of2 no2 be2 bf2 nb2 ∧ f_m_gather_L12 n c ib v' (i3 o) f oe of' no be bf nb (i3 p) = some (oe2, of2, no2, be2, bf2, nb2) := by
    intro r
    induction r with
    | zero =>
      intro p hp f hf oe of' no be bf nb hI
      obtain ⟨f, rfl⟩ : ∃ g, f = g + 1 := ⟨f - 1, by omega⟩
      refine ⟨oe, of', no, be, bf, nb, ?_, ?_⟩
      · rw [← show p = n.toInt.toNat by omega]
        exact hI
      · rw [f_m_gather_L12, if_pos (by rw [Int32.le_iff_toInt_le, i3_toInt (by omega)]; omega)]
    | succ r ih =>
      intro p hp f hf oe of' no be bf nb hI
      obtain ⟨f, rfl⟩ : ∃ g, f = g + 1 := ⟨f - 1, by omega⟩
      have hpN : p < n.toInt.toNat := by omega
      have hcl : (6 * i3 o + i3 p).toInt = 6 * o + p := by rw [show (6 : Int32) = i3 6 from rfl, i3_mul, i3_add, i3_toInt (by omega)]
      have hcl2 : (6 * i3 o + i3 p).toNatClampNeg = 6 * o + p := by
        show (6 * i3 o + i3 p).toInt.toNat = _
        omega
      have hc10 := (hv.2 p hpN).1
      obtain ⟨oe1, of1, no1, be1, bf1, nb1, g1, g2⟩ := gth_in (n := n) (v' := v') hb hv ho hpN (hbb p hpN) (hcnt p hpN) (hcont p hpN) (f_m_gather_L12 n c ib v' (i3 o) f) (cnt p) 0 (by omega) 1000 (by omega) oe of' no be bf nb hI
      obtain ⟨oe2, of2, no2, be2, bf2, nb2, j1, j2⟩ := ih (p + 1) (by omega) f (by omega) oe1 of1 no1 be1 bf1 nb1 g1
      refine ⟨oe2, of2, no2, be2, bf2, nb2, j1, ?_⟩
      rw [f_m_gather_L12, if_neg (by rw [Int32.le_iff_toInt_le, i3_toInt (by omega)]; omega), if_neg (ix_ok (by rw [hcl]; omega)), hcl2]
      exact g2.trans j2
  unfold f_m_gather
  obtain ⟨oe2, of2, no2, be2, bf2, nb2, j1, j2⟩ := key n.toInt.toNat 0 (by omega) 1000 (by omega) oe of' 0 be bf 0 ⟨rfl, rfl, fun k hk => (by cases hk), fun k hk => (by cases hk), fun k hk => (by cases hk), fun k hk => (by cases hk)⟩
  rw [preE_n] at j1
  exact ⟨oe2, of2, no2, be2, bf2, nb2, j1, j2⟩
