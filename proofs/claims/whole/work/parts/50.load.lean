/-! The class loads a vector. -/
def xBlk (w d q l bl : Nat → Int32) (B : List En) : Prop := ∀ k : Nat, k < B.length → (0 ≤ (bl k).toInt ∧ (bl k).toInt < 240) ∧ (w (bl k).toNatClampNeg).toInt = en_w (B.getD k en_0) ∧ (d (bl k).toNatClampNeg).toInt = en_d (B.getD k en_0) ∧ (q (bl k).toNatClampNeg).toInt = en_q (B.getD k en_0) ∧ (l (bl k).toNatClampNeg).toInt = en_l (B.getD k en_0)
theorem xBlk_snoc {w d q l bl : Nat → Int32} {B : List En} (hG : xBlk w d q l bl B) {e : En} {x : Int32} (hx : (0 ≤ x.toInt ∧ x.toInt < 240) ∧ (w x.toNatClampNeg).toInt = en_w e ∧ (d x.toNatClampNeg).toInt = en_d e ∧ (q x.toNatClampNeg).toInt = en_q e ∧ (l x.toNatClampNeg).toInt = en_l e) : xBlk w d q l (upd bl B.length x) (B ++ [e]) := by
  intro k hk
  rw [getD_snoc hk, updf]
  by_cases z : k = B.length
  · rw [if_pos z, if_pos z]
    exact hx
  · rw [if_neg z, if_neg z]
    rw [List.length_append] at hk
    exact hG k (by have : k < B.length + 1 := hk; omega)
def xSl (sl : Nat → Int32) (E : List En) : Prop := ∀ k : Nat, k < E.length → sl k = i3 (en_s (E.getD k en_0))
theorem xSl_snoc {sl : Nat → Int32} {E : List En} (hG : xSl sl E) {e : En} {x : Int32} (hx : x = i3 (en_s e)) : xSl (upd sl E.length x) (E ++ [e]) := by
  intro k hk
  rw [getD_snoc hk, updf]
  by_cases z : k = E.length
  · rw [if_pos z, if_pos z]
    exact hx
  · rw [if_neg z, if_neg z]
    rw [List.length_append] at hk
    exact hG k (by have : k < E.length + 1 := hk; omega)
/-- what the class has loaded of some entries -/
def ldR (w d q l : Nat → Int32) (E : List En) (en sl bl : Nat → Int32) (ec bc : Int32) (cl cb co : Nat → Nat → Int32) (cc ca cao : Nat → Int32) : Prop := ec = i3 E.length ∧ bc = i3 (blkL E).length ∧ xBlk w d q l en E ∧ xSl sl E ∧ xBlk w d q l bl (blkL E) ∧ ∀ h : Nat, h < 3 → cvI (cl h) (cb h) (co h) (cc h) (ca h) (cao h) (ordL E) h
theorem vaf {α : Type} {f : Nat → α} {k : Nat} {v : α} {j : Nat} : va_up f k v j = if j = k then v else f j := rfl
theorem x_addE {w d q l : Nat → Int32} {E : List En} {m : Nat} (hE : okE m E) (hm : m < 60) {en sl bl : Nat → Int32} {ec bc : Int32} {cl cb co : Nat → Nat → Int32} {cc ca cao : Nat → Int32} (hI : ldR w d q l E en sl bl ec bc cl cb co cc ca cao) {e : En} (he : en_ok e) {x1 x2 : Int32} (hx : (0 ≤ x1.toInt ∧ x1.toInt < 240) ∧ (w x1.toNatClampNeg).toInt = en_w e ∧ (d x1.toNatClampNeg).toInt = en_d e ∧ (q x1.toNatClampNeg).toInt = en_q e ∧ (l x1.toNatClampNeg).toInt = en_l e) (hx2 : x2 = i3 (en_s e)) :
    ∃ en' sl' bl' ec' bc' cl' cb' co' cc' ca' cao', f_mk_addEntry w d q l en sl bl ec bc cl cb co cc ca cao x1 x2 = some (en', sl', bl', ec', bc', cl', cb', co', cc', ca', cao') ∧ ldR w d q l (E ++ [e]) en' sl' bl' ec' bc' cl' cb' co' cc' ca' cao' := by
  obtain ⟨i1, i2, i3', i4, i5, i6'⟩ := hI
  have hlen := hE.1
  have hlB := blkL_len (E := E)
  have hlO : (ordL E).length ≤ E.length := List.length_filter_le _ _
  have hok60 : okE 60 E := okE_mono (by omega) hE
  obtain ⟨hO, hOS⟩ := okO_of hok60
  have hok := he
  obtain ⟨k1, k2, k3, k4⟩ := he
  have hec : ec < 60 := by rw [i1]; exact (i3_lt (b := 60) (by omega)).mpr (by omega)
  have hec2 : ¬ (ec < 0 ∨ 60 ≤ ec.toNatClampNeg) := by rw [i1]; exact ix_n (by omega) (by omega)
  have hec3 : ec.toNatClampNeg = E.length := by rw [i1]; exact cl_n (by omega)
  have hix : ¬ (x1 < 0 ∨ 240 ≤ x1.toNatClampNeg) := ix_ok (by omega)
  have hl1 : i3 ((E.length : Nat) : Int) + 1 = i3 ((E ++ [e]).length : Nat) := by
    rw [i3s, List.length_append]
    rfl
  have hw1 : w x1.toNatClampNeg < 100 ↔ en_w e < 100 := by rw [Int32.lt_iff_toInt_lt, hx.2.1]; rfl
  unfold f_mk_addEntry f_bk_isBlock
  rw [if_pos hec, if_neg hec2, if_neg hix, hec3]
  by_cases z : en_w e < 100
  · have hnb : ¬ en_b e = true := by
      unfold en_b
      rw [decide_eq_true_iff]
      omega
    rw [if_pos (hw1.mpr z), Option.bind_some, if_pos rfl]
    have hO' : ordL (E ++ [e]) = ordL E ++ [e] := by rw [ordL_snoc, if_neg hnb]
    have hB' : blkL (E ++ [e]) = blkL E := by rw [blkL_snoc, if_neg (fun u => hnb u.1)]
    have hwn : (w x1.toNatClampNeg).toNatClampNeg = (en_w e).toNat := by
      show (w x1.toNatClampNeg).toInt.toNat = _
      rw [hx.2.1]
    have hix3 : ¬ (w x1.toNatClampNeg < 0 ∨ 3 ≤ (w x1.toNatClampNeg).toNatClampNeg) := ix_ok (by rw [hx.2.1]; omega)
    have hcv := i6' (en_w e).toNat (by omega)
    obtain ⟨lim', bid', off', cnt', ab', ao', c1, c2⟩ := c_add hO hcv (by omega) hok (show en_w e = (((en_w e).toNat : Nat) : Int) by omega) hx.2.2.1 hx.2.2.2.1 hx.2.2.2.2
    rw [if_neg hix3, hwn, c1, Option.bind_some, if_neg hix]
    refine ⟨_, _, _, _, _, _, _, _, _, _, _, rfl, ?_, ?_, ?_, ?_, ?_, ?_⟩
    · rw [i1, hl1]
    · rw [hB']; exact i2
    · exact xBlk_snoc i3' hx
    · exact xSl_snoc i4 hx2
    · rw [hB']; exact i5
    · intro h hh
      rw [hO', vaf, vaf, vaf, vaf, vaf, vaf]
      by_cases y : h = (en_w e).toNat
      · rw [if_pos y, if_pos y, if_pos y, if_pos y, if_pos y, if_pos y, y]
        exact c2
      · rw [if_neg y, if_neg y, if_neg y, if_neg y, if_neg y, if_neg y]
        exact cvI_skip (i6' h hh) (by omega)
  · have hnb : en_b e = true := by
      unfold en_b
      rw [decide_eq_true_iff]
      omega
    rw [if_neg (fun y => z (hw1.mp y)), Option.bind_some, if_neg n10]
    have hO' : ordL (E ++ [e]) = ordL E := by rw [ordL_snoc, if_pos hnb]
    by_cases y : (blkL E).length < 8
    · have hB' : blkL (E ++ [e]) = blkL E ++ [e] := by rw [blkL_snoc, if_pos ⟨hnb, y⟩]
      have hno : ¬ (bc < 0 ∨ 8 ≤ bc.toNatClampNeg) := by rw [i2]; exact ix_n (by omega) (by omega)
      have hnc : bc.toNatClampNeg = (blkL E).length := by rw [i2]; exact cl_n (by omega)
      rw [if_neg (by rw [i2]; exact lt_c (b := 8) (by decide) y), if_neg hno, hnc]
      refine ⟨_, _, _, _, _, _, _, _, _, _, _, rfl, ?_, ?_, ?_, ?_, ?_, ?_⟩
      · rw [i1, hl1]
      · rw [hB', List.length_append, i2, i3s]
        rfl
      · exact xBlk_snoc i3' hx
      · exact xSl_snoc i4 hx2
      · rw [hB']
        exact xBlk_snoc i5 hx
      · rw [hO']; exact i6'
    · have hB' : blkL (E ++ [e]) = blkL E := by rw [blkL_snoc, if_neg (fun u => y u.2)]
      have h8 : (blkL E).length = 8 := by omega
      rw [if_pos (by rw [i2, h8]; decide)]
      refine ⟨_, _, _, _, _, _, _, _, _, _, _, rfl, ?_, ?_, ?_, ?_, ?_, ?_⟩
      · rw [i1, hl1]
      · rw [hB']; exact i2
      · exact xBlk_snoc i3' hx
      · exact xSl_snoc i4 hx2
      · rw [hB']; exact i5
      · rw [hO']; exact i6'
theorem ld_in {n x2 : Int32} {N : Nat} {c w d q l v : Nat → Int32} {cnt : Nat → Nat} {cont : Nat → Nat → En} (hv : vd N cnt cont) {p : Nat} (hp : p < N) {b : Int32} (hbb : 0 ≤ b.toInt ∧ b.toInt ≤ 24) (hcnt : c b.toNatClampNeg = i3 (cnt p)) (h24 : ¬ cnt p = 0 → b.toInt < 24) (hcont : ∀ i, i < cnt p → en_at w d q l (10 * p + i) (10 * b.toNatClampNeg + i) = cont p i)
    (K : (Nat → Int32) → (Nat → Int32) → (Nat → Int32) → Int32 → Int32 → (Nat → Nat → Int32) → (Nat → Nat → Int32) → (Nat → Nat → Int32) → (Nat → Int32) → (Nat → Int32) → (Nat → Int32) → Int32 → Option ((Nat → Int32) × (Nat → Int32) × (Nat → Int32) × Int32 × Int32 × (Nat → Nat → Int32) × (Nat → Nat → Int32) × (Nat → Nat → Int32) × (Nat → Int32) × (Nat → Int32) × (Nat → Int32))) :
    ∀ (r i : Nat), i + r = cnt p → ∀ (f : Nat), r < f → ∀ (en sl bl : Nat → Int32) (ec bc : Int32) (cl cb co : Nat → Nat → Int32) (cc ca cao : Nat → Int32), ldR w d q l (preE cnt cont p i) en sl bl ec bc cl cb co cc ca cao →
      ∃ en' sl' bl' ec' bc' cl' cb' co' cc' ca' cao', ldR w d q l (preE cnt cont (p + 1) 0) en' sl' bl' ec' bc' cl' cb' co' cc' ca' cao' ∧ f_mk_load_L56 c w d q l v x2 n K f en sl bl ec bc cl cb co cc ca cao (i3 p) b (i3 i) = K en' sl' bl' ec' bc' cl' cb' co' cc' ca' cao' (i3 ((p + 1 : Nat) : Int)) := by
  have hN := hv.1
  have hcp := (hv.2 p hp).1
  have hbn : b.toNatClampNeg = b.toInt.toNat := rfl
  intro r
  induction r with
  | zero =>
    intro i hi f hf en sl bl ec bc cl cb co cc ca cao hI
    obtain ⟨f, rfl⟩ : ∃ g, f = g + 1 := ⟨f - 1, by omega⟩
    refine ⟨en, sl, bl, ec, bc, cl, cb, co, cc, ca, cao, ?_, ?_⟩
    · rw [← preE_next, ← show i = cnt p by omega]
      exact hI
    · rw [f_mk_load_L56, if_neg (ix_ok (by omega)), hcnt, if_pos (by rw [i3_le (by omega)]; omega), i3s]
  | succ r ih =>
    intro i hi f hf en sl bl ec bc cl cb co cc ca cao hI
    obtain ⟨f, rfl⟩ : ∃ g, f = g + 1 := ⟨f - 1, by omega⟩
    have hi' : i < cnt p := by omega
    have hb24 := h24 (by omega)
    have hj := lj (c := 10) (a := b) (j := i) (by omega) (by omega)
    rw [show i3 10 = (10 : Int32) from rfl] at hj
    have hj2 : (10 * b + i3 i).toNatClampNeg = 10 * b.toNatClampNeg + i := by rw [hj.2]; omega
    have hce := hcont i hi'
    obtain ⟨hok, hslot⟩ := (hv.2 p hp).2 i hi'
    have ew : (w (10 * b.toNatClampNeg + i)).toInt = en_w (cont p i) := by rw [← hce]; rfl
    have ed : (d (10 * b.toNatClampNeg + i)).toInt = en_d (cont p i) := by rw [← hce]; rfl
    have eq' : (q (10 * b.toNatClampNeg + i)).toInt = en_q (cont p i) := by rw [← hce]; rfl
    have el : (l (10 * b.toNatClampNeg + i)).toInt = en_l (cont p i) := by rw [← hce]; rfl
    have hpre := okE_pre hv p (by omega) i (fun _ => by omega) (fun z => by omega)
    have hfl : 10 * i3 p + i3 i = i3 (en_s (cont p i)) := by
      rw [show (10 : Int32) = i3 10 from rfl, i3_mul, i3_add, hslot]
      congr 1
    obtain ⟨en1, sl1, bl1, ec1, bc1, cl1, cb1, co1, cc1, ca1, cao1, a1, a2⟩ := x_addE (x1 := 10 * b + i3 i) (x2 := 10 * i3 p + i3 i) hpre (by omega) hI hok (by rw [hj2]; exact ⟨by rw [hj.1]; omega, ew, ed, eq', el⟩) hfl
    rw [← preE_succ] at a2
    obtain ⟨en2, sl2, bl2, ec2, bc2, cl2, cb2, co2, cc2, ca2, cao2, j1, j2⟩ := ih (i + 1) (by omega) f (by omega) en1 sl1 bl1 ec1 bc1 cl1 cb1 co1 cc1 ca1 cao1 a2
    refine ⟨en2, sl2, bl2, ec2, bc2, cl2, cb2, co2, cc2, ca2, cao2, j1, ?_⟩
    rw [f_mk_load_L56, if_neg (ix_ok (by omega)), hcnt, if_neg (by rw [i3_le (by omega)]; omega), a1, Option.bind_some, i3s]
    exact j2
theorem ld_all {n : Int32} {o : Nat} (ho : o < 4) (hn1 : 1 ≤ n.toInt ∧ n.toInt ≤ 6) {c w d q l v : Nat → Int32} {cnt : Nat → Nat} {cont : Nat → Nat → En} (hv : vd n.toInt.toNat cnt cont) (hbb : ∀ p, p < n.toInt.toNat → 0 ≤ (v (6 * o + p)).toInt ∧ (v (6 * o + p)).toInt ≤ 24) (hcnt : ∀ p, p < n.toInt.toNat → c (v (6 * o + p)).toNatClampNeg = i3 (cnt p)) (h24 : ∀ p, p < n.toInt.toNat → ¬ cnt p = 0 → (v (6 * o + p)).toInt < 24) (hcont : ∀ p, p < n.toInt.toNat → ∀ i, i < cnt p → en_at w d q l (10 * p + i) (10 * (v (6 * o + p)).toNatClampNeg + i) = cont p i)
    (en sl bl : Nat → Int32) (ec bc : Int32) (cl cb co : Nat → Nat → Int32) (cc ca cao : Nat → Int32) :
    ∃ en' sl' bl' ec' bc' cl' cb' co' cc' ca' cao', ldR w d q l (elist n.toInt.toNat cnt cont) en' sl' bl' ec' bc' cl' cb' co' cc' ca' cao' ∧ f_mk_load c w d q l v en sl bl ec bc cl cb co cc ca cao (i3 o) n = some (en', sl', bl', ec', bc', cl', cb', co', cc', ca', cao') := by
  have key : ∀ (r p : Nat), p + r = n.toInt.toNat → ∀ (f : Nat), r < f → ∀ (en sl bl : Nat → Int32) (ec bc : Int32) (cl cb co : Nat → Nat → Int32) (cc ca cao : Nat → Int32), ldR w d q l (preE cnt cont p 0) en sl bl ec bc cl cb co cc ca cao →
      ∃ en' sl' bl' ec' bc' cl' cb' co' cc' ca' cao', ldR w d q l (preE cnt cont n.toInt.toNat 0) en' sl' bl' ec' bc' cl' cb' co' cc' ca' cao' ∧ f_mk_load_L38 c w d q l v (i3 o) n f en sl bl ec bc cl cb co cc ca cao (i3 p) = some (en', sl', bl', ec', bc', cl', cb', co', cc', ca', cao') := by
    intro r
    induction r with
    | zero =>
      intro p hp f hf en sl bl ec bc cl cb co cc ca cao hI
      obtain ⟨f, rfl⟩ : ∃ g, f = g + 1 := ⟨f - 1, by omega⟩
      refine ⟨en, sl, bl, ec, bc, cl, cb, co, cc, ca, cao, ?_, ?_⟩
      · rw [← show p = n.toInt.toNat by omega]
        exact hI
      · rw [f_mk_load_L38, if_pos (by rw [Int32.le_iff_toInt_le, i3_toInt (by omega)]; omega)]
    | succ r ih =>
      intro p hp f hf en sl bl ec bc cl cb co cc ca cao hI
      obtain ⟨f, rfl⟩ : ∃ g, f = g + 1 := ⟨f - 1, by omega⟩
      have hpN : p < n.toInt.toNat := by omega
      have hcl : (6 * i3 o + i3 p).toInt = 6 * o + p := by rw [show (6 : Int32) = i3 6 from rfl, i3_mul, i3_add, i3_toInt (by omega)]
      have hcl2 : (6 * i3 o + i3 p).toNatClampNeg = 6 * o + p := by
        show (6 * i3 o + i3 p).toInt.toNat = _
        omega
      have hag : f_ag_agreedBook v (i3 o) (i3 p) = some (v (6 * o + p)) := by
        unfold f_ag_agreedBook f_ag_vectorPlace
        rw [Option.bind_some, if_neg (ix_ok (by rw [hcl]; omega)), hcl2]
      have hc10 := (hv.2 p hpN).1
      obtain ⟨en1, sl1, bl1, ec1, bc1, cl1, cb1, co1, cc1, ca1, cao1, g1, g2⟩ := ld_in (n := n) (x2 := i3 o) (v := v) hv hpN (hbb p hpN) (hcnt p hpN) (h24 p hpN) (hcont p hpN) (f_mk_load_L38 c w d q l v (i3 o) n f) (cnt p) 0 (by omega) 1000 (by omega) en sl bl ec bc cl cb co cc ca cao hI
      obtain ⟨en2, sl2, bl2, ec2, bc2, cl2, cb2, co2, cc2, ca2, cao2, j1, j2⟩ := ih (p + 1) (by omega) f (by omega) en1 sl1 bl1 ec1 bc1 cl1 cb1 co1 cc1 ca1 cao1 g1
      refine ⟨en2, sl2, bl2, ec2, bc2, cl2, cb2, co2, cc2, ca2, cao2, j1, ?_⟩
      rw [f_mk_load_L38, if_neg (by rw [Int32.le_iff_toInt_le, i3_toInt (by omega)]; omega), hag, Option.bind_some]
      exact g2.trans j2
  unfold f_mk_load
  have h13 : ∃ cc1 ca1 cao1, (∀ h : Nat, h < 3 → cc1 h = 0 ∧ ca1 h = 0 ∧ cao1 h = 0) ∧ f_mk_load_L13 c w d q l v (i3 o) n 1000 en sl bl 0 0 cl cb co cc ca cao 0 = f_mk_load_L38 c w d q l v (i3 o) n 1000 en sl bl 0 0 cl cb co cc1 ca1 cao1 0 := by
    refine lpI (fun m a (z : (Nat → Int32) × (Nat → Int32) × (Nat → Int32)) => f_mk_load_L13 c w d q l v (i3 o) n m en sl bl 0 0 cl cb co z.1 z.2.1 z.2.2 (i3 a)) 3 (fun a z => ∀ h : Nat, h < a → z.1 h = 0 ∧ z.2.1 h = 0 ∧ z.2.2 h = 0) (fun Z => ∃ cc1 ca1 cao1, (∀ h : Nat, h < 3 → cc1 h = 0 ∧ ca1 h = 0 ∧ cao1 h = 0) ∧ Z = f_mk_load_L38 c w d q l v (i3 o) n 1000 en sl bl 0 0 cl cb co cc1 ca1 cao1 0) ?_ ?_ 1000 0 (cc, ca, cao) (by omega) (by omega) (fun h hh => by omega)
    · intro m a z ha hI
      refine ⟨(va_up z.1 a 0, va_up z.2.1 a 0, va_up z.2.2 a 0), fun h hh => ?_, ?_⟩
      · show va_up z.1 a 0 h = 0 ∧ va_up z.2.1 a 0 h = 0 ∧ va_up z.2.2 a 0 h = 0
        rw [vaf, vaf, vaf]
        by_cases y : h = a
        · rw [if_pos y, if_pos y, if_pos y]
          exact ⟨rfl, rfl, rfl⟩
        · rw [if_neg y, if_neg y, if_neg y]
          exact hI h (by omega)
      · show f_mk_load_L13 c w d q l v (i3 o) n (m + 1) en sl bl 0 0 cl cb co z.1 z.2.1 z.2.2 (i3 a) = f_mk_load_L13 c w d q l v (i3 o) n m en sl bl 0 0 cl cb co _ _ _ (i3 ((a + 1 : Nat) : Int))
        unfold f_c_empty at *
        rw [f_mk_load_L13, if_neg (lt_c (b := 3) (by decide) ha), if_neg (ix_n ha (by omega)), cl_n (by omega), i3s]
        rfl
    · intro m z hI
      refine ⟨z.1, z.2.1, z.2.2, hI, ?_⟩
      show f_mk_load_L13 c w d q l v (i3 o) n (m + 1) en sl bl 0 0 cl cb co z.1 z.2.1 z.2.2 (i3 (3 : Nat)) = _
      rw [f_mk_load_L13, if_pos (ge_c (by decide))]
  obtain ⟨cc1, ca1, cao1, y1, y2⟩ := h13
  obtain ⟨en2, sl2, bl2, ec2, bc2, cl2, cb2, co2, cc2, ca2, cao2, j1, j2⟩ := key n.toInt.toNat 0 (by omega) 1000 (by omega) en sl bl 0 0 cl cb co cc1 ca1 cao1 ⟨rfl, rfl, fun k hk => (by cases hk), fun k hk => (by cases hk), fun k hk => (by cases hk), fun h hh => by
    obtain ⟨q1, q2, q3⟩ := y1 h hh
    rw [q1, q2, q3]
    exact cvI_0⟩
  rw [preE_n] at j1
  exact ⟨en2, sl2, bl2, ec2, bc2, cl2, cb2, co2, cc2, ca2, cao2, j1, y2.trans j2⟩
