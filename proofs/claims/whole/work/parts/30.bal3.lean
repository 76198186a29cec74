def balV (c w d v pr fl me : Nat → Int32) (o p : Nat) : Int64 := acN pr me p (fun h => ntN w d fl (10 * (v (6 * o + p)).toNatClampNeg) (10 * p) (i3 h) (c (v (6 * o + p)).toNatClampNeg).toInt.toNat) 3
theorem bal_eq {x : SX} {m : SM} (hI : Inv x m) {o p : Int32} (ho : isOp o) (hd : ¬ x.oc_isDone o.toNatClampNeg = 0) (hp : isMem x.x_members p) :
    f_x_accountOf x.x_metered x.bk_counts x.bk_whens x.bk_sides x.ag_vectors (x.oc_prices o.toNatClampNeg) (x.oc_filled o.toNatClampNeg) o p = some (balV x.bk_counts x.bk_whens x.bk_sides x.ag_vectors (x.oc_prices o.toNatClampNeg) (x.oc_filled o.toNatClampNeg) x.x_metered o.toNatClampNeg p.toNatClampNeg) ∧
    f_m_balanceOf m.m_many m.m_isBlock m.m_hours m.m_side m.m_vectors m.m_meters m.m_prices m.m_fills o p = some (balV x.bk_counts x.bk_whens x.bk_sides x.ag_vectors (x.oc_prices o.toNatClampNeg) (x.oc_filled o.toNatClampNeg) x.x_metered o.toNatClampNeg p.toNatClampNeg) := by
  obtain ⟨hn, hc, hs, ⟨hm1, hm2⟩, hb, hr, ht, hv, ho1, ho2⟩ := hI
  obtain ⟨h0, hO⟩ := ho2 _ (op_cl ho) hd
  have n2 := hn
  obtain ⟨-, n2, n3⟩ := n2
  have hpn : p.toNatClampNeg < x.x_members.toInt.toNat := by show p.toInt.toNat < _; omega
  have hq := hv h0 o.toNatClampNeg p.toNatClampNeg (op_cl ho) hpn
  have hcl := cl24 hn ho hp
  rw [← hcl] at hq
  have hcn := hb.2.2.2.1 (x.ag_vectors (6 * o + p).toNatClampNeg).toNatClampNeg
  have hz : (x.bk_counts (x.ag_vectors (6 * o + p).toNatClampNeg).toNatClampNeg).toInt ≠ 0 → (x.ag_vectors (6 * o + p).toNatClampNeg).toInt < 24 := by
    intro z
    by_cases y : (x.ag_vectors (6 * o + p).toNatClampNeg).toInt < 24
    · exact y
    · have := (hb.2.2.2.2.1 (x.ag_vectors (6 * o + p).toNatClampNeg).toNatClampNeg (by show 24 ≤ (x.ag_vectors (6 * o + p).toNatClampNeg).toInt.toNat; omega)).1
      rw [this] at z
      exact absurd rfl z
  have hpr : ∀ h : Nat, h < 3 → -5001 ≤ (x.oc_prices o.toNatClampNeg h).toInt ∧ (x.oc_prices o.toNatClampNeg h).toInt ≤ 40000 := by
    intro h hh
    have := sp_p_bd (blkL (el_of x.x_members x.bk_counts x.bk_whens x.bk_sides x.bk_quantities x.bk_limits x.ag_vectors o.toNatClampNeg)) (ordL (el_of x.x_members x.bk_counts x.bk_whens x.bk_sides x.bk_quantities x.bk_limits x.ag_vectors o.toNatClampNeg)) (sp_set (blkL (el_of x.x_members x.bk_counts x.bk_whens x.bk_sides x.bk_quantities x.bk_limits x.ag_vectors o.toNatClampNeg)) (ordL (el_of x.x_members x.bk_counts x.bk_whens x.bk_sides x.bk_quantities x.bk_limits x.ag_vectors o.toNatClampNeg))) h
    rw [(hO.2.2.2.1 h hh).1, i3_toInt (by omega)]
    exact this
  have hfl : ∀ i : Nat, i < (x.bk_counts (x.ag_vectors (6 * o + p).toNatClampNeg).toNatClampNeg).toInt.toNat → m.m_fills (60 * o.toNatClampNeg + (10 * p.toNatClampNeg + i)) = x.oc_filled o.toNatClampNeg (10 * p.toNatClampNeg + i) := by
    intro i hi
    rw [hcl] at hi
    exact iv_fill hO _ (mem_el (n := x.x_members.toInt.toNat) (cnt := fun p => (x.bk_counts (x.ag_vectors (6 * o.toNatClampNeg + p)).toInt.toNat).toInt.toNat) (cont := fun p i => en_at x.bk_whens x.bk_sides x.bk_quantities x.bk_limits (10 * p + i) (10 * (x.ag_vectors (6 * o.toNatClampNeg + p)).toInt.toNat + i)) (p := p.toNatClampNeg) (i := i) hpn hi)
  have hH : ∀ h : Nat, h < 3 → isHr (i3 h) := fun h hh => by unfold isHr; rw [i3_toInt (by omega)]; omega
  have hw : ∀ i : Nat, i < (x.bk_counts (x.ag_vectors (6 * o + p).toNatClampNeg).toNatClampNeg).toInt.toNat → okW (x.bk_whens (10 * (x.ag_vectors (6 * o + p).toNatClampNeg).toNatClampNeg + i)).toInt := by
    intro i hi
    have := hz (by omega)
    exact (ent_ok hb (b := (x.ag_vectors (6 * o + p).toNatClampNeg).toNatClampNeg) (by have := hq.1; show (x.ag_vectors (6 * o + p).toNatClampNeg).toInt.toNat < 24; omega) hi).1
  unfold balV
  rw [← hcl]
  constructor
  · exact x_acc hn ho hp _ (fun h hh => x_net hq.1 hcn (by omega) hz hw) hpr
  · rw [← hm1]
    exact m_acc hn ho hp _ (fun h hh => m_net hn hb ho hp (hH h hh) hq hfl) (fun h hh => (hO.2.2.2.1 h hh).2.1)
def smL (f : Nat → Int64) : Nat → Int64
  | 0 => 0
  | k + 1 => smL f k + f k
theorem negL (a b : Int64) : -a - b = -(a + b) := by
  rw [i6_of a, i6_of b, i6_neg, i6_sub, i6_add, i6_neg]
  congr 1
  omega
theorem x_fees {n : Int32} {me c w d v dn : Nat → Int32} {pr fl : Nat → Nat → Int32} {o : Int32} (h1 : 1 ≤ n.toInt) (h2 : n.toInt ≤ 6) (ho : isOp o) (A : Nat → Int64) (hA : ∀ p : Nat, p < n.toInt.toNat → f_x_accountOf me c w d v (pr o.toNatClampNeg) (fl o.toNatClampNeg) o (i3 p) = some (A p)) : f_x_balance_L55 n me c w d v pr fl dn o 1000 0 0 = some (0, -(smL A n.toInt.toNat)) := by
  have h0 : (0 : Int64) = -(smL A 0) := (Int64.neg_zero).symm
  have hz : (0 : Int32) = i3 ((0 : Nat) : Int) := rfl
  rw [h0, hz]
  refine lp (fun k p => f_x_balance_L55 n me c w d v pr fl dn o k (-(smL A p)) (i3 p)) n.toInt.toNat _ (fun k p hp => ?_) (fun k => ?_) 1000 0 (by omega) (by omega)
  · show f_x_balance_L55 n me c w d v pr fl dn o (k + 1) (-(smL A p)) (i3 p) = f_x_balance_L55 n me c w d v pr fl dn o k (-(smL A p + A p)) (i3 ((p + 1 : Nat) : Int))
    rw [f_x_balance_L55, if_neg (by rw [Int32.le_iff_toInt_le, i3_toInt (by omega)]; omega), if_neg (op3 ho), hA p hp, Option.bind_some, negL, i3s]
  · show f_x_balance_L55 n me c w d v pr fl dn o (k + 1) (-(smL A n.toInt.toNat)) (i3 (n.toInt.toNat : Nat)) = _
    rw [f_x_balance_L55, if_pos (by rw [Int32.le_iff_toInt_le, i3_toInt (by omega)]; omega)]
theorem m_fees {n : Int32} {c ib hs d v me cl mp mf : Nat → Int32} {o t : Int32} (h1 : 1 ≤ n.toInt) (h2 : n.toInt ≤ 6) (A : Nat → Int64) (hA : ∀ p : Nat, p < n.toInt.toNat → f_m_balanceOf c ib hs d v me mp mf o (i3 p) = some (A p)) : f_m_balance_L61 n c ib hs d v me cl mp mf o 1000 t 0 0 = some (-(smL A n.toInt.toNat), t) := by
  have h0 : (0 : Int64) = smL A 0 := rfl
  have hz : (0 : Int32) = i3 ((0 : Nat) : Int) := rfl
  rw [h0, hz]
  refine lp (fun k p => f_m_balance_L61 n c ib hs d v me cl mp mf o k t (smL A p) (i3 p)) n.toInt.toNat _ (fun k p hp => ?_) (fun k => ?_) 1000 0 (by omega) (by omega)
  · show f_m_balance_L61 n c ib hs d v me cl mp mf o (k + 1) t (smL A p) (i3 p) = f_m_balance_L61 n c ib hs d v me cl mp mf o k t (smL A p + A p) (i3 ((p + 1 : Nat) : Int))
    rw [f_m_balance_L61, if_neg (by rw [Int32.le_iff_toInt_le, i3_toInt (by omega)]; omega), hA p hp, Option.bind_some, i3s]
  · show f_m_balance_L61 n c ib hs d v me cl mp mf o (k + 1) t (smL A n.toInt.toNat) (i3 (n.toInt.toNat : Nat)) = _
    rw [f_m_balance_L61, if_pos (by rw [Int32.le_iff_toInt_le, i3_toInt (by omega)]; omega)]
theorem step_balance (x : SX) (m : SM) (a1 a2 : Int32) (hI : Inv x m) : ∃ c x' m', St_balance x m a1 a2 c x' m' ∧ Inv x' m' := by
  have hB := fun (o p : Int32) => @bal_eq x m hI o p
  obtain ⟨hn, hc, hs, hm, hb, hr, ht, hv, ho⟩ := hI
  have ho' := ho
  obtain ⟨ho1, ho2⟩ := ho'
  have n2 := hn
  obtain ⟨-, n2, n3⟩ := n2
  have hin : f_m_in a2.toInt64 (-1) (Int32.toInt64 (m.m_n - 1)) = some (if -1 ≤ a2.toInt ∧ a2.toInt < x.x_members.toInt then 1 else 0) := by
    rw [← hn.1, m_in (a := -1) (b := x.x_members.toInt - 1) rfl (by
      rw [Int32.toInt_toInt64, Int32.toInt_sub, show (1 : Int32).toInt = 1 from rfl, Int.bmod_eq_of_le (by omega) (by omega)])]
    congr 1
    repeat' split
    all_goals first | rfl | (exfalso; omega)
  have bad : f_law_balance x.x_members x.x_metered x.bk_counts x.bk_whens x.bk_sides x.ag_vectors x.oc_prices x.oc_filled x.oc_isDone m.m_out a1 a2 = some (1, m.m_out) → f_m_balance m.m_thrown m.m_n m.m_many m.m_isBlock m.m_hours m.m_side m.m_vectors m.m_meters m.m_cleared m.m_prices m.m_fills a1 a2 = some (0, 1) → ∃ c x' m', St_balance x m a1 a2 c x' m' ∧ Inv x' m' :=
    fun hx hm' => ⟨_, _, _, ⟨_, _, hx, hm', rfl, fun q => absurd q n10, rfl, rfl, rfl⟩, Inv_mk hn hc hs hm hb hr ht hv ho⟩
  have late : f_law_balance x.x_members x.x_metered x.bk_counts x.bk_whens x.bk_sides x.ag_vectors x.oc_prices x.oc_filled x.oc_isDone m.m_out a1 a2 = some (2, m.m_out) → f_m_balance m.m_thrown m.m_n m.m_many m.m_isBlock m.m_hours m.m_side m.m_vectors m.m_meters m.m_cleared m.m_prices m.m_fills a1 a2 = some (0, 2) → ∃ c x' m', St_balance x m a1 a2 c x' m' ∧ Inv x' m' :=
    fun hx hm' => ⟨_, _, _, ⟨_, _, hx, hm', rfl, fun q => absurd q n20, rfl, rfl, rfl⟩, Inv_mk hn hc hs hm hb hr ht hv ho⟩
  have good : ∀ v : Int64, f_law_balance x.x_members x.x_metered x.bk_counts x.bk_whens x.bk_sides x.ag_vectors x.oc_prices x.oc_filled x.oc_isDone m.m_out a1 a2 = some (0, vp_updL m.m_out 0 v) → f_m_balance m.m_thrown m.m_n m.m_many m.m_isBlock m.m_hours m.m_side m.m_vectors m.m_meters m.m_cleared m.m_prices m.m_fills a1 a2 = some (v, 0) → ∃ c x' m', St_balance x m a1 a2 c x' m' ∧ Inv x' m' :=
    fun v hx hm' => ⟨_, _, _, ⟨_, _, hx, hm', rfl, fun _ => rfl, rfl, rfl, rfl⟩, Inv_mk hn hc hs hm hb hr ht hv ho⟩
  by_cases h1 : isOp a1
  case neg =>
    exact bad (by simp only [f_law_balance, f_x_balance, f_x_balance_b20, x_op, if_neg h1, Option.bind_some, if_neg k10, ite_true]) (by simp only [f_m_balance, f_m_balance_b31, f_m_balance_b36, m_op, m_unc0, if_neg h1, Option.bind_some, if_neg n10, ite_true])
  have em : a2 = -1 ↔ a2.toInt = -1 := by rw [← Int32.toInt_inj]; exact Iff.rfl
  have el : a2 < 0 ↔ a2.toInt < 0 := Int32.lt_iff_toInt_lt
  by_cases h2 : a2 = -1
  · have hi : -1 ≤ a2.toInt ∧ a2.toInt < x.x_members.toInt := by have := em.mp h2; omega
    have hl : a2 < 0 := el.mpr (by have := em.mp h2; omega)
    by_cases h3 : x.oc_isDone a1.toNatClampNeg = 0
    · exact late (by simp only [f_law_balance, f_x_balance, f_x_balance_b30, x_op, x_clb h1, if_pos h1, if_pos h2, if_pos h3, Option.bind_some, if_neg n10, if_neg k20, if_neg k21]) (by simp only [f_m_balance, f_m_balance_b36, m_op, hin, m_unc h1, if_pos h1, if_pos hi, ← ho1, if_pos h3, Option.bind_some, if_neg n10])
    · have hA : ∀ p : Nat, p < x.x_members.toInt.toNat → isMem x.x_members (i3 p) := fun p hp => by unfold isMem; rw [i3_toInt (by omega)]; omega
      have hpc : ∀ p : Nat, p < x.x_members.toInt.toNat → (i3 (p : Int)).toNatClampNeg = p := fun p hp => by rw [i3_cl (by omega)]; exact Int.toNat_natCast p
      have l1 := x_fees (dn := x.oc_isDone) n2 n3 h1 (fun p => balV x.bk_counts x.bk_whens x.bk_sides x.ag_vectors (x.oc_prices a1.toNatClampNeg) (x.oc_filled a1.toNatClampNeg) x.x_metered a1.toNatClampNeg p) (fun p hp => by
        have q := (hB a1 (i3 p) h1 h3 (hA p hp)).1
        rw [hpc p hp] at q
        exact q)
      have l2 := m_fees (n := m.m_n) (cl := x.oc_isDone) (t := 0) (by rw [← hn.1]; exact n2) (by rw [← hn.1]; exact n3) (fun p => balV x.bk_counts x.bk_whens x.bk_sides x.ag_vectors (x.oc_prices a1.toNatClampNeg) (x.oc_filled a1.toNatClampNeg) x.x_metered a1.toNatClampNeg p) (fun p hp => by
        rw [← hn.1] at hp
        have q := (hB a1 (i3 p) h1 h3 (hA p hp)).2
        rw [hpc p hp] at q
        exact q)
      rw [show m.m_n.toInt.toNat = x.x_members.toInt.toNat by rw [hn.1]] at l2
      exact good (-(smL (fun p => balV x.bk_counts x.bk_whens x.bk_sides x.ag_vectors (x.oc_prices a1.toNatClampNeg) (x.oc_filled a1.toNatClampNeg) x.x_metered a1.toNatClampNeg p) x.x_members.toInt.toNat)) (by simp only [f_law_balance, f_x_balance, f_x_balance_b30, x_op, x_clb h1, l1, if_pos h1, if_pos h2, if_neg h3, if_neg (op3 h1), Option.bind_some, if_neg n10, ite_true]) (by simp only [f_m_balance, f_m_balance_b36, m_op, hin, m_unc h1, l2, if_pos h1, if_pos hi, ← ho1, if_neg h3, if_pos hl, Option.bind_some, if_neg n10, ite_true])
  · by_cases h4 : isMem x.x_members a2
    case neg =>
      have hi : ¬ (-1 ≤ a2.toInt ∧ a2.toInt < x.x_members.toInt) := by
        intro q
        have z : a2.toInt ≠ -1 := fun z => h2 (em.mpr z)
        exact h4 (by unfold isMem; omega)
      exact bad (by simp only [f_law_balance, f_x_balance, f_x_balance_b20, x_op, x_mem, if_pos h1, if_neg h2, if_neg h4, Option.bind_some, if_neg n10, if_neg k10, ite_true]) (by simp only [f_m_balance, f_m_balance_b31, f_m_balance_b36, m_op, hin, m_unc0, if_pos h1, if_neg hi, Option.bind_some, if_neg n10, ite_true])
    have hi : -1 ≤ a2.toInt ∧ a2.toInt < x.x_members.toInt := by have := h4; omega
    have hl : ¬ a2 < 0 := fun z => by have := el.mp z; omega
    by_cases h3 : x.oc_isDone a1.toNatClampNeg = 0
    · exact late (by simp only [f_law_balance, f_x_balance, f_x_balance_b30, x_op, x_mem, x_clb h1, if_pos h1, if_neg h2, if_pos h4, if_pos h3, Option.bind_some, if_neg n10, if_neg k20, if_neg k21]) (by simp only [f_m_balance, f_m_balance_b36, m_op, hin, m_unc h1, if_pos h1, if_pos hi, ← ho1, if_pos h3, Option.bind_some, if_neg n10])
    · obtain ⟨q1, q2⟩ := hB a1 a2 h1 h3 h4
      exact good (balV x.bk_counts x.bk_whens x.bk_sides x.ag_vectors (x.oc_prices a1.toNatClampNeg) (x.oc_filled a1.toNatClampNeg) x.x_metered a1.toNatClampNeg a2.toNatClampNeg) (by simp only [f_law_balance, f_x_balance, f_x_balance_b30, x_op, x_mem, x_clb h1, q1, if_pos h1, if_neg h2, if_pos h4, if_neg h3, if_neg (op3 h1), Option.bind_some, if_neg n10, ite_true]) (by simp only [f_m_balance, f_m_balance_b36, m_op, hin, m_unc h1, q2, if_pos h1, if_pos hi, ← ho1, if_neg h3, if_neg hl, Option.bind_some, if_neg n10, ite_true])
