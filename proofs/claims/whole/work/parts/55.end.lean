/-! The start, and the whole. -/
def Inv2 (x : SX) (m : SM) : Prop := Inv x m ∧ boolD x
theorem step2 {x : SX} {St : Int32 → SX → SM → Prop} (hD : boolD x) (h : ∃ c x' m', St c x' m' ∧ Inv x' m') (hd : ∀ c x' m', St c x' m' → x'.oc_isDone = x.oc_isDone) : ∃ c x' m', St c x' m' ∧ Inv2 x' m' := by
  obtain ⟨c, x', m', h1, h2⟩ := h
  refine ⟨c, x', m', h1, h2, fun o ho => ?_⟩
  rw [hd c x' m' h1]
  exact hD o ho
theorem t0 (x : SX) (m : SM) (a1 a2 : Int32) (h : Inv2 x m) : ∃ c x' m', St_collateral x m a1 a2 c x' m' ∧ Inv2 x' m' := step2 h.2 (step_collateral x m a1 a2 h.1) (by rintro c x' m' ⟨rx, rm, -, -, -, -, rfl, -⟩; rfl)
theorem t1 (x : SX) (m : SM) (a1 a2 a3 a4 a5 a6 : Int32) (h : Inv2 x m) : ∃ c x' m', St_order x m a1 a2 a3 a4 a5 a6 c x' m' ∧ Inv2 x' m' := step2 h.2 (step_order x m a1 a2 a3 a4 a5 a6 h.1) (by rintro c x' m' ⟨rx, rm, -, -, -, -, -, rfl, -⟩; rfl)
theorem t2 (x : SX) (m : SM) (a1 a2 a3 a4 a5 a6 : Int32) (h : Inv2 x m) : ∃ c x' m', St_block x m a1 a2 a3 a4 a5 a6 c x' m' ∧ Inv2 x' m' := step2 h.2 (step_block x m a1 a2 a3 a4 a5 a6 h.1) (by rintro c x' m' ⟨rx, rm, -, -, -, -, -, rfl, -⟩; rfl)
theorem t3 (x : SX) (m : SM) (a1 : Int32) (h : Inv2 x m) : ∃ c x' m', St_seal x m a1 c x' m' ∧ Inv2 x' m' := step2 h.2 (step_seal x m a1 h.1) (by rintro c x' m' ⟨rx, rm, -, -, -, -, -, rfl, -⟩; rfl)
theorem t4 (x : SX) (m : SM) (a1 : Int32) (h : Inv2 x m) : ∃ c x' m', St_liar x m a1 c x' m' ∧ Inv2 x' m' := step2 h.2 (step_liar x m a1 h.1) (by rintro c x' m' ⟨rx, rm, -, -, -, -, rfl, -⟩; rfl)
theorem t5 (x : SX) (m : SM) (a1 a2 a3 a4 : Int32) (h : Inv2 x m) : ∃ c x' m', St_tell x m a1 a2 a3 a4 c x' m' ∧ Inv2 x' m' := step2 h.2 (step_tell x m a1 a2 a3 a4 h.1) (by rintro c x' m' ⟨rx, rm, -, -, -, -, rfl, -⟩; rfl)
theorem t6 (x : SX) (m : SM) (h : Inv2 x m) : ∃ c x' m', St_round x m c x' m' ∧ Inv2 x' m' := step2 h.2 (step_round x m h.1) (by rintro c x' m' ⟨rx, rm, -, -, -, -, -, rfl, -⟩; rfl)
theorem t7 (x : SX) (m : SM) (a1 a2 a3 a4 : Int32) (h : Inv2 x m) : ∃ c x' m', St_vector x m a1 a2 a3 a4 c x' m' ∧ Inv2 x' m' := step2 h.2 (step_vector x m a1 a2 a3 a4 h.1) (by rintro c x' m' ⟨rx, rm, -, -, -, -, -, rfl, -⟩; rfl)
theorem t8 (x : SX) (m : SM) (a1 : Int32) (h : Inv2 x m) : ∃ c x' m', St_clear x m a1 c x' m' ∧ Inv2 x' m' := step_clear x m a1 h.1 h.2
theorem t9 (x : SX) (m : SM) (a1 a2 : Int32) (h : Inv2 x m) : ∃ c x' m', St_price x m a1 a2 c x' m' ∧ Inv2 x' m' := step2 h.2 (step_price x m a1 a2 h.1) (by rintro c x' m' ⟨rx, rm, -, -, -, -, -, rfl, -⟩; rfl)
theorem t10 (x : SX) (m : SM) (a1 a2 : Int32) (h : Inv2 x m) : ∃ c x' m', St_traded x m a1 a2 c x' m' ∧ Inv2 x' m' := step2 h.2 (step_traded x m a1 a2 h.1) (by rintro c x' m' ⟨rx, rm, -, -, -, -, -, rfl, -⟩; rfl)
theorem t11 (x : SX) (m : SM) (a1 a2 a3 : Int32) (h : Inv2 x m) : ∃ c x' m', St_fill x m a1 a2 a3 c x' m' ∧ Inv2 x' m' := step2 h.2 (step_fill x m a1 a2 a3 h.1) (by rintro c x' m' ⟨rx, rm, -, -, -, -, -, rfl, -⟩; rfl)
theorem t12 (x : SX) (m : SM) (a1 : Int32) (h : Inv2 x m) : ∃ c x' m', St_welfare x m a1 c x' m' ∧ Inv2 x' m' := step2 h.2 (step_welfare x m a1 h.1) (by rintro c x' m' ⟨rx, rm, -, -, -, -, -, rfl, -⟩; rfl)
theorem t13 (x : SX) (m : SM) (a1 a2 a3 : Int32) (h : Inv2 x m) : ∃ c x' m', St_meter x m a1 a2 a3 c x' m' ∧ Inv2 x' m' := step2 h.2 (step_meter x m a1 a2 a3 h.1) (by rintro c x' m' ⟨rx, rm, -, -, -, -, rfl, -⟩; rfl)
theorem t14 (x : SX) (m : SM) (a1 a2 : Int32) (h : Inv2 x m) : ∃ c x' m', St_balance x m a1 a2 c x' m' ∧ Inv2 x' m' := step2 h.2 (step_balance x m a1 a2 h.1) (by rintro c x' m' ⟨rx, rm, -, -, -, -, -, rfl, -⟩; rfl)
theorem t15 (x : SX) (m : SM) (h : Inv2 x m) : ∃ c x' m', St_nextDay x m c x' m' ∧ Inv2 x' m' := by
  obtain ⟨c, x', m', h1, h2⟩ := step_nextDay x m h.1
  refine ⟨c, x', m', h1, h2, fun o ho => ?_⟩
  obtain ⟨rx, rm, k1, -, -, k2, -⟩ := h1
  rw [nd_x] at k1
  have k3 := Option.some.inj k1
  rw [← k2, ← k3]
  exact Or.inl (flG_in (by omega))
/-- the number of members -/
def nMem (n0 : Int32) : Int32 := if n0 < 1 then 1 else if 6 < n0 then 1 else n0
theorem nMem_bd (n0 : Int32) : 1 ≤ (nMem n0).toInt ∧ (nMem n0).toInt ≤ 6 := by
  unfold nMem
  by_cases h1 : n0 < 1
  · rw [if_pos h1]
    decide
  · rw [if_neg h1]
    by_cases h2 : 6 < n0
    · rw [if_pos h2]
      decide
    · rw [if_neg h2]
      rw [Int32.lt_iff_toInt_lt, show (1 : Int32).toInt = 1 from rfl] at h1
      rw [Int32.lt_iff_toInt_lt, show (6 : Int32).toInt = 6 from rfl] at h2
      omega
theorem x_init (n0 : Int32) : f_x_init n0 = some (nMem n0, flG (fun _ => 0) (-1) 0 24, flG (fun _ => 0) (-1) 0 96, flG (fun _ => 0) 24 0 24, -1, 0) := by
  unfold f_x_init nMem
  simp only [ag_fg, Option.bind_some]
  by_cases h1 : n0 < 1
  · rw [if_pos h1, if_pos h1]
  · rw [if_neg h1, if_neg h1]
    by_cases h2 : 6 < n0
    · rw [if_pos h2, if_pos h2]
    · rw [if_neg h2, if_neg h2]
theorem m_init (n0 : Int32) : f_m_init n0 = some (nMem n0, flG (fun _ => 0) 0 0 24, flG (fun _ => 0) 0 0 24, flG (fun _ => 0) 0 0 6, flG (fun _ => 0) 0 0 6, 0, -1, flG (fun _ => 0) (-2) 0 24, flG (fun _ => 0) (-2) 0 96, flG (fun _ => 0) 0 0 18, flG (fun _ => 0) 0 0 4) := by
  unfold f_m_init nMem
  simp only [mf_all, Option.bind_some]
  by_cases h1 : n0 < 1
  · rw [if_pos h1, if_pos h1]
  · rw [if_neg h1, if_neg h1]
    by_cases h2 : 6 < n0
    · rw [if_pos h2, if_neg (fun y => by rw [Int32.lt_iff_toInt_lt] at h2; rw [Int32.le_iff_toInt_le] at y; omega)]
    · rw [if_neg h2, if_pos (by rw [Int32.lt_iff_toInt_lt] at h2; rw [Int32.le_iff_toInt_le]; omega)]
theorem inv_0 (n0 : Int32) : Inv2 (sx_0 (nMem n0, flG (fun _ => 0) (-1) 0 24, flG (fun _ => 0) (-1) 0 96, flG (fun _ => 0) 24 0 24, -1, 0)) (sm_0 (nMem n0, flG (fun _ => 0) 0 0 24, flG (fun _ => 0) 0 0 24, flG (fun _ => 0) 0 0 6, flG (fun _ => 0) 0 0 6, 0, -1, flG (fun _ => 0) (-2) 0 24, flG (fun _ => 0) (-2) 0 96, flG (fun _ => 0) 0 0 18, flG (fun _ => 0) 0 0 4)) := by
  have hnb := nMem_bd n0
  have z3 : ∀ N : Nat, flG (fun _ => (0 : Int32)) 0 0 N = fun _ => 0 := fun N => flG_all (fun _ _ => rfl)
  have z6 : ∀ N : Nat, flG (fun _ => (0 : Int64)) 0 0 N = fun _ => 0 := fun N => flG_all (fun _ _ => rfl)
  refine ⟨?_, fun o ho => Or.inl rfl⟩
  refine Inv_mk ⟨rfl, hnb⟩ ⟨rfl, fun k => (by decide : 0 ≤ (0 : Int32).toInt ∧ (0 : Int32).toInt ≤ 1000000000)⟩ ⟨(z3 6).symm, (z3 6).symm, ?_⟩ ⟨(z3 18).symm, fun k => (by decide : -1000000 ≤ (0 : Int32).toInt ∧ (0 : Int32).toInt ≤ 1000000)⟩ ?_ ⟨rfl, (by decide : -1 ≤ (-1 : Int32).toInt ∧ (-1 : Int32).toInt ≤ 3), rfl, (by decide : 0 ≤ (0 : Int32).toInt ∧ (0 : Int32).toInt ≤ 3), fun z => absurd rfl z⟩ ⟨?_, ?_⟩ ?_ ⟨(z3 4).symm, fun o _ hd => absurd rfl hd⟩
  · show (0 : Int32) = i3 (cntS (fun _ => 0) (nMem n0).toInt.toNat)
    rw [cntS_0 _ (fun p _ => rfl)]
    rfl
  · show iv_b (fun _ => 0) (flG (fun _ => 0) 0 0 24) (fun _ => 0) (flG (fun _ => 0) 0 0 24) (fun _ => 0) (fun _ => 0) (fun _ => 0) (fun _ => 0) (fun _ => 0) (fun _ => 0) (fun _ => 0) (fun _ => 0) (fun _ => 0)
    rw [z3, z6]
    exact iv_b_0 rfl (fun _ => Or.inl rfl)
  · intro k hk
    show lieq (nMem n0) (flG (fun _ => 0) (-1) 0 24 k) (flG (fun _ => 0) (-2) 0 24 k)
    rw [flG_in (by omega), flG_in (by omega)]
    exact lieq_0
  · intro k hk
    show lieq (nMem n0) (flG (fun _ => 0) (-1) 0 96 k) (flG (fun _ => 0) (-2) 0 96 k)
    rw [flG_in (by omega), flG_in (by omega)]
    exact lieq_0
  · intro z
    exact absurd (show (0 : Int32) = 3 from z) (by decide)
theorem cell_0 {g : mz_G} (hL : mz_L g ≤ 3585) : ∃ n0, f_law_cell g 0 = some n0 := by
  unfold f_law_cell
  by_cases h : Int32.ofNat (mz_L g) ≤ 0
  · exact ⟨0, by rw [if_pos h]⟩
  · refine ⟨mz_xs g (0 : Int32).toNatClampNeg, ?_⟩
    have hpos : 0 < mz_L g := by
      rcases Nat.eq_zero_or_pos (mz_L g) with y | y
      · rw [y] at h
        exact absurd (by decide) h
      · exact y
    rw [if_neg h, if_neg]
    rintro (y | y)
    · exact absurd y (by decide)
    · have : (0 : Int32).toNatClampNeg = 0 := rfl
      omega
theorem run_all : lw_run := by
  intro g hL
  obtain ⟨n0, h0⟩ := cell_0 hL
  obtain ⟨S, y1, y2, y3, y4, y5⟩ := law_loop hL (Inv := Inv2) t0 t1 t2 t3 t4 t5 t6 t7 t8 t9 t10 t11 t12 t13 t14 t15 600 0 _ _ true 83 4291 (inv_0 n0) (by omega) (by omega) (by omega) (by omega)
  exact ⟨S, y1, y2, y3, y4, law_start h0 (x_init n0) (m_init n0) y5⟩
theorem i_vc : Claimed_1_1 ∧ Claimed_1_2 := claim_of run_all
