/-! A curve of the class: limits in order, and what bids and offers stand at each. -/
theorem smN_one {f : Nat → Int} {k : Nat} : ∀ m : Nat, smN (fun i => if i = k then f i else 0) m = if k < m then f k else 0
  | 0 => (if_neg (by omega)).symm
  | m + 1 => by
    show smN _ m + (if m = k then f m else 0) = _
    rw [smN_one m]
    by_cases z : m = k
    · subst z
      rw [if_neg (by omega), if_pos rfl, if_pos (by omega), Int.zero_add]
    · rw [if_neg z, Int.add_zero]
      exact ifc (by omega)
theorem smN_upd {f : Nat → Int} {a m : Nat} {v : Int} (h : a < m) : smN (fun k => if k = a then v else f k) m = smN f m + (v - f a) := by
  have h1 := smN_one (f := fun _ => v - f a) (k := a) m
  rw [if_pos h] at h1
  rw [← h1, ← smN_add]
  refine smN_congr m (fun k _ => ?_)
  by_cases z : k = a
  · rw [if_pos z, if_pos z, z]
    omega
  · rw [if_neg z, if_neg z, Int.add_zero]
theorem smN_ins {f : Nat → Int} {a : Nat} {v : Int} : ∀ m : Nat, a ≤ m → smN (fun k => if k = a then v else if a < k then f (k - 1) else f k) (m + 1) = smN f m + v
  | 0, h => by
    have ha : a = 0 := by omega
    subst ha
    show 0 + (if 0 = 0 then v else _) = 0 + v
    rw [if_pos rfl]
  | m + 1, h => by
    show smN (fun k => if k = a then v else if a < k then f (k - 1) else f k) (m + 1) + (if m + 1 = a then v else if a < m + 1 then f (m + 1 - 1) else f (m + 1)) = smN f m + f m + v
    by_cases z : m + 1 = a
    · rw [if_pos z, smN_congr (m + 1) (g := f) (fun k hk => by rw [if_neg (by omega), if_neg (by omega)])]
      rfl
    · rw [if_neg z, if_pos (by omega), smN_ins m (by omega), Nat.add_sub_cancel]
      omega
theorem smN_term {f : Nat → Int} {k m : Nat} (h : ∀ i, i < m → 0 ≤ f i) (hk : k < m) : f k ≤ smN f m := by
  have h1 := smN_one (f := f) (k := k) m
  rw [if_pos hk] at h1
  rw [← h1]
  refine smN_le m (fun i hi => ?_)
  have := h i hi
  split <;> omega
def insF (f : Nat → Int32) (a m : Nat) (v : Int32) : Nat → Int32 := fun k => if k = a then v else if a < k ∧ k ≤ m then f (k - 1) else f k
def curF (f : Nat → Int32) (j m : Nat) : Nat → Int32 := fun k => if j < k ∧ k ≤ m then f (k - 1) else f k
theorem curF_step {f : Nat → Int32} {j m : Nat} (h1 : 1 ≤ j) (h2 : j ≤ m) : upd (curF f j m) j (curF f j m (j - 1)) = curF f (j - 1) m := by
  funext k
  rw [updf]
  unfold curF
  by_cases z : k = j
  · rw [if_pos z, if_neg (by omega), if_pos (by omega), z]
  · rw [if_neg z]
    exact ifc (by omega)
theorem curF_end {f : Nat → Int32} {a m : Nat} {v : Int32} : upd (curF f a m) a v = insF f a m v := rfl
theorem curF_m {f : Nat → Int32} {m : Nat} : curF f m m = f := by
  funext k
  unfold curF
  rw [if_neg (by omega)]
theorem c_shift {x cnt : Int32} {lim bid off : Nat → Int32} {a m : Nat} (hm : m < 60) : ∀ (r f : Nat), a + r ≤ m → r < f → f_c_placeOf_L63 x f (curF lim (a + r) m) (curF bid (a + r) m) (curF off (a + r) m) cnt (i3 a) (i3 ((a + r : Nat) : Int)) = some (i3 a, insF lim a m x, insF bid a m 0, insF off a m 0, cnt + 1) := by
  intro r
  induction r with
  | zero =>
    intro f h1 h2
    obtain ⟨f, rfl⟩ : ∃ g, f = g + 1 := ⟨f - 1, by omega⟩
    rw [f_c_placeOf_L63, if_pos (by rw [i3_le (by omega)]; omega), if_neg (ix_n (by omega) (by omega)), cl_n (by omega)]
    rfl
  | succ r ih =>
    intro f h1 h2
    obtain ⟨f, rfl⟩ : ∃ g, f = g + 1 := ⟨f - 1, by omega⟩
    have e1 : i3 ((a + (r + 1) : Nat) : Int) - 1 = i3 ((a + r : Nat) : Int) := by
      rw [show (1 : Int32) = i3 1 from rfl, i3_sub]
      congr 1
      omega
    have e2 : i3 ((a + (r + 1) : Nat) : Int) + (-1) = i3 ((a + r : Nat) : Int) := by
      rw [show (-1 : Int32) = i3 (-1) from by decide, i3_add]
      congr 1
      omega
    rw [f_c_placeOf_L63, if_neg (by rw [i3_le (by omega)]; omega), e1, e2, if_neg (ix_n (by omega) (by omega)), if_neg (ix_n (by omega) (by omega)), cl_n (by omega), cl_n (by omega)]
    have hr : a + r = a + (r + 1) - 1 := by omega
    have c1 := curF_step (f := lim) (show 1 ≤ a + (r + 1) by omega) h1
    have c2 := curF_step (f := bid) (show 1 ≤ a + (r + 1) by omega) h1
    have c3 := curF_step (f := off) (show 1 ≤ a + (r + 1) by omega) h1
    rw [← hr] at c1 c2 c3
    rw [c1, c2, c3]
    exact ih f (by omega) (by omega)
/-- limits in order -/
def srt (lim : Nat → Int32) (m : Nat) : Prop := ∀ i j, i < j → j < m → (lim i).toInt < (lim j).toInt
def wsm (g : Int → Int) (lim bid : Nat → Int32) (m : Nat) : Int := smN (fun k => g (lim k).toInt * (bid k).toInt) m
theorem wsm_ins {g : Int → Int} {lim bid : Nat → Int32} {a m : Nat} {x : Int32} (h : a ≤ m) : wsm g (insF lim a m x) (insF bid a m 0) (m + 1) = wsm g lim bid m := by
  unfold wsm
  have h1 := smN_ins (f := fun k => g (lim k).toInt * (bid k).toInt) (a := a) (v := 0) m h
  rw [Int.add_zero] at h1
  rw [← h1]
  refine smN_congr (m + 1) (fun k hk => ?_)
  unfold insF
  by_cases z : k = a
  · rw [if_pos z, if_pos z, if_pos z, show (0 : Int32).toInt = 0 from rfl, Int.mul_zero]
  · rw [if_neg z, if_neg z, if_neg z]
    by_cases y : a < k
    · rw [if_pos ⟨y, by omega⟩, if_pos ⟨y, by omega⟩, if_pos y]
    · rw [if_neg (fun u => y u.1), if_neg (fun u => y u.1), if_neg y]
/-- the place of a limit -/
def plR (lim bid off : Nat → Int32) (m : Nat) (x : Int32) (Z : Option (Int32 × (Nat → Int32) × (Nat → Int32) × (Nat → Int32) × Int32)) : Prop := ∃ (a : Nat) (lim' bid' off' : Nat → Int32) (m' : Nat), Z = some (i3 a, lim', bid', off', i3 m') ∧ a < m' ∧ m' ≤ m + 1 ∧ srt lim' m' ∧ lim' a = x ∧ (∀ k, k < m' → (lim' k = x ∨ ∃ j, j < m ∧ lim' k = lim j)) ∧ (∀ k, k < m' → 0 ≤ (bid' k).toInt ∧ 0 ≤ (off' k).toInt) ∧ (∀ g, wsm g lim' bid' m' = wsm g lim bid m) ∧ (∀ g, wsm g lim' off' m' = wsm g lim off m)
theorem c_place {lim bid off : Nat → Int32} {m : Nat} (hm : m < 60) (hs : srt lim m) (hnn : ∀ k, k < m → 0 ≤ (bid k).toInt ∧ 0 ≤ (off k).toInt) (x : Int32) : plR lim bid off m x (f_c_placeOf lim bid off (i3 m) x) := by
  have b44 : ∀ a : Nat, a ≤ m → (∀ i, i < a → (lim i).toInt < x.toInt) → (∀ i, a ≤ i → i < m → x.toInt < (lim i).toInt) → plR lim bid off m x (f_c_placeOf_b44 x lim bid off (i3 m) (i3 a)) := by
    intro a ha h1 h2
    unfold f_c_placeOf_b44
    have h3 := c_shift (x := x) (cnt := i3 m) (lim := lim) (bid := bid) (off := off) (a := a) hm (m - a) 1000 (by omega) (by omega)
    rw [show a + (m - a) = m by omega, curF_m, curF_m, curF_m] at h3
    rw [if_pos (show i3 (m : Nat) < 60 from (i3_lt (b := 60) (by omega)).mpr (by omega)), h3, i3s]
    refine ⟨a, insF lim a m x, insF bid a m 0, insF off a m 0, m + 1, rfl, by omega, Nat.le_refl _, ?_, ?_, ?_, ?_, fun g => wsm_ins ha, fun g => wsm_ins ha⟩
    · intro i j hij hj
      unfold insF
      by_cases z1 : i = a
      · rw [if_pos z1, if_neg (by omega), if_pos (by omega)]
        exact h2 (j - 1) (by omega) (by omega)
      · rw [if_neg z1]
        by_cases z2 : j = a
        · rw [if_pos z2, if_neg (by omega)]
          exact h1 i (by omega)
        · rw [if_neg z2]
          by_cases z3 : a < i
          · rw [if_pos (by omega), if_pos (by omega)]
            exact hs (i - 1) (j - 1) (by omega) (by omega)
          · rw [if_neg (by omega)]
            by_cases z4 : a < j
            · rw [if_pos (by omega)]
              have y1 := h1 i (by omega)
              have y2 := h2 (j - 1) (by omega) (by omega)
              omega
            · rw [if_neg (by omega)]
              exact hs i j hij (by omega)
    · unfold insF
      rw [if_pos rfl]
    · intro k hk
      unfold insF
      by_cases z1 : k = a
      · rw [if_pos z1]
        exact Or.inl rfl
      · rw [if_neg z1]
        by_cases z2 : a < k ∧ k ≤ m
        · rw [if_pos z2]
          exact Or.inr ⟨k - 1, by omega, rfl⟩
        · rw [if_neg z2]
          exact Or.inr ⟨k, by omega, rfl⟩
    · intro k hk
      unfold insF
      by_cases z1 : k = a
      · rw [if_pos z1, if_pos z1]
        exact ⟨by decide, by decide⟩
      · rw [if_neg z1, if_neg z1]
        by_cases z2 : a < k ∧ k ≤ m
        · rw [if_pos z2, if_pos z2]
          exact hnn (k - 1) (by omega)
        · rw [if_neg z2, if_neg z2]
          exact hnn k (by omega)
  unfold f_c_placeOf
  refine lpX (fun n a (_ : Unit) => f_c_placeOf_L2 x n lim bid off (i3 m) (i3 a)) m (fun a _ => ∀ i, i < a → (lim i).toInt < x.toInt) (plR lim bid off m x) ?_ ?_ 1000 0 () (by omega) (by omega) (fun i hi => by omega)
  · intro n a _ ha hI
    have e1 : x ≤ lim a ↔ x.toInt ≤ (lim a).toInt := Int32.le_iff_toInt_le
    have e2 : lim a = x ↔ (lim a).toInt = x.toInt := Int32.toInt_inj.symm
    show plR lim bid off m x (f_c_placeOf_L2 x (n + 1) lim bid off (i3 m) (i3 a)) ∨ ∃ s' : Unit, (∀ i, i < a + 1 → (lim i).toInt < x.toInt) ∧ f_c_placeOf_L2 x (n + 1) lim bid off (i3 m) (i3 a) = f_c_placeOf_L2 x n lim bid off (i3 m) (i3 ((a + 1 : Nat) : Int))
    have hlt : ¬ i3 (m : Nat) ≤ i3 a := by rw [i3_le (by omega)]; omega
    have hix : ¬ (i3 (a : Nat) < 0 ∨ 60 ≤ (i3 (a : Nat)).toNatClampNeg) := ix_n (by omega) (by omega)
    rw [f_c_placeOf_L2, if_neg hlt, if_neg hix, cl_n (by omega), i3s]
    by_cases z : x.toInt ≤ (lim a).toInt
    · left
      rw [if_pos (e1.mpr z)]
      unfold f_c_placeOf_b26
      rw [if_neg hlt, if_neg hix, cl_n (by omega)]
      by_cases y : (lim a).toInt = x.toInt
      · rw [if_pos (e2.mpr y)]
        exact ⟨a, lim, bid, off, m, rfl, ha, by omega, hs, e2.mpr y, fun k hk => Or.inr ⟨k, hk, rfl⟩, hnn, fun g => rfl, fun g => rfl⟩
      · rw [if_neg (fun u => y (e2.mp u))]
        refine b44 a (by omega) hI (fun i hi hm' => ?_)
        by_cases u : i = a
        · rw [u]; omega
        · have := hs a i (by omega) hm'
          omega
    · right
      rw [if_neg (fun u => z (e1.mp u))]
      refine ⟨(), fun i hi => ?_, rfl⟩
      by_cases u : i = a
      · rw [u]; omega
      · exact hI i (by omega)
  · intro n _ hI
    show plR lim bid off m x (f_c_placeOf_L2 x (n + 1) lim bid off (i3 m) (i3 (m : Nat)))
    have hge : i3 (m : Nat) ≤ i3 m := by rw [i3_le (by omega)]; omega
    rw [f_c_placeOf_L2, if_pos hge]
    unfold f_c_placeOf_b26
    rw [if_pos hge]
    exact b44 m (Nat.le_refl _) hI (fun i h1 h2 => by omega)
/-- a curve holds the orders of an hour -/
def cvI (lim bid off : Nat → Int32) (cnt ab ao : Int32) (O : List En) (h : Int) : Prop := ∃ m : Nat, cnt = i3 m ∧ m ≤ O.length ∧ srt lim m ∧ (∀ k, k < m → -5000 ≤ (lim k).toInt ∧ (lim k).toInt ≤ 40000) ∧ (∀ k, k < m → 0 ≤ (bid k).toInt ∧ 0 ≤ (off k).toInt) ∧ (∀ g, wsm g lim bid m = sumE (fun e => if en_d e = 0 ∧ en_w e = h then g (en_l e) * en_q e else 0) O) ∧ (∀ g, wsm g lim off m = sumE (fun e => if en_d e = 1 ∧ en_w e = h then g (en_l e) * en_q e else 0) O) ∧ ab = i3 (sumE (fun e => if en_d e = 0 ∧ en_w e = h then en_q e else 0) O) ∧ ao = i3 (sumE (fun e => if en_d e = 1 ∧ en_w e = h then en_q e else 0) O)
theorem cvI_0 {lim bid off : Nat → Int32} {h : Int} : cvI lim bid off 0 0 0 [] h := ⟨0, rfl, Nat.le_refl _, fun i j h1 h2 => by omega, fun k hk => by omega, fun k hk => by omega, fun g => rfl, fun g => rfl, rfl, rfl⟩
theorem cvI_skip {lim bid off : Nat → Int32} {cnt ab ao : Int32} {O : List En} {h : Int} {e : En} (hc : cvI lim bid off cnt ab ao O h) (he : en_w e ≠ h) : cvI lim bid off cnt ab ao (O ++ [e]) h := by
  obtain ⟨m, h1, h2, h3, h4, h5, h6, h7, h8, h9⟩ := hc
  have z : ∀ f : En → Int, (f e = 0) → sumE f (O ++ [e]) = sumE f O := by
    intro f hf
    rw [sumE_append]
    show sumE f O + (f e + 0) = _
    rw [hf]
    omega
  refine ⟨m, h1, by rw [List.length_append]; omega, h3, h4, h5, fun g => ?_, fun g => ?_, ?_, ?_⟩
  · rw [z _ (if_neg (fun y => he y.2))]; exact h6 g
  · rw [z _ (if_neg (fun y => he y.2))]; exact h7 g
  · rw [z _ (if_neg (fun y => he y.2))]; exact h8
  · rw [z _ (if_neg (fun y => he y.2))]; exact h9
theorem cv_tot {lim bid : Nat → Int32} {m : Nat} {O : List En} (hO : okO O) {s h : Int} (hnn : ∀ k, k < m → 0 ≤ (bid k).toInt) (hg : ∀ g, wsm g lim bid m = sumE (fun e => if en_d e = s ∧ en_w e = h then g (en_l e) * en_q e else 0) O) : 0 ≤ sumE (fun e => if en_d e = s ∧ en_w e = h then en_q e else 0) O ∧ sumE (fun e => if en_d e = s ∧ en_w e = h then en_q e else 0) O ≤ 60000 ∧ smN (fun k => (bid k).toInt) m = sumE (fun e => if en_d e = s ∧ en_w e = h then en_q e else 0) O ∧ ∀ k, k < m → (bid k).toInt ≤ 60000 := by
  have hq : ∀ e ∈ O, 0 ≤ en_q e ∧ en_q e ≤ 1000 := fun e he => by have := (hO.1 e he).1.2.1; omega
  have hlen := hO.2
  have t0 := sumE_nn O (f := fun e => if en_d e = s ∧ en_w e = h then en_q e else 0) (fun e he => (ite_bd (hq e he).1 (hq e he).2).1)
  have t1 := sumE_bd (M := 1000) (by omega) O (f := fun e => if en_d e = s ∧ en_w e = h then en_q e else 0) (fun e he => (ite_bd (hq e he).1 (hq e he).2).2)
  have t2 : smN (fun k => (bid k).toInt) m = sumE (fun e => if en_d e = s ∧ en_w e = h then en_q e else 0) O := by
    have := hg (fun _ => 1)
    unfold wsm at this
    rw [smN_congr m (g := fun k => (bid k).toInt) (fun k _ => Int.one_mul _)] at this
    rw [this]
    exact sumE_congr O (fun e _ => by rw [Int.one_mul])
  refine ⟨t0, by omega, t2, fun k hk => ?_⟩
  have := smN_term (f := fun k => (bid k).toInt) hnn hk
  rw [t2] at this
  have h3 : (bid k).toInt ≤ sumE (fun e => if en_d e = s ∧ en_w e = h then en_q e else 0) O := this
  omega
theorem wsm_upd {g : Int → Int} {lim bid : Nat → Int32} {a m : Nat} {v : Int32} (h : a < m) : wsm g lim (upd bid a v) m = wsm g lim bid m + g (lim a).toInt * (v.toInt - (bid a).toInt) := by
  unfold wsm
  rw [Int.mul_sub, ← smN_upd (f := fun k => g (lim k).toInt * (bid k).toInt) (v := g (lim a).toInt * v.toInt) h]
  refine smN_congr m (fun k _ => ?_)
  rw [updf]
  by_cases z : k = a
  · rw [if_pos z, if_pos z, z]
  · rw [if_neg z, if_neg z]
theorem c_add {lim bid off : Nat → Int32} {cnt ab ao : Int32} {O : List En} (hO : okO O) {h : Int} (hc : cvI lim bid off cnt ab ao O h) (hlen : O.length < 60) {e : En} (he : en_ok e) (hw : en_w e = h) {d q l : Int32} (hd : d.toInt = en_d e) (hq : q.toInt = en_q e) (hl : l.toInt = en_l e) :
    ∃ lim' bid' off' cnt' ab' ao', f_c_add lim bid off cnt ab ao d q l = some (lim', bid', off', cnt', ab', ao') ∧ cvI lim' bid' off' cnt' ab' ao' (O ++ [e]) h := by
  obtain ⟨m, h1, h2, h3, h4, h5, h6, h7, h8, h9⟩ := hc
  obtain ⟨k1, k2, k3, k4⟩ := he
  subst h1
  obtain ⟨a, lim', bid', off', m', p1, p2, p3, p4, p5, p6, p7, p8, p9⟩ := c_place (x := l) (show m < 60 by omega) h3 h5
  have tb := cv_tot hO (fun k hk => (p7 k hk).1) (fun g => (p8 g).trans (h6 g))
  have to := cv_tot hO (fun k hk => (p7 k hk).2) (fun g => (p9 g).trans (h7 g))
  have app : ∀ f : En → Int, sumE f (O ++ [e]) = sumE f O + f e := by
    intro f
    rw [sumE_append]
    show sumE f O + (f e + 0) = _
    omega
  have hbnd : ∀ k, k < m' → -5000 ≤ (lim' k).toInt ∧ (lim' k).toInt ≤ 40000 := by
    intro k hk
    rcases p6 k hk with y | ⟨j, hj, y⟩
    · rw [y, hl]
      exact k3
    · rw [y]
      exact h4 j hj
  have hqv : q = i3 (en_q e) := by rw [i3_of q, hq]
  unfold f_c_add
  rw [p1, Option.bind_some]
  have hr1 : i3 (a : Nat) < 60 := (i3_lt (b := 60) (by omega)).mpr (by omega)
  have hix : ¬ (i3 (a : Nat) < 0 ∨ 60 ≤ (i3 (a : Nat)).toNatClampNeg) := ix_n (by omega) (by omega)
  show ∃ lim2 bid2 off2 cnt2 ab2 ao2, (if i3 (a : Nat) < 60 then (if d = 0 then if i3 (a : Nat) < 0 ∨ 60 ≤ (i3 (a : Nat)).toNatClampNeg then none else some (lim', upd bid' (i3 (a : Nat)).toNatClampNeg (bid' (i3 (a : Nat)).toNatClampNeg + q), off', i3 m', ab + q, ao) else if i3 (a : Nat) < 0 ∨ 60 ≤ (i3 (a : Nat)).toNatClampNeg then none else some (lim', bid', upd off' (i3 (a : Nat)).toNatClampNeg (off' (i3 (a : Nat)).toNatClampNeg + q), i3 m', ab, ao + q)) else some (lim', bid', off', i3 m', ab, ao)) = some (lim2, bid2, off2, cnt2, ab2, ao2) ∧ _
  rw [if_pos hr1, cl_n (by omega)]
  rw [cl_n (by omega)] at hix
  have e0 : d = 0 ↔ en_d e = 0 := by rw [show (0 : Int32) = i3 0 from rfl, i3n _ (by omega), hd]
  by_cases z : en_d e = 0
  · rw [if_pos (e0.mpr z), if_neg hix]
    have hbv : (bid' a + q).toInt = (bid' a).toInt + en_q e := by
      have y1 := (p7 a p2).1
      have y2 := tb.2.2.2 a p2
      rw [Int32.toInt_add, hq, Int.bmod_eq_of_le (by omega) (by omega)]
    refine ⟨_, _, _, _, _, _, rfl, m', rfl, by rw [List.length_append]; show m' ≤ O.length + 1; omega, p4, hbnd, fun k hk => ?_, fun g => ?_, fun g => ?_, ?_, ?_⟩
    · rw [updf]
      have y1 := p7 k hk
      have y2 := (p7 a p2).1
      refine ⟨?_, y1.2⟩
      split
      · rw [hbv]; omega
      · exact y1.1
    · rw [wsm_upd p2, p8, h6, app, if_pos ⟨z, hw⟩, hbv, p5, hl, show (bid' a).toInt + en_q e - (bid' a).toInt = en_q e by omega]
    · rw [p9, h7, app, if_neg (fun y => by have := y.1; omega), Int.add_zero]
    · rw [app, if_pos ⟨z, hw⟩, ← i3_add, h8, hqv]
    · rw [app, if_neg (fun y => by have := y.1; omega), Int.add_zero]
      exact h9
  · have z1 : en_d e = 1 := by omega
    rw [if_neg (fun y => z (e0.mp y)), if_neg hix]
    have hbv : (off' a + q).toInt = (off' a).toInt + en_q e := by
      have y1 := (p7 a p2).2
      have y2 := to.2.2.2 a p2
      rw [Int32.toInt_add, hq, Int.bmod_eq_of_le (by omega) (by omega)]
    refine ⟨_, _, _, _, _, _, rfl, m', rfl, by rw [List.length_append]; show m' ≤ O.length + 1; omega, p4, hbnd, fun k hk => ?_, fun g => ?_, fun g => ?_, ?_, ?_⟩
    · rw [updf]
      have y1 := p7 k hk
      have y2 := (p7 a p2).2
      refine ⟨y1.1, ?_⟩
      split
      · rw [hbv]; omega
      · exact y1.2
    · rw [p8, h6, app, if_neg (fun y => z y.1), Int.add_zero]
    · rw [wsm_upd p2, p9, h7, app, if_pos ⟨z1, hw⟩, hbv, p5, hl, show (off' a).toInt + en_q e - (off' a).toInt = en_q e by omega]
    · rw [app, if_neg (fun y => z y.1), Int.add_zero]
      exact h8
    · rw [app, if_pos ⟨z1, hw⟩, ← i3_add, h9, hqv]
