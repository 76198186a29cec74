theorem i32_and15 (x : Int32) : ∃ n : Nat, n < 16 ∧ x &&& 15 = Int32.ofNat n := by
  refine ⟨(x.toBitVec &&& 15#32).toNat, ?_, ?_⟩
  · have h : (x.toBitVec &&& 15#32).toNat ≤ 15 := by
      rw [BitVec.toNat_and]
      exact Nat.and_le_right
    omega
  · apply Int32.toBitVec_inj.mp
    show x.toBitVec &&& 15#32 = BitVec.ofNat 32 _
    rw [BitVec.ofNat_toNat, BitVec.setWidth_eq]
theorem i32_nat {a : Nat} (h : a < 2 ^ 31) : (Int32.ofNat a).toInt = a := Int32.toInt_ofNat_of_lt h
theorem i32_cl {a : Nat} (h : a < 2 ^ 31) : (Int32.ofNat a).toNatClampNeg = a := by
  show (Int32.ofNat a).toInt.toNat = a
  rw [i32_nat h]
  exact Int.toNat_natCast a
theorem i32_in {a L : Nat} (hL : L < 2 ^ 31) (h : a < L) : vp_in (Int32.ofNat a) L := by
  intro q
  rcases q with q | q
  · rw [Int32.lt_iff_toInt_lt, i32_nat (by omega)] at q
    exact absurd q (by show ¬ (a : Int) < 0; omega)
  · rw [i32_cl (by omega)] at q
    omega
theorem law_end7 {L a : Nat} (hL : L ≤ 3585) (ha : a ≤ 4000) : Int32.ofNat L - 7 < Int32.ofNat a ↔ (L : Int) - 7 < a := by
  rw [Int32.lt_iff_toInt_lt, Int32.toInt_sub, i32_nat (by omega), i32_nat (by omega)]
  rw [show (7 : Int32).toInt = 7 from rfl, Int.bmod_eq_of_le (by omega) (by omega)]
set_option maxRecDepth 100000 in
set_option maxHeartbeats 4000000 in
/-- the loop, out of an invariant that each of the sixteen steps keeps -/
theorem law_loop {g : mz_G} (hL : mz_L g ≤ 3585) {Inv : SX → SM → Prop} (s0 : ∀ (x : SX) (m : SM) (a1 a2 : Int32), Inv x m → ∃ c x' m', St_collateral x m a1 a2 c x' m' ∧ Inv x' m') (s1 : ∀ (x : SX) (m : SM) (a1 a2 a3 a4 a5 a6 : Int32), Inv x m → ∃ c x' m', St_order x m a1 a2 a3 a4 a5 a6 c x' m' ∧ Inv x' m') (s2 : ∀ (x : SX) (m : SM) (a1 a2 a3 a4 a5 a6 : Int32), Inv x m → ∃ c x' m', St_block x m a1 a2 a3 a4 a5 a6 c x' m' ∧ Inv x' m') (s3 : ∀ (x : SX) (m : SM) (a1 : Int32), Inv x m → ∃ c x' m', St_seal x m a1 c x' m' ∧ Inv x' m') (s4 : ∀ (x : SX) (m : SM) (a1 : Int32), Inv x m → ∃ c x' m', St_liar x m a1 c x' m' ∧ Inv x' m') (s5 : ∀ (x : SX) (m : SM) (a1 a2 a3 a4 : Int32), Inv x m → ∃ c x' m', St_tell x m a1 a2 a3 a4 c x' m' ∧ Inv x' m') (s6 : ∀ (x : SX) (m : SM), Inv x m → ∃ c x' m', St_round x m c x' m' ∧ Inv x' m') (s7 : ∀ (x : SX) (m : SM) (a1 a2 a3 a4 : Int32), Inv x m → ∃ c x' m', St_vector x m a1 a2 a3 a4 c x' m' ∧ Inv x' m') (s8 : ∀ (x : SX) (m : SM) (a1 : Int32), Inv x m → ∃ c x' m', St_clear x m a1 c x' m' ∧ Inv x' m') (s9 : ∀ (x : SX) (m : SM) (a1 a2 : Int32), Inv x m → ∃ c x' m', St_price x m a1 a2 c x' m' ∧ Inv x' m') (s10 : ∀ (x : SX) (m : SM) (a1 a2 : Int32), Inv x m → ∃ c x' m', St_traded x m a1 a2 c x' m' ∧ Inv x' m') (s11 : ∀ (x : SX) (m : SM) (a1 a2 a3 : Int32), Inv x m → ∃ c x' m', St_fill x m a1 a2 a3 c x' m' ∧ Inv x' m') (s12 : ∀ (x : SX) (m : SM) (a1 : Int32), Inv x m → ∃ c x' m', St_welfare x m a1 c x' m' ∧ Inv x' m') (s13 : ∀ (x : SX) (m : SM) (a1 a2 a3 : Int32), Inv x m → ∃ c x' m', St_meter x m a1 a2 a3 c x' m' ∧ Inv x' m') (s14 : ∀ (x : SX) (m : SM) (a1 a2 : Int32), Inv x m → ∃ c x' m', St_balance x m a1 a2 c x' m' ∧ Inv x' m') (s15 : ∀ (x : SX) (m : SM), Inv x m → ∃ c x' m', St_nextDay x m c x' m' ∧ Inv x' m') :
    ∀ (f j : Nat) (x : SX) (m : SM) (ex : Bool) (k n : Nat), Inv x m → mz_L g ≤ 7 * j + 7 * f → 7 * j ≤ 3600 → k ≤ 3000 + j → n ≤ 30000 + 6 * j →
      ∃ S : mz_S, S.1 = 0 ∧ S.2.1 = some (.int 1) ∧ S.2.2.2.2.1 ≤ 4000 ∧ S.2.2.2.2.2 ≤ 40000 ∧ mz_A g M_law_law room_1 (fun S : mz_S => S) 33 [(4, .int (Int32.ofNat (1 + 7 * j))), (3, .ref 82), (2, .ref 54), (1, .ref 0), (0, .float 0)] [] ex (x.H, m.H) k n (some S) := by
  intro f
  induction f with
  | zero =>
    intro j x m ex k n hI h1 h2 h3 h4
    exact ⟨(0, some (.int 1), ex, (x.H, m.H), k, n), rfl, rfl, by show k ≤ 4000; omega, by show n ≤ 40000; omega, w_end ((law_end7 hL (by omega)).mpr (by omega))⟩
  | succ f ih =>
    intro j x m ex k n hI h1 h2 h3 h4
    by_cases he : (mz_L g : Int) - 7 < (1 + 7 * j : Nat)
    · exact ⟨(0, some (.int 1), ex, (x.H, m.H), k, n), rfl, rfl, by show k ≤ 4000; omega, by show n ≤ 40000; omega, w_end ((law_end7 hL (by omega)).mpr he)⟩
    · have hlt := fun q => he ((law_end7 hL (by omega)).mp q)
      have hin : ∀ t, t ≤ 6 → vp_in (Int32.ofNat (1 + 7 * j + t)) (mz_L g) := fun t ht => i32_in (by omega) (by omega)
      have hadd : ∀ t : Nat, Int32.ofNat (1 + 7 * j) + Int32.ofNat t = Int32.ofNat (1 + 7 * j + t) := fun t => (Int32.ofNat_add _ _).symm
      have hi0 : vp_in (Int32.ofNat (1 + 7 * j)) (mz_L g) := hin 0 (by omega)
      have hi1 : vp_in (Int32.ofNat (1 + 7 * j) + 1) (mz_L g) := by rw [show (1 : Int32) = Int32.ofNat 1 from rfl, hadd]; exact hin 1 (by omega)
      have hi2 : vp_in (Int32.ofNat (1 + 7 * j) + 2) (mz_L g) := by rw [show (2 : Int32) = Int32.ofNat 2 from rfl, hadd]; exact hin 2 (by omega)
      have hi3 : vp_in (Int32.ofNat (1 + 7 * j) + 3) (mz_L g) := by rw [show (3 : Int32) = Int32.ofNat 3 from rfl, hadd]; exact hin 3 (by omega)
      have hi4 : vp_in (Int32.ofNat (1 + 7 * j) + 4) (mz_L g) := by rw [show (4 : Int32) = Int32.ofNat 4 from rfl, hadd]; exact hin 4 (by omega)
      have hi5 : vp_in (Int32.ofNat (1 + 7 * j) + 5) (mz_L g) := by rw [show (5 : Int32) = Int32.ofNat 5 from rfl, hadd]; exact hin 5 (by omega)
      have hi6 : vp_in (Int32.ofNat (1 + 7 * j) + 6) (mz_L g) := by rw [show (6 : Int32) = Int32.ofNat 6 from rfl, hadd]; exact hin 6 (by omega)
      have hi7 : Int32.ofNat (1 + 7 * j) + 7 = Int32.ofNat (1 + 7 * (j + 1)) := by rw [show (7 : Int32) = Int32.ofNat 7 from rfl, hadd]; exact congrArg Int32.ofNat (by omega)
      obtain ⟨y, hy, hyx⟩ := i32_and15 (mz_xs g (Int32.ofNat (1 + 7 * j)).toNatClampNeg)
      have hnext : ∀ (c : Int32) (x' : SX) (m' : SM), Inv x' m' → ∃ S : mz_S, S.1 = 0 ∧ S.2.1 = some (.int 1) ∧ S.2.2.2.2.1 ≤ 4000 ∧ S.2.2.2.2.2 ≤ 40000 ∧ mz_A g M_law_law room_1 (fun S : mz_S => S) 1177 [(4, .int (Int32.ofNat (1 + 7 * j))), (3, .ref 82), (2, .ref 54), (1, .ref 0), (0, .float 0)] [] (mz_xi ex c) (x'.H, m'.H) (k + mz_ki c) (n + mz_6i c) (some S) := by
        intro c x' m' hI'
        have q1 := mz_ki_le c
        have q2 := mz_6i_le c
        obtain ⟨S, z1, z2, z3, z4, z5⟩ := ih (j + 1) x' m' (mz_xi ex c) (k + mz_ki c) (n + mz_6i c) hI' (by omega) (by omega) (by omega) (by omega)
        exact ⟨S, z1, z2, z3, z4, w_inc hi7 z5⟩
      rcases (show y = 0 ∨ y = 1 ∨ y = 2 ∨ y = 3 ∨ y = 4 ∨ y = 5 ∨ y = 6 ∨ y = 7 ∨ y = 8 ∨ y = 9 ∨ y = 10 ∨ y = 11 ∨ y = 12 ∨ y = 13 ∨ y = 14 ∨ y = 15 by omega) with rfl | rfl | rfl | rfl | rfl | rfl | rfl | rfl | rfl | rfl | rfl | rfl | rfl | rfl | rfl | rfl
      · obtain ⟨c, x', m', hS, hI'⟩ := s0 x m _ _ hI
        obtain ⟨S, z1, z2, z3, z4, z5⟩ := hnext c x' m' hI'
        exact ⟨S, z1, z2, z3, z4, w_head0 hi0 hlt hyx (w_collateral hi1 hi2 hi3 hi4 hi5 hi6 (by omega) (by omega) hS z5)⟩
      · obtain ⟨c, x', m', hS, hI'⟩ := s1 x m _ _ _ _ _ _ hI
        obtain ⟨S, z1, z2, z3, z4, z5⟩ := hnext c x' m' hI'
        exact ⟨S, z1, z2, z3, z4, w_head1 hi0 hlt hyx (w_order hi1 hi2 hi3 hi4 hi5 hi6 (by omega) (by omega) hS z5)⟩
      · obtain ⟨c, x', m', hS, hI'⟩ := s2 x m _ _ _ _ _ _ hI
        obtain ⟨S, z1, z2, z3, z4, z5⟩ := hnext c x' m' hI'
        exact ⟨S, z1, z2, z3, z4, w_head2 hi0 hlt hyx (w_block hi1 hi2 hi3 hi4 hi5 hi6 (by omega) (by omega) hS z5)⟩
      · obtain ⟨c, x', m', hS, hI'⟩ := s3 x m _ hI
        obtain ⟨S, z1, z2, z3, z4, z5⟩ := hnext c x' m' hI'
        exact ⟨S, z1, z2, z3, z4, w_head3 hi0 hlt hyx (w_seal hi1 hi2 hi3 hi4 hi5 hi6 (by omega) (by omega) hS z5)⟩
      · obtain ⟨c, x', m', hS, hI'⟩ := s4 x m _ hI
        obtain ⟨S, z1, z2, z3, z4, z5⟩ := hnext c x' m' hI'
        exact ⟨S, z1, z2, z3, z4, w_head4 hi0 hlt hyx (w_liar hi1 hi2 hi3 hi4 hi5 hi6 (by omega) (by omega) hS z5)⟩
      · obtain ⟨c, x', m', hS, hI'⟩ := s5 x m _ _ _ _ hI
        obtain ⟨S, z1, z2, z3, z4, z5⟩ := hnext c x' m' hI'
        exact ⟨S, z1, z2, z3, z4, w_head5 hi0 hlt hyx (w_tell hi1 hi2 hi3 hi4 hi5 hi6 (by omega) (by omega) hS z5)⟩
      · obtain ⟨c, x', m', hS, hI'⟩ := s6 x m hI
        obtain ⟨S, z1, z2, z3, z4, z5⟩ := hnext c x' m' hI'
        exact ⟨S, z1, z2, z3, z4, w_head6 hi0 hlt hyx (w_round hi1 hi2 hi3 hi4 hi5 hi6 (by omega) (by omega) hS z5)⟩
      · obtain ⟨c, x', m', hS, hI'⟩ := s7 x m _ _ _ _ hI
        obtain ⟨S, z1, z2, z3, z4, z5⟩ := hnext c x' m' hI'
        exact ⟨S, z1, z2, z3, z4, w_head7 hi0 hlt hyx (w_vector hi1 hi2 hi3 hi4 hi5 hi6 (by omega) (by omega) hS z5)⟩
      · obtain ⟨c, x', m', hS, hI'⟩ := s8 x m _ hI
        obtain ⟨S, z1, z2, z3, z4, z5⟩ := hnext c x' m' hI'
        exact ⟨S, z1, z2, z3, z4, w_head8 hi0 hlt hyx (w_clear hi1 hi2 hi3 hi4 hi5 hi6 (by omega) (by omega) hS z5)⟩
      · obtain ⟨c, x', m', hS, hI'⟩ := s9 x m _ _ hI
        obtain ⟨S, z1, z2, z3, z4, z5⟩ := hnext c x' m' hI'
        exact ⟨S, z1, z2, z3, z4, w_head9 hi0 hlt hyx (w_price hi1 hi2 hi3 hi4 hi5 hi6 (by omega) (by omega) hS z5)⟩
      · obtain ⟨c, x', m', hS, hI'⟩ := s10 x m _ _ hI
        obtain ⟨S, z1, z2, z3, z4, z5⟩ := hnext c x' m' hI'
        exact ⟨S, z1, z2, z3, z4, w_head10 hi0 hlt hyx (w_traded hi1 hi2 hi3 hi4 hi5 hi6 (by omega) (by omega) hS z5)⟩
      · obtain ⟨c, x', m', hS, hI'⟩ := s11 x m _ _ _ hI
        obtain ⟨S, z1, z2, z3, z4, z5⟩ := hnext c x' m' hI'
        exact ⟨S, z1, z2, z3, z4, w_head11 hi0 hlt hyx (w_fill hi1 hi2 hi3 hi4 hi5 hi6 (by omega) (by omega) hS z5)⟩
      · obtain ⟨c, x', m', hS, hI'⟩ := s12 x m _ hI
        obtain ⟨S, z1, z2, z3, z4, z5⟩ := hnext c x' m' hI'
        exact ⟨S, z1, z2, z3, z4, w_head12 hi0 hlt hyx (w_welfare hi1 hi2 hi3 hi4 hi5 hi6 (by omega) (by omega) hS z5)⟩
      · obtain ⟨c, x', m', hS, hI'⟩ := s13 x m _ _ _ hI
        obtain ⟨S, z1, z2, z3, z4, z5⟩ := hnext c x' m' hI'
        exact ⟨S, z1, z2, z3, z4, w_head13 hi0 hlt hyx (w_meter hi1 hi2 hi3 hi4 hi5 hi6 (by omega) (by omega) hS z5)⟩
      · obtain ⟨c, x', m', hS, hI'⟩ := s14 x m _ _ hI
        obtain ⟨S, z1, z2, z3, z4, z5⟩ := hnext c x' m' hI'
        exact ⟨S, z1, z2, z3, z4, w_head14 hi0 hlt hyx (w_balance hi1 hi2 hi3 hi4 hi5 hi6 (by omega) (by omega) hS z5)⟩
      · obtain ⟨c, x', m', hS, hI'⟩ := s15 x m hI
        obtain ⟨S, z1, z2, z3, z4, z5⟩ := hnext c x' m' hI'
        exact ⟨S, z1, z2, z3, z4, w_head15 hi0 hlt hyx (w_nextDay hi1 hi2 hi3 hi4 hi5 hi6 (by omega) (by omega) hS z5)⟩
