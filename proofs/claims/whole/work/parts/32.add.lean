/-- an entry that comes to a book -/
theorem iv_b_add {c c' : Nat → Int32} {e e' : Nat → Int64} {w ib hs d d' q q' l l' : Nat → Int32} (hb : iv_b c c' e e' w ib hs d d' q q' l l') {b : Nat} (hb24 : b < 24) (hc : (c b).toInt < 10) {W bl h s Q L : Int32} {N : Int64} (hW : W = h + (if bl = 0 then 0 else 100)) (hbl : bl = 0 ∨ bl = 1) (hok : okW W.toInt) (hs1 : s.toInt = 0 ∨ s.toInt = 1) (hQ : 1 ≤ Q.toInt ∧ Q.toInt ≤ 1000) (hL : -5000 ≤ L.toInt ∧ L.toInt ≤ 40000) (hh : (bl = 0 ∧ 0 ≤ h.toInt ∧ h.toInt ≤ 2) ∨ (bl = 1 ∧ 0 ≤ h.toInt ∧ h.toInt ≤ 10)) (hN : 0 ≤ N.toInt ∧ N.toInt ≤ 1000000000) :
    iv_b (upd c b (c b + 1)) (upd c' b (c b + 1)) (vp_updL e b N) (vp_updL e' b N) (upd w (10 * b + (c b).toInt.toNat) W) (upd ib (10 * b + (c b).toInt.toNat) bl) (upd hs (10 * b + (c b).toInt.toNat) h) (upd d (10 * b + (c b).toInt.toNat) s) (upd d' (10 * b + (c b).toInt.toNat) s) (upd q (10 * b + (c b).toInt.toNat) Q) (upd q' (10 * b + (c b).toInt.toNat) Q) (upd l (10 * b + (c b).toInt.toNat) L) (upd l' (10 * b + (c b).toInt.toNat) L) := by
  obtain ⟨⟨rfl, rfl, rfl, rfl, rfl⟩, hw, hib, hc10, hc24, hn, hv⟩ := hb
  have hcb := hc10 b
  have hc1 : (c b + 1).toInt = (c b).toInt + 1 := by rw [Int32.toInt_add, show (1 : Int32).toInt = 1 from rfl, Int.bmod_eq_of_le (by omega) (by omega)]
  refine ⟨⟨rfl, rfl, rfl, rfl, rfl⟩, ?_, ?_, ?_, ?_, ?_, ?_⟩
  · funext k
    rw [updf, updf, updf]
    by_cases z : k = 10 * b + (c b).toInt.toNat
    · rw [if_pos z, if_pos z, if_pos z]
      exact hW
    · rw [if_neg z, if_neg z, if_neg z, hw]
  · intro k
    rw [updf]
    split
    · exact hbl
    · exact hib k
  · intro k
    rw [updf]
    split
    · rw [hc1]
      omega
    · exact hc10 k
  · intro k hk
    have z : ¬ k = b := by omega
    rw [updf, if_neg z]
    refine ⟨(hc24 k hk).1, ?_⟩
    show (if k = b then N else e k) = 0
    rw [if_neg z]
    exact (hc24 k hk).2
  · intro k
    show 0 ≤ (if k = b then N else e k).toInt ∧ (if k = b then N else e k).toInt ≤ 1000000000
    split
    · exact hN
    · exact hn k
  · intro b' i hb' hi
    have hcb' := hc10 b'
    by_cases z : 10 * b' + i = 10 * b + (c b).toInt.toNat
    · unfold en_at
      simp only [updf, if_pos z]
      exact ⟨⟨hs1, hQ, hL, hok⟩, hh⟩
    · unfold en_at
      simp only [updf, if_neg z]
      refine hv b' i hb' ?_
      rw [updf] at hi
      by_cases y : b' = b
      · rw [if_pos y, hc1] at hi
        subst y
        omega
      · rw [if_neg y] at hi
        exact hi
