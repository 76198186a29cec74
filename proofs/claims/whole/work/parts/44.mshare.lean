/-! The reference shares what orders at the price get. -/
theorem RL_get {O : List En} {r : En → Int} {j : Nat} (h : j < (RL O r).length) : (RL O r)[j] = (en_s (O.getD j en_0), r (O.getD j en_0)) := by
  have h' : j < O.length := by unfold RL at h; rwa [List.length_map] at h
  have h2 : (RL O r)[j]? = some (en_s (O.getD j en_0), r (O.getD j en_0)) := by
    unfold RL
    rw [List.getElem?_map, List.getD_eq_getElem?_getD, List.getElem?_eq_getElem h']
    rfl
  exact Option.some.inj ((List.getElem?_eq_getElem h).symm.trans h2)
theorem RL_len {O : List En} {r : En → Int} : (RL O r).length = O.length := List.length_map _
theorem pkx {O : List En} {r : En → Int} {b : Nat} (hb : b < O.length) (h0 : 0 ≤ r (O.getD b en_0)) (h1 : ∀ j, j < O.length → r (O.getD j en_0) ≤ r (O.getD b en_0)) (h2 : ∀ j, j < b → r (O.getD j en_0) < r (O.getD b en_0)) : pk (RL O r) = some (en_s (O.getD b en_0), r (O.getD b en_0)) := by
  have hb' : b < (RL O r).length := by rw [RL_len]; exact hb
  rw [pk_first (RL O r) b hb' (by rw [RL_get hb']; exact h0) (fun j hj => by rw [RL_get hj, RL_get hb']; exact h1 j (by rw [RL_len] at hj; exact hj)) (fun j hj hjb => by rw [RL_get hj, RL_get hb']; exact h2 j hjb), RL_get hb']
theorem okS_get {O : List En} (hS : okS O) {i j : Nat} (hi : i < O.length) (hj : j < O.length) (h : en_s (O.getD i en_0) = en_s (O.getD j en_0)) : i = j := by
  have key : ∀ (L : List En), okS L → ∀ i j : Nat, i < j → j < L.length → en_s (L.getD i en_0) ≠ en_s (L.getD j en_0) := by
    intro L hL i j hij hj
    rw [List.getD_eq_getElem?_getD, List.getD_eq_getElem?_getD, List.getElem?_eq_getElem hj, List.getElem?_eq_getElem (show i < L.length by omega)]
    exact List.pairwise_iff_getElem.mp hL i j (by omega) hj hij
  rcases Nat.lt_trichotomy i j with z | z | z
  · exact absurd h (key O hS i j z hj)
  · exact z
  · exact absurd h.symm (key O hS j i z hi)
abbrev mtc (h s : Int) (e : En) : Prop := en_d e = s ∧ en_w e = h
theorem m_best {hs d q l oe be pr tr : Nat → Int32} {nb : Int32} {O : List En} (hO : okO O) (hG : mOrd hs d q l oe O) {h : Nat} (hh : h < 3) {s : Int} (hs01 : s = 0 ∨ s = 1) {r : En → Int} {F : Nat → Int32} {R : Nat → Int64} {x5 : Int64} {K : (Nat → Int32) → (Nat → Int64) → Int64 → Option ((Nat → Int32) × (Nat → Int64))}
    (hR : ∀ k, k < O.length → mtc h s (O.getD k en_0) → (R k).toInt = r (O.getD k en_0)) (hN : ∀ k, k < O.length → ¬ mtc h s (O.getD k en_0) → r (O.getD k en_0) < 0) (hex : ∃ k, k < O.length ∧ 0 ≤ r (O.getD k en_0)) :
    ∃ b, b < O.length ∧ 0 ≤ r (O.getD b en_0) ∧ pk (RL O r) = some (en_s (O.getD b en_0), r (O.getD b en_0)) ∧ f_m_share_L280 hs d q l oe (i3 O.length) be nb pr tr (i3 h) (i3 s) K 1000 F R x5 (-1) 0 = K (upd F b (F b + 1)) (vp_updL R b (-1)) (x5 - 1) := by
  have hlen := hO.2
  refine lpI (fun n a (x11 : Int32) => f_m_share_L280 hs d q l oe (i3 O.length) be nb pr tr (i3 h) (i3 s) K n F R x5 x11 (i3 a)) O.length (fun a x11 => (x11 = -1 ∧ ∀ j, j < a → r (O.getD j en_0) < 0) ∨ (∃ b : Nat, b < a ∧ x11 = i3 b ∧ 0 ≤ r (O.getD b en_0) ∧ (∀ j, j < a → r (O.getD j en_0) ≤ r (O.getD b en_0)) ∧ ∀ j, j < b → r (O.getD j en_0) < r (O.getD b en_0))) (fun Z => ∃ b, b < O.length ∧ 0 ≤ r (O.getD b en_0) ∧ pk (RL O r) = some (en_s (O.getD b en_0), r (O.getD b en_0)) ∧ Z = K (upd F b (F b + 1)) (vp_updL R b (-1)) (x5 - 1)) ?_ ?_ 1000 0 (-1) (by omega) (by omega) (Or.inl ⟨rfl, fun j hj => by omega⟩)
  · intro n a x11 ha hI
    obtain ⟨g1, g2, g3, g4, g5⟩ := hG a ha
    have c1 : ¬ i3 (O.length : Nat) ≤ i3 a := by rw [i3_le (by omega)]; omega
    have c2 : ¬ (i3 (a : Nat) < 0 ∨ 60 ≤ (i3 (a : Nat)).toNatClampNeg) := ix_n (by omega) (by omega)
    have c3 : ¬ (oe a < 0 ∨ 240 ≤ (oe a).toNatClampNeg) := ix_ok (by omega)
    have e1 : d (oe a).toNatClampNeg = i3 s ↔ en_d (O.getD a en_0) = s := by rw [i3n _ (by omega), g2]
    have e2 : hs (oe a).toNatClampNeg = i3 h ↔ en_w (O.getD a en_0) = h := by rw [i3n _ (by omega), g3]
    have keep : r (O.getD a en_0) < 0 ∨ (∃ b : Nat, b < a ∧ x11 = i3 b ∧ 0 ≤ r (O.getD b en_0) ∧ (∀ j, j < a → r (O.getD j en_0) ≤ r (O.getD b en_0)) ∧ (∀ j, j < b → r (O.getD j en_0) < r (O.getD b en_0)) ∧ r (O.getD a en_0) ≤ r (O.getD b en_0)) → (x11 = -1 ∧ ∀ j, j < a + 1 → r (O.getD j en_0) < 0) ∨ (∃ b : Nat, b < a + 1 ∧ x11 = i3 b ∧ 0 ≤ r (O.getD b en_0) ∧ (∀ j, j < a + 1 → r (O.getD j en_0) ≤ r (O.getD b en_0)) ∧ ∀ j, j < b → r (O.getD j en_0) < r (O.getD b en_0)) := by
      intro hk
      rcases hk with z | ⟨b, b1, b2, b3, b4, b5, b6⟩
      · rcases hI with ⟨y1, y2⟩ | ⟨b, b1, b2, b3, b4, b5⟩
        · refine Or.inl ⟨y1, fun j hj => ?_⟩
          by_cases u : j = a
          · rw [u]; exact z
          · exact y2 j (by omega)
        · refine Or.inr ⟨b, by omega, b2, b3, fun j hj => ?_, b5⟩
          by_cases u : j = a
          · rw [u]; omega
          · exact b4 j (by omega)
      · refine Or.inr ⟨b, by omega, b2, b3, fun j hj => ?_, b5⟩
        by_cases u : j = a
        · rw [u]; exact b6
        · exact b4 j (by omega)
    show ∃ s', _ ∧ f_m_share_L280 hs d q l oe (i3 O.length) be nb pr tr (i3 h) (i3 s) K (n + 1) F R x5 x11 (i3 a) = f_m_share_L280 hs d q l oe (i3 O.length) be nb pr tr (i3 h) (i3 s) K n F R x5 s' (i3 ((a + 1 : Nat) : Int))
    rw [f_m_share_L280, if_neg c1, if_neg c2, cl_n (by omega), if_neg c3]
    unfold f_m_share_b359 f_m_share_b355 f_m_share_b360
    rw [if_pos (show (0 : Int32) = 0 from rfl), if_neg n10, i3s]
    by_cases z1 : en_d (O.getD a en_0) = s
    · rw [if_pos (e1.mpr z1)]
      by_cases z2 : en_w (O.getD a en_0) = h
      · rw [if_pos (e2.mpr z2)]
        have hRa := hR a ha ⟨z1, z2⟩
        have l0 : lg_cmp (R a) 0 < 0 ↔ r (O.getD a en_0) < 0 := by rw [lg_lt0, hRa]; rfl
        by_cases z3 : r (O.getD a en_0) < 0
        · rw [if_pos (l0.mpr z3)]
          exact ⟨x11, keep (Or.inl z3), rfl⟩
        · rw [if_neg (fun y => z3 (l0.mp y))]
          rcases hI with ⟨y1, y2⟩ | ⟨b, b1, b2, b3, b4, b5⟩
          · rw [if_pos (by rw [y1]; decide)]
            refine ⟨i3 a, Or.inr ⟨a, by omega, rfl, by omega, fun j hj => ?_, fun j hj => ?_⟩, rfl⟩
            · by_cases u : j = a
              · rw [u]; exact Int.le_refl _
              · have := y2 j (by omega)
                omega
            · have := y2 j hj
              omega
          · have hx0 : ¬ x11 < 0 := by rw [b2]; exact fun y => ix_n (b := 60) (show b < 60 by omega) (by omega) (Or.inl y)
            have hx1 : ¬ (x11 < 0 ∨ 60 ≤ x11.toNatClampNeg) := by rw [b2]; exact ix_n (by omega) (by omega)
            have hbm : mtc h s (O.getD b en_0) := by
              by_cases u : mtc h s (O.getD b en_0)
              · exact u
              · have := hN b (by omega) u
                omega
            have hRb := hR b (by omega) hbm
            have hxb : x11.toNatClampNeg = b := by rw [b2]; exact cl_n (by omega)
            have l1 : lg_cmp (R a) (R b) ≤ 0 ↔ r (O.getD a en_0) ≤ r (O.getD b en_0) := by rw [lg_le0, hRa, hRb]
            rw [if_neg hx0, if_neg hx1, hxb]
            by_cases z4 : r (O.getD a en_0) ≤ r (O.getD b en_0)
            · rw [if_pos (l1.mpr z4)]
              exact ⟨x11, keep (Or.inr ⟨b, b1, b2, b3, b4, b5, z4⟩), rfl⟩
            · rw [if_neg (fun y => z4 (l1.mp y))]
              refine ⟨i3 a, Or.inr ⟨a, by omega, rfl, by omega, fun j hj => ?_, fun j hj => ?_⟩, rfl⟩
              · by_cases u : j = a
                · rw [u]; exact Int.le_refl _
                · have := b4 j (by omega)
                  omega
              · have := b4 j hj
                omega
      · rw [if_neg (fun y => z2 (e2.mp y))]
        exact ⟨x11, keep (Or.inl (hN a ha (fun y => z2 y.2))), rfl⟩
    · rw [if_neg (fun y => z1 (e1.mp y))]
      exact ⟨x11, keep (Or.inl (hN a ha (fun y => z1 y.1))), rfl⟩
  · intro n x11 hI
    rcases hI with ⟨y1, y2⟩ | ⟨b, b1, b2, b3, b4, b5⟩
    · obtain ⟨k, k1, k2⟩ := hex
      have := y2 k k1
      omega
    · refine ⟨b, b1, b3, pkx b1 b3 b4 b5, ?_⟩
      have hx1 : ¬ (x11 < 0 ∨ 60 ≤ x11.toNatClampNeg) := by rw [b2]; exact ix_n (by omega) (by omega)
      have hxb : x11.toNatClampNeg = b := by rw [b2]; exact cl_n (by omega)
      show f_m_share_L280 hs d q l oe (i3 O.length) be nb pr tr (i3 h) (i3 s) K (n + 1) F R x5 x11 (i3 (O.length : Nat)) = _
      rw [f_m_share_L280, if_pos (by rw [i3_le (by omega)]; omega), if_neg hx1, hxb]
theorem nn_ex {O : List En} {r : En → Int} (h : 1 ≤ sumE (fun e => if 0 ≤ r e then 1 else 0) O) : ∃ k, k < O.length ∧ 0 ≤ r (O.getD k en_0) := by
  by_cases z : ∃ k, k < O.length ∧ 0 ≤ r (O.getD k en_0)
  · exact z
  · exfalso
    rw [sumE_smN, smN_0 _ (fun k hk => if_neg (fun y => z ⟨k, hk, y⟩))] at h
    omega
theorem nn_dec {O : List En} (hS : okS O) {r : En → Int} {b : Nat} (hb : b < O.length) (h0 : 0 ≤ r (O.getD b en_0)) : sumE (fun e => if 0 ≤ r e then 1 else 0) O = 1 + sumE (fun e => if 0 ≤ (if en_s e = en_s (O.getD b en_0) then -1 else r e) then 1 else 0) O := by
  have h1 := sum1 (f := fun _ => 1) O hS (getD_mem hb)
  have h2 : sumE (fun e => if 0 ≤ r e then 1 else 0) O = sumE (fun e => if en_s e = en_s (O.getD b en_0) then 1 else 0) O + sumE (fun e => if 0 ≤ (if en_s e = en_s (O.getD b en_0) then -1 else r e) then 1 else 0) O := by
    rw [← sumE_add]
    refine sumE_congr O (fun e he => ?_)
    by_cases z : en_s e = en_s (O.getD b en_0)
    · have := okS_inj hS he (getD_mem hb) z
      rw [this, if_pos h0, if_pos rfl, if_pos rfl, if_neg (by decide)]
      rfl
    · rw [if_neg z, if_neg z, Int.zero_add]
  rw [h2, h1]
theorem m_picks {hs d q l oe be pr tr : Nat → Int32} {nb : Int32} {O : List En} (hO : okO O) (hS : okS O) (hG : mOrd hs d q l oe O) {h : Nat} (hh : h < 3) {s : Int} (hs01 : s = 0 ∨ s = 1) : ∀ (n f : Nat) (r : En → Int) (F : Nat → Int32) (R : Nat → Int64), n < f → n < 1000 → (n : Int) ≤ sumE (fun e => if 0 ≤ r e then 1 else 0) O →
    (∀ k, k < O.length → mtc h s (O.getD k en_0) → (R k).toInt = r (O.getD k en_0)) → (∀ k, k < O.length → ¬ mtc h s (O.getD k en_0) → r (O.getD k en_0) < 0) →
    ∃ F' R', f_m_share_L267 hs d q l oe (i3 O.length) be nb pr tr (i3 h) (i3 s) f F R (i6 n) = some (F', R') ∧ ∀ k, k < O.length → F' k = F k + (if en_s (O.getD k en_0) ∈ pkN n (RL O r) then 1 else 0) := by
  intro n
  induction n with
  | zero =>
    intro f r F R hf _ _ _ _
    obtain ⟨f, rfl⟩ : ∃ g, f = g + 1 := ⟨f - 1, by omega⟩
    refine ⟨F, R, ?_, fun k hk => ?_⟩
    · rw [f_m_share_L267, if_pos (by rw [lg_le0]; decide)]
    · rw [if_neg (show ¬ en_s (O.getD k en_0) ∈ pkN 0 (RL O r) from List.not_mem_nil), Int32.add_zero]
  | succ n ih =>
    intro f r F R hf hn hc hR hN
    obtain ⟨f, rfl⟩ : ∃ g, f = g + 1 := ⟨f - 1, by omega⟩
    obtain ⟨b, b1, b2, b3, b4⟩ := m_best (pr := pr) (tr := tr) (be := be) (nb := nb) (F := F) (x5 := i6 ((n + 1 : Nat) : Int)) (K := f_m_share_L267 hs d q l oe (i3 O.length) be nb pr tr (i3 h) (i3 s) f) hO hG hh hs01 hR hN (nn_ex (by omega))
    have hdec := nn_dec hS b1 b2
    obtain ⟨F', R', k1, k2⟩ := ih f (fun e => if en_s e = en_s (O.getD b en_0) then -1 else r e) (upd F b (F b + 1)) (vp_updL R b (-1)) (by omega) (by omega) (by omega) (by
      intro k hk hm
      show (if k = b then (-1 : Int64) else R k).toInt = if en_s (O.getD k en_0) = en_s (O.getD b en_0) then -1 else r (O.getD k en_0)
      by_cases z : k = b
      · rw [if_pos z, z, if_pos rfl]
        decide
      · rw [if_neg z, if_neg (fun y => z (okS_get hS hk b1 y))]
        exact hR k hk hm) (by
      intro k hk hm
      show (if en_s (O.getD k en_0) = en_s (O.getD b en_0) then -1 else r (O.getD k en_0)) < 0
      have := hN k hk hm
      split <;> omega)
    refine ⟨F', R', ?_, fun k hk => ?_⟩
    · rw [f_m_share_L267, if_neg (by rw [lg_le0, i6_toInt (by omega)]; show ¬ ((n + 1 : Nat) : Int) ≤ 0; omega)]
      refine b4.trans ?_
      rw [show (1 : Int64) = i6 1 from rfl, i6_sub, show ((n + 1 : Nat) : Int) - 1 = (n : Int) by omega]
      exact k1
    · rw [k2 k hk, updf]
      have hpk : pkN (n + 1) (RL O r) = en_s (O.getD b en_0) :: pkN n (RL O (fun e => if en_s e = en_s (O.getD b en_0) then -1 else r e)) := by
        conv => lhs; unfold pkN
        rw [b3]
        show en_s (O.getD b en_0) :: pkN n ((RL O r).map (pkU (en_s (O.getD b en_0)))) = _
        rw [RL_upd]
      rw [hpk]
      by_cases z : k = b
      · have hnot : en_s (O.getD b en_0) ∉ pkN n (RL O (fun e => if en_s e = en_s (O.getD b en_0) then -1 else r e)) := by
          refine pkN_not n _ (fun q hq hqx => ?_)
          obtain ⟨e1, he1, rfl⟩ := List.mem_map.mp hq
          show (if en_s e1 = en_s (O.getD b en_0) then -1 else r e1) < 0
          rw [if_pos hqx]
          decide
        rw [if_pos z, z, if_neg hnot, if_pos (List.mem_cons_self), Int32.add_zero]
      · rw [if_neg z]
        congr 1
        refine ifc ⟨fun y => List.mem_cons.mpr (Or.inr y), fun y => (List.mem_cons.mp y).resolve_left (fun u => z (okS_get hS hk b1 u))⟩
/-- what an order has before the greatest remainders get one more -/
def baF (B O : List En) (S : Nat) (h s : Int) (e : En) : Int := if (if s = 0 then sp_p B O S h < en_l e else en_l e < sp_p B O S h) then en_q e else if en_l e = sp_p B O S h then en_q e * sp_sh B O S h s / sp_all B O S h s else 0
theorem m_f1 {hs d q l oe be pr tr : Nat → Int32} {nb : Int32} {B O : List En} (hO : okO O) (hG : mOrd hs d q l oe O) {S h : Nat} (hh : h < 3) {s : Int} (hs01 : s = 0 ∨ s = 1) (hb : 0 ≤ sp_sh B O S h s ∧ sp_sh B O S h s ≤ sp_all B O S h s) (hsh : sp_sh B O S h s ≤ 68000) (hall : sp_all B O S h s ≤ 68000) (F : Nat → Int32) (R : Nat → Int64) (A : Int) {n a : Nat} (ha : a < O.length) :
    f_m_share_L59 hs d q l oe (i3 O.length) be nb pr tr (i3 h) (i3 s) (n + 1) F R (i3 (sp_p B O S h)) (i6 (sp_sh B O S h s - A)) (i6 (sp_sh B O S h s)) (i6 (sp_all B O S h s)) (i3 a) = f_m_share_L59 hs d q l oe (i3 O.length) be nb pr tr (i3 h) (i3 s) n (if mtc h s (O.getD a en_0) then upd F a (i3 (baF B O S h s (O.getD a en_0))) else F) (if mtc h s (O.getD a en_0) then vp_updL R a (i6 (remF B O S h s (O.getD a en_0))) else R) (i3 (sp_p B O S h)) (i6 (sp_sh B O S h s - (A + (if atP B O S h s (O.getD a en_0) then en_q (O.getD a en_0) * sp_sh B O S h s / sp_all B O S h s else 0)))) (i6 (sp_sh B O S h s)) (i6 (sp_all B O S h s)) (i3 ((a + 1 : Nat) : Int)) := by
  have hlen := hO.2
  have hpb := sp_p_bd B O S h
  obtain ⟨g1, g2, g3, g4, g5⟩ := hG a ha
  have hmem := getD_mem ha
  obtain ⟨⟨k1, k2, k3, k4⟩, k5⟩ := hO.1 _ hmem
  have c1 : ¬ i3 (O.length : Nat) ≤ i3 a := by rw [i3_le (by omega)]; omega
  have c2 : ¬ (i3 (a : Nat) < 0 ∨ 60 ≤ (i3 (a : Nat)).toNatClampNeg) := ix_n (by omega) (by omega)
  have c3 : ¬ (oe a < 0 ∨ 240 ≤ (oe a).toNatClampNeg) := ix_ok (by omega)
  have e1 : d (oe a).toNatClampNeg = i3 s ↔ en_d (O.getD a en_0) = s := by rw [i3n _ (by omega), g2]
  have e2 : hs (oe a).toNatClampNeg = i3 h ↔ en_w (O.getD a en_0) = h := by rw [i3n _ (by omega), g3]
  have e3 : l (oe a).toNatClampNeg = i3 (sp_p B O S h) ↔ en_l (O.getD a en_0) = sp_p B O S h := by rw [i3n _ (by omega), g5]
  have e4 : l (oe a).toNatClampNeg ≤ i3 (sp_p B O S h) ↔ en_l (O.getD a en_0) ≤ sp_p B O S h := by rw [Int32.le_iff_toInt_le, i3_toInt (by omega), g5]
  have e5 : i3 (sp_p B O S h) ≤ l (oe a).toNatClampNeg ↔ sp_p B O S h ≤ en_l (O.getD a en_0) := by rw [Int32.le_iff_toInt_le, i3_toInt (by omega), g5]
  have eq' : q (oe a).toNatClampNeg = i3 (en_q (O.getD a en_0)) := by rw [i3_of (q (oe a).toNatClampNeg), g4]
  have eq6 : Int32.toInt64 (q (oe a).toNatClampNeg) = i6 (en_q (O.getD a en_0)) := by rw [eq', i3_long (by omega)]
  rw [f_m_share_L59, if_neg c1, if_neg c2, cl_n (by omega), if_neg c3]
  by_cases hmt : mtc h s (O.getD a en_0)
  · obtain ⟨z1, z2⟩ := id hmt
    rw [if_pos (e1.mpr z1), if_pos (e2.mpr z2), if_pos hmt, if_pos hmt]
    by_cases z3 : en_l (O.getD a en_0) = sp_p B O S h
    · -- at the price
      have hat : atP B O S h s (O.getD a en_0) := ⟨z1, z2, z3⟩
      have hapos : 0 < sp_all B O S h s := by
        rw [all_eq hs01]
        have hnn : ∀ L : List En, (∀ e ∈ L, 1 ≤ en_q e) → ∀ e ∈ L, atP B O S h s e → 1 ≤ sumE (fun e => if atP B O S h s e then en_q e else 0) L := by
          intro L
          induction L with
          | nil => intro _ e he; cases he
          | cons a t ih =>
            intro hL e he hat
            have hn2 : 0 ≤ sumE (fun e => if atP B O S h s e then en_q e else 0) t := sumE_nn t (fun u hu => by have := hL u (List.mem_cons_of_mem _ hu); split <;> omega)
            show 1 ≤ (if atP B O S h s a then en_q a else 0) + sumE (fun e => if atP B O S h s e then en_q e else 0) t
            have ha := hL a (List.mem_cons_self)
            rcases List.mem_cons.mp he with rfl | he
            · rw [if_pos hat]
              omega
            · have := ih (fun u hu => hL u (List.mem_cons_of_mem _ hu)) e he hat
              split <;> omega
        have := hnn O (fun e he => (hO.1 e he).1.2.1.1) _ hmem hat
        omega
      have hprod : 0 ≤ en_q (O.getD a en_0) * sp_sh B O S h s := Int.mul_nonneg (by omega) hb.1
      have hprod2 : en_q (O.getD a en_0) * sp_sh B O S h s ≤ 68000000 := by
        have h1 : en_q (O.getD a en_0) * sp_sh B O S h s ≤ 1000 * sp_sh B O S h s := Int.mul_le_mul_of_nonneg_right (by omega) hb.1
        omega
      have hdiv : i6 (en_q (O.getD a en_0)) * i6 (sp_sh B O S h s) / i6 (sp_all B O S h s) = i6 (en_q (O.getD a en_0) * sp_sh B O S h s / sp_all B O S h s) := by
        rw [i6_mul, i6_div (by omega), Int.tdiv_eq_ediv_of_nonneg hprod]
      have hq0 : 0 ≤ en_q (O.getD a en_0) * sp_sh B O S h s / sp_all B O S h s := Int.ediv_nonneg hprod (by omega)
      have hq1 : en_q (O.getD a en_0) * sp_sh B O S h s / sp_all B O S h s ≤ en_q (O.getD a en_0) * sp_sh B O S h s := Int.ediv_le_self _ hprod
      have hbav : baF B O S h s (O.getD a en_0) = en_q (O.getD a en_0) * sp_sh B O S h s / sp_all B O S h s := by
        unfold baF
        rw [if_neg (by split <;> omega), if_pos z3]
      have hrem : remF B O S h s (O.getD a en_0) = en_q (O.getD a en_0) * sp_sh B O S h s % sp_all B O S h s := if_pos hat
      have hx9 : ¬ i6 (sp_all B O S h s) = 0 := by
        rw [show (0 : Int64) = i6 0 from rfl, i6_eq (by omega)]
        omega
      rw [if_pos (e3.mpr z3), if_pos hat]
      have hb116 : f_m_share_b116 hs d q l oe (i3 O.length) be nb pr tr (i3 h) (i3 s) (f_m_share_L59 hs d q l oe (i3 O.length) be nb pr tr (i3 h) (i3 s) n) F R (i3 (sp_p B O S h)) (i6 (sp_sh B O S h s - A)) (i6 (sp_sh B O S h s)) (i6 (sp_all B O S h s)) (i3 a) (oe a) 1 = f_m_share_b159 hs d q l oe (i3 O.length) be nb pr tr (i3 h) (i3 s) (f_m_share_L59 hs d q l oe (i3 O.length) be nb pr tr (i3 h) (i3 s) n) F R (i3 (sp_p B O S h)) (i6 (sp_sh B O S h s - A)) (i6 (sp_sh B O S h s)) (i6 (sp_all B O S h s)) (i3 a) (oe a) 1 0 := by
        unfold f_m_share_b116
        rcases hs01 with rfl | rfl
        · rw [if_pos (show i3 0 = 0 from rfl), if_neg c3, if_pos (e4.mpr (by omega))]
        · rw [if_neg (show ¬ i3 1 = 0 by decide), if_neg c3, if_pos (e5.mpr (by omega))]
      rw [hb116]
      unfold f_m_share_b159
      rw [if_pos (show (0 : Int32) = 0 from rfl), if_neg n10, if_neg c3, if_neg hx9, eq6, hdiv, i6_int]
      unfold f_m_share_b206
      rw [if_neg c2, if_neg n10, if_neg c3, if_neg hx9, eq6, hdiv, i6_mul, i6_mul, i6_sub, cl_n (by omega)]
      unfold f_m_share_b238
      rw [if_neg c2, if_neg n10, if_neg c2, cl_n (by omega), updf, if_pos rfl, i3_long (by omega), i6_sub, i3s]
      rw [hbav, hrem, Int.emod_def, Int.mul_comm (sp_all B O S h s), Int.sub_sub]
    · have hnat : ¬ atP B O S h s (O.getD a en_0) := fun y => z3 y.2.2
      have hrem : remF B O S h s (O.getD a en_0) = -1 := if_neg hnat
      rw [if_neg (fun y => z3 (e3.mp y)), if_neg hnat, Int.add_zero]
      have hb206 : ∀ v : Int32, f_m_share_b206 hs d q l oe (i3 O.length) be nb pr tr (i3 h) (i3 s) (f_m_share_L59 hs d q l oe (i3 O.length) be nb pr tr (i3 h) (i3 s) n) F R (i3 (sp_p B O S h)) (i6 (sp_sh B O S h s - A)) (i6 (sp_sh B O S h s)) (i6 (sp_all B O S h s)) (i3 a) (oe a) 0 (i3 a) v = f_m_share_L59 hs d q l oe (i3 O.length) be nb pr tr (i3 h) (i3 s) n (upd F a v) (vp_updL R a (-1)) (i3 (sp_p B O S h)) (i6 (sp_sh B O S h s - A)) (i6 (sp_sh B O S h s)) (i6 (sp_all B O S h s)) (i3 ((a + 1 : Nat) : Int)) := by
        intro v
        unfold f_m_share_b206
        rw [if_neg c2, if_pos rfl]
        unfold f_m_share_b238
        rw [if_neg c2, if_pos rfl, cl_n (by omega), i3s, Int64.sub_zero]
      have hyes : (if s = 0 then sp_p B O S h < en_l (O.getD a en_0) else en_l (O.getD a en_0) < sp_p B O S h) → f_m_share_b116 hs d q l oe (i3 O.length) be nb pr tr (i3 h) (i3 s) (f_m_share_L59 hs d q l oe (i3 O.length) be nb pr tr (i3 h) (i3 s) n) F R (i3 (sp_p B O S h)) (i6 (sp_sh B O S h s - A)) (i6 (sp_sh B O S h s)) (i6 (sp_all B O S h s)) (i3 a) (oe a) 0 = f_m_share_L59 hs d q l oe (i3 O.length) be nb pr tr (i3 h) (i3 s) n (upd F a (q (oe a).toNatClampNeg)) (vp_updL R a (-1)) (i3 (sp_p B O S h)) (i6 (sp_sh B O S h s - A)) (i6 (sp_sh B O S h s)) (i6 (sp_all B O S h s)) (i3 ((a + 1 : Nat) : Int)) := by
        intro hy
        unfold f_m_share_b116 f_m_share_b159
        rcases hs01 with rfl | rfl
        · rw [if_pos rfl] at hy
          rw [if_pos (show i3 0 = 0 from rfl), if_neg c3, if_neg (fun y => by have := e4.mp y; omega), if_neg n10, if_neg c3, hb206]
        · rw [if_neg (by decide)] at hy
          rw [if_neg (show ¬ i3 1 = 0 by decide), if_neg c3, if_neg (fun y => by have := e5.mp y; omega), if_neg n10, if_neg c3, hb206]
      have hnot : ¬ (if s = 0 then sp_p B O S h < en_l (O.getD a en_0) else en_l (O.getD a en_0) < sp_p B O S h) → f_m_share_b116 hs d q l oe (i3 O.length) be nb pr tr (i3 h) (i3 s) (f_m_share_L59 hs d q l oe (i3 O.length) be nb pr tr (i3 h) (i3 s) n) F R (i3 (sp_p B O S h)) (i6 (sp_sh B O S h s - A)) (i6 (sp_sh B O S h s)) (i6 (sp_all B O S h s)) (i3 a) (oe a) 0 = f_m_share_L59 hs d q l oe (i3 O.length) be nb pr tr (i3 h) (i3 s) n (upd F a 0) (vp_updL R a (-1)) (i3 (sp_p B O S h)) (i6 (sp_sh B O S h s - A)) (i6 (sp_sh B O S h s)) (i6 (sp_all B O S h s)) (i3 ((a + 1 : Nat) : Int)) := by
        intro hy
        unfold f_m_share_b116 f_m_share_b159
        rcases hs01 with rfl | rfl
        · rw [if_pos rfl] at hy
          rw [if_pos (show i3 0 = 0 from rfl), if_neg c3, if_pos (e4.mpr (by omega)), if_pos rfl, if_pos rfl, hb206]
        · rw [if_neg (by decide)] at hy
          rw [if_neg (show ¬ i3 1 = 0 by decide), if_neg c3, if_pos (e5.mpr (by omega)), if_pos rfl, if_pos rfl, hb206]
      by_cases z4 : (if s = 0 then sp_p B O S h < en_l (O.getD a en_0) else en_l (O.getD a en_0) < sp_p B O S h)
      · rw [hyes z4, eq', hrem, show baF B O S h s (O.getD a en_0) = en_q (O.getD a en_0) from if_pos z4]
        rfl
      · rw [hnot z4, hrem, show baF B O S h s (O.getD a en_0) = 0 by unfold baF; rw [if_neg z4, if_neg z3]]
        rfl
  · rw [if_neg hmt, if_neg hmt, if_neg (fun y : atP B O S h s (O.getD a en_0) => hmt ⟨y.1, y.2.1⟩), Int.add_zero, i3s]
    by_cases z1 : en_d (O.getD a en_0) = s
    · rw [if_pos (e1.mpr z1), if_neg (fun y => hmt ⟨z1, e2.mp y⟩)]
    · rw [if_neg (fun y => z1 (e1.mp y))]
theorem m_floors {hs d q l oe be pr tr : Nat → Int32} {nb : Int32} {B O : List En} (hO : okO O) (hG : mOrd hs d q l oe O) {S h : Nat} (hh : h < 3) {s : Int} (hs01 : s = 0 ∨ s = 1) (hm : sp_lo B O S h ≤ sp_hi B O S h) (hsh : sp_sh B O S h s ≤ 68000) (hall : sp_all B O S h s ≤ 68000) (F : Nat → Int32) (R : Nat → Int64) :
    ∃ F' R', f_m_share_L59 hs d q l oe (i3 O.length) be nb pr tr (i3 h) (i3 s) 1000 F R (i3 (sp_p B O S h)) (i6 (sp_sh B O S h s)) (i6 (sp_sh B O S h s)) (i6 (sp_all B O S h s)) 0 = f_m_share_L267 hs d q l oe (i3 O.length) be nb pr tr (i3 h) (i3 s) 1000 F' R' (i6 (sp_left B O S h s)) ∧
      (∀ k, k < O.length → mtc h s (O.getD k en_0) → F' k = i3 (baF B O S h s (O.getD k en_0)) ∧ R' k = i6 (remF B O S h s (O.getD k en_0))) ∧ (∀ k, k < O.length → ¬ mtc h s (O.getD k en_0) → F' k = F k) := by
  have hlen := hO.2
  have hb := sh_bd hO (S := S) hm hs01
  have hpb := sp_p_bd B O S h
  have hdef : sp_left B O S h s = sp_sh B O S h s - smN (fun k => if atP B O S h s (O.getD k en_0) then en_q (O.getD k en_0) * sp_sh B O S h s / sp_all B O S h s else 0) O.length := by
    rw [← sumE_smN (f := fun e => if atP B O S h s e then en_q e * sp_sh B O S h s / sp_all B O S h s else 0)]
    rfl
  rw [hdef]
  have key : ∀ (n a : Nat) (z : (Nat → Int32) × (Nat → Int64)), a ≤ O.length → O.length - a < n → ((∀ k, k < O.length → mtc h s (O.getD k en_0) → k < a → z.1 k = i3 (baF B O S h s (O.getD k en_0)) ∧ z.2 k = i6 (remF B O S h s (O.getD k en_0))) ∧ (∀ k, k < O.length → ¬ mtc h s (O.getD k en_0) → z.1 k = F k)) → ∃ F' R', f_m_share_L59 hs d q l oe (i3 O.length) be nb pr tr (i3 h) (i3 s) n z.1 z.2 (i3 (sp_p B O S h)) (i6 (sp_sh B O S h s - smN (fun k => if atP B O S h s (O.getD k en_0) then en_q (O.getD k en_0) * sp_sh B O S h s / sp_all B O S h s else 0) a)) (i6 (sp_sh B O S h s)) (i6 (sp_all B O S h s)) (i3 a) = f_m_share_L267 hs d q l oe (i3 O.length) be nb pr tr (i3 h) (i3 s) 1000 F' R' (i6 (sp_sh B O S h s - smN (fun k => if atP B O S h s (O.getD k en_0) then en_q (O.getD k en_0) * sp_sh B O S h s / sp_all B O S h s else 0) O.length)) ∧ (∀ k, k < O.length → mtc h s (O.getD k en_0) → F' k = i3 (baF B O S h s (O.getD k en_0)) ∧ R' k = i6 (remF B O S h s (O.getD k en_0))) ∧ (∀ k, k < O.length → ¬ mtc h s (O.getD k en_0) → F' k = F k) := by
    intro n
    induction n with
    | zero => intro a z h1 h2; omega
    | succ n ih =>
      intro a z h1 h2 hI
      by_cases hae : a = O.length
      · subst hae
        refine ⟨z.1, z.2, ?_, fun k hk hmk => hI.1 k hk hmk hk, hI.2⟩
        rw [f_m_share_L59, if_pos (by rw [i3_le (by omega)]; omega)]
      · have ha : a < O.length := by omega
        rw [m_f1 hO hG hh hs01 hb hsh hall z.1 z.2 _ ha]
        refine ih (a + 1) (if mtc h s (O.getD a en_0) then upd z.1 a (i3 (baF B O S h s (O.getD a en_0))) else z.1, if mtc h s (O.getD a en_0) then vp_updL z.2 a (i6 (remF B O S h s (O.getD a en_0))) else z.2) (by omega) (by omega) ⟨fun k hk hmk hka => ?_, fun k hk hmk => ?_⟩
        · by_cases u : k = a
          · subst u
            show (if mtc h s (O.getD k en_0) then upd z.1 k (i3 (baF B O S h s (O.getD k en_0))) else z.1) k = _ ∧ (if mtc h s (O.getD k en_0) then vp_updL z.2 k (i6 (remF B O S h s (O.getD k en_0))) else z.2) k = _
            rw [if_pos hmk, if_pos hmk]
            exact ⟨if_pos rfl, if_pos rfl⟩
          · have := hI.1 k hk hmk (by omega)
            show (if mtc h s (O.getD a en_0) then upd z.1 a (i3 (baF B O S h s (O.getD a en_0))) else z.1) k = _ ∧ (if mtc h s (O.getD a en_0) then vp_updL z.2 a (i6 (remF B O S h s (O.getD a en_0))) else z.2) k = _
            by_cases w : mtc h s (O.getD a en_0)
            · rw [if_pos w, if_pos w]
              exact ⟨(if_neg u).trans this.1, (if_neg u).trans this.2⟩
            · rw [if_neg w, if_neg w]
              exact this
        · have := hI.2 k hk hmk
          show (if mtc h s (O.getD a en_0) then upd z.1 a (i3 (baF B O S h s (O.getD a en_0))) else z.1) k = F k
          by_cases w : mtc h s (O.getD a en_0)
          · rw [if_pos w]
            exact (if_neg (fun u : k = a => hmk (u ▸ w))).trans this
          · rw [if_neg w]
            exact this
  have k0 := key 1000 0 (F, R) (by omega) (by omega) ⟨fun k _ _ hk => by omega, fun k _ _ => rfl⟩
  rw [show smN (fun k => if atP B O S h s (O.getD k en_0) then en_q (O.getD k en_0) * sp_sh B O S h s / sp_all B O S h s else 0) 0 = 0 from rfl, Int.sub_zero] at k0
  exact k0
