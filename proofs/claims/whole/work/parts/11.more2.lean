section
variable {β γ : Type} {g : mz_G} {M M' : mz_I} {R : Room} {res : β → mz_S} {res' : γ → mz_S} {pc d' : Nat} {lv lv' : List (Nat × Value)} {as st st0 : List Value} {ex : Bool} {h h2 : mz_H} {k n : Nat} {F F1 F2 : Option β} {F' : Option γ}
/-- a call whose end is known -/
theorem mz_goK {lv : List (Nat × Value)} {r' : γ} (hM : mz_M g M' d' as ex h F' res') (hF : F' = some r') (h0 : (res' r').1 = 0) (hU : mz_U M') (hV : mz_V g M M' R h k n pc lv as st st0) (hc : (st.map fun v => v.category).sum ≤ 8) (hr : d' + 1 ≤ R.frames ∧ 38 + 38 * d' ≤ R.locals ∧ k + 200 * d' ≤ R.cells ∧ n + 20000 * d' ≤ R.slots)
    (kk : mz_A g M R res (pc + 3) lv ((res' r').2.1.toList ++ st) (res' r').2.2.1 (res' r').2.2.2.1 (k + (res' r').2.2.2.2.1) (n + (res' r').2.2.2.2.2) F) : mz_A g M R res pc lv st0 ex h k n F := by
  intro r hr9 p e s m args below meth c C0 H locs ls hR hX hS hl T hT X
  obtain ⟨V, L, X2, hR2, hX2, hS2, hcase⟩ := mz_do (hM r' hF) hU hV hc hr.1 hr.2.1 hr.2.2.1 hr.2.2.2 C0 hR hX hS hl.1 hT X
  rcases hcase with ⟨-, h1⟩ | ⟨h1, -⟩
  · obtain ⟨t, a1, b1⟩ := kk r hr9 p e s m args below meth c C0 V.heap (locs ++ L) ls hR2 hX2 hS2 hl V rfl X2
    exact ⟨t, h1 t a1, b1⟩
  · exact absurd h0 h1
theorem mz_pushM {hT l : List mz_E} (hl : hT.length = 54) (e : mz_E) : mz_push (hT, l) e = (hT, l ++ [e]) := by
  unfold mz_push
  rw [if_neg (by show ¬ hT.length < 54; omega)]
theorem mz_nM {hT l : List mz_E} (hl : hT.length = 54) {i : Nat} (hi : 54 + l.length = i) : mz_n (hT, l) = i := by
  unfold mz_n
  rw [hl]
  exact hi
theorem mz_chgA {cA : ClassId} {nn : Nat} {f f' : Nat → Value} (hf : ∀ j, j < nn → f j = f' j) : arrV cA nn f = arrV cA nn f' := by
  unfold arrV
  congr 1
  apply Array.ext
  · simp
  · intro i h1 h2
    simp at h1 h2 ⊢
    exact hf i h1
/-- a row of references under another name -/
theorem mr_conv {a t0 nn : Nat} {f f' : Nat → Option Nat} (hg : mz_get h a = some (.inl (t0, nn, .inr (.inr (.inr (.inr f)))))) (hf : ∀ j, j < nn → f j = f' j) (hh : mz_set h a (.inl (t0, nn, .inr (.inr (.inr (.inr f'))))) = h2)
    (kk : mz_A g M R res pc lv st ex h2 k n F) : mz_A g M R res pc lv st ex h k n F := by
  intro r hr p e s m args below meth c C0 H locs ls hR hX hS hl
  subst hh
  refine kk r hr p e s m args below meth c C0 H locs ls ?_ (fun z => by rw [mz_n_set]; exact hX z) hS hl
  refine hR.put hg ?_ (fun _ _ => rfl)
  have h1 := hR a _ hg
  show H[mz_b g + a]? = some (vp_cell _ (nn, .inr (.inr (.inr (.inr (fun j => (f' j).map (fun i => mz_b g + i)))))))
  have h2 : H[mz_b g + a]? = some (vp_cell (g.1.2 t0) (nn, .inr (.inr (.inr (.inr (fun j => (f j).map (fun i => mz_b g + i))))))) := h1
  rw [h2, vp_cell_q, vp_cell_q]
  congr 1
  exact mz_chgA (fun j hj => by rw [hf j hj])
theorem mr_icmp_geT {x y : Int32} {off : Int} {tgt : Nat} (d : decode (mz_c M) pc = .ok (.if_icmp .ge off, 3)) (ht : (pc : Int) + off = (tgt : Int)) (hc : y ≤ x) (kt : mz_A g M R res tgt lv st ex h k n F) : mz_A g M R res pc lv (.int y :: .int x :: st) ex h k n F := by
  have q := mr_icmp_ge (x := x) (y := y) (F1 := F) (F2 := none) d ht kt mr_none
  rw [if_pos hc] at q
  exact q
theorem mr_icmp_geF {x y : Int32} {off : Int} {tgt : Nat} (d : decode (mz_c M) pc = .ok (.if_icmp .ge off, 3)) (ht : (pc : Int) + off = (tgt : Int)) (hc : ¬ y ≤ x) (kf : mz_A g M R res (pc + 3) lv st ex h k n F) : mz_A g M R res pc lv (.int y :: .int x :: st) ex h k n F := by
  have q := mr_icmp_ge (x := x) (y := y) (F1 := none) (F2 := F) d ht mr_none kf
  rw [if_neg hc] at q
  exact q
theorem mr_icmp_gtT {x y : Int32} {off : Int} {tgt : Nat} (d : decode (mz_c M) pc = .ok (.if_icmp .gt off, 3)) (ht : (pc : Int) + off = (tgt : Int)) (hc : y < x) (kt : mz_A g M R res tgt lv st ex h k n F) : mz_A g M R res pc lv (.int y :: .int x :: st) ex h k n F := by
  have q := mr_icmp_gt (x := x) (y := y) (F1 := F) (F2 := none) d ht kt mr_none
  rw [if_pos hc] at q
  exact q
theorem mr_icmp_gtF {x y : Int32} {off : Int} {tgt : Nat} (d : decode (mz_c M) pc = .ok (.if_icmp .gt off, 3)) (ht : (pc : Int) + off = (tgt : Int)) (hc : ¬ y < x) (kf : mz_A g M R res (pc + 3) lv st ex h k n F) : mz_A g M R res pc lv (.int y :: .int x :: st) ex h k n F := by
  have q := mr_icmp_gt (x := x) (y := y) (F1 := none) (F2 := F) d ht mr_none kf
  rw [if_neg hc] at q
  exact q
theorem mr_icmp_eqT {x y : Int32} {off : Int} {tgt : Nat} (d : decode (mz_c M) pc = .ok (.if_icmp .eq off, 3)) (ht : (pc : Int) + off = (tgt : Int)) (hc : x = y) (kt : mz_A g M R res tgt lv st ex h k n F) : mz_A g M R res pc lv (.int y :: .int x :: st) ex h k n F := by
  have q := mr_icmp_eq (x := x) (y := y) (F1 := F) (F2 := none) d ht kt mr_none
  rw [if_pos hc] at q
  exact q
theorem mr_if_eqT {x : Int32} {off : Int} {tgt : Nat} (d : decode (mz_c M) pc = .ok (.ifCond .eq off, 3)) (ht : (pc : Int) + off = (tgt : Int)) (hc : x = 0) (kt : mz_A g M R res tgt lv st ex h k n F) : mz_A g M R res pc lv (.int x :: st) ex h k n F := by
  have q := mr_if_eq (x := x) (F1 := F) (F2 := none) d ht kt mr_none
  rw [if_pos hc] at q
  exact q
theorem mr_if_neT {x : Int32} {off : Int} {tgt : Nat} (d : decode (mz_c M) pc = .ok (.ifCond .ne off, 3)) (ht : (pc : Int) + off = (tgt : Int)) (hc : ¬ x = 0) (kt : mz_A g M R res tgt lv st ex h k n F) : mz_A g M R res pc lv (.int x :: st) ex h k n F := by
  have q := mr_if_ne (x := x) (F1 := none) (F2 := F) d ht kt mr_none
  rw [if_neg hc] at q
  exact q
theorem mr_if_neF {x : Int32} {off : Int} {tgt : Nat} (d : decode (mz_c M) pc = .ok (.ifCond .ne off, 3)) (ht : (pc : Int) + off = (tgt : Int)) (hc : x = 0) (kf : mz_A g M R res (pc + 3) lv st ex h k n F) : mz_A g M R res pc lv (.int x :: st) ex h k n F := by
  have q := mr_if_ne (x := x) (F1 := F) (F2 := none) d ht mr_none kf
  rw [if_pos hc] at q
  exact q
end
theorem mp_int (U : State) (cA cB : ClassId) (h1 : va_RA U cA .int) (h2 : U.vm.findClass ("[" ++ (FieldType.int).toString) = some cB) : cB = cA := Option.some.inj (h2.symm.trans h1)
theorem mp_long (U : State) (cA cB : ClassId) (h1 : va_RA U cA .long) (h2 : U.vm.findClass ("[" ++ (FieldType.long).toString) = some cB) : cB = cA := Option.some.inj (h2.symm.trans h1)
theorem mp_boolean (U : State) (cA cB : ClassId) (h1 : va_RA U cA .boolean) (h2 : U.vm.findClass ("[" ++ (FieldType.boolean).toString) = some cB) : cB = cA := Option.some.inj (h2.symm.trans h1)
