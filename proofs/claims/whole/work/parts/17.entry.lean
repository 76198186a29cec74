theorem en_lays {A : Array Value} {s V : State} {O f d : String} (hW : s.WarmedH V.vm) (hk : ∀ q : Nat, q < s.heap.size → V.heap[q]? = s.heap[q]?) (h : (Cond.laysStatic O f d).before A s = true) (B : Array Value) : (Cond.laysStatic O f d).before B V = true := by
  obtain ⟨c, k, i, fd, a, cell, hc, hi, hst, ha, hcell, hs, hcls, hlt, hty⟩ := Cond.laysStatic_spec h
  obtain ⟨k', hi', hek⟩ := State.fieldFound?_setVm hW.alike hi
  exact Cond.laysStatic_of (s := V) (by rw [hW.alike.findClass]; exact hc) hi' hst (by rw [hek]; exact ha) (by rw [hk a (Array.getElem?_eq_some_iff.mp hcell).1]; exact hcell) hs hcls hlt (by rw [hek]; exact hty)
theorem en_isRef {A : Array Value} {s V : State} {O f d : String} (hW : s.WarmedH V.vm) (hk : ∀ q : Nat, q < s.heap.size → V.heap[q]? = s.heap[q]?) (h : (Cond.isRef (.static O f d)).before A s = true) (B : Array Value) : (Cond.isRef (.static O f d)).before B V = true := by
  obtain ⟨v, hv, hr⟩ := Cond.isRef_spec h
  cases hi : s.fieldFound? O f d with
  | none => simp [Term.eval, State.fieldNamed?, hi] at hv
  | some w =>
    obtain ⟨c, k, i, fd⟩ := w
    obtain ⟨hst, a, cell, ha, hcell, -, hslot⟩ := Term.static_spec hi hv
    have hs : cell.vm.isStatics = true := by
      simp only [Term.eval, State.fieldNamed?, hi, Option.bind_eq_bind, Option.bind_some, hst, beq_self_eq_true, if_true, Option.pure_def, ha, hcell] at hv
      by_cases h' : cell.vm.isStatics = true
      · exact h'
      · simp [h'] at hv
    obtain ⟨k', hi', hek⟩ := State.fieldFound?_setVm hW.alike hi
    have he : (Term.static O f d).eval B V none [] V = some v := Term.static_eval (s := V) hi' hst (by rw [hek]; exact ha) (by rw [hk a (Array.getElem?_eq_some_iff.mp hcell).1]; exact hcell) hs hslot
    cases v <;> first | (simp [Value.isRef] at hr; done) | simp [Cond.before, Cond.holds, Cond.value, he]
theorem en_arr {A : Array Value} {s : State} {ty : FieldType} (hty : ∀ C, ty ≠ .object C) (h : (Cond.arrayClass ty).before A s = true) : ∃ cA : ClassId, ArrOfT s cA ty ∧ va_RA s cA ty := by
  obtain ⟨c, k, comp, h1, h2, h3⟩ := Cond.arrayClass_spec h
  refine ⟨c, fun n z => ⟨fun k h => (by cases h), k, h2, comp, h3⟩, ?_⟩
  cases ty with
  | object C => exact absurd rfl (hty C)
  | _ => exact h1
theorem en_arrO {s : State} {C : String} (h : va_AO C s) : ∃ cA : ClassId, ArrOfT s cA (.object C) ∧ va_RA s cA (.object C) := by
  obtain ⟨comp, c, k, h1, h2, h3, h4, h5⟩ := Cond.arrayOver_spec h
  exact ⟨c, fun n z => ⟨fun k h => (by cases h), k, h3, comp, h4⟩, k, comp, h3, h4, h1, h5⟩
theorem en_str {A : Array Value} {s : State} {own tx : String} {k : Nat} (h : (Cond.stringRef own k tx).before A s = true) : ∃ a, vk_R own k tx a s := by
  have hcur : ∃ cur, s.vm.findClass own = some cur := by
    have h1 := h
    simp only [Cond.before, Cond.holds, Cond.value] at h1
    cases hc : s.vm.findClass own with
    | none => simp [hc] at h1
    | some cur => exact ⟨cur, rfl⟩
  obtain ⟨cur, hcur⟩ := hcur
  obtain ⟨-, -, -, a, -, -, -, -, -, hev⟩ := Cond.stringRef_spec hcur h
  exact ⟨a, vk_R.of h hev⟩
theorem en_NW {A : Array Value} {s : State} (hts : ∀ w ∈ lw_tbl, w.before A s = true) : ∀ w ∈ mz_NW, va_Nw w s := by
  unfold mz_NW
  exact (List.forall_mem_cons.mpr ⟨va_Nw.of rfl (hts _ (List.mem_of_getElem? (i := 80) (by decide +kernel))), (List.forall_mem_cons.mpr ⟨va_Nw.of rfl (hts _ (List.mem_of_getElem? (i := 81) (by decide +kernel))), (List.forall_mem_cons.mpr ⟨va_Nw.of rfl (hts _ (List.mem_of_getElem? (i := 84) (by decide +kernel))), (List.forall_mem_cons.mpr ⟨va_Nw.of rfl (hts _ (List.mem_of_getElem? (i := 86) (by decide +kernel))), (List.forall_mem_cons.mpr ⟨va_Nw.of rfl (hts _ (List.mem_of_getElem? (i := 87) (by decide +kernel))), (List.forall_mem_cons.mpr ⟨va_Nw.of rfl (hts _ (List.mem_of_getElem? (i := 89) (by decide +kernel))), (List.forall_mem_cons.mpr ⟨va_Nw.of rfl (hts _ (List.mem_of_getElem? (i := 91) (by decide +kernel))), (List.forall_mem_cons.mpr ⟨va_Nw.of rfl (hts _ (List.mem_of_getElem? (i := 124) (by decide +kernel))), (List.forall_mem_cons.mpr ⟨va_Nw.of rfl (hts _ (List.mem_of_getElem? (i := 126) (by decide +kernel))), (List.forall_mem_cons.mpr ⟨va_Nw.of rfl (hts _ (List.mem_of_getElem? (i := 161) (by decide +kernel))), (List.forall_mem_cons.mpr ⟨va_Nw.of rfl (hts _ (List.mem_of_getElem? (i := 167) (by decide +kernel))), (List.forall_mem_cons.mpr ⟨va_Nw.of rfl (hts _ (List.mem_of_getElem? (i := 170) (by decide +kernel))), (List.forall_mem_cons.mpr ⟨va_Nw.of rfl (hts _ (List.mem_of_getElem? (i := 237) (by decide +kernel))), (List.forall_mem_cons.mpr ⟨va_Nw.of rfl (hts _ (List.mem_of_getElem? (i := 238) (by decide +kernel))), (List.forall_mem_cons.mpr ⟨va_Nw.of rfl (hts _ (List.mem_of_getElem? (i := 240) (by decide +kernel))), (List.forall_mem_cons.mpr ⟨va_Nw.of rfl (hts _ (List.mem_of_getElem? (i := 241) (by decide +kernel))), (List.forall_mem_cons.mpr ⟨va_Nw.of rfl (hts _ (List.mem_of_getElem? (i := 243) (by decide +kernel))), (List.forall_mem_cons.mpr ⟨va_Nw.of rfl (hts _ (List.mem_of_getElem? (i := 244) (by decide +kernel))), (List.forall_mem_cons.mpr ⟨va_Nw.of rfl (hts _ (List.mem_of_getElem? (i := 245) (by decide +kernel))), (List.forall_mem_cons.mpr ⟨va_Nw.of rfl (hts _ (List.mem_of_getElem? (i := 246) (by decide +kernel))), (List.forall_mem_cons.mpr ⟨va_Nw.of rfl (hts _ (List.mem_of_getElem? (i := 247) (by decide +kernel))), (List.forall_mem_cons.mpr ⟨va_Nw.of rfl (hts _ (List.mem_of_getElem? (i := 248) (by decide +kernel))), (List.forall_mem_cons.mpr ⟨va_Nw.of rfl (hts _ (List.mem_of_getElem? (i := 249) (by decide +kernel))), (List.forall_mem_cons.mpr ⟨va_Nw.of rfl (hts _ (List.mem_of_getElem? (i := 250) (by decide +kernel))), (List.forall_mem_cons.mpr ⟨va_Nw.of rfl (hts _ (List.mem_of_getElem? (i := 323) (by decide +kernel))), (List.forall_mem_cons.mpr ⟨va_Nw.of rfl (hts _ (List.mem_of_getElem? (i := 390) (by decide +kernel))), (fun _ h => nomatch h)⟩)⟩)⟩)⟩)⟩)⟩)⟩)⟩)⟩)⟩)⟩)⟩)⟩)⟩)⟩)⟩)⟩)⟩)⟩)⟩)⟩)⟩)⟩)⟩)⟩)⟩)
theorem en_NWm {s V : State} (hW : s.WarmedH V.vm) (h : ∀ w ∈ mz_NW, va_Nw w s) : ∀ w ∈ mz_NW, va_Nw w V := by
  unfold mz_NW at h ⊢
  have q0 := h _ (List.mem_of_getElem? (i := 0) rfl)
  have q1 := h _ (List.mem_of_getElem? (i := 1) rfl)
  have q2 := h _ (List.mem_of_getElem? (i := 2) rfl)
  have q3 := h _ (List.mem_of_getElem? (i := 3) rfl)
  have q4 := h _ (List.mem_of_getElem? (i := 4) rfl)
  have q5 := h _ (List.mem_of_getElem? (i := 5) rfl)
  have q6 := h _ (List.mem_of_getElem? (i := 6) rfl)
  have q7 := h _ (List.mem_of_getElem? (i := 7) rfl)
  have q8 := h _ (List.mem_of_getElem? (i := 8) rfl)
  have q9 := h _ (List.mem_of_getElem? (i := 9) rfl)
  have q10 := h _ (List.mem_of_getElem? (i := 10) rfl)
  have q11 := h _ (List.mem_of_getElem? (i := 11) rfl)
  have q12 := h _ (List.mem_of_getElem? (i := 12) rfl)
  have q13 := h _ (List.mem_of_getElem? (i := 13) rfl)
  have q14 := h _ (List.mem_of_getElem? (i := 14) rfl)
  have q15 := h _ (List.mem_of_getElem? (i := 15) rfl)
  have q16 := h _ (List.mem_of_getElem? (i := 16) rfl)
  have q17 := h _ (List.mem_of_getElem? (i := 17) rfl)
  have q18 := h _ (List.mem_of_getElem? (i := 18) rfl)
  have q19 := h _ (List.mem_of_getElem? (i := 19) rfl)
  have q20 := h _ (List.mem_of_getElem? (i := 20) rfl)
  have q21 := h _ (List.mem_of_getElem? (i := 21) rfl)
  have q22 := h _ (List.mem_of_getElem? (i := 22) rfl)
  have q23 := h _ (List.mem_of_getElem? (i := 23) rfl)
  have q24 := h _ (List.mem_of_getElem? (i := 24) rfl)
  have q25 := h _ (List.mem_of_getElem? (i := 25) rfl)
  exact (List.forall_mem_cons.mpr ⟨va_Nw.warmF hW q0, (List.forall_mem_cons.mpr ⟨va_Nw.warmF hW q1, (List.forall_mem_cons.mpr ⟨va_Nw.warmF hW q2, (List.forall_mem_cons.mpr ⟨va_Nw.warmF hW q3, (List.forall_mem_cons.mpr ⟨va_Nw.warmF hW q4, (List.forall_mem_cons.mpr ⟨va_Nw.warmF hW q5, (List.forall_mem_cons.mpr ⟨va_Nw.warmF hW q6, (List.forall_mem_cons.mpr ⟨va_Nw.warmF hW q7, (List.forall_mem_cons.mpr ⟨va_Nw.warmF hW q8, (List.forall_mem_cons.mpr ⟨va_Nw.warmF hW q9, (List.forall_mem_cons.mpr ⟨va_Nw.warmF hW q10, (List.forall_mem_cons.mpr ⟨va_Nw.warmF hW q11, (List.forall_mem_cons.mpr ⟨va_Nw.warmF hW q12, (List.forall_mem_cons.mpr ⟨va_Nw.warmF hW q13, (List.forall_mem_cons.mpr ⟨va_Nw.warmF hW q14, (List.forall_mem_cons.mpr ⟨va_Nw.warmF hW q15, (List.forall_mem_cons.mpr ⟨va_Nw.warmF hW q16, (List.forall_mem_cons.mpr ⟨va_Nw.warmF hW q17, (List.forall_mem_cons.mpr ⟨va_Nw.warmF hW q18, (List.forall_mem_cons.mpr ⟨va_Nw.warmF hW q19, (List.forall_mem_cons.mpr ⟨va_Nw.warmF hW q20, (List.forall_mem_cons.mpr ⟨va_Nw.warmF hW q21, (List.forall_mem_cons.mpr ⟨va_Nw.warmF hW q22, (List.forall_mem_cons.mpr ⟨va_Nw.warmF hW q23, (List.forall_mem_cons.mpr ⟨va_Nw.warmC hW q24, (List.forall_mem_cons.mpr ⟨va_Nw.warmC hW q25, (fun _ h => nomatch h)⟩)⟩)⟩)⟩)⟩)⟩)⟩)⟩)⟩)⟩)⟩)⟩)⟩)⟩)⟩)⟩)⟩)⟩)⟩)⟩)⟩)⟩)⟩)⟩)⟩)⟩)
theorem en_SL {A : Array Value} {s : State} (hts : ∀ w ∈ lw_tbl, w.before A s = true) : ∀ q ∈ mz_SL, ∃ a, vk_R q.1 q.2.1 q.2.2 a s := by
  unfold mz_SL
  exact (List.forall_mem_cons.mpr ⟨en_str (hts _ (List.mem_of_getElem? (i := 361) (by decide +kernel))), (List.forall_mem_cons.mpr ⟨en_str (hts _ (List.mem_of_getElem? (i := 397) (by decide +kernel))), (List.forall_mem_cons.mpr ⟨en_str (hts _ (List.mem_of_getElem? (i := 414) (by decide +kernel))), (List.forall_mem_cons.mpr ⟨en_str (hts _ (List.mem_of_getElem? (i := 426) (by decide +kernel))), (List.forall_mem_cons.mpr ⟨en_str (hts _ (List.mem_of_getElem? (i := 427) (by decide +kernel))), (List.forall_mem_cons.mpr ⟨en_str (hts _ (List.mem_of_getElem? (i := 454) (by decide +kernel))), (List.forall_mem_cons.mpr ⟨en_str (hts _ (List.mem_of_getElem? (i := 462) (by decide +kernel))), (List.forall_mem_cons.mpr ⟨en_str (hts _ (List.mem_of_getElem? (i := 463) (by decide +kernel))), (List.forall_mem_cons.mpr ⟨en_str (hts _ (List.mem_of_getElem? (i := 471) (by decide +kernel))), (List.forall_mem_cons.mpr ⟨en_str (hts _ (List.mem_of_getElem? (i := 476) (by decide +kernel))), (List.forall_mem_cons.mpr ⟨en_str (hts _ (List.mem_of_getElem? (i := 488) (by decide +kernel))), (List.forall_mem_cons.mpr ⟨en_str (hts _ (List.mem_of_getElem? (i := 493) (by decide +kernel))), (List.forall_mem_cons.mpr ⟨en_str (hts _ (List.mem_of_getElem? (i := 498) (by decide +kernel))), (List.forall_mem_cons.mpr ⟨en_str (hts _ (List.mem_of_getElem? (i := 520) (by decide +kernel))), (List.forall_mem_cons.mpr ⟨en_str (hts _ (List.mem_of_getElem? (i := 567) (by decide +kernel))), (List.forall_mem_cons.mpr ⟨en_str (hts _ (List.mem_of_getElem? (i := 568) (by decide +kernel))), (List.forall_mem_cons.mpr ⟨en_str (hts _ (List.mem_of_getElem? (i := 573) (by decide +kernel))), (List.forall_mem_cons.mpr ⟨en_str (hts _ (List.mem_of_getElem? (i := 718) (by decide +kernel))), (List.forall_mem_cons.mpr ⟨en_str (hts _ (List.mem_of_getElem? (i := 723) (by decide +kernel))), (List.forall_mem_cons.mpr ⟨en_str (hts _ (List.mem_of_getElem? (i := 738) (by decide +kernel))), (List.forall_mem_cons.mpr ⟨en_str (hts _ (List.mem_of_getElem? (i := 739) (by decide +kernel))), (List.forall_mem_cons.mpr ⟨en_str (hts _ (List.mem_of_getElem? (i := 756) (by decide +kernel))), (List.forall_mem_cons.mpr ⟨en_str (hts _ (List.mem_of_getElem? (i := 764) (by decide +kernel))), (fun _ h => nomatch h)⟩)⟩)⟩)⟩)⟩)⟩)⟩)⟩)⟩)⟩)⟩)⟩)⟩)⟩)⟩)⟩)⟩)⟩)⟩)⟩)⟩)⟩)⟩)
theorem en_ST {A : Array Value} {s V : State} (hW : s.WarmedH V.vm) (hk : ∀ q : Nat, q < s.heap.size → V.heap[q]? = s.heap[q]?) (hts : ∀ w ∈ lw_tbl, w.before A s = true) (hg0 : (Jvm.Cond.and given_1 narrow_1).before A s = true) : ∀ w ∈ mz_ST, ∀ B : Array Value, w.before B V = true := by
  have hg := flat_of_before _ hg0
  unfold mz_ST
  exact (List.forall_mem_cons.mpr ⟨en_isRef hW hk (hg _ (by decide +kernel)), (List.forall_mem_cons.mpr ⟨en_isRef hW hk (hg _ (by decide +kernel)), (List.forall_mem_cons.mpr ⟨en_lays hW hk (hts _ (List.mem_of_getElem? (i := 348) (by decide +kernel))), (List.forall_mem_cons.mpr ⟨en_lays hW hk (hts _ (List.mem_of_getElem? (i := 350) (by decide +kernel))), (List.forall_mem_cons.mpr ⟨(fun B => va_Nw.use rfl (va_Nw.warmD hW (va_Nw.of rfl (hts _ (List.mem_of_getElem? (i := 325) (by decide +kernel)))))), (List.forall_mem_cons.mpr ⟨(fun B => va_Nw.use rfl (va_Nw.warmD hW (va_Nw.of rfl (hts _ (List.mem_of_getElem? (i := 327) (by decide +kernel)))))), (List.forall_mem_cons.mpr ⟨(fun B => va_Nw.use rfl (va_Nw.warmD hW (va_Nw.of rfl (hts _ (List.mem_of_getElem? (i := 329) (by decide +kernel)))))), (List.forall_mem_cons.mpr ⟨(fun B => va_Nw.use rfl (va_Nw.warmC hW (va_Nw.of rfl (hts _ (List.mem_of_getElem? (i := 323) (by decide +kernel)))))), (List.forall_mem_cons.mpr ⟨(fun B => va_Nw.use rfl (va_Nw.warmC hW (va_Nw.of rfl (hts _ (List.mem_of_getElem? (i := 390) (by decide +kernel)))))), (fun _ h => nomatch h)⟩)⟩)⟩)⟩)⟩)⟩)⟩)⟩)⟩)
theorem en_NC {A : Array Value} {s : State} (hg0 : (Jvm.Cond.and given_1 narrow_1).before A s = true) : ∀ q ∈ mz_NC, va_Nc q.1 q.2 s := by
  have hg := flat_of_before _ hg0
  unfold mz_NC
  exact List.forall_mem_cons.mpr ⟨va_Nc.of (hg _ (by decide +kernel)), (fun _ h => nomatch h)⟩
theorem en_AO {A : Array Value} {s : State} (hts : ∀ w ∈ lw_tbl, w.before A s = true) : ∀ C ∈ mz_AO, va_AO C s := by
  unfold mz_AO
  exact (List.forall_mem_cons.mpr ⟨va_AO.of (hts _ (List.mem_of_getElem? (i := 149) (by decide +kernel))), (List.forall_mem_cons.mpr ⟨va_AO.of (hts _ (List.mem_of_getElem? (i := 230) (by decide +kernel))), (fun _ h => nomatch h)⟩)⟩)
/-- the constants of a run, out of the law's entry -/
theorem en_g {A : Array Value} {s : State} {b L : Nat} {xs : Nat → Int32} (l : Launch) (hts : ∀ w ∈ lw_tbl, w.before A s = true) (hg0 : (Jvm.Cond.and given_1 narrow_1).before A s = true) (hX : va_X b L xs s s.heap) (hbl : b < s.heap.size) :
    ∃ g : mz_G, g.2 = ((s.heap.size, b, L, xs), l) ∧ mz_N g s s.heap := by
  have hbig : ∀ w ∈ mz_big, w.before A s = true := fun w hw => hts w (List.mem_filter.mp hw).1
  obtain ⟨c0, i0, h0⟩ := u_known hbig K_ag.2.1 (hbig _ in2_ag)
  obtain ⟨c1, i1, h1⟩ := u_known hbig K_bk.2.1 (hbig _ in2_bk)
  obtain ⟨c2, i2, h2⟩ := u_known hbig K_c.2.1 (hbig _ in2_c)
  obtain ⟨c3, i3, h3⟩ := u_known hbig K_mk.2.1 (hbig _ in2_mk)
  obtain ⟨c4, i4, h4⟩ := u_known hbig K_o.2.1 (hbig _ in2_o)
  obtain ⟨c5, i5, h5⟩ := u_known hbig K_x.2.1 (hbig _ in2_x)
  obtain ⟨c6, i6, h6⟩ := u_known hbig K_m.2.1 (hbig _ in2_m)
  obtain ⟨a0, p0, r0⟩ := en_arr (ty := .int) (fun _ q => by cases q) (hbig _ lkA_int)
  obtain ⟨a1, p1, r1⟩ := en_arr (ty := .long) (fun _ q => by cases q) (hbig _ lkA_long)
  obtain ⟨a2, p2, r2⟩ := en_arr (ty := .boolean) (fun _ q => by cases q) (hbig _ lkA_boolean)
  have hao := en_AO hts
  obtain ⟨a3, p3, r3⟩ := en_arrO (hao "AuctionHour$Curve" (by decide))
  obtain ⟨a4, p4, r4⟩ := en_arrO (hao "AuctionHour$Outcome" (by decide))
  let D : va_G := (fun ci => match ci with | 0 => c0 | 1 => c1 | 2 => c2 | 3 => c3 | 4 => c4 | 5 => c5 | _ => c6, fun ci => match ci with | 0 => i0 | 1 => i1 | 2 => i2 | 3 => i3 | 4 => i4 | 5 => i5 | _ => i6)
  let ci : Nat → ClassId := fun k => match k with | 0 => a0 | 1 => a1 | 2 => a2 | 3 => a3 | _ => a4
  refine ⟨((D, ci), (s.heap.size, b, L, xs), l), rfl, ?_⟩
  have hK : va_K D mz_CL (mz_ty ((D, ci), (s.heap.size, b, L, xs), l)) s := by
    constructor
    · intro c q hq
      match c, hq with
      | 0, hq => cases hq; exact h0
      | 1, hq => cases hq; exact h1
      | 2, hq => cases hq; exact h2
      | 3, hq => cases hq; exact h3
      | 4, hq => cases hq; exact h4
      | 5, hq => cases hq; exact h5
      | 6, hq => cases hq; exact h6
      | c + 7, hq => exact absurd hq (by simp [mz_CL])
    · intro k q hq
      match k, hq with
      | 0, hq => cases hq; exact ⟨p0, r0⟩
      | 1, hq => cases hq; exact ⟨p1, r1⟩
      | 2, hq => cases hq; exact ⟨p2, r2⟩
      | 3, hq => cases hq; exact ⟨p3, r3⟩
      | 4, hq => cases hq; exact ⟨p4, r4⟩
      | c + 5, hq => exact absurd hq (by simp [mz_ty])
  have hnw := en_NW hts
  have hsl := en_SL hts
  have hnc := en_NC hg0
  intro V hW hk
  have hk : ∀ q : Nat, q < s.heap.size → V.heap[q]? = s.heap[q]? := hk
  refine ⟨va_K.moved hW.alike hK, en_NWm hW hnw, fun q hq => ?_, fun q hq => va_Nc.moved hW.alike (hnc q hq), fun C hC => va_AO.moved hW.alike (hao C hC), ?_, en_ST hW hk hts hg0⟩
  · obtain ⟨a, ha⟩ := hsl q hq
    exact ⟨a, vk_R.warm hW ha⟩
  · exact (va_X.moved hW.alike hX).kept (hk b hbl)
