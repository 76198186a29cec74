section
variable {β : Type} {g : mz_G} {M : mz_I} {R : Room} {res : β → mz_S} {ex : Bool} {h h2 : mz_H} {F : Option β}
/-- the same for a method of a class that has natives -/
theorem mz_ofF {d : Nat} {as : List Value} (hp : plainFor (mz_y M) = true) (ha : (lg_sl as).length ≤ mz_m M) (w : mz_A g M (mz_rm d) res 0 (lv_args 0 as) [] ex h 0 0 F) : mz_M g M d as ex h F res := by
  intro r hr
  refine MetFree.of_bodySF (code := mz_c M) (maxLocals := mz_m M) (ret := mz_r M) hp ?_ ?_
  · intro args s m hpre hn
    obtain ⟨m9, meth, c, h0, h1, h2, h3, h4, -, h5, h6, -⟩ := mz_code (M := M) (atoms_spec (ws := mz_ws M) hpre _ List.mem_cons_self)
    cases hn.symm.trans h0
    exact ⟨meth, c, h1, h2, h3, h4, h5, h6⟩
  · intro p e s m args below meth c s₁ B hml hP _
    obtain ⟨rfl, hN, hb1, hb2, hR, hX⟩ := hP
    have hh0 : s₁.heap = s.heap := by rw [B.state]; rfl
    have hts : ∀ w ∈ mz_ws M, w.before _ s = true := atoms_spec (ws := mz_ws M) B.pre
    have htb : c.exceptionTable.toList = tableOf (mz_h M) := by
      obtain ⟨m9, meth9, c9, h0, h1, h2, -, -, h6, -⟩ := mz_code (M := M) (hts _ List.mem_cons_self)
      cases h0.symm.trans B.named
      cases h1.symm.trans B.method
      cases h2.symm.trans (Stand.of_body B).code
      exact h6
    have C0 : mz_C g M p s m (as.map (mz_cv g)).toArray meth c := ⟨B.exec, B.bytes, B.returns, hml, findClass_of_methodNamed B.named, fun w hw => hts w (List.mem_cons_of_mem _ hw), B.notSynchronized, htb, (name_of_methodNamed B.named B.method).1, hN, hb1, hb2⟩
    have hsl : (lg_sl (as.map (mz_cv g))).length = (lg_sl as).length := by
      clear hR hX B htb hts C0 w ha
      induction as with
      | nil => rfl
      | cons v t ih =>
        simp only [lg_sl, List.map_cons, List.flatMap_cons, List.length_append] at ih ⊢
        rw [ih, mz_cat]
        split <;> rfl
    have hla : ∀ (t : List Value) (i : Nat), lv_args i (t.map (mz_cv g)) = mz_lc g (lv_args i t) := by
      intro t
      induction t with
      | nil => intro i; rfl
      | cons v t ih =>
        intro i
        simp only [List.map_cons, lv_args, mz_lc, mz_cat]
        rw [ih]
    have hl := lv_entry (as.map (mz_cv g)) (n := mz_m M) (by rw [hsl]; exact ha)
    rw [hla] at hl
    have K := w r hr p e s m _ below meth c C0 s.heap [] _ hR hX va_S.rf hl
    have K : W p (mz_l g) e (mz_rm d) s m (as.map (mz_cv g)).toArray below meth c s.heap [] 0 0 (mz_Z g (res r) below s) (entryFrame m (as.map (mz_cv g)).toArray (mz_m M)) := by
      rw [lg_entry_eq]
      exact K
    obtain ⟨t, a1, o, b1, b2, b3⟩ := K s₁ hh0 (Stand.of_body B)
    exact ⟨t, o, a1, b1, b2, b3⟩
end
