/-! The abstract machine: cells by numbers, one heap for all methods. A method's walk (mz_A) speaks of the pure function F that its road computes; no address, no table, no room but numbers. -/
abbrev mz_E : Type := (Nat × vp_A) ⊕ (Nat × List Value)
abbrev mz_H : Type := List mz_E × List mz_E
def mz_get (h : mz_H) (i : Nat) : Option mz_E := if i < 54 then h.1[i]? else h.2[i - 54]?
def mz_set (h : mz_H) (i : Nat) (e : mz_E) : mz_H := if i < 54 then (h.1.set i e, h.2) else (h.1, h.2.set (i - 54) e)
def mz_n (h : mz_H) : Nat := h.1.length + h.2.length
theorem mz_get_set {h : mz_H} {i : Nat} {e e' : mz_E} (hi : mz_get h i = some e) (j : Nat) : mz_get (mz_set h i e') j = if j = i then some e' else mz_get h j := by
  unfold mz_get at hi
  unfold mz_get mz_set
  by_cases h1 : i < 54
  · rw [if_pos h1] at hi ⊢
    have hl := (List.getElem?_eq_some_iff.mp hi).1
    by_cases h2 : j < 54
    · rw [if_pos h2, if_pos h2]
      by_cases h3 : j = i
      · subst h3
        rw [if_pos rfl]
        simp [hl]
      · rw [if_neg h3, List.getElem?_set_ne (fun q => h3 q.symm)]
    · rw [if_neg h2, if_neg h2, if_neg (by omega)]
  · rw [if_neg h1] at hi ⊢
    have hl := (List.getElem?_eq_some_iff.mp hi).1
    by_cases h2 : j < 54
    · rw [if_pos h2, if_pos h2, if_neg (by omega)]
    · rw [if_neg h2, if_neg h2]
      by_cases h3 : j = i
      · subst h3
        rw [if_pos rfl]
        simp [hl]
      · rw [if_neg h3, List.getElem?_set_ne (by omega)]
theorem mz_n_set (h : mz_H) (i : Nat) (e : mz_E) : mz_n (mz_set h i e) = mz_n h := by
  unfold mz_n mz_set
  split <;> simp
/-- what stays the same during the law's run: the classes' numbers and slots, the array classes, the first own address, the script's address, length and ints, the launch -/
abbrev mz_G : Type := (va_G × (Nat → ClassId)) × (Nat × Nat × Nat × (Nat → Int32)) × Launch
abbrev mz_b (g : mz_G) : Nat := g.2.1.1
abbrev mz_bs (g : mz_G) : Nat := g.2.1.2.1
abbrev mz_L (g : mz_G) : Nat := g.2.1.2.2.1
abbrev mz_xs (g : mz_G) : Nat → Int32 := g.2.1.2.2.2
abbrev mz_l (g : mz_G) : Launch := g.2.2
/-- a value: a reference is a cell's number; the script is written as a float (this program has none) -/
def mz_cv (g : mz_G) (v : Value) : Value := match v with
  | .ref i => .ref (mz_b g + i)
  | .float _ => .ref (mz_bs g)
  | v => v
def mz_ca (g : mz_G) (a : vp_A) : vp_A := match a with
  | (n, .inr (.inr (.inr (.inr f)))) => (n, .inr (.inr (.inr (.inr (fun j => (f j).map (fun i => mz_b g + i))))))
  | a => a
def mz_ce (g : mz_G) (e : mz_E) : va_E := match e with
  | .inl (k, a) => .inl (g.1.2 k, mz_ca g a)
  | .inr (c, fs) => .inr (c, fs.map (mz_cv g))
def mz_R (g : mz_G) (h : mz_H) (H : Heap) : Prop := ∀ (i : Nat) (e : mz_E), mz_get h i = some e → va_at g.1.1 mz_CL (mz_b g + i, mz_ce g e) H
abbrev mz_fr (g : mz_G) : Nat → Prop := fun q => mz_b g ≤ q
theorem mz_cat (g : mz_G) (v : Value) : (mz_cv g v).category = v.category := by cases v <;> rfl
theorem mz_R.put {g : mz_G} {h : mz_H} {H H1 : Heap} {i : Nat} {e e' : mz_E} (hR : mz_R g h H) (hi : mz_get h i = some e) (hn : va_at g.1.1 mz_CL (mz_b g + i, mz_ce g e') H1) (oq : ∀ q : Nat, q ≠ mz_b g + i → H1[q]? = H[q]?) : mz_R g (mz_set h i e') H1 := by
  intro j x hj
  rw [mz_get_set hi] at hj
  by_cases hji : j = i
  · rw [if_pos hji] at hj
    cases hj
    subst hji
    exact hn
  · rw [if_neg hji] at hj
    exact (hR j x hj).kept (oq _ (by show mz_b g + j ≠ mz_b g + i; omega))
theorem mz_R.kept {g : mz_G} {h : mz_H} {H H1 : Heap} (hR : mz_R g h H) (oq : ∀ q : Nat, q < H.size → H1[q]? = H[q]?) : mz_R g h H1 := fun i e hi => (hR i e hi).kept (oq _ ((hR i e hi).lt))
/-- a new cell: its number is the number of cells so far -/
def mz_push (h : mz_H) (e : mz_E) : mz_H := if h.1.length < 54 then (h.1 ++ [e], h.2) else (h.1, h.2 ++ [e])
/-- the cells are numbered without a gap -/
def mz_ok (h : mz_H) : Prop := (h.1.length < 54 ∧ h.2 = []) ∨ h.1.length = 54
theorem mz_get_push {h : mz_H} (hk : mz_ok h) (e : mz_E) (j : Nat) : mz_get (mz_push h e) j = if j = mz_n h then some e else mz_get h j := by
  unfold mz_get mz_push mz_n
  obtain ⟨a, b⟩ := h
  rcases hk with ⟨h1, h2⟩ | h1
  · dsimp only at h1 h2 ⊢
    subst h2
    rw [if_pos h1]
    dsimp only
    by_cases h3 : j < 54
    · rw [if_pos h3, if_pos h3]
      by_cases h4 : j = a.length
      · subst h4
        simp
      · rw [if_neg (by simpa using h4)]
        by_cases h5 : j < a.length
        · rw [List.getElem?_append_left h5]
        · rw [List.getElem?_eq_none (by simp; omega), List.getElem?_eq_none (by omega)]
    · rw [if_neg h3, if_neg h3, if_neg (by simp; omega)]
  · dsimp only at h1 ⊢
    rw [if_neg (show ¬ a.length < 54 by omega)]
    dsimp only
    by_cases h3 : j < 54
    · rw [if_pos h3, if_pos h3, if_neg (by omega)]
    · rw [if_neg h3, if_neg h3]
      by_cases h4 : j = a.length + b.length
      · rw [if_pos h4, show j - 54 = b.length by omega]
        simp
      · rw [if_neg h4]
        by_cases h5 : j - 54 < b.length
        · rw [List.getElem?_append_left h5]
        · rw [List.getElem?_eq_none (by simp; omega), List.getElem?_eq_none (by omega)]
theorem mz_n_push (h : mz_H) (e : mz_E) : mz_n (mz_push h e) = mz_n h + 1 := by
  unfold mz_n mz_push
  split <;> simp <;> omega
theorem mz_R.new {g : mz_G} {h : mz_H} {H H1 : Heap} {e : mz_E} (hR : mz_R g h H) (hk : mz_ok h) (hz : H.size = mz_b g + mz_n h) (hn : va_at g.1.1 mz_CL (H.size, mz_ce g e) H1) (oq : ∀ q : Nat, q < H.size → H1[q]? = H[q]?) : mz_R g (mz_push h e) H1 := by
  intro j x hj
  rw [mz_get_push hk] at hj
  by_cases hji : j = mz_n h
  · rw [if_pos hji] at hj
    cases hj
    subst hji
    rw [← hz]
    exact hn
  · rw [if_neg hji] at hj
    exact (hR j x hj).kept (oq _ ((hR j x hj).lt))
abbrev mz_ty (g : mz_G) : List (ClassId × FieldType) := [(g.1.2 0, .int), (g.1.2 1, .long), (g.1.2 2, .boolean), (g.1.2 3, .object "AuctionHour$Curve"), (g.1.2 4, .object "AuctionHour$Outcome")]
/-- a method: its name, its bytes, its number of locals, what it returns, its handlers -/
abbrev mz_I : Type := MethodName × ByteArray × Nat × Option FieldType × List (Nat × Nat × Nat × Nat)
abbrev mz_y (M : mz_I) : MethodName := M.1
abbrev mz_c (M : mz_I) : ByteArray := M.2.1
abbrev mz_m (M : mz_I) : Nat := M.2.2.1
abbrev mz_r (M : mz_I) : Option FieldType := M.2.2.2.1
abbrev mz_h (M : mz_I) : List (Nat × Nat × Nat × Nat) := M.2.2.2.2
def mz_cw (M : mz_I) : Cond := match M with
  | (y, b, n, r, []) => .code y b n r
  | (y, b, n, r, q :: t) => .codeWith y b n r (q :: t)
def mz_ws (M : mz_I) : List Cond := mz_cw M :: mz_big
theorem mz_code {M : mz_I} {args : Array Value} {s : State} (h : (mz_cw M).before args s = true) : ∃ m meth c, s.methodNamed? (mz_y M) = some m ∧ s.vm.method? m = some meth ∧ meth.code = some c ∧ c.code = mz_c M ∧ c.maxLocals = mz_m M ∧ c.exceptionTable.toList = tableOf (mz_h M) ∧ meth.sig.returnType = mz_r M ∧ meth.locks = false ∧ parseMethodDescriptor (mz_y M).desc = some meth.sig := by
  obtain ⟨y, b, n, r, hh⟩ := M
  cases hh with
  | nil =>
    obtain ⟨m, hn⟩ := Cond.code_named (x := y) (bytes := b) (maxLocals := n) (ret := r) h
    obtain ⟨meth, c, h1, h2, h3, h4, h5, h6, h7, h8⟩ := Cond.code_spec hn h
    refine ⟨m, meth, c, hn, h1, h2, h3, h4, ?_, h5, h6, h8⟩
    rw [Array.isEmpty_iff.mp h7]
    rfl
  | cons q t =>
    obtain ⟨m, meth, c, h1, h2, h3, h4, h5, h6, h7, h8, h9⟩ := Cond.codeWith_spec (x := y) (bytes := b) (maxLocals := n) (ret := r) (handlers := q :: t) h
    exact ⟨m, meth, c, h1, h2, h3, h4, h5, by rw [← h6, table_eq], h7, h8, h9⟩
/-- what the tables and the old heap say, at any state behind the law's entry -/
def mz_F (g : mz_G) (V : State) : Prop :=
  va_K g.1.1 mz_CL (mz_ty g) V ∧ (∀ w ∈ mz_NW, va_Nw w V) ∧ (∀ q ∈ mz_SL, ∃ a, vk_R q.1 q.2.1 q.2.2 a V) ∧ (∀ q ∈ mz_NC, va_Nc q.1 q.2 V) ∧ (∀ C ∈ mz_AO, va_AO C V) ∧ va_X (mz_bs g) (mz_L g) (mz_xs g) V V.heap ∧
  (∀ w ∈ mz_ST, ∀ A : Array Value, w.before A V = true)
def mz_N (g : mz_G) (U : State) (H : Heap) : Prop := ∀ V : State, U.WarmedH V.vm → (∀ q : Nat, q < mz_b g → V.heap[q]? = H[q]?) → mz_F g V
theorem mz_N.at {g : mz_G} {U : State} (h : mz_N g U U.heap) : mz_F g U := h U (State.WarmedH.refl U) (fun _ _ => rfl)
theorem mz_N.to {g : mz_G} {U V : State} {H H1 : Heap} (h : mz_N g U H) (hW : U.WarmedH V.vm) (hk : ∀ q : Nat, q < mz_b g → H1[q]? = H[q]?) : mz_N g V H1 := fun V2 h1 h2 => h V2 (State.WarmedH.trans hW h1) (fun q hq => (h2 q hq).trans (hk q hq))
/-- an end: 0 and the answer, or the number of the class that was thrown; whether the cells are still numbered without a gap; the heap; how many cells and slots came -/
abbrev mz_S : Type := Nat × Option Value × Bool × mz_H × Nat × Nat
def mz_X (k : Nat) : String := if k = 1 then "java/lang/IllegalArgumentException" else "java/lang/IllegalStateException"
def mz_O (g : mz_G) (S : mz_S) (s : State) (o : Outcome) (t : State) : Prop :=
  (S.1 = 0 ∧ o = .returned (S.2.1.map (mz_cv g))) ∨ (S.1 ≠ 0 ∧ ∃ (q : Addr) (cl : Cell), o = .threw q ∧ t.heap[q]? = some cl ∧ cl.vm = .none ∧ s.vm.findClass (mz_X S.1) = some cl.cls ∧ mz_b g ≤ q)
/-- behind a method -/
def mz_Q (g : mz_G) (S : mz_S) (s : State) (o : Outcome) (t : State) : Prop :=
  mz_O g S s o t ∧ mz_R g S.2.2.2.1 t.heap ∧ (S.2.2.1 = true → t.heap.size = mz_b g + mz_n S.2.2.2.1) ∧ s.WarmedH t.vm ∧ ∃ L : List Loc, s.sameButNew ({ t with vm := s.vm } : State) L S.2.2.2.2.1 S.2.2.2.2.2 ∧ ∀ z ∈ L, mz_b g ≤ z.base
/-- ahead of a method -/
def mz_P (g : mz_G) (as : List Value) (ex : Bool) (h : mz_H) : Array Value → State → Prop := fun a U =>
  a = (as.map (mz_cv g)).toArray ∧ mz_N g U U.heap ∧ (mz_bs g < mz_b g ∧ (mz_l g).stackTraces = false) ∧ mz_b g ≤ U.heap.size ∧ mz_R g h U.heap ∧ (ex = true → U.heap.size = mz_b g + mz_n h)
def mz_rm (d : Nat) : Room := { frames := d, cells := 200 * d, slots := 20000 * d, locals := 38 * d }
/-- THE CONTRACT of a method M: where F has a value r, it comes to the end 'res r' -/
def mz_M {β : Type} (g : mz_G) (M : mz_I) (d : Nat) (as : List Value) (ex : Bool) (h : mz_H) (F : Option β) (res : β → mz_S) : Prop :=
  ∀ r, F = some r → MetFree (mz_l g) (mz_y M) (headSpec (mz_ws M) (mz_rm d)) (mz_P g as ex h) (fun _ _ _ _ _ => True) (fun _ s o t => mz_Q g (res r) s o t)
def mz_Z (g : mz_G) (S : mz_S) (below : List Frame) (s : State) : State → Prop := fun t => ∃ o, t.status = .running ∧ Ended t below o ∧ mz_Q g S s o t
/-- what is fixed during a walk -/
def mz_C (g : mz_G) (M : mz_I) (p : Program) (s : State) (m : MethodId) (args : Array Value) (meth : Method) (c : Code) : Prop :=
  p.tables.exec = Jvm.exec ∧ c.code = mz_c M ∧ meth.sig.returnType = mz_r M ∧ c.maxLocals = mz_m M ∧ s.vm.findClass (mz_y M).cls = some m.cls ∧ (∀ w ∈ mz_big, w.before args s = true) ∧ meth.locks = false ∧ c.exceptionTable.toList = tableOf (mz_h M) ∧ meth.name = (mz_y M).name ∧ mz_N g s s.heap ∧ (mz_bs g < mz_b g ∧ (mz_l g).stackTraces = false) ∧ mz_b g ≤ s.heap.size
abbrev mz_lc (g : mz_G) (lv : List (Nat × Value)) : List (Nat × Value) := lv.map (fun q => (q.1, mz_cv g q.2))
/-- THE WALK: from pc, with the locals lv, the operands st, the heap h, k cells and n slots made, F says the end -/
def mz_A {β : Type} (g : mz_G) (M : mz_I) (R : Room) (res : β → mz_S) (pc : Nat) (lv : List (Nat × Value)) (st : List Value) (ex : Bool) (h : mz_H) (k n : Nat) (F : Option β) : Prop :=
  ∀ r, F = some r → ∀ (p : Program) (e : Env) (s : State) (m : MethodId) (args : Array Value) (below : List Frame) (meth : Method) (c : Code), mz_C g M p s m args meth c →
    ∀ (H : Heap) (locs : List Loc) (ls : Array Slot), mz_R g h H → (ex = true → H.size = mz_b g + mz_n h) → va_S (mz_fr g) s.heap H locs → lv_has ls (mz_m M) (mz_lc g lv) →
      W p (mz_l g) e R s m args below meth c H locs k n (mz_Z g (res r) below s) (F0 m pc ls (st.map (mz_cv g)))
section MZ1
variable {β : Type} {g : mz_G} {M : mz_I} {R : Room} {res : β → mz_S} {pc : Nat} {lv lv' : List (Nat × Value)} {st : List Value} {ex : Bool} {h : mz_H} {k n : Nat} {F F1 F2 : Option β}
theorem mr_none : mz_A g M R res pc lv st ex h k n (none : Option β) := fun r hr => nomatch hr
/-- one step of the machine that leaves the heap and the locals -/
theorem mz_s {pc' : Nat} {st' : List Value} (hstep : ∀ (p : Program) (e : Env) (s : State) (m : MethodId) (args : Array Value) (below : List Frame) (meth : Method) (c : Code) (H : Heap) (locs : List Loc) (ls : Array Slot) (Q : State → Prop), mz_C g M p s m args meth c → mz_R g h H → va_S (mz_fr g) s.heap H locs → lv_has ls (mz_m M) (mz_lc g lv) → W p (mz_l g) e R s m args below meth c H locs k n Q (F0 m pc' ls (st'.map (mz_cv g))) → W p (mz_l g) e R s m args below meth c H locs k n Q (F0 m pc ls (st.map (mz_cv g))))
    (kk : mz_A g M R res pc' lv st' ex h k n F) : mz_A g M R res pc lv st ex h k n F :=
  fun r hr p e s m args below meth c C H locs ls hR hX hS hl => hstep p e s m args below meth c H locs ls _ C hR hS hl (kk r hr p e s m args below meth c C H locs ls hR hX hS hl)
/-- one that changes the locals -/
theorem mz_sl {pc' : Nat} {st' : List Value} (hstep : ∀ (p : Program) (e : Env) (s : State) (m : MethodId) (args : Array Value) (below : List Frame) (meth : Method) (c : Code) (H : Heap) (locs : List Loc) (ls : Array Slot) (Q : State → Prop), mz_C g M p s m args meth c → lv_has ls (mz_m M) (mz_lc g lv) → (∀ ls' : Array Slot, lv_has ls' (mz_m M) (mz_lc g lv') → W p (mz_l g) e R s m args below meth c H locs k n Q (F0 m pc' ls' (st'.map (mz_cv g)))) → W p (mz_l g) e R s m args below meth c H locs k n Q (F0 m pc ls (st.map (mz_cv g))))
    (kk : mz_A g M R res pc' lv' st' ex h k n F) : mz_A g M R res pc lv st ex h k n F :=
  fun r hr p e s m args below meth c C H locs ls hR hX hS hl => hstep p e s m args below meth c H locs ls _ C hl (fun ls' hl' => kk r hr p e s m args below meth c C H locs ls' hR hX hS hl')
theorem mr_sub (ks : List Nat) (hl' : lv_pick lv ks = lv') (kk : mz_A g M R res pc lv' st ex h k n F) : mz_A g M R res pc lv st ex h k n F :=
  fun r hr p e s m args below meth c C H locs ls hR hX hS hl => kk r hr p e s m args below meth c C H locs ls hR hX hS (lv_sub hl ks (by
    subst hl'
    unfold lv_pick mz_lc
    simp only [List.map_filterMap, List.getElem?_map]))
def mz_lk : List (Nat × Value) → Nat → Option Value
  | [], _ => none
  | (i, v) :: t, j => match Nat.beq i j with
    | true => some v
    | false => mz_lk t j
theorem mz_lk_mem : ∀ {l : List (Nat × Value)} {j : Nat} {v : Value}, mz_lk l j = some v → (j, v) ∈ l
  | [], _, _, h => nomatch h
  | (i, w) :: t, j, v, h => by
    unfold mz_lk at h
    split at h
    next hb =>
      have : i = j := Nat.eq_of_beq_eq_true hb
      subst this
      cases h
      exact List.mem_cons_self
    next => exact List.mem_cons_of_mem _ (mz_lk_mem h)
theorem mz_lkL {ls : Array Slot} {nL i : Nat} {v : Value} (hl : lv_has ls nL (mz_lc g lv)) (h : mz_lk lv i = some v) : ls[i]? = some (.val (mz_cv g v)) := hl.2.2 (i, mz_cv g v) (List.mem_map.mpr ⟨(i, v), mz_lk_mem h, rfl⟩)
end MZ1
section MZ2
variable {β : Type} {g : mz_G} {M : mz_I} {R : Room} {res : β → mz_S} {pc : Nat} {lv lv' : List (Nat × Value)} {st : List Value} {ex : Bool} {h : mz_H} {k n : Nat} {F F1 F2 : Option β}
theorem mr_iconst {i : Int} {v : Int32} (d : decode (mz_c M) pc = .ok (.iconst i, 1)) (hv : Int32.ofInt i = v)
    (kk : mz_A g M R res (pc + 1) lv (.int v :: st) ex h k n F) : mz_A g M R res pc lv (st) ex h k n F :=
  mz_s (fun p e s m args below meth c H locs ls Q C hR hS hl w => lv_iconst C.1 C.2.1 d hv w) kk
theorem mr_bipush {i : Int} {v : Int32} (d : decode (mz_c M) pc = .ok (.bipush i, 2)) (hv : (Int8.ofInt i).toInt32 = v)
    (kk : mz_A g M R res (pc + 2) lv (.int v :: st) ex h k n F) : mz_A g M R res pc lv (st) ex h k n F :=
  mz_s (fun p e s m args below meth c H locs ls Q C hR hS hl w => lv_bipush C.1 C.2.1 d hv w) kk
theorem mr_sipush {i : Int} {v : Int32} (d : decode (mz_c M) pc = .ok (.sipush i, 3)) (hv : (Int16.ofInt i).toInt32 = v)
    (kk : mz_A g M R res (pc + 3) lv (.int v :: st) ex h k n F) : mz_A g M R res pc lv (st) ex h k n F :=
  mz_s (fun p e s m args below meth c H locs ls Q C hR hS hl w => lv_sipush C.1 C.2.1 d hv w) kk
theorem mr_lconst {i : Fin 2} {v : Int64} (d : decode (mz_c M) pc = .ok (.lconst i, 1)) (hv : Int64.ofNat (i : Nat) = v)
    (kk : mz_A g M R res (pc + 1) lv (.long v :: st) ex h k n F) : mz_A g M R res pc lv (st) ex h k n F :=
  mz_s (fun p e s m args below meth c H locs ls Q C hR hS hl w => lv_lconst C.1 C.2.1 d hv w) kk
theorem mr_iload_n {j : Fin 4} {i : Nat} {x : Int32} (d : decode (mz_c M) pc = .ok (.iload_n j, 1)) (hi : (j : Nat) = i) (hv : mz_lk lv i = some (.int x))
    (kk : mz_A g M R res (pc + 1) lv (.int x :: st) ex h k n F) : mz_A g M R res pc lv (st) ex h k n F :=
  mz_s (fun p e s m args below meth c H locs ls Q C hR hS hl w => lv_iload_n C.1 C.2.1 d hi (mz_lkL hl hv) w) kk
theorem mr_iload {i : Nat} {x : Int32} (d : decode (mz_c M) pc = .ok (.iload i, 2)) (hv : mz_lk lv i = some (.int x))
    (kk : mz_A g M R res (pc + 2) lv (.int x :: st) ex h k n F) : mz_A g M R res pc lv (st) ex h k n F :=
  mz_s (fun p e s m args below meth c H locs ls Q C hR hS hl w => lv_iload C.1 C.2.1 d (mz_lkL hl hv) w) kk
theorem mr_lload_n {j : Fin 4} {i : Nat} {x : Int64} (d : decode (mz_c M) pc = .ok (.lload_n j, 1)) (hi : (j : Nat) = i) (hv : mz_lk lv i = some (.long x))
    (kk : mz_A g M R res (pc + 1) lv (.long x :: st) ex h k n F) : mz_A g M R res pc lv (st) ex h k n F :=
  mz_s (fun p e s m args below meth c H locs ls Q C hR hS hl w => lv_lload_n C.1 C.2.1 d hi (mz_lkL hl hv) w) kk
theorem mr_lload {i : Nat} {x : Int64} (d : decode (mz_c M) pc = .ok (.lload i, 2)) (hv : mz_lk lv i = some (.long x))
    (kk : mz_A g M R res (pc + 2) lv (.long x :: st) ex h k n F) : mz_A g M R res pc lv (st) ex h k n F :=
  mz_s (fun p e s m args below meth c H locs ls Q C hR hS hl w => lv_lload C.1 C.2.1 d (mz_lkL hl hv) w) kk
theorem mr_aload_n {j : Fin 4} {i x : Nat} (d : decode (mz_c M) pc = .ok (.aload_n j, 1)) (hi : (j : Nat) = i) (hv : mz_lk lv i = some (.ref x))
    (kk : mz_A g M R res (pc + 1) lv (.ref x :: st) ex h k n F) : mz_A g M R res pc lv (st) ex h k n F :=
  mz_s (fun p e s m args below meth c H locs ls Q C hR hS hl w => lv_aload_n C.1 C.2.1 d hi (mz_lkL hl hv) w) kk
theorem mr_aload {i x : Nat} (d : decode (mz_c M) pc = .ok (.aload i, 2)) (hv : mz_lk lv i = some (.ref x))
    (kk : mz_A g M R res (pc + 2) lv (.ref x :: st) ex h k n F) : mz_A g M R res pc lv (st) ex h k n F :=
  mz_s (fun p e s m args below meth c H locs ls Q C hR hS hl w => lv_aload C.1 C.2.1 d (mz_lkL hl hv) w) kk
theorem mr_aload_nS {j : Fin 4} {i : Nat} {x : UInt32} (d : decode (mz_c M) pc = .ok (.aload_n j, 1)) (hi : (j : Nat) = i) (hv : mz_lk lv i = some (.float x))
    (kk : mz_A g M R res (pc + 1) lv (.float x :: st) ex h k n F) : mz_A g M R res pc lv (st) ex h k n F :=
  mz_s (fun p e s m args below meth c H locs ls Q C hR hS hl w => lv_aload_n C.1 C.2.1 d hi (mz_lkL hl hv) w) kk
theorem mr_iadd {x y : Int32} (d : decode (mz_c M) pc = .ok (.iadd, 1)) 
    (kk : mz_A g M R res (pc + 1) lv (.int (x + y) :: st) ex h k n F) : mz_A g M R res pc lv (.int y :: .int x :: st) ex h k n F :=
  mz_s (fun p e s m args below meth c H locs ls Q C hR hS hl w => lv_iadd C.1 C.2.1 d  w) kk
theorem mr_isub {x y : Int32} (d : decode (mz_c M) pc = .ok (.isub, 1)) 
    (kk : mz_A g M R res (pc + 1) lv (.int (x - y) :: st) ex h k n F) : mz_A g M R res pc lv (.int y :: .int x :: st) ex h k n F :=
  mz_s (fun p e s m args below meth c H locs ls Q C hR hS hl w => lv_isub C.1 C.2.1 d  w) kk
theorem mr_imul {x y : Int32} (d : decode (mz_c M) pc = .ok (.imul, 1)) 
    (kk : mz_A g M R res (pc + 1) lv (.int (x * y) :: st) ex h k n F) : mz_A g M R res pc lv (.int y :: .int x :: st) ex h k n F :=
  mz_s (fun p e s m args below meth c H locs ls Q C hR hS hl w => lv_imul C.1 C.2.1 d  w) kk
theorem mr_iand {x y : Int32} (d : decode (mz_c M) pc = .ok (.iand, 1)) 
    (kk : mz_A g M R res (pc + 1) lv (.int (x &&& y) :: st) ex h k n F) : mz_A g M R res pc lv (.int y :: .int x :: st) ex h k n F :=
  mz_s (fun p e s m args below meth c H locs ls Q C hR hS hl w => lv_iand C.1 C.2.1 d  w) kk
theorem mr_ior {x y : Int32} (d : decode (mz_c M) pc = .ok (.ior, 1)) 
    (kk : mz_A g M R res (pc + 1) lv (.int (x ||| y) :: st) ex h k n F) : mz_A g M R res pc lv (.int y :: .int x :: st) ex h k n F :=
  mz_s (fun p e s m args below meth c H locs ls Q C hR hS hl w => lv_ior C.1 C.2.1 d  w) kk
theorem mr_ixor {x y : Int32} (d : decode (mz_c M) pc = .ok (.ixor, 1)) 
    (kk : mz_A g M R res (pc + 1) lv (.int (x ^^^ y) :: st) ex h k n F) : mz_A g M R res pc lv (.int y :: .int x :: st) ex h k n F :=
  mz_s (fun p e s m args below meth c H locs ls Q C hR hS hl w => lv_ixor C.1 C.2.1 d  w) kk
theorem mr_ladd {x y : Int64} (d : decode (mz_c M) pc = .ok (.ladd, 1)) 
    (kk : mz_A g M R res (pc + 1) lv (.long (x + y) :: st) ex h k n F) : mz_A g M R res pc lv (.long y :: .long x :: st) ex h k n F :=
  mz_s (fun p e s m args below meth c H locs ls Q C hR hS hl w => lv_ladd C.1 C.2.1 d  w) kk
theorem mr_lsub {x y : Int64} (d : decode (mz_c M) pc = .ok (.lsub, 1)) 
    (kk : mz_A g M R res (pc + 1) lv (.long (x - y) :: st) ex h k n F) : mz_A g M R res pc lv (.long y :: .long x :: st) ex h k n F :=
  mz_s (fun p e s m args below meth c H locs ls Q C hR hS hl w => lv_lsub C.1 C.2.1 d  w) kk
theorem mr_lmul {x y : Int64} (d : decode (mz_c M) pc = .ok (.lmul, 1)) 
    (kk : mz_A g M R res (pc + 1) lv (.long (x * y) :: st) ex h k n F) : mz_A g M R res pc lv (.long y :: .long x :: st) ex h k n F :=
  mz_s (fun p e s m args below meth c H locs ls Q C hR hS hl w => lv_lmul C.1 C.2.1 d  w) kk
theorem mr_ineg {x : Int32} (d : decode (mz_c M) pc = .ok (.ineg, 1)) 
    (kk : mz_A g M R res (pc + 1) lv (.int (-x) :: st) ex h k n F) : mz_A g M R res pc lv (.int x :: st) ex h k n F :=
  mz_s (fun p e s m args below meth c H locs ls Q C hR hS hl w => lv_ineg C.1 C.2.1 d  w) kk
theorem mr_lneg {x : Int64} (d : decode (mz_c M) pc = .ok (.lneg, 1)) 
    (kk : mz_A g M R res (pc + 1) lv (.long (-x) :: st) ex h k n F) : mz_A g M R res pc lv (.long x :: st) ex h k n F :=
  mz_s (fun p e s m args below meth c H locs ls Q C hR hS hl w => lv_lneg C.1 C.2.1 d  w) kk
theorem mr_ishl {x y : Int32} (d : decode (mz_c M) pc = .ok (.ishl, 1)) 
    (kk : mz_A g M R res (pc + 1) lv (.int (x <<< (y &&& 31)) :: st) ex h k n F) : mz_A g M R res pc lv (.int y :: .int x :: st) ex h k n F :=
  mz_s (fun p e s m args below meth c H locs ls Q C hR hS hl w => lv_ishl C.1 C.2.1 d  w) kk
theorem mr_ishr {x y : Int32} (d : decode (mz_c M) pc = .ok (.ishr, 1)) 
    (kk : mz_A g M R res (pc + 1) lv (.int (x >>> (y &&& 31)) :: st) ex h k n F) : mz_A g M R res pc lv (.int y :: .int x :: st) ex h k n F :=
  mz_s (fun p e s m args below meth c H locs ls Q C hR hS hl w => lv_ishr C.1 C.2.1 d  w) kk
theorem mr_i2l {x : Int32} (d : decode (mz_c M) pc = .ok (.i2l, 1)) 
    (kk : mz_A g M R res (pc + 1) lv (.long x.toInt64 :: st) ex h k n F) : mz_A g M R res pc lv (.int x :: st) ex h k n F :=
  mz_s (fun p e s m args below meth c H locs ls Q C hR hS hl w => lv_i2l C.1 C.2.1 d rfl w) kk
theorem mr_l2i {x : Int64} (d : decode (mz_c M) pc = .ok (.l2i, 1)) 
    (kk : mz_A g M R res (pc + 1) lv (.int x.toInt32 :: st) ex h k n F) : mz_A g M R res pc lv (.long x :: st) ex h k n F :=
  mz_s (fun p e s m args below meth c H locs ls Q C hR hS hl w => lv_l2i C.1 C.2.1 d rfl w) kk
theorem mr_lcmp {x y : Int64} (d : decode (mz_c M) pc = .ok (.lcmp, 1)) 
    (kk : mz_A g M R res (pc + 1) lv (.int (lg_cmp x y) :: st) ex h k n F) : mz_A g M R res pc lv (.long y :: .long x :: st) ex h k n F :=
  mz_s (fun p e s m args below meth c H locs ls Q C hR hS hl w => W.lcmp C.1 C.2.1 d  w) kk
theorem mr_idivK {x y : Int32} (d : decode (mz_c M) pc = .ok (.idiv, 1)) (hne : ¬ y = 0)
    (kk : mz_A g M R res (pc + 1) lv (.int (x / y) :: st) ex h k n F) : mz_A g M R res pc lv (.int y :: .int x :: st) ex h k n F :=
  mz_s (fun p e s m args below meth c H locs ls Q C hR hS hl w => lv_idiv C.1 C.2.1 d hne w) kk
theorem mr_idiv {x y : Int32} (d : decode (mz_c M) pc = .ok (.idiv, 1)) [Decidable (y = 0)] (kk : ¬ y = 0 → mz_A g M R res (pc + 1) lv (.int (x / y) :: st) ex h k n F) : mz_A g M R res pc lv (.int y :: .int x :: st) ex h k n (if y = 0 then none else F) := by
  intro r hr
  by_cases c0 : y = 0
  · rw [if_pos c0] at hr
    cases hr
  · rw [if_neg c0] at hr
    exact mr_idivK d c0 (kk c0) r hr
theorem mr_iremK {x y : Int32} (d : decode (mz_c M) pc = .ok (.irem, 1)) (hne : ¬ y = 0)
    (kk : mz_A g M R res (pc + 1) lv (.int (x - x / y * y) :: st) ex h k n F) : mz_A g M R res pc lv (.int y :: .int x :: st) ex h k n F :=
  mz_s (fun p e s m args below meth c H locs ls Q C hR hS hl w => lv_irem C.1 C.2.1 d hne w) kk
theorem mr_irem {x y : Int32} (d : decode (mz_c M) pc = .ok (.irem, 1)) [Decidable (y = 0)] (kk : ¬ y = 0 → mz_A g M R res (pc + 1) lv (.int (x - x / y * y) :: st) ex h k n F) : mz_A g M R res pc lv (.int y :: .int x :: st) ex h k n (if y = 0 then none else F) := by
  intro r hr
  by_cases c0 : y = 0
  · rw [if_pos c0] at hr
    cases hr
  · rw [if_neg c0] at hr
    exact mr_iremK d c0 (kk c0) r hr
theorem mr_ldivK {x y : Int64} (d : decode (mz_c M) pc = .ok (.ldiv, 1)) (hne : ¬ y = 0)
    (kk : mz_A g M R res (pc + 1) lv (.long (x / y) :: st) ex h k n F) : mz_A g M R res pc lv (.long y :: .long x :: st) ex h k n F :=
  mz_s (fun p e s m args below meth c H locs ls Q C hR hS hl w => lv_ldiv C.1 C.2.1 d hne w) kk
theorem mr_ldiv {x y : Int64} (d : decode (mz_c M) pc = .ok (.ldiv, 1)) [Decidable (y = 0)] (kk : ¬ y = 0 → mz_A g M R res (pc + 1) lv (.long (x / y) :: st) ex h k n F) : mz_A g M R res pc lv (.long y :: .long x :: st) ex h k n (if y = 0 then none else F) := by
  intro r hr
  by_cases c0 : y = 0
  · rw [if_pos c0] at hr
    cases hr
  · rw [if_neg c0] at hr
    exact mr_ldivK d c0 (kk c0) r hr
theorem mr_lremK {x y : Int64} (d : decode (mz_c M) pc = .ok (.lrem, 1)) (hne : ¬ y = 0)
    (kk : mz_A g M R res (pc + 1) lv (.long (x - x / y * y) :: st) ex h k n F) : mz_A g M R res pc lv (.long y :: .long x :: st) ex h k n F :=
  mz_s (fun p e s m args below meth c H locs ls Q C hR hS hl w => lv_lrem C.1 C.2.1 d hne w) kk
theorem mr_lrem {x y : Int64} (d : decode (mz_c M) pc = .ok (.lrem, 1)) [Decidable (y = 0)] (kk : ¬ y = 0 → mz_A g M R res (pc + 1) lv (.long (x - x / y * y) :: st) ex h k n F) : mz_A g M R res pc lv (.long y :: .long x :: st) ex h k n (if y = 0 then none else F) := by
  intro r hr
  by_cases c0 : y = 0
  · rw [if_pos c0] at hr
    cases hr
  · rw [if_neg c0] at hr
    exact mr_lremK d c0 (kk c0) r hr
theorem mr_dup {va : Value} (d : decode (mz_c M) pc = .ok (.dup, 1)) (h1 : va.category = 1)
    (kk : mz_A g M R res (pc + 1) lv (va :: va :: st) ex h k n F) : mz_A g M R res pc lv (va :: st) ex h k n F :=
  mz_s (fun p e s m args below meth c H locs ls Q C hR hS hl w => lv_dup C.1 C.2.1 d ((mz_cat g _).trans h1) w) kk
theorem mr_pop {va : Value} (d : decode (mz_c M) pc = .ok (.pop, 1)) (h1 : va.category = 1)
    (kk : mz_A g M R res (pc + 1) lv (st) ex h k n F) : mz_A g M R res pc lv (va :: st) ex h k n F :=
  mz_s (fun p e s m args below meth c H locs ls Q C hR hS hl w => lv_pop C.1 C.2.1 d ((mz_cat g _).trans h1) w) kk
theorem mr_dup_x1 {va vb : Value} (d : decode (mz_c M) pc = .ok (.dup_x1, 1)) (h1 : va.category = 1) (h2 : vb.category = 1)
    (kk : mz_A g M R res (pc + 1) lv (va :: vb :: va :: st) ex h k n F) : mz_A g M R res pc lv (va :: vb :: st) ex h k n F :=
  mz_s (fun p e s m args below meth c H locs ls Q C hR hS hl w => lv_dup_x1 C.1 C.2.1 d ((mz_cat g _).trans h1) ((mz_cat g _).trans h2) w) kk
theorem mr_dup_x2 {va vb vd : Value} (d : decode (mz_c M) pc = .ok (.dup_x2, 1)) (h1 : va.category = 1) (h2 : vb.category = 1) (h3 : vd.category = 1)
    (kk : mz_A g M R res (pc + 1) lv (va :: vb :: vd :: va :: st) ex h k n F) : mz_A g M R res pc lv (va :: vb :: vd :: st) ex h k n F :=
  mz_s (fun p e s m args below meth c H locs ls Q C hR hS hl w => lv_dup_x2 C.1 C.2.1 d ((mz_cat g _).trans h1) ((mz_cat g _).trans h2) ((mz_cat g _).trans h3) w) kk
theorem mr_dup2_11 {va vb : Value} (d : decode (mz_c M) pc = .ok (.dup2, 1)) (h1 : va.category = 1) (h2 : vb.category = 1)
    (kk : mz_A g M R res (pc + 1) lv (va :: vb :: va :: vb :: st) ex h k n F) : mz_A g M R res pc lv (va :: vb :: st) ex h k n F :=
  mz_s (fun p e s m args below meth c H locs ls Q C hR hS hl w => lv_dup2_11 C.1 C.2.1 d ((mz_cat g _).trans h1) ((mz_cat g _).trans h2) w) kk
theorem mr_dup2_2 {va : Value} (d : decode (mz_c M) pc = .ok (.dup2, 1)) (h1 : va.category = 2)
    (kk : mz_A g M R res (pc + 1) lv (va :: va :: st) ex h k n F) : mz_A g M R res pc lv (va :: st) ex h k n F :=
  mz_s (fun p e s m args below meth c H locs ls Q C hR hS hl w => lv_dup2_2 C.1 C.2.1 d ((mz_cat g _).trans h1) w) kk
theorem mz_fl1 {i : Nat} {v : Value} (hl' : (i, v) :: lv.filter (fun q => !(q.1 == i) && !(q.1 + 1 == i && q.2.category == 2)) = lv') : (i, mz_cv g v) :: (mz_lc g lv).filter (fun q => !(q.1 == i) && !(q.1 + 1 == i && q.2.category == 2)) = mz_lc g lv' := by
  subst hl'
  unfold mz_lc
  rw [List.map_cons, List.filter_map]
  congr 2
  refine List.filter_congr fun q _ => ?_
  simp [mz_cat]
theorem mz_fl2 {i : Nat} {v : Value} (hl' : (i, v) :: lv.filter (fun q => !(q.1 == i) && (!(q.1 == i + 1) && !(q.1 + 1 == i && q.2.category == 2))) = lv') : (i, mz_cv g v) :: (mz_lc g lv).filter (fun q => !(q.1 == i) && (!(q.1 == i + 1) && !(q.1 + 1 == i && q.2.category == 2))) = mz_lc g lv' := by
  subst hl'
  unfold mz_lc
  rw [List.map_cons, List.filter_map]
  congr 2
  refine List.filter_congr fun q _ => ?_
  simp [mz_cat]
theorem mr_istore_n {j : Fin 4} {i : Nat} {x : Int32} (d : decode (mz_c M) pc = .ok (.istore_n j, 1)) (hi : (j : Nat) = i) (hn : i < mz_m M) (hl' : (i, Value.int x) :: lv.filter (fun q => !(q.1 == i) && !(q.1 + 1 == i && q.2.category == 2)) = lv')
    (kk : mz_A g M R res (pc + 1) lv' st ex h k n F) : mz_A g M R res pc lv (.int x :: st) ex h k n F :=
  mz_sl (fun p e s m args below meth c H locs ls Q C hl w => lv_istore_n C.1 C.2.1 d hi hl hn (mz_fl1 (g := g) hl') w) kk
theorem mr_istore {i : Nat} {x : Int32} (d : decode (mz_c M) pc = .ok (.istore i, 2)) (hn : i < mz_m M) (hl' : (i, Value.int x) :: lv.filter (fun q => !(q.1 == i) && !(q.1 + 1 == i && q.2.category == 2)) = lv')
    (kk : mz_A g M R res (pc + 2) lv' st ex h k n F) : mz_A g M R res pc lv (.int x :: st) ex h k n F :=
  mz_sl (fun p e s m args below meth c H locs ls Q C hl w => lv_istore C.1 C.2.1 d hl hn (mz_fl1 (g := g) hl') w) kk
theorem mr_lstore_n {j : Fin 4} {i : Nat} {x : Int64} (d : decode (mz_c M) pc = .ok (.lstore_n j, 1)) (hi : (j : Nat) = i) (hn : i + 1 < mz_m M) (hl' : (i, Value.long x) :: lv.filter (fun q => !(q.1 == i) && (!(q.1 == i + 1) && !(q.1 + 1 == i && q.2.category == 2))) = lv')
    (kk : mz_A g M R res (pc + 1) lv' st ex h k n F) : mz_A g M R res pc lv (.long x :: st) ex h k n F :=
  mz_sl (fun p e s m args below meth c H locs ls Q C hl w => lv_lstore_n C.1 C.2.1 d hi hl hn (mz_fl2 (g := g) hl') w) kk
theorem mr_lstore {i : Nat} {x : Int64} (d : decode (mz_c M) pc = .ok (.lstore i, 2)) (hn : i + 1 < mz_m M) (hl' : (i, Value.long x) :: lv.filter (fun q => !(q.1 == i) && (!(q.1 == i + 1) && !(q.1 + 1 == i && q.2.category == 2))) = lv')
    (kk : mz_A g M R res (pc + 2) lv' st ex h k n F) : mz_A g M R res pc lv (.long x :: st) ex h k n F :=
  mz_sl (fun p e s m args below meth c H locs ls Q C hl w => lv_lstore C.1 C.2.1 d hl hn (mz_fl2 (g := g) hl') w) kk
theorem mr_astore_n {j : Fin 4} {i : Nat} {x : Nat} (d : decode (mz_c M) pc = .ok (.astore_n j, 1)) (hi : (j : Nat) = i) (hn : i < mz_m M) (hl' : (i, Value.ref x) :: lv.filter (fun q => !(q.1 == i) && !(q.1 + 1 == i && q.2.category == 2)) = lv')
    (kk : mz_A g M R res (pc + 1) lv' st ex h k n F) : mz_A g M R res pc lv (.ref x :: st) ex h k n F :=
  mz_sl (fun p e s m args below meth c H locs ls Q C hl w => lv_astore_n C.1 C.2.1 d hi hl hn (mz_fl1 (g := g) hl') w) kk
theorem mr_astore {i : Nat} {x : Nat} (d : decode (mz_c M) pc = .ok (.astore i, 2)) (hn : i < mz_m M) (hl' : (i, Value.ref x) :: lv.filter (fun q => !(q.1 == i) && !(q.1 + 1 == i && q.2.category == 2)) = lv')
    (kk : mz_A g M R res (pc + 2) lv' st ex h k n F) : mz_A g M R res pc lv (.ref x :: st) ex h k n F :=
  mz_sl (fun p e s m args below meth c H locs ls Q C hl w => lv_astore C.1 C.2.1 d hl hn (mz_fl1 (g := g) hl') w) kk
theorem mr_iinc {i : Nat} {j : Int} {x v : Int32} (d : decode (mz_c M) pc = .ok (.iinc i j, 3)) (hv : mz_lk lv i = some (.int x)) (he : x + Int32.ofInt j = v) (hn : i < mz_m M) (hl' : (i, Value.int v) :: lv.filter (fun q => !(q.1 == i) && !(q.1 + 1 == i && q.2.category == 2)) = lv')
    (kk : mz_A g M R res (pc + 3) lv' st ex h k n F) : mz_A g M R res pc lv st ex h k n F :=
  mz_sl (fun p e s m args below meth c H locs ls Q C hl w => by
    obtain ⟨j9, hj9⟩ := List.getElem?_of_mem (List.mem_map.mpr ⟨(i, .int x), mz_lk_mem hv, rfl⟩ : (i, mz_cv g (.int x)) ∈ mz_lc g lv)
    exact lv_iinc C.1 C.2.1 d hl hj9 he hn (mz_fl1 (g := g) hl') w) kk
theorem mr_icmp_eq {x y : Int32} {off : Int} {tgt : Nat} (d : decode (mz_c M) pc = .ok (.if_icmp .eq off, 3)) (ht : (pc : Int) + off = (tgt : Int)) [Decidable (x = y)]
    (kt : mz_A g M R res tgt lv st ex h k n F1) (kf : mz_A g M R res (pc + 3) lv st ex h k n F2) : mz_A g M R res pc lv (.int y :: .int x :: st) ex h k n (if x = y then F1 else F2) := by
  intro r hr p e s m args below meth c C H locs ls hR hX hS hl
  exact lv_icmp_eq C.1 C.2.1 d ht (fun q => kt r (by rw [if_pos q] at hr; exact hr) p e s m args below meth c C H locs ls hR hX hS hl) (fun q => kf r (by rw [if_neg q] at hr; exact hr) p e s m args below meth c C H locs ls hR hX hS hl)
theorem mr_if_eq {x : Int32} {off : Int} {tgt : Nat} (d : decode (mz_c M) pc = .ok (.ifCond .eq off, 3)) (ht : (pc : Int) + off = (tgt : Int)) [Decidable (x = 0)]
    (kt : mz_A g M R res tgt lv st ex h k n F1) (kf : mz_A g M R res (pc + 3) lv st ex h k n F2) : mz_A g M R res pc lv (.int x :: st) ex h k n (if x = 0 then F1 else F2) := by
  intro r hr p e s m args below meth c C H locs ls hR hX hS hl
  exact lv_if_eq C.1 C.2.1 d ht (fun q => kt r (by rw [if_pos q] at hr; exact hr) p e s m args below meth c C H locs ls hR hX hS hl) (fun q => kf r (by rw [if_neg q] at hr; exact hr) p e s m args below meth c C H locs ls hR hX hS hl)
theorem mr_icmp_ne {x y : Int32} {off : Int} {tgt : Nat} (d : decode (mz_c M) pc = .ok (.if_icmp .ne off, 3)) (ht : (pc : Int) + off = (tgt : Int)) [Decidable (x = y)]
    (kt : mz_A g M R res tgt lv st ex h k n F2) (kf : mz_A g M R res (pc + 3) lv st ex h k n F1) : mz_A g M R res pc lv (.int y :: .int x :: st) ex h k n (if x = y then F1 else F2) := by
  intro r hr p e s m args below meth c C H locs ls hR hX hS hl
  exact lv_icmp_ne C.1 C.2.1 d ht (fun q => kt r (by rw [if_neg q] at hr; exact hr) p e s m args below meth c C H locs ls hR hX hS hl) (fun q => kf r (by rw [if_pos q] at hr; exact hr) p e s m args below meth c C H locs ls hR hX hS hl)
theorem mr_if_ne {x : Int32} {off : Int} {tgt : Nat} (d : decode (mz_c M) pc = .ok (.ifCond .ne off, 3)) (ht : (pc : Int) + off = (tgt : Int)) [Decidable (x = 0)]
    (kt : mz_A g M R res tgt lv st ex h k n F2) (kf : mz_A g M R res (pc + 3) lv st ex h k n F1) : mz_A g M R res pc lv (.int x :: st) ex h k n (if x = 0 then F1 else F2) := by
  intro r hr p e s m args below meth c C H locs ls hR hX hS hl
  exact lv_if_ne C.1 C.2.1 d ht (fun q => kt r (by rw [if_neg q] at hr; exact hr) p e s m args below meth c C H locs ls hR hX hS hl) (fun q => kf r (by rw [if_pos q] at hr; exact hr) p e s m args below meth c C H locs ls hR hX hS hl)
theorem mr_icmp_lt {x y : Int32} {off : Int} {tgt : Nat} (d : decode (mz_c M) pc = .ok (.if_icmp .lt off, 3)) (ht : (pc : Int) + off = (tgt : Int)) [Decidable (x < y)]
    (kt : mz_A g M R res tgt lv st ex h k n F1) (kf : mz_A g M R res (pc + 3) lv st ex h k n F2) : mz_A g M R res pc lv (.int y :: .int x :: st) ex h k n (if x < y then F1 else F2) := by
  intro r hr p e s m args below meth c C H locs ls hR hX hS hl
  exact lv_icmp_lt C.1 C.2.1 d ht (fun q => kt r (by rw [if_pos q] at hr; exact hr) p e s m args below meth c C H locs ls hR hX hS hl) (fun q => kf r (by rw [if_neg q] at hr; exact hr) p e s m args below meth c C H locs ls hR hX hS hl)
theorem mr_if_lt {x : Int32} {off : Int} {tgt : Nat} (d : decode (mz_c M) pc = .ok (.ifCond .lt off, 3)) (ht : (pc : Int) + off = (tgt : Int)) [Decidable (x < 0)]
    (kt : mz_A g M R res tgt lv st ex h k n F1) (kf : mz_A g M R res (pc + 3) lv st ex h k n F2) : mz_A g M R res pc lv (.int x :: st) ex h k n (if x < 0 then F1 else F2) := by
  intro r hr p e s m args below meth c C H locs ls hR hX hS hl
  exact lv_if_lt C.1 C.2.1 d ht (fun q => kt r (by rw [if_pos q] at hr; exact hr) p e s m args below meth c C H locs ls hR hX hS hl) (fun q => kf r (by rw [if_neg q] at hr; exact hr) p e s m args below meth c C H locs ls hR hX hS hl)
theorem mr_icmp_ge {x y : Int32} {off : Int} {tgt : Nat} (d : decode (mz_c M) pc = .ok (.if_icmp .ge off, 3)) (ht : (pc : Int) + off = (tgt : Int)) [Decidable (y ≤ x)]
    (kt : mz_A g M R res tgt lv st ex h k n F1) (kf : mz_A g M R res (pc + 3) lv st ex h k n F2) : mz_A g M R res pc lv (.int y :: .int x :: st) ex h k n (if y ≤ x then F1 else F2) := by
  intro r hr p e s m args below meth c C H locs ls hR hX hS hl
  exact lv_icmp_ge C.1 C.2.1 d ht (fun q => kt r (by rw [if_pos q] at hr; exact hr) p e s m args below meth c C H locs ls hR hX hS hl) (fun q => kf r (by rw [if_neg q] at hr; exact hr) p e s m args below meth c C H locs ls hR hX hS hl)
theorem mr_if_ge {x : Int32} {off : Int} {tgt : Nat} (d : decode (mz_c M) pc = .ok (.ifCond .ge off, 3)) (ht : (pc : Int) + off = (tgt : Int)) [Decidable (0 ≤ x)]
    (kt : mz_A g M R res tgt lv st ex h k n F1) (kf : mz_A g M R res (pc + 3) lv st ex h k n F2) : mz_A g M R res pc lv (.int x :: st) ex h k n (if 0 ≤ x then F1 else F2) := by
  intro r hr p e s m args below meth c C H locs ls hR hX hS hl
  exact lv_if_ge C.1 C.2.1 d ht (fun q => kt r (by rw [if_pos q] at hr; exact hr) p e s m args below meth c C H locs ls hR hX hS hl) (fun q => kf r (by rw [if_neg q] at hr; exact hr) p e s m args below meth c C H locs ls hR hX hS hl)
theorem mr_icmp_gt {x y : Int32} {off : Int} {tgt : Nat} (d : decode (mz_c M) pc = .ok (.if_icmp .gt off, 3)) (ht : (pc : Int) + off = (tgt : Int)) [Decidable (y < x)]
    (kt : mz_A g M R res tgt lv st ex h k n F1) (kf : mz_A g M R res (pc + 3) lv st ex h k n F2) : mz_A g M R res pc lv (.int y :: .int x :: st) ex h k n (if y < x then F1 else F2) := by
  intro r hr p e s m args below meth c C H locs ls hR hX hS hl
  exact lv_icmp_gt C.1 C.2.1 d ht (fun q => kt r (by rw [if_pos q] at hr; exact hr) p e s m args below meth c C H locs ls hR hX hS hl) (fun q => kf r (by rw [if_neg q] at hr; exact hr) p e s m args below meth c C H locs ls hR hX hS hl)
theorem mr_if_gt {x : Int32} {off : Int} {tgt : Nat} (d : decode (mz_c M) pc = .ok (.ifCond .gt off, 3)) (ht : (pc : Int) + off = (tgt : Int)) [Decidable (0 < x)]
    (kt : mz_A g M R res tgt lv st ex h k n F1) (kf : mz_A g M R res (pc + 3) lv st ex h k n F2) : mz_A g M R res pc lv (.int x :: st) ex h k n (if 0 < x then F1 else F2) := by
  intro r hr p e s m args below meth c C H locs ls hR hX hS hl
  exact lv_if_gt C.1 C.2.1 d ht (fun q => kt r (by rw [if_pos q] at hr; exact hr) p e s m args below meth c C H locs ls hR hX hS hl) (fun q => kf r (by rw [if_neg q] at hr; exact hr) p e s m args below meth c C H locs ls hR hX hS hl)
theorem mr_icmp_le {x y : Int32} {off : Int} {tgt : Nat} (d : decode (mz_c M) pc = .ok (.if_icmp .le off, 3)) (ht : (pc : Int) + off = (tgt : Int)) [Decidable (x ≤ y)]
    (kt : mz_A g M R res tgt lv st ex h k n F1) (kf : mz_A g M R res (pc + 3) lv st ex h k n F2) : mz_A g M R res pc lv (.int y :: .int x :: st) ex h k n (if x ≤ y then F1 else F2) := by
  intro r hr p e s m args below meth c C H locs ls hR hX hS hl
  exact lv_icmp_le C.1 C.2.1 d ht (fun q => kt r (by rw [if_pos q] at hr; exact hr) p e s m args below meth c C H locs ls hR hX hS hl) (fun q => kf r (by rw [if_neg q] at hr; exact hr) p e s m args below meth c C H locs ls hR hX hS hl)
theorem mr_if_le {x : Int32} {off : Int} {tgt : Nat} (d : decode (mz_c M) pc = .ok (.ifCond .le off, 3)) (ht : (pc : Int) + off = (tgt : Int)) [Decidable (x ≤ 0)]
    (kt : mz_A g M R res tgt lv st ex h k n F1) (kf : mz_A g M R res (pc + 3) lv st ex h k n F2) : mz_A g M R res pc lv (.int x :: st) ex h k n (if x ≤ 0 then F1 else F2) := by
  intro r hr p e s m args below meth c C H locs ls hR hX hS hl
  exact lv_if_le C.1 C.2.1 d ht (fun q => kt r (by rw [if_pos q] at hr; exact hr) p e s m args below meth c C H locs ls hR hX hS hl) (fun q => kf r (by rw [if_neg q] at hr; exact hr) p e s m args below meth c C H locs ls hR hX hS hl)
theorem mr_goto {off : Int} {tgt : Nat} (d : decode (mz_c M) pc = .ok (.goto off, 3)) (ht : (pc : Int) + off = (tgt : Int)) (kk : mz_A g M R res tgt lv st ex h k n F) : mz_A g M R res pc lv st ex h k n F :=
  mz_s (fun p e s m args below meth c H locs ls Q C hR hS hl w => lv_goto C.1 C.2.1 d ht w) kk
theorem mr_ldc {i : Nat} {v : Int32} (d : decode (mz_c M) pc = .ok (.ldc i, 2)) (hw : Cond.constant (mz_y M).cls i v ∈ mz_big)
    (kk : mz_A g M R res (pc + 2) lv (.int v :: st) ex h k n F) : mz_A g M R res pc lv st ex h k n F :=
  mz_s (fun p e s m args below meth c H locs ls Q C hR hS hl w => lv_ldc C.1 C.2.1 C.2.2.2.2.1 (C.2.2.2.2.2.1 _ hw) d w) kk
end MZ2
/-- a class of the worlds: its place, its fields, their types; all that a row asks of it -/
def mz_cl (ci : Nat) (C : String) (T : u_T) (N : Nat) (ty : Nat → FieldType) : Prop :=
  mz_CL[ci]? = some (C, T, N) ∧ (∀ w ∈ u_ws C T N, w ∈ mz_big) ∧ (∀ k, k < N → parseFieldDescriptor (T k).2.2.1 = some (ty k)) ∧ (∀ a, a < N → ∀ b, b < N → a ≠ b → (T a).2.1 ≠ (T b).2.1) ∧ ∀ k, k < N → (T k).1 = C
theorem mz_one {g : mz_G} {h : mz_H} {H : Heap} {a : Nat} {e : mz_E} (hR : mz_R g h H) (hg : mz_get h a = some e) : va_P g.1.1 mz_CL [(mz_b g + a, mz_ce g e)] H := by
  intro k q hk
  match k, hk with
  | 0, hk => cases hk; exact hR a e hg
  | k + 1, hk => simp at hk
theorem mz_Fs {g : mz_G} {M : mz_I} {p : Program} {s : State} {m : MethodId} {args : Array Value} {meth : Method} {c : Code} (C : mz_C g M p s m args meth c) : mz_F g s := C.2.2.2.2.2.2.2.2.2.1.at
theorem mz_below {g : mz_G} {s : State} {H : Heap} {locs : List Loc} (hb : mz_b g ≤ s.heap.size) (hS : va_S (mz_fr g) s.heap H locs) (q : Nat) (hq : q < mz_b g) : H[q]? = s.heap[q]? := hS.2.1 q (by omega) (by show ¬ mz_b g ≤ q; omega)
section MZ3
variable {β : Type} {g : mz_G} {M : mz_I} {R : Room} {res : β → mz_S} {pc : Nat} {lv lv' : List (Nat × Value)} {st : List Value} {ex : Bool} {h h2 : mz_H} {k n : Nat} {F F1 F2 : Option β}
variable {ci N index a : Nat} {C : String} {T : u_T} {ty : Nat → FieldType} {fs : List Value} {v : Value}
theorem mz_gv {f : Nat} (hv : fs[f]? = some v) : (fs.map (mz_cv g))[f]? = some (mz_cv g v) := by rw [List.getElem?_map, hv]; rfl
theorem mr_get (K : mz_cl ci C T N ty) (f : Nat) (d : decode (mz_c M) pc = .ok (.getfield index, 3)) (hw : Cond.fieldLink (mz_y M).cls index C (T f).2.1 (T f).2.2.1 ∈ mz_big) (hf : f < N) (hg : mz_get h a = some (.inr (ci, fs))) (hv : fs[f]? = some v)
    (kk : mz_A g M R res (pc + 3) lv (v :: st) ex h k n F) : mz_A g M R res pc lv (.ref a :: st) ex h k n F :=
  mz_s (fun p e s m args below meth c H locs ls Q C0 hR hS hl w => va_get (ci := ci) (fs := fs.map (mz_cv g)) C0.1 C0.2.1 C0.2.2.2.2.2.1 K.2.1 C0.2.2.2.2.1 (mz_Fs C0).1 (mz_one hR hg) 0 rfl K.1 f hf (C0.2.2.2.2.2.1 _ hw) (fun x hx => by rw [K.2.2.2.2 f hf] at hx; exact hx) (mz_gv hv) d w) kk
theorem mr_getN (K : mz_cl ci C T N ty) (f : Nat) {host : String} (d : decode (mz_c M) pc = .ok (.getfield index, 3)) (hw : Cond.fieldLinkNest (mz_y M).cls index C (T f).2.1 (T f).2.2.1 host ∈ mz_NW) (hf : f < N) (hg : mz_get h a = some (.inr (ci, fs))) (hv : fs[f]? = some v)
    (kk : mz_A g M R res (pc + 3) lv (v :: st) ex h k n F) : mz_A g M R res pc lv (.ref a :: st) ex h k n F :=
  mz_s (fun p e s m args below meth c H locs ls Q C0 hR hS hl w => va_getN (ci := ci) (fs := fs.map (mz_cv g)) C0.1 C0.2.1 C0.2.2.2.2.2.1 K.2.1 C0.2.2.2.2.1 (mz_Fs C0).1 (mz_one hR hg) 0 rfl K.1 f hf (va_Nw.use rfl ((mz_Fs C0).2.1 _ hw)) (fun x hx => by rw [K.2.2.2.2 f hf] at hx; exact hx) (mz_gv hv) d w) kk
/-- what a store of a field leaves -/
theorem mz_stored (K : mz_cl ci C T N ty) {f : Nat} {s : State} {args : Array Value} {H1 : Heap} {cell : Cell} (hts : ∀ w ∈ mz_big, w.before args s = true) (hK : va_K g.1.1 mz_CL (mz_ty g) s) (hf : f < N) (hl : f < fs.length)
    (q2 : cell.cls = g.1.1.1 ci) (q3 : cell.vm = .none) (q4 : ∀ k, k < N → cell.slots[g.1.1.2 ci k]? = some (vp_V (fs.map (mz_cv g)) k)) (e1 : H1[mz_b g + a]? = some (cell.setSlot (g.1.1.2 ci f) (mz_cv g v))) : va_at g.1.1 mz_CL (mz_b g + a, mz_ce g (.inr (ci, fs.set f v))) H1 := by
  have hap := va_apart (own := "") hts K.2.1 ty K.2.2.1 K.2.2.2.1 hK K.1
  show ∃ r : vw_C, mz_CL[ci]? = some r ∧ t_OB (mz_b g + a) (g.1.1.1 ci) r.2.2 (g.1.1.2 ci) H1 (vp_V ((fs.set f v).map (mz_cv g)))
  rw [List.map_set]
  exact ⟨_, K.1, t_OB.to (V := updV (vp_V (fs.map (mz_cv g))) f (mz_cv g v)) ⟨_, e1, q2, q3, t_set q4 hap hf (mz_cv g v)⟩ (fun j _ => vp_updV_set (by rw [List.length_map]; exact hl) (mz_cv g v) j)⟩
theorem mr_put (K : mz_cl ci C T N ty) (f : Nat) (d : decode (mz_c M) pc = .ok (.putfield index, 3)) (hw : Cond.fieldLink (mz_y M).cls index C (T f).2.1 (T f).2.2.1 ∈ mz_big) (hf : f < N) (hfin : (T f).2.2.2 = false) (hn : narrow (ty f) (mz_cv g v) = mz_cv g v) (hfit : fits (ty f) (mz_cv g v) = true) (hl0 : f < fs.length) (hg : mz_get h a = some (.inr (ci, fs))) (hh : mz_set h a (.inr (ci, fs.set f v)) = h2)
    (kk : mz_A g M R res (pc + 3) lv st ex h2 k n F) : mz_A g M R res pc lv (v :: .ref a :: st) ex h k n F := by
  intro r hr p e s m args below meth c C0 H locs ls hR hX hS hl
  subst hh
  have hts := C0.2.2.2.2.2.1
  have hK := (mz_Fs C0).1
  obtain ⟨r9, h1, cell, q1, q2, q3, q4⟩ := hR a _ hg
  have hr9 : r9 = (C, T, N) := Option.some.inj (h1.symm.trans K.1)
  subst hr9
  obtain ⟨hS1, hfc, kC, hkC, hkind⟩ := hK.1 ci _ K.1
  obtain ⟨cf, kf, fi, fd, hi, hsl⟩ := hS1 f hf
  have hlay := hts _ (K.2.1 _ (u_in_lay hf))
  unfold u_lay at hlay
  rw [if_neg (by rw [hfin]; decide)] at hlay
  have hst := (u_facts hfc hkC (u_lays hts K.2.1 hf) hi).1
  have h6 := u_store hfc hkC hkind hlay hi (K.2.2.1 f hf) hn hfit
  have hi' : s.fieldFound? C (T f).2.1 (T f).2.2.1 = some (cf, kf, fi, fd) := by rw [K.2.2.2.2 f hf] at hi; exact hi
  refine W.putK C0.1 C0.2.1 (f := fd) ⟨C0.2.2.2.2.1, hts _ hw, ⟨_, _, _, hi'⟩, hst⟩ (by rw [q2]; exact h6) q1 q3 (by rw [hsl]; exact k2_hasslot (q4 f hf)) rfl rfl d fun H' e1 e2 e3 => ?_
  rw [hsl] at e1 ⊢
  exact kk r hr p e s m args below meth c C0 H' _ ls (hR.put hg (mz_stored K hts hK hf hl0 q2 q3 q4 e1) e3) (fun z => by rw [e2, mz_n_set]; exact hX z) (hS.put e2 e3 (Nat.le_add_right _ _)) hl
theorem mr_putN (K : mz_cl ci C T N ty) (f : Nat) {host : String} (d : decode (mz_c M) pc = .ok (.putfield index, 3)) (hw : Cond.fieldLinkNest (mz_y M).cls index C (T f).2.1 (T f).2.2.1 host ∈ mz_NW) (hf : f < N) (hfin : (T f).2.2.2 = false) (hn : narrow (ty f) (mz_cv g v) = mz_cv g v) (hfit : fits (ty f) (mz_cv g v) = true) (hl0 : f < fs.length) (hg : mz_get h a = some (.inr (ci, fs))) (hh : mz_set h a (.inr (ci, fs.set f v)) = h2)
    (kk : mz_A g M R res (pc + 3) lv st ex h2 k n F) : mz_A g M R res pc lv (v :: .ref a :: st) ex h k n F := by
  intro r hr p e s m args below meth c C0 H locs ls hR hX hS hl
  subst hh
  have hts := C0.2.2.2.2.2.1
  have hK := (mz_Fs C0).1
  obtain ⟨r9, h1, cell, q1, q2, q3, q4⟩ := hR a _ hg
  have hr9 : r9 = (C, T, N) := Option.some.inj (h1.symm.trans K.1)
  subst hr9
  obtain ⟨hS1, hfc, kC, hkC, hkind⟩ := hK.1 ci _ K.1
  obtain ⟨cf, kf, fi, fd, hi, hsl⟩ := hS1 f hf
  have hlay := hts _ (K.2.1 _ (u_in_lay hf))
  unfold u_lay at hlay
  rw [if_neg (by rw [hfin]; decide)] at hlay
  have hst := (u_facts hfc hkC (u_lays hts K.2.1 hf) hi).1
  have h6 := u_store hfc hkC hkind hlay hi (K.2.2.1 f hf) hn hfit
  have hi' : s.fieldFound? C (T f).2.1 (T f).2.2.1 = some (cf, kf, fi, fd) := by rw [K.2.2.2.2 f hf] at hi; exact hi
  refine va_WputK C0.1 C0.2.1 (f := fd) C0.2.2.2.2.1 (va_Nw.use rfl ((mz_Fs C0).2.1 _ hw)) hi' hst (by rw [q2]; exact h6) q1 q3 (by rw [hsl]; exact k2_hasslot (q4 f hf)) rfl rfl d fun H' e1 e2 e3 => ?_
  rw [hsl] at e1 ⊢
  exact kk r hr p e s m args below meth c C0 H' _ ls (hR.put hg (mz_stored K hts hK hf hl0 q2 q3 q4 e1) e3) (fun z => by rw [e2, mz_n_set]; exact hX z) (hS.put e2 e3 (Nat.le_add_right _ _)) hl
/-- a final field, in its constructor -/
theorem mr_putF (K : mz_cl ci C T N ty) (f : Nat) (d : decode (mz_c M) pc = .ok (.putfield index, 3)) (hw : Cond.fieldLink (mz_y M).cls index C (T f).2.1 (T f).2.2.1 ∈ mz_big) (hf : f < N) (hfin : (T f).2.2.2 = true) (hin : (mz_y M).name = "<init>") (hown : (mz_y M).cls = C) (hn : narrow (ty f) (mz_cv g v) = mz_cv g v) (hfit : fits (ty f) (mz_cv g v) = true) (hl0 : f < fs.length) (hg : mz_get h a = some (.inr (ci, fs))) (hh : mz_set h a (.inr (ci, fs.set f v)) = h2)
    (kk : mz_A g M R res (pc + 3) lv st ex h2 k n F) : mz_A g M R res pc lv (v :: .ref a :: st) ex h k n F := by
  intro r hr p e s m args below meth c C0 H locs ls hR hX hS hl
  subst hh
  have hts := C0.2.2.2.2.2.1
  have hK := (mz_Fs C0).1
  obtain ⟨r9, h1, cell, q1, q2, q3, q4⟩ := hR a _ hg
  have hr9 : r9 = (C, T, N) := Option.some.inj (h1.symm.trans K.1)
  subst hr9
  obtain ⟨hS1, hfc, kC, hkC, hkind⟩ := hK.1 ci _ K.1
  obtain ⟨cf, kf, fi, fd, hi, hsl⟩ := hS1 f hf
  have hlay := hts _ (K.2.1 _ (u_in_lay hf))
  unfold u_lay at hlay
  rw [if_pos hfin] at hlay
  have hst := (u_facts hfc hkC (u_lays hts K.2.1 hf) hi).1
  have hcf : m.cls = cf := by
    obtain ⟨_, _, c', _, _, _, -, -, hf', -, -, -, hown2, -⟩ := Cond.laysFinal_spec hlay
    have e1 : c' = cf := by have := hi.symm.trans hf'; simp at this; exact this.1.symm
    rw [K.2.2.2.2 f hf, ← hown] at hown2
    rw [← e1]; exact Option.some.inj (C0.2.2.2.2.1.symm.trans hown2)
  have h6 := u_fits hfc hkC hkind (Or.inr hlay) hi (K.2.2.1 f hf) hn hfit
  have hi' : s.fieldFound? C (T f).2.1 (T f).2.2.1 = some (cf, kf, fi, fd) := by rw [K.2.2.2.2 f hf] at hi; exact hi
  refine W.putFinK C0.1 C0.2.1 C0.2.2.2.2.1 (hts _ hw) hi' hst hcf (C0.2.2.2.2.2.2.2.2.1.trans hin) (by rw [q2]; exact h6) q1 q3 (by rw [hsl]; exact k2_hasslot (q4 f hf)) rfl rfl d fun H' e1 e2 e3 => ?_
  rw [hsl] at e1 ⊢
  exact kk r hr p e s m args below meth c C0 H' _ ls (hR.put hg (mz_stored K hts hK hf hl0 q2 q3 q4 e1) e3) (fun z => by rw [e2, mz_n_set]; exact hX z) (hS.put e2 e3 (Nat.le_add_right _ _)) hl
-- arrays
theorem mz_chk {P : Prop} [Decidable P] {r : β} (hr : (if P then none else F) = some r) : ¬ P ∧ F = some r := by
  by_cases c0 : P
  · rw [if_pos c0] at hr
    cases hr
  · rw [if_neg c0] at hr
    exact ⟨c0, hr⟩
theorem mr_ialdK {nn : Nat} {f : Nat → Int32} {i : Int32} (d : decode (mz_c M) pc = .ok (.iaload, 1)) (hg : mz_get h a = some (.inl (0, nn, .inl f))) (hin : vp_in i nn)
    (kk : mz_A g M R res (pc + 1) lv (.int (f i.toNatClampNeg) :: st) ex h k n F) : mz_A g M R res pc lv (.int i :: .ref a :: st) ex h k n F :=
  mz_s (fun p e s m args below meth c H locs ls Q C0 hR hS hl w => va_iald C0.1 C0.2.1 (mz_Fs C0).1 (mz_one hR hg) 0 0 rfl rfl hin d w) kk
theorem mr_zaldK {nn : Nat} {f : Nat → Int32} {i : Int32} (d : decode (mz_c M) pc = .ok (.baload, 1)) (hg : mz_get h a = some (.inl (2, nn, .inl f))) (hin : vp_in i nn)
    (kk : mz_A g M R res (pc + 1) lv (.int (f i.toNatClampNeg) :: st) ex h k n F) : mz_A g M R res pc lv (.int i :: .ref a :: st) ex h k n F :=
  mz_s (fun p e s m args below meth c H locs ls Q C0 hR hS hl w => va_zald C0.1 C0.2.1 (mz_Fs C0).1 (mz_one hR hg) 0 2 rfl rfl hin d w) kk
theorem mr_laldK {nn : Nat} {f : Nat → Int64} {i : Int32} (d : decode (mz_c M) pc = .ok (.laload, 1)) (hg : mz_get h a = some (.inl (1, nn, .inr (.inl f)))) (hin : vp_in i nn)
    (kk : mz_A g M R res (pc + 1) lv (.long (f i.toNatClampNeg) :: st) ex h k n F) : mz_A g M R res pc lv (.int i :: .ref a :: st) ex h k n F :=
  mz_s (fun p e s m args below meth c H locs ls Q C0 hR hS hl w => va_lald C0.1 C0.2.1 (mz_Fs C0).1 (mz_one hR hg) 0 1 rfl rfl hin d w) kk
theorem mr_aaldK {nn t0 j : Nat} {E : String} {f : Nat → Option Nat} {i : Int32} (d : decode (mz_c M) pc = .ok (.aaload, 1)) (ht : ∀ g9 : mz_G, (mz_ty g9)[t0]? = some (g9.1.2 t0, .object E)) (hg : mz_get h a = some (.inl (t0, nn, .inr (.inr (.inr (.inr f)))))) (hin : vp_in i nn) (hj : f i.toNatClampNeg = some j)
    (kk : mz_A g M R res (pc + 1) lv (.ref j :: st) ex h k n F) : mz_A g M R res pc lv (.int i :: .ref a :: st) ex h k n F :=
  mz_s (fun p e s m args below meth c H locs ls Q C0 hR hS hl w => va_aldq (C := E) C0.1 C0.2.1 (mz_Fs C0).1 (mz_one hR hg) 0 t0 rfl (ht g) hin d (by rw [hj]; exact w)) kk
theorem mr_iald {nn : Nat} {f : Nat → Int32} {i : Int32} [Decidable (i < 0 ∨ nn ≤ i.toNatClampNeg)] (d : decode (mz_c M) pc = .ok (.iaload, 1)) (hg : mz_get h a = some (.inl (0, nn, .inl f)))
    (kk : vp_in i nn → mz_A g M R res (pc + 1) lv (.int (f i.toNatClampNeg) :: st) ex h k n F) : mz_A g M R res pc lv (.int i :: .ref a :: st) ex h k n (if i < 0 ∨ nn ≤ i.toNatClampNeg then none else F) := fun r hr => mr_ialdK d hg (mz_chk hr).1 (kk (mz_chk hr).1) r (mz_chk hr).2
theorem mr_zald {nn : Nat} {f : Nat → Int32} {i : Int32} [Decidable (i < 0 ∨ nn ≤ i.toNatClampNeg)] (d : decode (mz_c M) pc = .ok (.baload, 1)) (hg : mz_get h a = some (.inl (2, nn, .inl f)))
    (kk : vp_in i nn → mz_A g M R res (pc + 1) lv (.int (f i.toNatClampNeg) :: st) ex h k n F) : mz_A g M R res pc lv (.int i :: .ref a :: st) ex h k n (if i < 0 ∨ nn ≤ i.toNatClampNeg then none else F) := fun r hr => mr_zaldK d hg (mz_chk hr).1 (kk (mz_chk hr).1) r (mz_chk hr).2
theorem mr_lald {nn : Nat} {f : Nat → Int64} {i : Int32} [Decidable (i < 0 ∨ nn ≤ i.toNatClampNeg)] (d : decode (mz_c M) pc = .ok (.laload, 1)) (hg : mz_get h a = some (.inl (1, nn, .inr (.inl f))))
    (kk : vp_in i nn → mz_A g M R res (pc + 1) lv (.long (f i.toNatClampNeg) :: st) ex h k n F) : mz_A g M R res pc lv (.int i :: .ref a :: st) ex h k n (if i < 0 ∨ nn ≤ i.toNatClampNeg then none else F) := fun r hr => mr_laldK d hg (mz_chk hr).1 (kk (mz_chk hr).1) r (mz_chk hr).2
theorem mr_aald {nn t0 : Nat} {E : String} {f : Nat → Option Nat} {fj : Nat → Nat} {i : Int32} [Decidable (i < 0 ∨ nn ≤ i.toNatClampNeg)] (d : decode (mz_c M) pc = .ok (.aaload, 1)) (ht : ∀ g9 : mz_G, (mz_ty g9)[t0]? = some (g9.1.2 t0, .object E)) (hg : mz_get h a = some (.inl (t0, nn, .inr (.inr (.inr (.inr f)))))) (hj : ∀ j, f j = some (fj j))
    (kk : vp_in i nn → mz_A g M R res (pc + 1) lv (.ref (fj i.toNatClampNeg) :: st) ex h k n F) : mz_A g M R res pc lv (.int i :: .ref a :: st) ex h k n (if i < 0 ∨ nn ≤ i.toNatClampNeg then none else F) := fun r hr => mr_aaldK d ht hg (mz_chk hr).1 (hj _) (kk (mz_chk hr).1) r (mz_chk hr).2
theorem mr_iastK {nn : Nat} {f : Nat → Int32} {i x : Int32} (d : decode (mz_c M) pc = .ok (.iastore, 1)) (hg : mz_get h a = some (.inl (0, nn, .inl f))) (hh : mz_set h a (.inl (0, nn, .inl (upd f i.toNatClampNeg x))) = h2) (hin : vp_in i nn)
    (kk : mz_A g M R res (pc + 1) lv st ex h2 k n F) : mz_A g M R res pc lv (.int x :: .int i :: .ref a :: st) ex h k n F := by
  intro r hr p e s m args below meth c C0 H locs ls hR hX hS hl
  subst hh
  refine W.iast C0.1 C0.2.1 (hR a _ hg) (((mz_Fs C0).1.2 0 (g.1.2 0, .int) rfl).1 nn (fun j => .int (f j))) (fun q => by cases q) (by show ¬ (i < 0 ∨ (arrV _ _ _).slots.size ≤ _); rw [arrV_size]; exact hin) rfl rfl d fun H1 e9 z oq => ?_
  refine kk r hr p e s m args below meth c C0 H1 _ ls (hR.put hg ?_ oq) (fun q => by rw [z, mz_n_set]; exact hX q) (hS.put z oq (Nat.le_add_right _ _)) hl
  show H1[mz_b g + a]? = some (vp_cell _ (nn, .inl (upd f i.toNatClampNeg x)))
  rw [e9]
  show some ((vp_cell _ (nn, .inl f)).setSlot _ _) = _
  rw [vp_cell_i, vp_cell_i, arrV_store]
  congr 2
  funext q
  by_cases hq : q = i.toNatClampNeg
  · subst hq
    simp [updV, upd]
  · simp [updV, upd, hq]
theorem mr_zastK {nn : Nat} {f : Nat → Int32} {i x : Int32} (d : decode (mz_c M) pc = .ok (.bastore, 1)) (hg : mz_get h a = some (.inl (2, nn, .inl f))) (hh : mz_set h a (.inl (2, nn, .inl (upd f i.toNatClampNeg (vp_nar .boolean x)))) = h2) (hin : vp_in i nn)
    (kk : mz_A g M R res (pc + 1) lv st ex h2 k n F) : mz_A g M R res pc lv (.int x :: .int i :: .ref a :: st) ex h k n F := by
  intro r hr p e s m args below meth c C0 H locs ls hR hX hS hl
  subst hh
  refine W.zast C0.1 C0.2.1 (hR a _ hg) (((mz_Fs C0).1.2 2 (g.1.2 2, .boolean) rfl).1 nn (fun j => .int (f j))) (fun q => by cases q) (by show ¬ (i < 0 ∨ (arrV _ _ _).slots.size ≤ _); rw [arrV_size]; exact hin) rfl rfl d fun H1 e9 z oq => ?_
  refine kk r hr p e s m args below meth c C0 H1 _ ls (hR.put hg ?_ oq) (fun q => by rw [z, mz_n_set]; exact hX q) (hS.put z oq (Nat.le_add_right _ _)) hl
  show H1[mz_b g + a]? = some (vp_cell _ (nn, .inl (upd f i.toNatClampNeg (vp_nar .boolean x))))
  rw [e9]
  show some ((vp_cell _ (nn, .inl f)).setSlot _ _) = _
  rw [vp_cell_i, vp_cell_i, arrV_store]
  congr 2
  funext q
  by_cases hq : q = i.toNatClampNeg
  · subst hq
    simp [updV, upd, vp_nar, narrow]
  · simp [updV, upd, hq]
theorem mr_lastK {nn : Nat} {f : Nat → Int64} {i : Int32} {x : Int64} (d : decode (mz_c M) pc = .ok (.lastore, 1)) (hg : mz_get h a = some (.inl (1, nn, .inr (.inl f)))) (hh : mz_set h a (.inl (1, nn, .inr (.inl (vp_updL f i.toNatClampNeg x)))) = h2) (hin : vp_in i nn)
    (kk : mz_A g M R res (pc + 1) lv st ex h2 k n F) : mz_A g M R res pc lv (.long x :: .int i :: .ref a :: st) ex h k n F := by
  intro r hr p e s m args below meth c C0 H locs ls hR hX hS hl
  subst hh
  refine W.last C0.1 C0.2.1 (hR a _ hg) (((mz_Fs C0).1.2 1 (g.1.2 1, .long) rfl).1 nn (fun j => .long (f j))) (fun q => by cases q) (by show ¬ (i < 0 ∨ (arrV _ _ _).slots.size ≤ _); rw [arrV_size]; exact hin) rfl rfl d fun H1 e9 z oq => ?_
  refine kk r hr p e s m args below meth c C0 H1 _ ls (hR.put hg ?_ oq) (fun q => by rw [z, mz_n_set]; exact hX q) (hS.put z oq (Nat.le_add_right _ _)) hl
  show H1[mz_b g + a]? = some (vp_cell _ (nn, .inr (.inl (vp_updL f i.toNatClampNeg x))))
  rw [e9]
  show some ((vp_cell _ (nn, .inr (.inl f))).setSlot _ _) = _
  rw [vp_cell_l, vp_cell_l, arrV_store]
  congr 2
  funext q
  by_cases hq : q = i.toNatClampNeg
  · subst hq
    simp [updV, vp_updL]
  · simp [updV, vp_updL, hq]
theorem mr_iast {nn : Nat} {f : Nat → Int32} {i x : Int32} [Decidable (i < 0 ∨ nn ≤ i.toNatClampNeg)] (d : decode (mz_c M) pc = .ok (.iastore, 1)) (hg : mz_get h a = some (.inl (0, nn, .inl f))) (hh : mz_set h a (.inl (0, nn, .inl (upd f i.toNatClampNeg x))) = h2)
    (kk : vp_in i nn → mz_A g M R res (pc + 1) lv st ex h2 k n F) : mz_A g M R res pc lv (.int x :: .int i :: .ref a :: st) ex h k n (if i < 0 ∨ nn ≤ i.toNatClampNeg then none else F) := fun r hr => mr_iastK d hg hh (mz_chk hr).1 (kk (mz_chk hr).1) r (mz_chk hr).2
theorem mr_zast {nn : Nat} {f : Nat → Int32} {i x : Int32} [Decidable (i < 0 ∨ nn ≤ i.toNatClampNeg)] (d : decode (mz_c M) pc = .ok (.bastore, 1)) (hg : mz_get h a = some (.inl (2, nn, .inl f))) (hh : mz_set h a (.inl (2, nn, .inl (upd f i.toNatClampNeg (vp_nar .boolean x)))) = h2)
    (kk : vp_in i nn → mz_A g M R res (pc + 1) lv st ex h2 k n F) : mz_A g M R res pc lv (.int x :: .int i :: .ref a :: st) ex h k n (if i < 0 ∨ nn ≤ i.toNatClampNeg then none else F) := fun r hr => mr_zastK d hg hh (mz_chk hr).1 (kk (mz_chk hr).1) r (mz_chk hr).2
theorem mr_last {nn : Nat} {f : Nat → Int64} {i : Int32} {x : Int64} [Decidable (i < 0 ∨ nn ≤ i.toNatClampNeg)] (d : decode (mz_c M) pc = .ok (.lastore, 1)) (hg : mz_get h a = some (.inl (1, nn, .inr (.inl f)))) (hh : mz_set h a (.inl (1, nn, .inr (.inl (vp_updL f i.toNatClampNeg x)))) = h2)
    (kk : vp_in i nn → mz_A g M R res (pc + 1) lv st ex h2 k n F) : mz_A g M R res pc lv (.long x :: .int i :: .ref a :: st) ex h k n (if i < 0 ∨ nn ≤ i.toNatClampNeg then none else F) := fun r hr => mr_lastK d hg hh (mz_chk hr).1 (kk (mz_chk hr).1) r (mz_chk hr).2
theorem mr_alen {t0 : Nat} {x : vp_A} {v0 : Int32} {fty : FieldType} (d : decode (mz_c M) pc = .ok (.arraylength, 1)) (ht : ∀ g9 : mz_G, (mz_ty g9)[t0]? = some (g9.1.2 t0, fty)) (hg : mz_get h a = some (.inl (t0, x))) (hv : Int32.ofNat x.1 = v0)
    (kk : mz_A g M R res (pc + 1) lv (.int v0 :: st) ex h k n F) : mz_A g M R res pc lv (.ref a :: st) ex h k n F :=
  mz_s (fun p e s m args below meth c H locs ls Q C0 hR hS hl w => va_alen C0.1 C0.2.1 (mz_Fs C0).1 (mz_one hR hg) 0 t0 rfl (ht g) (by
    obtain ⟨nn, f | f | f | f | f⟩ := x <;> exact hv) d w) kk
-- the script
theorem mr_sldK {i : Int32} {z : UInt32} (d : decode (mz_c M) pc = .ok (.iaload, 1)) (hin : vp_in i (mz_L g))
    (kk : mz_A g M R res (pc + 1) lv (.int (mz_xs g i.toNatClampNeg) :: st) ex h k n F) : mz_A g M R res pc lv (.int i :: .float z :: st) ex h k n F :=
  mz_s (fun p e s m args below meth c H locs ls Q C0 hR hS hl w => va_sld C0.1 C0.2.1 (mz_Fs C0).2.2.2.2.2.1 (Nat.lt_of_lt_of_le C0.2.2.2.2.2.2.2.2.2.2.1.1 C0.2.2.2.2.2.2.2.2.2.2.2) (Nat.not_le.mpr C0.2.2.2.2.2.2.2.2.2.2.1.1) hS hin d w) kk
theorem mr_sld {i : Int32} {z : UInt32} [Decidable (i < 0 ∨ mz_L g ≤ i.toNatClampNeg)] (d : decode (mz_c M) pc = .ok (.iaload, 1))
    (kk : vp_in i (mz_L g) → mz_A g M R res (pc + 1) lv (.int (mz_xs g i.toNatClampNeg) :: st) ex h k n F) : mz_A g M R res pc lv (.int i :: .float z :: st) ex h k n (if i < 0 ∨ mz_L g ≤ i.toNatClampNeg then none else F) := fun r hr => mr_sldK d (mz_chk hr).1 (kk (mz_chk hr).1) r (mz_chk hr).2
theorem mr_slen {z : UInt32} (d : decode (mz_c M) pc = .ok (.arraylength, 1))
    (kk : mz_A g M R res (pc + 1) lv (.int (Int32.ofNat (mz_L g)) :: st) ex h k n F) : mz_A g M R res pc lv (.float z :: st) ex h k n F :=
  mz_s (fun p e s m args below meth c H locs ls Q C0 hR hS hl w => va_slen C0.1 C0.2.1 (mz_Fs C0).2.2.2.2.2.1 (Nat.lt_of_lt_of_le C0.2.2.2.2.2.2.2.2.2.2.1.1 C0.2.2.2.2.2.2.2.2.2.2.2) (Nat.not_le.mpr C0.2.2.2.2.2.2.2.2.2.2.1.1) hS d w) kk
end MZ3
theorem mz_mono {p : Program} {l : Launch} {e : Env} {R : Room} {s : State} {m : MethodId} {args : Array Value} {below : List Frame} {meth : Method} {c : Code} {H : Heap} {locs : List Loc} {k n : Nat} {Q Q' : State → Prop} {f : JFrame} (w : W p l e R s m args below meth c H locs k n Q f) (hq : ∀ t, Q t → Q' t) : W p l e R s m args below meth c H locs k n Q' f := by
  intro T hT X
  obtain ⟨t, a1, b1⟩ := w T hT X
  exact ⟨t, a1, hq t b1⟩
theorem mz_end {g : mz_G} {below : List Frame} {s : State} {args : Array Value} {H : Heap} {v : Option Value} {ex : Bool} {h : mz_H} {k n : Nat} {S : mz_S} (hS : S = (0, v, ex, h, k, n)) (hR : mz_R g h H) (hX : ex = true → H.size = mz_b g + mz_n h) (t : State)
    (ht : MQ below (fun _ _ o t => o = .returned (v.map (mz_cv g)) ∧ t.heap = H) args s k n (mz_fr g) t) : mz_Z g S below s t := by
  subst hS
  obtain ⟨o, h1, h2, ⟨h3, h4⟩, L, ⟨-, h5, h6⟩, h7⟩ := ht
  exact ⟨o, h1, h2, Or.inl ⟨rfl, h3⟩, by rw [h4]; exact hR, fun z => by rw [h4]; exact hX z, h5, L, h6, h7⟩
section MZ4
variable {β : Type} {g : mz_G} {M : mz_I} {R : Room} {res : β → mz_S} {pc : Nat} {lv lv' : List (Nat × Value)} {st : List Value} {ex : Bool} {h h2 : mz_H} {k n : Nat} {F F1 F2 : Option β}
theorem mr_iret {x : Int32} {r : β} (d : decode (mz_c M) pc = .ok (.ireturn, 1)) (hr0 : mz_r M = some .int) (he : res r = (0, some (.int x), ex, h, k, n)) : mz_A g M R res pc lv [.int x] ex h k n (some r) := by
  intro r' hr p e s m args below meth c C0 H locs ls hR hX hS hl
  cases hr
  exact mz_mono (W.iret (Qc := fun _ _ o t => o = .returned ((some (.int x) : Option Value).map (mz_cv g)) ∧ t.heap = H) (free := mz_fr g) C0.1 C0.2.1 (C0.2.2.1.trans hr0) (fun t ht _ => ⟨rfl, ht⟩) hS.2.2 d C0.2.2.2.2.2.2.1) (mz_end he hR hX)
theorem mr_lret {x : Int64} {r : β} (d : decode (mz_c M) pc = .ok (.lreturn, 1)) (hr0 : mz_r M = some .long) (he : res r = (0, some (.long x), ex, h, k, n)) : mz_A g M R res pc lv [.long x] ex h k n (some r) := by
  intro r' hr p e s m args below meth c C0 H locs ls hR hX hS hl
  cases hr
  exact mz_mono (W.lret (Qc := fun _ _ o t => o = .returned ((some (.long x) : Option Value).map (mz_cv g)) ∧ t.heap = H) (free := mz_fr g) C0.1 C0.2.1 (C0.2.2.1.trans hr0) (fun t ht _ => ⟨rfl, ht⟩) hS.2.2 d C0.2.2.2.2.2.2.1) (mz_end he hR hX)
theorem mr_vret {r : β} (d : decode (mz_c M) pc = .ok (.return_, 1)) (hr0 : mz_r M = none) (he : res r = (0, none, ex, h, k, n)) : mz_A g M R res pc lv [] ex h k n (some r) := by
  intro r' hr p e s m args below meth c C0 H locs ls hR hX hS hl
  cases hr
  exact mz_mono (W.vret (Qc := fun _ _ o t => o = .returned ((none : Option Value).map (mz_cv g)) ∧ t.heap = H) (free := mz_fr g) C0.1 C0.2.1 (C0.2.2.1.trans hr0) (fun t ht _ => ⟨rfl, ht⟩) hS.2.2 d C0.2.2.2.2.2.2.1) (mz_end he hR hX)
theorem mr_aret {a : Nat} {cn : String} {r : β} (d : decode (mz_c M) pc = .ok (.areturn, 1)) (hr0 : mz_r M = some (.object cn)) (he : res r = (0, some (.ref a), ex, h, k, n)) : mz_A g M R res pc lv [.ref a] ex h k n (some r) := by
  intro r' hr p e s m args below meth c C0 H locs ls hR hX hS hl
  cases hr
  exact mz_mono (W.aret (Qc := fun _ _ o t => o = .returned ((some (.ref a) : Option Value).map (mz_cv g)) ∧ t.heap = H) (free := mz_fr g) C0.1 C0.2.1 (C0.2.2.1.trans hr0) (Or.inl ⟨_, rfl⟩) (Or.inr ⟨_, rfl⟩) (fun t ht _ => ⟨rfl, ht⟩) hS.2.2 d C0.2.2.2.2.2.2.1) (mz_end he hR hX)
theorem mz_zret {p : Program} {l : Launch} {e : Env} {s : State} {m : MethodId} {args : Array Value} {below : List Frame} {meth : Method} {c : Code} {H : Heap} {locs : List Loc} {cells slots : Nat} {cc : ByteArray} {Qc : Array Value → State → Outcome → State → Prop} {free : Addr → Prop} {v : Int32} (hexec : p.tables.exec = Jvm.exec) (hb : c.code = cc) (hr : meth.sig.returnType = some .boolean)
    (hq : ∀ t : State, t.heap = H → s.WarmedH t.vm → Qc args s (.returned (some (.int (vp_nar .boolean v)))) t) (hf : ∀ q ∈ locs, free q.base) {pc : Nat} {ls : Array Slot} (hdg : decode cc pc = .ok (.ireturn, 1)) (hlocks : meth.locks = false) : W p l e R s m args below meth c H locs cells slots (MQ below Qc args s cells slots free) (F0 m pc ls [.int v]) := by
  intro T hT X
  obtain ⟨fs, hret, hrun, hended, hW, hframe⟩ := X.leave (v := some (.int (vp_nar .boolean v))) (fun h => by rw [hr] at h; cases h)
  have hmeth' : T.vm.method? m = some meth := X.method'
  refine ⟨T.setFrames fs, ?_, .returned (some (.int (vp_nar .boolean v))), hrun, hended, hq _ hT hW, locs, ⟨⟨_, rfl⟩, hW, hframe⟩, hf⟩
  have hn : narrow .boolean (.int v) = .int (vp_nar .boolean v) := rfl
  jvm_step X.here [X.here.top, hexec, hb, hdg, hmeth', hr, hn]
  (try refine ⟨rfl, ?_⟩); (try refine ⟨rfl, ?_⟩)
  first | (intro acts; rw [hret _ acts rfl rfl rfl]) | rw [hret _ _ rfl rfl rfl]
  exact Steps.refl _
theorem mr_zret {x : Int32} {r : β} (d : decode (mz_c M) pc = .ok (.ireturn, 1)) (hr0 : mz_r M = some .boolean) (he : res r = (0, some (.int (vp_nar .boolean x)), ex, h, k, n)) : mz_A g M R res pc lv [.int x] ex h k n (some r) := by
  intro r' hr p e s m args below meth c C0 H locs ls hR hX hS hl
  cases hr
  exact mz_mono (mz_zret (Qc := fun _ _ o t => o = .returned ((some (.int (vp_nar .boolean x)) : Option Value).map (mz_cv g)) ∧ t.heap = H) (free := mz_fr g) C0.1 C0.2.1 (C0.2.2.1.trans hr0) (fun t ht _ => ⟨rfl, ht⟩) hS.2.2 d C0.2.2.2.2.2.2.1) (mz_end he hR hX)
theorem mr_eq {st' : List Value} {ex' : Bool} {k' n' : Nat} (h1 : st = st') (h2' : ex = ex') (h3 : h = h2) (h4 : k = k') (h5 : n = n') (kk : mz_A g M R res pc lv st' ex' h2 k' n' F) : mz_A g M R res pc lv st ex h k n F := by
  subst h1; subst h2'; subst h3; subst h4; subst h5
  exact kk
/-- THE CONTRACT OUT OF THE WALK from the method's entry -/
theorem mz_of {d : Nat} {as : List Value} (hp : plainName (mz_y M).cls = true) (ha : (lg_sl as).length ≤ mz_m M) (w : mz_A g M (mz_rm d) res 0 (lv_args 0 as) [] ex h 0 0 F) : mz_M g M d as ex h F res := by
  intro r hr
  refine MetFree.of_bodyS (code := mz_c M) (maxLocals := mz_m M) (ret := mz_r M) hp ?_ ?_
  · intro args s m hpre hn
    obtain ⟨m9, meth, c, h0, h1, h2, h3, h4, -, h5, h6, -⟩ := mz_code (M := M) (atoms_spec (ws := mz_ws M) hpre _ List.mem_cons_self)
    cases hn.symm.trans h0
    exact ⟨meth, c, h1, h2, h3, h4, h5, h6⟩
  · intro p e s m args below meth c s₁ B hml hP _
    obtain ⟨rfl, hN, hb1, hb2, hR, hX⟩ := hP
    have hh0 : s₁.heap = s.heap := by rw [B.state]; rfl
    have hts : ∀ w ∈ mz_ws M, w.before _ s = true := atoms_spec (ws := mz_ws M) B.pre
    have htb : c.exceptionTable.toList = tableOf (mz_h M) := by
      obtain ⟨m9, meth9, c9, h0, h1, h2, -, -, h6, -⟩ := mz_code (M := M) (hts _ List.mem_cons_self)
      cases h0.symm.trans B.named
      cases h1.symm.trans B.method
      cases h2.symm.trans (Stand.of_body B).code
      exact h6
    have C0 : mz_C g M p s m (as.map (mz_cv g)).toArray meth c := ⟨B.exec, B.bytes, B.returns, hml, findClass_of_methodNamed B.named, fun w hw => hts w (List.mem_cons_of_mem _ hw), B.notSynchronized, htb, (name_of_methodNamed B.named B.method).1, hN, hb1, hb2⟩
    have hsl : (lg_sl (as.map (mz_cv g))).length = (lg_sl as).length := by
      clear hR hX B htb hts C0 w ha
      induction as with
      | nil => rfl
      | cons v t ih =>
        simp only [lg_sl, List.map_cons, List.flatMap_cons, List.length_append] at ih ⊢
        rw [ih, mz_cat]
        split <;> rfl
    have hla : ∀ (t : List Value) (i : Nat), lv_args i (t.map (mz_cv g)) = mz_lc g (lv_args i t) := by
      intro t
      induction t with
      | nil => intro i; rfl
      | cons v t ih =>
        intro i
        simp only [List.map_cons, lv_args, mz_lc, mz_cat]
        rw [ih]
    have hl := lv_entry (as.map (mz_cv g)) (n := mz_m M) (by rw [hsl]; exact ha)
    rw [hla] at hl
    have K := w r hr p e s m _ below meth c C0 s.heap [] _ hR hX va_S.rf hl
    have K : W p (mz_l g) e (mz_rm d) s m (as.map (mz_cv g)).toArray below meth c s.heap [] 0 0 (mz_Z g (res r) below s) (entryFrame m (as.map (mz_cv g)).toArray (mz_m M)) := by
      rw [lg_entry_eq]
      exact K
    obtain ⟨t, a1, o, b1, b2, b3⟩ := K s₁ hh0 (Stand.of_body B)
    exact ⟨t, o, a1, b1, b2, b3⟩
theorem mz_old {s t : State} {L : List Loc} {k n b : Nat} (hsm : s.sameButNew t L k n) (hL : ∀ z ∈ L, b ≤ z.base) (q : Nat) (hq : q < b) (hqs : q < s.heap.size) : t.heap[q]? = s.heap[q]? := by
  obtain ⟨-, -, -, -, -, h6⟩ := hsm
  obtain ⟨c9, e1, e2, -, e4⟩ := h6 q _ (Array.getElem?_eq_getElem hqs)
  have hs : c9.slots = (s.heap[q]).slots := Array.ext_getElem? fun i => e4 i fun hm => by
    have := hL _ hm
    exact absurd hq (Nat.not_lt.mpr this)
  have h9 : c9 = s.heap[q] := by
    rw [hs] at e2
    exact e2
  rw [e1, h9, Array.getElem?_eq_getElem hqs]
/-- a callee by its contract, from the frame f of the caller -/
theorem mz_back {M' : mz_I} {d' : Nat} {as : List Value} {S : mz_S} (hM : MetFree (mz_l g) (mz_y M') (headSpec (mz_ws M') (mz_rm d')) (mz_P g as ex h) (fun _ _ _ _ _ => True) (fun _ s o t => mz_Q g S s o t))
    {p : Program} {e : Env} {s : State} {m mk : MethodId} {args a : Array Value} {below : List Frame} {meth : Method} {c : Code} {U : State} {locs : List Loc} (X : Stand p (mz_l g) e R s m args below meth c U locs k n) {f : JFrame} (hg : f.method = m) (hsize : f.locals.size = c.maxLocals) {ig : Instr} {len : Nat} (hdg : decode c.code f.pc = .ok (ig, len)) (hW : 2 * f.monitorRoom + (f.stack.map fun v => v.category).sum ≤ 8) (hn : U.methodNamed? (mz_y M') = some mk)
    (hr1 : d' + 1 ≤ R.frames) (hr2 : 8 + (mz_m M' + 11) + 38 * d' ≤ R.locals) (hr3 : k + 200 * d' ≤ R.cells) (hr4 : n + 20000 * d' ≤ R.slots) (hws : ∀ w ∈ mz_ws M', w.before a U = true) (hini : (Cond.initialized (mz_y M').cls).before a U = true) (hP : mz_P g as ex h a U) :
    ∃ (V : State) (L : List Loc), Stand p (mz_l g) e R s m args below meth c V (locs ++ L) (k + S.2.2.2.2.1) (n + S.2.2.2.2.2) ∧ (∀ z ∈ L, mz_b g ≤ z.base) ∧ mz_R g S.2.2.2.1 V.heap ∧ (S.2.2.1 = true → V.heap.size = mz_b g + mz_n S.2.2.2.1) ∧ U.heap.size ≤ V.heap.size ∧ (∀ q : Nat, q < mz_b g → V.heap[q]? = U.heap[q]?) ∧
      ((S.1 = 0 ∧ Steps p.tables e below (doInvoke e (U.setTop f) [] mk a).1 (V.setTop { f with pc := f.pc + len, stack := (S.2.1.map (mz_cv g)).toList ++ f.stack })) ∨
       (S.1 ≠ 0 ∧ ∃ (q : Addr) (cl : Cell), V.heap[q]? = some cl ∧ cl.vm = .none ∧ U.vm.findClass (mz_X S.1) = some cl.cls ∧ mz_b g ≤ q ∧ Steps p.tables e below (doInvoke e (U.setTop f) [] mk a).1 ((V.setTop f).pushFrame (.throwing q)))) := by
  obtain ⟨m9, methY, cY, h0, hmY, hcY, -, hlY, -⟩ := mz_code (M := M') (hws _ List.mem_cons_self)
  cases hn.symm.trans h0
  obtain ⟨kY, hkY, -⟩ := className_of_methodNamed hn
  have hinitY : kY.init = .initialized := Cond.initialized_spec (findClass_of_methodNamed hn) hkY hini
  have hAt : At U f.method c below := by rw [hg]; exact X.here
  have happ : (headSpec (mz_ws M') (mz_rm d')).appliesLoose (mz_y M') e.platform (U.calling f mk a) = true :=
    Spec.appliesLoose_calling (g := f) hAt hdg hn hkY hinitY (X.room_calling (g := f) (R' := mz_rm d') hsize hmY hcY hr1 (by rw [hlY]; show _ + 38 * d' ≤ _; omega) hr3 hr4) (atoms_intro hws)
  obtain ⟨mid, hmid⟩ := hAt.above
  have hfr : (U.setTop f).frames = (.java f :: mid) ++ below := by rw [State.frames_setTop' f hAt.top, hmid]; rfl
  have hP2 : mz_P g as ex h a (U.calling f mk a) := ⟨hP.1, mz_N.to (V := U.calling f mk a) hP.2.1 (State.WarmedH.refl U) (fun _ _ => rfl), hP.2.2⟩
  obtain ⟨o, s₂, hsteps, -, hend, hq⟩ := Steps.callFree hM p X.admits X.cas X.clock (acts := []) hfr happ hP2 trivial
  have hq2 : mz_Q g S (U.calling f mk a) o s₂ := hq
  obtain ⟨hO, hR2, hX2, hW2, L, hsm, hL⟩ := hq2
  rw [State.frames_setTop' f hAt.top] at hend
  obtain ⟨g₀, hg0⟩ := Option.isSome_iff_exists.mp hAt.top
  obtain ⟨r, hr⟩ := State.topJava?_eq_some.mp hg0
  have hr' : (({ U with heap := s₂.heap, slotsUsed := s₂.slotsUsed } : State).setVm s₂.vm).frames = .java g₀ :: r := hr
  obtain ⟨e2, q2, q3, q4, q5, q6⟩ := id hsm
  have e3 : s₂ = ({ (U.calling f mk a).setFrames s₂.frames with heap := s₂.heap, slotsUsed := s₂.slotsUsed } : State).setVm s₂.vm := by
    have : s₂ = ({ s₂ with vm := (U.calling f mk a).vm } : State).setVm s₂.vm := rfl
    rw [e2] at this
    exact this
  have hW' : U.WarmedH s₂.vm := hW2
  have hsame : U.sameButNew ({ U with heap := s₂.heap, slotsUsed := s₂.slotsUsed } : State) L S.2.2.2.2.1 S.2.2.2.2.2 := by
    refine ⟨?_, q2, q3, q4, q5, q6⟩
    obtain ⟨t, ht, -⟩ := State.frames_cons hr
    show ({ U with heap := s₂.heap, slotsUsed := s₂.slotsUsed } : State) = { U.setFrames U.frames with heap := s₂.heap, slotsUsed := s₂.slotsUsed }
    rw [State.setFrames_self ht]
  have hold : ∀ q : Nat, q < mz_b g → s₂.heap[q]? = U.heap[q]? := fun q hq => mz_old hsame hL q hq (Nat.lt_of_lt_of_le hq hP.2.2.2.1)
  subst hg
  refine ⟨({ U with heap := s₂.heap, slotsUsed := s₂.slotsUsed } : State).setVm s₂.vm, L, ⟨X.admits, X.cas, X.clock, X.frames, X.room, X.hears, X.method, X.code, (X.here.setHeapUsed s₂.heap s₂.slotsUsed).setVm hW'.alike, X.tail, State.WarmedH.trans X.warmed hW', X.limits, X.bytes, X.same.trans (hsame.setVm s.vm)⟩, hL, hR2, hX2, q2, hold, ?_⟩
  rcases hO with ⟨hz, rfl⟩ | ⟨hz, q, cl, rfl, hc1, hc2, hc3, hc4⟩
  · refine Or.inl ⟨hz, ?_⟩
    obtain ⟨c₂, i₂, len₂, hc₂, hd₂, hf₂⟩ := hend
    have hcc : c₂ = c := by
      have h1 : s₂.code? f.method = U.code? f.method := by rw [State.code?_eq, State.code?_eq, hW'.alike.method?]
      exact Option.some.inj (hc₂.symm.trans (h1.trans hAt.code))
    subst hcc
    have hlen : len₂ = len := by rw [hdg] at hd₂; cases hd₂; rfl
    subst hlen
    have hs₂ : s₂ = (({ U with heap := s₂.heap, slotsUsed := s₂.slotsUsed } : State).setVm s₂.vm).setTop { f with pc := f.pc + len₂, stack := (S.2.1.map (mz_cv g)).toList ++ f.stack } := by
      refine e3.trans ?_
      rw [hf₂, State.calling_eq hAt.top, State.setFrames_setFrames, State.setTop_of_frames _ hr', hr]
      rfl
    rw [← hs₂]
    exact hsteps
  · refine Or.inr ⟨hz, q, cl, hc1, hc2, hc3, hc4, ?_⟩
    have hf₂ : s₂.frames = .throwing q :: .java f :: U.frames.tail := hend
    have hs₂ : s₂ = ((({ U with heap := s₂.heap, slotsUsed := s₂.slotsUsed } : State).setVm s₂.vm).setTop f).pushFrame (.throwing q) := by
      refine e3.trans ?_
      rw [hf₂, State.calling_eq hAt.top, State.setFrames_setFrames, State.pushFrame, State.frames_setTop _ hr', State.setTop_of_frames _ hr', State.setFrames_setFrames, hr]
      rfl
    rw [← hs₂]
    exact hsteps
end MZ4
section MZ5
variable {β γ : Type} {g : mz_G} {M M' : mz_I} {R : Room} {res : β → mz_S} {res' : γ → mz_S} {pc d' : Nat} {lv lv' : List (Nat × Value)} {as st st0 : List Value} {ex : Bool} {h h2 : mz_H} {k n : Nat} {F F1 F2 : Option β} {F' : Option γ} {Kf : γ → Option β}
/-- how a call is come to: the machine goes from the frame with the arguments to the callee's invocation -/
def mz_V (g : mz_G) (M M' : mz_I) (R : Room) (h : mz_H) (k n pc : Nat) (lv : List (Nat × Value)) (as st st0 : List Value) : Prop :=
  ∀ (p : Program) (e : Env) (s : State) (m : MethodId) (args : Array Value) (below : List Frame) (meth : Method) (c : Code), mz_C g M p s m args meth c → ∀ (H : Heap) (locs : List Loc) (ls : Array Slot), mz_R g h H → ls.size = mz_m M → ∀ T : State, T.heap = H → Stand p (mz_l g) e R s m args below meth c T locs k n →
    ∃ (vm₁ : Vm) (mk : MethodId) (ig : Instr), Stand p (mz_l g) e R s m args below meth c (T.setVm vm₁) locs k n ∧ (T.setVm vm₁).methodNamed? (mz_y M') = some mk ∧ decode (mz_c M) pc = .ok (ig, 3) ∧
      ∀ target, Steps p.tables e below (doInvoke e ((T.setVm vm₁).setTop (F0 m pc ls (st.map (mz_cv g)))) [] mk (as.map (mz_cv g)).toArray).1 target → Steps p.tables e below (T.setTop (F0 m pc ls (st0.map (mz_cv g)))) target
/-- what a caller must have of a callee -/
def mz_U (M' : mz_I) : Prop := mz_cw M' ∈ mz_big ∧ Cond.initialized (mz_y M').cls ∈ mz_big ∧ ((mz_y M').cls ≠ "java/lang/invoke/MethodHandle" ∧ (mz_y M').cls ≠ "java/lang/invoke/VarHandle") ∧ mz_m M' ≤ 19
theorem mz_bigG {w : Cond} (hw : w ∈ mz_big) {s U : State} {args a' : Array Value} (hts : ∀ w ∈ mz_big, w.before args s = true) (hW : s.WarmedH U.vm) : w.before a' U = true := word_at hW (good_of_word (mz_good w hw)) (hts w hw)
theorem mz_wsum {st : List Value} (hc : (st.map fun v => v.category).sum ≤ 8) {m : MethodId} {pc : Nat} {ls : Array Slot} : 2 * (F0 m pc ls (st.map (mz_cv g))).monitorRoom + ((st.map (mz_cv g)).map fun v => v.category).sum ≤ 8 := by
  refine lv_room ?_
  rw [List.map_map]
  refine Nat.le_trans (Nat.le_of_eq ?_) hc
  congr 1
  refine List.map_congr_left fun v _ => mz_cat g v
/-- where a call is come to and back from -/
theorem mz_do {S : mz_S} (hM : MetFree (mz_l g) (mz_y M') (headSpec (mz_ws M') (mz_rm d')) (mz_P g as ex h) (fun _ _ _ _ _ => True) (fun _ s o t => mz_Q g S s o t)) (hU : mz_U M') (hV : mz_V g M M' R h k n pc lv as st st0) (hc : (st.map fun v => v.category).sum ≤ 8)
    (hr1 : d' + 1 ≤ R.frames) (hr2 : 38 + 38 * d' ≤ R.locals) (hr3 : k + 200 * d' ≤ R.cells) (hr4 : n + 20000 * d' ≤ R.slots)
    {p : Program} {e : Env} {s : State} {m : MethodId} {args : Array Value} {below : List Frame} {meth : Method} {c : Code} (C0 : mz_C g M p s m args meth c) {H : Heap} {locs : List Loc} {ls : Array Slot} (hR : mz_R g h H) (hX : ex = true → H.size = mz_b g + mz_n h) (hS : va_S (mz_fr g) s.heap H locs) (hl : ls.size = mz_m M) {T : State} (hT : T.heap = H) (X : Stand p (mz_l g) e R s m args below meth c T locs k n) :
    ∃ (V : State) (L : List Loc), Stand p (mz_l g) e R s m args below meth c V (locs ++ L) (k + S.2.2.2.2.1) (n + S.2.2.2.2.2) ∧ mz_R g S.2.2.2.1 V.heap ∧ (S.2.2.1 = true → V.heap.size = mz_b g + mz_n S.2.2.2.1) ∧ va_S (mz_fr g) s.heap V.heap (locs ++ L) ∧
      ((S.1 = 0 ∧ ∀ target, Steps p.tables e below (V.setTop (F0 m (pc + 3) ls ((S.2.1.toList ++ st).map (mz_cv g)))) target → Steps p.tables e below (T.setTop (F0 m pc ls (st0.map (mz_cv g)))) target) ∨
       (S.1 ≠ 0 ∧ ∃ (q : Addr) (cl : Cell), V.heap[q]? = some cl ∧ cl.vm = .none ∧ s.vm.findClass (mz_X S.1) = some cl.cls ∧ mz_b g ≤ q ∧ Steps p.tables e below (T.setTop (F0 m pc ls (st0.map (mz_cv g)))) ((V.setTop (F0 m pc ls (st.map (mz_cv g)))).pushFrame (.throwing q)))) := by
  obtain ⟨vm₁, mk, ig, X₁, hn, hdg, hst⟩ := hV p e s m args below meth c C0 H locs ls hR hl T hT X
  have hbs := mz_below C0.2.2.2.2.2.2.2.2.2.2.2 hS
  have hP : mz_P g as ex h (as.map (mz_cv g)).toArray (T.setVm vm₁) :=
    ⟨rfl, mz_N.to (V := T.setVm vm₁) C0.2.2.2.2.2.2.2.2.2.1 X₁.warmed (fun q hq => by show T.heap[q]? = _; rw [hT]; exact hbs q hq), C0.2.2.2.2.2.2.2.2.2.2.1, Nat.le_trans C0.2.2.2.2.2.2.2.2.2.2.2 (by show _ ≤ T.heap.size; rw [hT]; exact hS.1), by show mz_R g h T.heap; rw [hT]; exact hR, fun z => by show T.heap.size = _; rw [hT]; exact hX z⟩
  have hts := C0.2.2.2.2.2.1
  obtain ⟨V, L, X2, hL, hR2, hX2, hz, ho, hcase⟩ := mz_back hM X₁ (f := F0 m pc ls (st.map (mz_cv g))) rfl (hl.trans C0.2.2.2.1.symm) (by rw [C0.2.1]; exact hdg) (mz_wsum hc) hn hr1 (by have := hU.2.2.2; omega) hr3 hr4
    (fun w hw => by
      rcases List.mem_cons.mp hw with rfl | hw
      · exact mz_bigG hU.1 hts X₁.warmed
      · exact mz_bigG hw hts X₁.warmed) (mz_bigG hU.2.1 hts X₁.warmed) hP
  have hz' : H.size ≤ V.heap.size := by rw [← hT]; exact hz
  have ho' : ∀ q : Nat, q < mz_b g → V.heap[q]? = H[q]? := fun q hq => by rw [ho q hq, ← hT]; rfl
  refine ⟨V, L, X2, hR2, hX2, ⟨Nat.le_trans hS.1 hz', fun q h1 h2 => ?_, fun q hq => ?_⟩, ?_⟩
  · rw [ho' q (Nat.not_le.mp h2)]
    exact hS.2.1 q h1 h2
  · rcases List.mem_append.mp hq with h1 | h1
    · exact hS.2.2 q h1
    · exact hL q h1
  · rcases hcase with ⟨h0, h1⟩ | ⟨h0, q, cl, h1, h2, h3, h3b, h4⟩
    · refine Or.inl ⟨h0, fun target ht => hst target (h1.trans ?_)⟩
      have he : (S.2.1.toList ++ st).map (mz_cv g) = (S.2.1.map (mz_cv g)).toList ++ st.map (mz_cv g) := by
        rw [List.map_append]
        cases S.2.1 <;> rfl
      rw [he] at ht
      exact ht
    · refine Or.inr ⟨h0, q, cl, h1, h2, ?_, h3b, hst _ h4⟩
      have h5 : vm₁.findClass (mz_X S.1) = some cl.cls := h3
      have h6 := X₁.warmed.alike.findClass (mz_X S.1)
      exact (h6 _).symm.trans h5
theorem mz_go {lv : List (Nat × Value)} (hM : mz_M g M' d' as ex h F' res') (h0 : ∀ r', (res' r').1 = 0) (hU : mz_U M') (hV : mz_V g M M' R h k n pc lv as st st0) (hc : (st.map fun v => v.category).sum ≤ 8) (hr : d' + 1 ≤ R.frames ∧ 38 + 38 * d' ≤ R.locals ∧ k + 200 * d' ≤ R.cells ∧ n + 20000 * d' ≤ R.slots)
    (kk : ∀ r', mz_A g M R res (pc + 3) lv ((res' r').2.1.toList ++ st) (res' r').2.2.1 (res' r').2.2.2.1 (k + (res' r').2.2.2.2.1) (n + (res' r').2.2.2.2.2) (Kf r')) : mz_A g M R res pc lv st0 ex h k n (F'.bind Kf) := by
  intro r hr9 p e s m args below meth c C0 H locs ls hR hX hS hl T hT X
  obtain ⟨r', hF', hK⟩ := Option.bind_eq_some_iff.mp hr9
  obtain ⟨V, L, X2, hR2, hX2, hS2, hcase⟩ := mz_do (hM r' hF') hU hV hc hr.1 hr.2.1 hr.2.2.1 hr.2.2.2 C0 hR hX hS hl.1 hT X
  rcases hcase with ⟨-, h1⟩ | ⟨h1, -⟩
  · obtain ⟨t, a1, b1⟩ := kk r' r hK p e s m args below meth c C0 V.heap (locs ++ L) ls hR2 hX2 hS2 hl V rfl X2
    exact ⟨t, h1 t a1, b1⟩
  · exact absurd (h0 r') h1
/-- the callee may throw, nothing here takes it -/
theorem mz_goT {lv : List (Nat × Value)} (hM : mz_M g M' d' as ex h F' res') (hU : mz_U M') (hV : mz_V g M M' R h k n pc lv as st st0) (hc : (st.map fun v => v.category).sum ≤ 8) (hr : d' + 1 ≤ R.frames ∧ 38 + 38 * d' ≤ R.locals ∧ k + 200 * d' ≤ R.cells ∧ n + 20000 * d' ≤ R.slots) (hh0 : mz_h M = [])
    (kk : ∀ r', (res' r').1 = 0 → mz_A g M R res (pc + 3) lv ((res' r').2.1.toList ++ st) (res' r').2.2.1 (res' r').2.2.2.1 (k + (res' r').2.2.2.2.1) (n + (res' r').2.2.2.2.2) (Kf r'))
    (kx : ∀ r', (res' r').1 ≠ 0 → ∀ r, Kf r' = some r → ∃ v, res r = ((res' r').1, v, (res' r').2.2.1, (res' r').2.2.2.1, k + (res' r').2.2.2.2.1, n + (res' r').2.2.2.2.2)) : mz_A g M R res pc lv st0 ex h k n (F'.bind Kf) := by
  intro r hr9 p e s m args below meth c C0 H locs ls hR hX hS hl T hT X
  obtain ⟨r', hF', hK⟩ := Option.bind_eq_some_iff.mp hr9
  obtain ⟨V, L, X2, hR2, hX2, hS2, hcase⟩ := mz_do (hM r' hF') hU hV hc hr.1 hr.2.1 hr.2.2.1 hr.2.2.2 C0 hR hX hS hl.1 hT X
  rcases hcase with ⟨h0, h1⟩ | ⟨h0, q, cl, h1, h2, h3, h3b, h4⟩
  · obtain ⟨t, a1, b1⟩ := kk r' h0 r hK p e s m args below meth c C0 V.heap (locs ++ L) ls hR2 hX2 hS2 hl V rfl X2
    exact ⟨t, h1 t a1, b1⟩
  · obtain ⟨v9, hv9⟩ := kx r' h0 r hK
    obtain ⟨st1, hrun, hend, hW, hsm⟩ := X2.leaveThrown q (g := F0 m pc ls (st.map (mz_cv g))) rfl rfl rfl (fun x hx => by rw [C0.2.2.2.2.2.2.2.1, hh0] at hx; cases hx) C0.2.2.2.2.2.2.1
    refine ⟨_, h4.trans st1, .threw q, hrun, hend, ?_⟩
    rw [hv9]
    exact ⟨Or.inr ⟨h0, q, cl, rfl, h1, h2, h3, h3b⟩, hR2, hX2, hW, locs ++ L, hsm, hS2.2.2⟩
-- the kinds of calls
variable {index : Nat}
def mz_np (y : MethodName) (n : Nat) : Prop := ∀ sig, parseMethodDescriptor y.desc = some sig → n = sig.parameters.length
theorem mz_np_of {y : MethodName} {n : Nat} (h : (parseMethodDescriptor y.desc).map (fun d => d.parameters.length) = some n) : mz_np y n := by
  intro sig h1
  rw [h1] at h
  exact (Option.some.inj h).symm
theorem mz_recv {p : Program} {s : State} {m : MethodId} {args : Array Value} {meth : Method} {c : Code} {H : Heap} {a ci : Nat} {fs : List Value} {C : String} {T : u_T} {N : Nat} (C0 : mz_C g M p s m args meth c) (hR : mz_R g h H) (hg : mz_get h a = some (.inr (ci, fs))) (hcl : mz_CL[ci]? = some (C, T, N)) : ∃ cell : Cell, H[mz_b g + a]? = some cell ∧ cell.vm.isStatics = false ∧ s.vm.findClass C = some cell.cls :=
  va_recv (ci := ci) (q0 := 0) (fs := fs.map (mz_cv g)) (mz_Fs C0).1 (mz_one hR hg) hcl rfl
/-- a method of instances, by invokevirtual -/
theorem mz_vV {As : List Value} {a ci N : Nat} {fs : List Value} {C : String} {T : u_T} (d : decode (mz_c M) pc = .ok (.invokevirtual index, 3)) (hU : mz_U M') (hh0 : mz_h M' = []) (hlk : Cond.methodLink (mz_y M).cls index (mz_y M') ∈ mz_big) (hin : Cond.instanceMethod (mz_y M') ∈ mz_big) (hse : Cond.selects C (mz_y M') (mz_y M') ∈ mz_big) (hnp : mz_np (mz_y M') As.length) (hg : mz_get h a = some (.inr (ci, fs))) (hcl : mz_CL[ci]? = some (C, T, N)) :
    mz_V g M M' R h k n pc lv (.ref a :: As) st (As.reverse ++ .ref a :: st) := by
  intro p e s m args below meth c C0 H locs ls hR hl T hT X
  have hts := C0.2.2.2.2.2.1
  obtain ⟨cell, hcell, hobj, hcls⟩ := mz_recv C0 hR hg hcl
  obtain ⟨mk, methM, hnamed, hmethM, hstM, habM⟩ := Cond.instanceMethod_spec (hts _ hin)
  obtain ⟨m9, methM', cM, h0, hmethM', -, -, -, -, -, -, hsigM⟩ := mz_code (M := M') (hts _ hU.1)
  cases hnamed.symm.trans h0
  cases hmethM.symm.trans hmethM'
  obtain ⟨c2, r2, m2, q1, q2, q3, q4, kP, hkP, hkPi⟩ := Cond.selects_spec (hts _ hse)
  cases hcls.symm.trans q1
  cases (State.methodFound?_of_named hnamed hU.2.2.1).symm.trans q2
  cases hnamed.symm.trans q3
  have hselP : selectMethod e.platform s.vm cell.cls mk = .method mk := by rw [Launch.admits_selectMethod X.admits]; exact q4
  obtain ⟨vm₁, X₁, hstep₁⟩ := X.invokevirtual C0.1 C0.2.2.2.2.1 (hts _ hlk) hnamed hmethM hstM hkP hkPi hU.2.2.1 (a := mz_b g + a) (cell := cell) (by rw [hT]; exact hcell)
    (fun z hz => by rw [hz] at hobj; cases hobj) hselP hmethM habM hkP hkPi (g := F0 m pc ls ((As.reverse ++ .ref a :: st).map (mz_cv g))) rfl (argsL := As.map (mz_cv g)) (rest := st.map (mz_cv g)) (by rw [List.length_map]; exact hnp _ hsigM) (by show (As.reverse ++ .ref a :: st).map (mz_cv g) = _; rw [List.map_append, List.map_reverse]; rfl) (by rw [C0.2.1]; exact d)
  exact ⟨vm₁, mk, _, X₁, X₁.named hnamed, d, fun target ht => hstep₁ _ fun acts => by rw [doInvoke_state]; exact ht⟩
theorem mz_vVN {As : List Value} {a ci N : Nat} {fs : List Value} {C host : String} {T : u_T} (d : decode (mz_c M) pc = .ok (.invokevirtual index, 3)) (hU : mz_U M') (hh0 : mz_h M' = []) (hlk : Cond.methodLinkNest (mz_y M).cls index (mz_y M') host ∈ mz_NW) (hin : Cond.instanceMethod (mz_y M') ∈ mz_big) (hse : Cond.selects C (mz_y M') (mz_y M') ∈ mz_big) (hnp : mz_np (mz_y M') As.length) (hg : mz_get h a = some (.inr (ci, fs))) (hcl : mz_CL[ci]? = some (C, T, N)) :
    mz_V g M M' R h k n pc lv (.ref a :: As) st (As.reverse ++ .ref a :: st) := by
  intro p e s m args below meth c C0 H locs ls hR hl T hT X
  have hts := C0.2.2.2.2.2.1
  obtain ⟨cell, hcell, hobj, hcls⟩ := mz_recv C0 hR hg hcl
  obtain ⟨mk, methM, hnamed, hmethM, hstM, habM⟩ := Cond.instanceMethod_spec (hts _ hin)
  obtain ⟨m9, methM', cM, h0, hmethM', -, -, -, -, -, -, hsigM⟩ := mz_code (M := M') (hts _ hU.1)
  cases hnamed.symm.trans h0
  cases hmethM.symm.trans hmethM'
  obtain ⟨c2, r2, m2, q1, q2, q3, q4, kP, hkP, hkPi⟩ := Cond.selects_spec (hts _ hse)
  cases hcls.symm.trans q1
  cases (State.methodFound?_of_named hnamed hU.2.2.1).symm.trans q2
  cases hnamed.symm.trans q3
  have hselP : selectMethod e.platform s.vm cell.cls mk = .method mk := by rw [Launch.admits_selectMethod X.admits]; exact q4
  obtain ⟨vm₁, X₁, hstep₁⟩ := X.invokevirtualNest C0.1 C0.2.2.2.2.1 (va_Nw.use (A := args) rfl ((mz_Fs C0).2.1 _ hlk)) hnamed hmethM hstM hkP hkPi hU.2.2.1 (a := mz_b g + a) (cell := cell) (by rw [hT]; exact hcell)
    (fun z hz => by rw [hz] at hobj; cases hobj) hselP hmethM habM hkP hkPi (g := F0 m pc ls ((As.reverse ++ .ref a :: st).map (mz_cv g))) rfl (argsL := As.map (mz_cv g)) (rest := st.map (mz_cv g)) (by rw [List.length_map]; exact hnp _ hsigM) (by show (As.reverse ++ .ref a :: st).map (mz_cv g) = _; rw [List.map_append, List.map_reverse]; rfl) (by rw [C0.2.1]; exact d)
  exact ⟨vm₁, mk, _, X₁, X₁.named hnamed, d, fun target ht => hstep₁ _ fun acts => by rw [doInvoke_state]; exact ht⟩
theorem mz_vS (d : decode (mz_c M) pc = .ok (.invokestatic index, 3)) (hU : mz_U M') (hlk : Cond.methodLink (mz_y M).cls index (mz_y M') ∈ mz_big) (hsk : Cond.static (mz_y M') ∈ mz_big) (hnp : mz_np (mz_y M') as.length) :
    mz_V g M M' R h k n pc lv as st (as.reverse ++ st) := by
  intro p e s m args below meth c C0 H locs ls hR hl T hT X
  have hts := C0.2.2.2.2.2.1
  obtain ⟨mk, methM, cM, hnamed, hmethM, -, -, -, -, -, -, hsigM⟩ := mz_code (M := M') (hts _ hU.1)
  have hstatic : methM.isStatic = true := Cond.static_spec hnamed hmethM (hts _ hsk)
  obtain ⟨kP, hkP, -⟩ := className_of_methodNamed hnamed
  have hinitP : kP.init = .initialized := Cond.initialized_spec (findClass_of_methodNamed hnamed) hkP (hts _ hU.2.1)
  obtain ⟨vm₁, X₁, hstep₁⟩ := X.invokestatic C0.1 C0.2.2.2.2.1 (hts _ hlk) hnamed hmethM hstatic hkP hinitP hU.2.2.1 (g := F0 m pc ls ((as.reverse ++ st).map (mz_cv g))) rfl (argsL := as.map (mz_cv g)) (rest := st.map (mz_cv g)) (by rw [List.length_map]; exact hnp _ hsigM) (by show (as.reverse ++ st).map (mz_cv g) = _; rw [List.map_append, List.map_reverse]) (by rw [C0.2.1]; exact d)
  exact ⟨vm₁, mk, _, X₁, X₁.named hnamed, d, fun target ht => hstep₁ _ fun acts => by rw [doInvoke_state]; exact ht⟩
theorem mz_vSN {host : String} (d : decode (mz_c M) pc = .ok (.invokestatic index, 3)) (hU : mz_U M') (hlk : Cond.methodLinkNest (mz_y M).cls index (mz_y M') host ∈ mz_NW) (hsk : Cond.static (mz_y M') ∈ mz_big) (hnp : mz_np (mz_y M') as.length) :
    mz_V g M M' R h k n pc lv as st (as.reverse ++ st) := by
  intro p e s m args below meth c C0 H locs ls hR hl T hT X
  have hts := C0.2.2.2.2.2.1
  obtain ⟨mk, methM, cM, hnamed, hmethM, -, -, -, -, -, -, hsigM⟩ := mz_code (M := M') (hts _ hU.1)
  have hstatic : methM.isStatic = true := Cond.static_spec hnamed hmethM (hts _ hsk)
  obtain ⟨kP, hkP, -⟩ := className_of_methodNamed hnamed
  have hinitP : kP.init = .initialized := Cond.initialized_spec (findClass_of_methodNamed hnamed) hkP (hts _ hU.2.1)
  obtain ⟨vm₁, X₁, hstep₁⟩ := X.invokestaticNest C0.1 C0.2.2.2.2.1 (va_Nw.use (A := args) rfl ((mz_Fs C0).2.1 _ hlk)) hnamed hmethM hstatic hkP hinitP hU.2.2.1 (g := F0 m pc ls ((as.reverse ++ st).map (mz_cv g))) rfl (argsL := as.map (mz_cv g)) (rest := st.map (mz_cv g)) (by rw [List.length_map]; exact hnp _ hsigM) (by show (as.reverse ++ st).map (mz_cv g) = _; rw [List.map_append, List.map_reverse]) (by rw [C0.2.1]; exact d)
  exact ⟨vm₁, mk, _, X₁, X₁.named hnamed, d, fun target ht => hstep₁ _ fun acts => by rw [doInvoke_state]; exact ht⟩
/-- a constructor -/
theorem mz_vI {As : List Value} {a : Nat} (d : decode (mz_c M) pc = .ok (.invokespecial index, 3)) (hU : mz_U M') (hh0 : M' = ((mz_y M'), (mz_c M'), (mz_m M'), none, [])) (hy1 : (mz_y M').name = "<init>") (hlk : Cond.methodLink (mz_y M).cls index (mz_y M') ∈ mz_big) (hin : Cond.instanceMethod (mz_y M') ∈ mz_big) (hnp : mz_np (mz_y M') As.length) :
    mz_V g M M' R h k n pc lv (.ref a :: As) st (As.reverse ++ .ref a :: st) := by
  intro p e s m args below meth c C0 H locs ls hR hl T hT X
  have hts := C0.2.2.2.2.2.1
  have hpl : e.platform.magicAccessors = ({} : Platform).magicAccessors := by rw [X.admits.platform]
  have hcode : (Cond.code (mz_y M') (mz_c M') (mz_m M') none).before args s = true := by
    have := hts _ hU.1
    rw [hh0] at this
    exact this
  obtain ⟨mk, methM, cM, kP, vm₁, hnamed, hmethM, hcodeM, -, hlocalsM, -, hkP, -, hW₁, hstep₁⟩ := Steps.initColdArgs (e := e) X.here C0.1 X.warmed hpl C0.2.2.2.2.1 hy1 hU.2.2.1 (hts _ hlk) (hts _ hin) hcode (f := F0 m pc ls ((As.reverse ++ .ref a :: st).map (mz_cv g))) rfl (a := mz_b g + a) (argsL := As.map (mz_cv g)) (rest := st.map (mz_cv g)) (fun sig hs => by rw [List.length_map]; exact hnp _ hs) (by show (As.reverse ++ .ref a :: st).map (mz_cv g) = _; rw [List.map_append, List.map_reverse]; rfl) (by rw [C0.2.1]; exact d)
  have X₁ := X.noted hW₁
  exact ⟨vm₁, mk, _, X₁, X₁.named hnamed, d, fun target ht => hstep₁ _ fun acts => by rw [doInvoke_state]; exact ht⟩
end MZ5
def mz_x (ex : Bool) (c : Nat) : Bool := match c with
  | 0 => ex
  | _ + 1 => false
def mz_k (c : Nat) : Nat := match c with
  | 0 => 0
  | _ + 1 => 1
def mz_6 (c : Nat) : Nat := match c with
  | 0 => 0
  | _ + 1 => 6
theorem mz_x0 {ex : Bool} {c : Nat} (h : c = 0) : mz_x ex c = ex := by subst h; rfl
theorem mz_k0 {c : Nat} (h : c = 0) : 0 + mz_k c = 0 := by subst h; rfl
theorem mz_60 {c : Nat} (h : c = 0) : 0 + mz_6 c = 0 := by subst h; rfl
theorem mz_lt {i : Int32} {n : Nat} (h : vp_in i n) : i.toNatClampNeg < n := Nat.not_le.mp fun q => h (Or.inr q)
section MZ6
variable {β : Type} {g : mz_G} {M : mz_I} {R : Room} {res : β → mz_S} {pc : Nat} {lv lv' : List (Nat × Value)} {st : List Value} {ex : Bool} {h h2 : mz_H} {k n : Nat} {F F1 F2 : Option β}
theorem mr_byc {P : Prop} [Decidable P] (k1 : P → mz_A g M R res pc lv st ex h k n F1) (k2 : ¬ P → mz_A g M R res pc lv st ex h k n F2) : mz_A g M R res pc lv st ex h k n (if P then F1 else F2) := by
  by_cases c : P
  · rw [if_pos c]; exact k1 c
  · rw [if_neg c]; exact k2 c
theorem mr_ghost {P : Prop} [Decidable P] (kk : ¬ P → mz_A g M R res pc lv st ex h k n F) : mz_A g M R res pc lv st ex h k n (if P then none else F) := mr_byc (fun _ => mr_none) kk
theorem mr_ifp {P : Prop} [Decidable P] (hp : P) (kk : mz_A g M R res pc lv st ex h k n F1) : mz_A g M R res pc lv st ex h k n (if P then F1 else F2) := by rw [if_pos hp]; exact kk
theorem mr_ldc2 {i : Nat} {v : Int64} (d : decode (mz_c M) pc = .ok (.ldc2_w i, 3)) (hw : Cond.constantLong (mz_y M).cls i v ∈ mz_big)
    (kk : mz_A g M R res (pc + 3) lv (.long v :: st) ex h k n F) : mz_A g M R res pc lv st ex h k n F :=
  mz_s (fun p e s m args below meth c H locs ls Q C hR hS hl w => lv_ldc2 C.1 C.2.1 C.2.2.2.2.1 (C.2.2.2.2.2.1 _ hw) d w) kk
theorem mr_tIn {dflt lo hi : Int} {offs : Array Int} {len : Nat} {x y : Int32} {off : Int} {tgt : Nat} (d : decode (mz_c M) pc = .ok (.tableswitch dflt lo hi offs, len)) (hx : x = y) (h1 : ¬ y.toInt < lo) (h2 : ¬ hi < y.toInt) (ho : offs[(y.toInt - lo).toNat]? = some off) (ht : (pc : Int) + off = (tgt : Int))
    (kk : mz_A g M R res tgt lv st ex h k n F) : mz_A g M R res pc lv (.int x :: st) ex h k n F := by
  subst hx
  exact mz_s (fun p e s m args below meth c H locs ls Q C hR hS hl w => lv_tableIn C.1 C.2.1 d h1 h2 ho ht w) kk
theorem mr_tOut {dflt lo hi : Int} {offs : Array Int} {len : Nat} {x : Int32} {tgt : Nat} (d : decode (mz_c M) pc = .ok (.tableswitch dflt lo hi offs, len)) (hx : x.toInt < lo ∨ hi < x.toInt) (ht : (pc : Int) + dflt = (tgt : Int))
    (kk : mz_A g M R res tgt lv st ex h k n F) : mz_A g M R res pc lv (.int x :: st) ex h k n F :=
  mz_s (fun p e s m args below meth c H locs ls Q C hR hS hl w => lv_tableOut C.1 C.2.1 d hx ht w) kk
theorem mz_out3 {x : Int32} (h0 : ¬ x = 0) (h1 : ¬ x = 1) (h2 : ¬ x = 2) : x.toInt < 0 ∨ 2 < x.toInt := by
  rcases Int.lt_or_le x.toInt 0 with q | q
  · exact Or.inl q
  · right
    have e0 : x.toInt ≠ 0 := fun e => h0 (Int32.toInt_inj.mp e)
    have e1 : x.toInt ≠ 1 := fun e => h1 (Int32.toInt_inj.mp e)
    have e2 : x.toInt ≠ 2 := fun e => h2 (Int32.toInt_inj.mp e)
    omega
-- new cells
variable {ci N index a : Nat} {C : String} {T : u_T} {ty : Nat → FieldType} {fs : List Value} {v : Value}
theorem mz_Sn {H H1 : Heap} {s : State} {locs : List Loc} (hb : mz_b g ≤ s.heap.size) (hS : va_S (mz_fr g) s.heap H locs) (z : H1.size = H.size + 1) (o : ∀ q : Nat, q < H.size → H1[q]? = H[q]?) : va_S (mz_fr g) s.heap H1 locs :=
  ⟨Nat.le_trans hS.1 (by omega), fun x h1 h2 => (o x (Nat.lt_of_lt_of_le h1 hS.1)).trans (hS.2.1 x h1 h2), hS.2.2⟩
theorem mr_new (K : mz_cl ci C T N ty) {i : Nat} (d : decode (mz_c M) pc = .ok (.new index, 3)) (hw : Cond.classLink (mz_y M).cls index C ∈ mz_big) (hw2 : Cond.instantiable C N ∈ mz_big) (hw3 : Cond.initialized C ∈ mz_big) (hfs : ∀ j, j < N → defaultValue (ty j) = vp_V (fs.map (mz_cv g)) j) (hok : mz_ok h) (hi : mz_n h = i) (hh : mz_push h (.inr (ci, fs)) = h2) (hc : k + 1 ≤ R.cells) (hs : n + N ≤ R.slots)
    (kk : mz_A g M R res (pc + 3) lv (.ref i :: st) true h2 (k + 1) (n + N) F) : mz_A g M R res pc lv st true h k n F := by
  intro r hr p e s m args below meth c C0 H locs ls hR hX hS hl
  subst hh; subst hi
  have hts := C0.2.2.2.2.2.1
  have hKn := (mz_Fs C0).1.1 ci _ K.1
  have hz := hX rfl
  refine W.newcK C0.1 C0.2.1 C0.2.2.2.2.1 (hts _ hw) (hts _ hw2) (hts _ hw3) rfl d hc hs hKn.2.1 rfl fun H1 kC hkC e1 z1 o1 => ?_
  have hat : va_at g.1.1 mz_CL (H.size, mz_ce g (.inr (ci, fs))) H1 := ⟨_, K.1, (u_born ty hts K.2.1 hKn hkC e1 K.2.2.1).to hfs⟩
  have K2 := kk r hr p e s m args below meth c C0 H1 locs ls (hR.new hok hz hat o1) (fun _ => by rw [z1, mz_n_push, hz]; omega) (mz_Sn C0.2.2.2.2.2.2.2.2.2.2.2 hS z1 o1) hl
  rw [hz]
  exact K2
theorem mr_newa {at0 : ArrayType} {fty : FieldType} {t0 : Nat} {n0 : Int32} {N' i : Nat} {a0 : vp_A} (d : decode (mz_c M) pc = .ok (.newarray at0, 2)) (hty : newarray.typeOf at0 = fty) (ht : ∀ g9 : mz_G, (mz_ty g9)[t0]? = some (g9.1.2 t0, fty)) (hp : ∀ (U : State) (cA cB : ClassId), va_RA U cA fty → U.vm.findClass ("[" ++ fty.toString) = some cB → cB = cA) (hw : Cond.arrayClass fty ∈ mz_big) (ha : ∀ cA : ClassId, vp_cell cA (mz_ca g a0) = arrV cA N' (fun _ => defaultValue fty)) (hn : ¬ n0 < 0) (hN : n0.toNatClampNeg = N') (hbytes : N' * componentBytes fty ≤ 536870912) (hok : mz_ok h) (hi : mz_n h = i) (hh : mz_push h (.inl (t0, a0)) = h2) (hc : k + 1 ≤ R.cells) (hs : n + N' ≤ R.slots)
    (kk : mz_A g M R res (pc + 2) lv (.ref i :: st) true h2 (k + 1) (n + N') F) : mz_A g M R res pc lv (.int n0 :: st) true h k n F := by
  intro r hr p e s m args below meth c C0 H locs ls hR hX hS hl
  subst hh; subst hi; subst hty
  have hts := C0.2.2.2.2.2.1
  have hz := hX rfl
  refine va_newaK C0.1 C0.2.1 (hts _ hw) rfl d rfl hn hN hbytes hc hs rfl fun H1 cA e1 z1 o1 hAr hNm => ?_
  have hcA : cA = g.1.2 t0 := hp s _ _ ((mz_Fs C0).1.2 t0 _ (ht g)).2 hNm
  subst hcA
  have hat : va_at g.1.1 mz_CL (H.size, mz_ce g (.inl (t0, a0))) H1 := by
    show H1[H.size]? = some (vp_cell _ (mz_ca g a0))
    rw [ha]
    exact e1
  have K2 := kk r hr p e s m args below meth c C0 H1 locs ls (hR.new hok hz hat o1) (fun _ => by rw [z1, mz_n_push, hz]; omega) (mz_Sn C0.2.2.2.2.2.2.2.2.2.2.2 hS z1 o1) hl
  rw [hz]
  exact K2
theorem mr_newq {E : String} {t0 : Nat} {n0 : Int32} {N' i : Nat} (d : decode (mz_c M) pc = .ok (.anewarray index, 3)) (ht : ∀ g9 : mz_G, (mz_ty g9)[t0]? = some (g9.1.2 t0, .object E)) (hw : Cond.classLink (mz_y M).cls index E ∈ mz_big) (hAO : E ∈ mz_AO) (hn : ¬ n0 < 0) (hN : n0.toNatClampNeg = N') (hbytes : N' * 4 ≤ 536870912) (hok : mz_ok h) (hi : mz_n h = i) (hh : mz_push h (.inl (t0, N', .inr (.inr (.inr (.inr (fun _ => none)))))) = h2) (hc : k + 1 ≤ R.cells) (hs : n + N' ≤ R.slots)
    (kk : mz_A g M R res (pc + 3) lv (.ref i :: st) true h2 (k + 1) (n + N') F) : mz_A g M R res pc lv (.int n0 :: st) true h k n F := by
  intro r hr p e s m args below meth c C0 H locs ls hR hX hS hl
  subst hh; subst hi; subst hN
  have hts := C0.2.2.2.2.2.1
  have hz := hX rfl
  refine W.anew C0.1 C0.2.1 C0.2.2.2.2.1 (hts _ hw) (va_AO.use ((mz_Fs C0).2.2.2.2.1 E hAO)) rfl d rfl hn hbytes hc hs fun cA kA comp f1 f2 f3 f4 => ?_
  obtain ⟨kA9, comp9, -, -, -, f9⟩ := ((mz_Fs C0).1.2 t0 _ (ht g)).2
  have hcA : cA = g.1.2 t0 := Option.some.inj (f1.symm.trans f9)
  subst hcA
  generalize hH1 : H.push ({ cls := g.1.2 t0, slots := Array.replicate n0.toNatClampNeg .null, vm := .none } : Cell) = H1
  have z1 : H1.size = H.size + 1 := by rw [← hH1, Array.size_push]
  have e1 : H1[H.size]? = some (arrV (g.1.2 t0) n0.toNatClampNeg (fun _ => .null)) := by rw [← hH1, Array.getElem?_push_size, ← arrV_new]
  have o1 : ∀ q : Nat, q < H.size → H1[q]? = H[q]? := fun q hq => by rw [← hH1, Array.getElem?_push, if_neg (Nat.ne_of_lt hq)]
  have hat : va_at g.1.1 mz_CL (H.size, mz_ce g (.inl (t0, n0.toNatClampNeg, .inr (.inr (.inr (.inr (fun _ => none))))))) H1 := by
    show H1[H.size]? = some (vp_cell _ (n0.toNatClampNeg, .inr (.inr (.inr (.inr (fun _ => none))))))
    rw [vp_cell_q]
    exact e1
  have K2 := kk r hr p e s m args below meth c C0 H1 locs ls (hR.new hok hz hat o1) (fun _ => by rw [z1, mz_n_push, hz]; omega) (mz_Sn C0.2.2.2.2.2.2.2.2.2.2.2 hS z1 o1) hl
  rw [hz]
  exact K2
/-- a new object put into a row of references -/
theorem mr_astq {t0 qk nn j : Nat} {vs : List Value} {f : Nat → Option Nat} {i0 : Int32} (d : decode (mz_c M) pc = .ok (.aastore, 1)) (ht : ∀ g9 : mz_G, (mz_ty g9)[t0]? = some (g9.1.2 t0, .object C)) (hcl : mz_CL[ci]? = some (C, T, N)) (hg : mz_get h a = some (.inl (t0, nn, .inr (.inr (.inr (.inr f)))))) (hv : mz_get h j = some (.inr (ci, vs))) (hh : mz_set h a (.inl (t0, nn, .inr (.inr (.inr (.inr (va_up f i0.toNatClampNeg (some j))))))) = h2) (hin : vp_in i0 nn)
    (kk : mz_A g M R res (pc + 1) lv st ex h2 k n F) : mz_A g M R res pc lv (.ref j :: .int i0 :: .ref a :: st) ex h k n F := by
  intro r hr p e s m args below meth c C0 H locs ls hR hX hS hl
  subst hh
  have hlt : i0.toNatClampNeg < nn := mz_lt hin
  have h0 : ¬ i0 < 0 := fun q => hin (Or.inl q)
  obtain ⟨r', hr', cellV, g1, g2, g3, -⟩ := hR j _ hv
  have hcls := ((mz_Fs C0).1.1 ci _ hcl).2
  obtain ⟨kA, comp, k1, k2, k3, -⟩ := ((mz_Fs C0).1.2 t0 _ (ht g)).2
  have hcomp : comp = g.1.1.1 ci := Option.some.inj (k3.symm.trans hcls.1)
  subst hcomp
  obtain ⟨kC, hkC, -⟩ := hcls.2
  refine W.aast C0.1 C0.2.1 (hR a _ hg) (fun q h => by cases h) (fun h => by cases h) k1 k2 rfl hkC ⟨h0, by show _ < (arrV _ _ _).slots.size; rw [arrV_size]; exact hlt⟩ g1 (fun q h => by rw [g3] at h; cases h) (by rw [g2]; exact hkC) (by rw [g2]; exact va_assign hcls) rfl rfl d fun H1 e9 z oq => ?_
  refine kk r hr p e s m args below meth c C0 H1 _ ls (hR.put hg ?_ oq) (fun q => by rw [z, mz_n_set]; exact hX q) (hS.put z oq (Nat.le_add_right _ _)) hl
  show H1[mz_b g + a]? = some (vp_cell _ (nn, .inr (.inr (.inr (.inr (fun j9 => (va_up f i0.toNatClampNeg (some j) j9).map (fun i => mz_b g + i)))))))
  rw [e9]
  show some ((vp_cell _ (nn, .inr (.inr (.inr (.inr (fun j9 => (f j9).map (fun i => mz_b g + i))))))).setSlot _ _) = _
  rw [vp_cell_q, vp_cell_q, arrV_store]
  congr 2
  funext q
  by_cases hq : q = i0.toNatClampNeg
  · subst hq
    simp [updV, va_up, va_rf]
  · simp [updV, va_up, hq]
theorem mr_objInit {idx : Nat} (d : decode (mz_c M) pc = .ok (.invokespecial idx, 3)) (hw : Cond.methodLink (mz_y M).cls idx Lib.objectInit ∈ mz_big) (hw2 : Cond.instanceMethod Lib.objectInit ∈ mz_big) (hw3 : Cond.code Lib.objectInit ⟨#[0xb1]⟩ 1 none ∈ mz_big) (hf : 1 ≤ R.frames) (hlo : (st.map fun v => v.category).sum + 12 ≤ R.locals)
    (kk : mz_A g M R res (pc + 3) lv st ex h k n F) : mz_A g M R res pc lv (.ref a :: st) ex h k n F :=
  mz_s (fun p e s m args below meth c H locs ls Q C0 hR hS hl w => W.objInit C0.1 C0.2.1 C0.2.2.2.2.1 (C0.2.2.2.2.2.1 _ hw) (C0.2.2.2.2.2.1 _ hw2) (C0.2.2.2.2.2.1 _ hw3) rfl (hl.1.trans C0.2.2.2.1.symm) rfl d hf (by
    have e1 : ((st.map (mz_cv g)).map fun v => v.category).sum = (st.map fun v => v.category).sum := by
      rw [List.map_map]
      congr 1
      exact List.map_congr_left fun v _ => mz_cat g v
    show 2 * 0 + _ + 12 ≤ _
    rw [e1]
    omega) w) kk
end MZ6
section MZ7
variable {p : Program} {l : Launch} {e : Env} {R : Room} {s : State} {m : MethodId} {args : Array Value} {below : List Frame} {meth : Method} {c : Code} {T : State} {locs : List Loc} {cells slots : Nat}
/-- the walk as one that begins at this heap -/
theorem mz_anew (X : Stand p l e R s m args below meth c T locs cells slots) {R' : Room} (hf : R'.frames ≤ R.frames) (hl : R'.locals ≤ R.locals) (hc : cells + R'.cells ≤ R.cells) (hs : slots + R'.slots ≤ R.slots) :
    Stand p l e R' ((T.setVm s.vm).setFrames (.invoking m args :: below)) m args below meth c T [] 0 0 := by
  have htop : (T.setVm s.vm).topJava?.isSome := X.here.top
  have hF : ((T.setVm s.vm).setFrames (.invoking m args :: below)).frames = .invoking m args :: below := State.frames_setFrames _ (State.cur_lt_of_top htop)
  obtain ⟨g₀, hg0⟩ := Option.isSome_iff_exists.mp htop
  obtain ⟨r, hr⟩ := State.topJava?_eq_some.mp hg0
  obtain ⟨t, ht, -⟩ := State.frames_cons hr
  have hnil : T.heap.toList.drop T.heap.size = [] := List.drop_eq_nil_of_le (Nat.le_of_eq Array.length_toList)
  refine ⟨X.admits, X.cas, X.clock, hF, ?_, X.hears, X.method, X.code, X.here, X.tail, X.warmed, ?_, ?_, ?_⟩
  · have h := X.room
    have hU : ((T.setVm s.vm).setFrames (.invoking m args :: below)).localsInUse = s.localsInUse := by
      rw [State.localsInUse_invoking hF (meth := meth) (c := c) X.method X.code, State.localsInUse_invoking X.frames X.method X.code]
    have q3 : e.platform.stackLimits (T.setVm s.vm).me = e.platform.stackLimits s.me := X.limits
    have q4 : (T.setVm s.vm).me.stackBytes = s.me.stackBytes := X.bytes
    have q1 := X.heapSize
    have q2 := X.used
    simp only [State.hasRoom, Bool.and_eq_true, decide_eq_true_eq] at h ⊢
    obtain ⟨⟨⟨⟨h1, h2, h3, h4, h5, h6⟩, h7⟩, h8⟩, h9⟩ := h
    rw [X.frames, List.length_cons] at h2 h3
    simp only [hF, hU, List.length_cons, State.stackLimits_setFrames, State.stackBytes_setFrames, q3, q4]
    refine ⟨⟨⟨⟨by omega, by omega, by omega, by omega, by omega, h6⟩, ?_⟩, ?_⟩, X.book⟩
    · show T.heap.size + R'.cells ≤ e.platform.maxCells
      omega
    · show T.slotsUsed + R'.slots ≤ e.platform.maxSlots
      omega
  · rw [State.stackLimits_setFrames]; rfl
  · rw [State.stackBytes_setFrames]; rfl
  · refine ⟨?_, Nat.le_refl _, Nat.le_refl _, ?_, ?_, fun a c9 h9 => ⟨c9, h9, rfl, rfl, fun _ _ => rfl⟩⟩
    · show T.setVm s.vm = { ((T.setVm s.vm).setFrames (.invoking m args :: below)).setFrames (T.setVm s.vm).frames with heap := T.heap, slotsUsed := T.slotsUsed }
      rw [State.setFrames_setFrames, State.setFrames_self ht]
      rfl
    · show T.slotsUsed = T.slotsUsed + ((T.heap.toList.drop T.heap.size).map (·.slots.size)).sum
      rw [hnil]; rfl
    · show ((T.heap.toList.drop T.heap.size).map (·.slots.size)).sum ≤ 0
      rw [hnil]; exact Nat.le_refl _
end MZ7
def mz_sup : List String := ["java/lang/RuntimeException", "java/lang/Exception"]
/-- the words of 'throw new X(text)' -/
def mz_tw (own : String) (ik is ic : Nat) (text : String) (code : Nat) : Prop :=
  Cond.classLink own ik (mz_X code) ∈ mz_big ∧ Cond.initialized (mz_X code) ∈ mz_big ∧ (own, is, text) ∈ mz_SL ∧ (∀ w ∈ Bundle.ownAtoms own ic (mz_X code) mz_sup, w ∈ mz_big ∨ w ∈ mz_ST) ∧ Bundle.fit (mz_X code) = true ∧ code ≠ 0
theorem mz_supfit : ∀ n ∈ mz_sup, Bundle.fit n = true := by decide +kernel
section MZ8
variable {β γ : Type} {g : mz_G} {M M' : mz_I} {R : Room} {res : β → mz_S} {res' : γ → mz_S} {pc d' : Nat} {lv lv' : List (Nat × Value)} {as st st0 : List Value} {ex : Bool} {h h2 : mz_H} {k n : Nat} {F F1 F2 : Option β} {F' : Option γ} {Kf : γ → Option β}
theorem mr_throw {ik is ic code : Nat} {text : String} {r : β} {v : Option Value} (d0 : decode (mz_c M) pc = .ok (.new ik, 3)) (d3 : decode (mz_c M) (pc + 3) = .ok (.dup, 1)) (d4 : decode (mz_c M) (pc + 4) = .ok (.ldc is, 2)) (d6 : decode (mz_c M) (pc + 6) = .ok (.invokespecial ic, 3)) (d9 : decode (mz_c M) (pc + 9) = .ok (.athrow, 1)) (tw : mz_tw (mz_y M).cls ik is ic text code) (hh0 : mz_h M = [])
    (hr1 : 6 ≤ R.frames) (hr2 : (st.map fun v => v.category).sum + 82 ≤ R.locals) (hr3 : k + 1 ≤ R.cells) (hr4 : n + 6 ≤ R.slots) (he : res r = (code, v, false, h, k + 1, n + 6)) : mz_A g M R res pc lv st ex h k n (some r) := by
  intro r' hr p e s m args below meth c C0 H locs ls hR hX hS hl T hT X
  cases hr
  obtain ⟨w1, w2, w3, w4, w5, w6⟩ := tw
  have hts := C0.2.2.2.2.2.1
  have htr : e.platform.stackTraces = false := (show e.platform.stackTraces = (mz_l g).stackTraces by rw [X.admits.platform]).trans C0.2.2.2.2.2.2.2.2.2.2.1.2
  have Y := mz_anew X (R' := { frames := R.frames, locals := R.locals, cells := 1, slots := 6 }) (Nat.le_refl _) (Nat.le_refl _) hr3 hr4
  obtain ⟨s', hA⟩ : ∃ z, z = (T.setVm s.vm).setFrames (.invoking m args :: below) := ⟨_, rfl⟩
  rw [← hA] at Y
  have hvm : s'.vm = s.vm := by rw [hA]; rfl
  have hhp : s'.heap = H := by rw [hA]; exact hT
  have hW0 : s.WarmedH s'.vm := by rw [hvm]; exact State.WarmedH.refl s
  have hF' : mz_F g s' := C0.2.2.2.2.2.2.2.2.2.1 s' hW0 (fun q hq => by rw [hhp]; exact mz_below C0.2.2.2.2.2.2.2.2.2.2.2 hS q hq)
  have hb' : ∀ w ∈ mz_big, w.before args s' = true := fun w hw => mz_bigG hw hts hW0
  have hall : ∀ w ∈ Bundle.ownAtoms (mz_y M).cls ic (mz_X code) mz_sup, w.before args s' = true := fun w hw => (w4 w hw).elim (hb' w) (fun q => hF'.2.2.2.2.2.2 w q args)
  obtain ⟨sa, hstr⟩ := hF'.2.2.1 _ w3
  have hown' : s'.vm.findClass (mz_y M).cls = some m.cls := by rw [hvm]; exact C0.2.2.2.2.1
  have hins : (Cond.instantiable (mz_X code) 6).before args s' = true := hall _ (by simp [Bundle.ownAtoms])
  have hcc : ∀ q i, decode (mz_c M) q = .ok i → decode c.code q = .ok i := fun q i hq => by rw [C0.2.1]; exact hq
  have hsz : ls.size = c.maxLocals := hl.1.trans C0.2.2.2.1.symm
  obtain ⟨vm₁, cX, kX, hfX, hkX, -, -, X₁, st1⟩ := Y.newCold C0.1 (own := (mz_y M).cls) (C := mz_X code) (index := ik) (n := 6) hown' (hb' _ w1) hins (hb' _ w2)
    (g := F0 m pc ls (st.map (mz_cv g))) rfl (hcc _ _ d0) (Nat.le_refl _) (Nat.le_refl _)
  generalize hT1 : (T.setVm vm₁).pushCell { cls := cX, slots := kX.instanceTypes.map defaultValue, vm := .none } = T1 at X₁ st1
  have hcat : (Value.ref T.heap.size).category = 1 := rfl
  have hcellA : T1.heap[T.heap.size]? = some (freshCell cX kX) := by rw [← hT1]; exact State.heap_pushCell_size _ _
  have d3' : decode c.code (pc + 3) = .ok (.dup, 1) := hcc _ _ d3
  have hsum : ((st.map (mz_cv g)).map fun v => v.category).sum = (st.map fun v => v.category).sum := by
    rw [List.map_map]
    congr 1
    exact List.map_congr_left fun v _ => mz_cat g v
  obtain ⟨U, hsteps, hrun, hend, hW, hsame, cl, hcl, hO⟩ := X₁.ctorThrowS C0.1 htr (own := (mz_y M).cls) (cls := mz_X code) (names := mz_sup) (ic := ic) hown' w5 mz_supfit hall (fun x hx => nomatch hx) hfX hkX hcellA (by rw [hhp, hT]; exact Nat.le_refl _) (msg := .ref sa) rfl
    (g := { method := m, pc := pc + 6, locals := ls, stack := .ref sa :: .ref T.heap.size :: .ref T.heap.size :: st.map (mz_cv g), locked := none }) rfl hsz rfl rfl (rest := st.map (mz_cv g)) rfl
    (hcc _ _ d6) (hcc _ _ d9) (fun x hx => by rw [C0.2.2.2.2.2.2.2.1, hh0] at hx; cases hx) (by show 2 + 3 < R.frames; omega) (by
      show 2 * 0 + ((Value.ref T.heap.size :: st.map (mz_cv g)).map fun v => v.category).sum + (13 * 3 + 42) ≤ R.locals
      rw [List.map_cons, List.sum_cons, hsum, hcat]
      omega) C0.2.2.2.2.2.2.1
  have hsm : s.sameButNew ({ U with vm := s.vm } : State) locs (k + 1) (n + 6) := by
    subst hA
    obtain ⟨e1, e2⟩ := hsame
    rw [State.setFrames_setFrames] at e1
    have h2 : (T.setVm s.vm).sameButNew ({ U with vm := s.vm } : State) [] (0 + 1) (0 + 6) := ⟨e1, e2⟩
    have h3 := X.same.trans h2
    rw [List.append_nil] at h3
    exact h3
  have hkeep : ∀ q : Nat, q < H.size → U.heap[q]? = H[q]? := fun q hq => by
    have := mz_old (b := H.size) hsame (fun z hz => nomatch hz) q hq (by rw [hhp]; exact hq)
    rw [hhp] at this
    exact this
  have hcls : s.vm.findClass (mz_X code) = some cl.cls := by
    have h9 := hO.cls
    rw [hvm] at h9
    exact h9
  refine ⟨U, ?_, .threw T.heap.size, hrun, hend, ?_⟩
  · refine st1 _ ?_
    show Steps p.tables e below (T1.setTop { method := m, pc := pc + 3, locals := ls, stack := .ref T.heap.size :: st.map (mz_cv g), locked := none }) _
    jvm_step X₁.here [X₁.here.top, C0.1, d3', Value.category]
    exact X₁.ldcString C0.1 (own := (mz_y M).cls) (text := text) (index := is) (a := sa) hown' hstr.1 hstr.2
      (g := { method := m, pc := pc + 4, locals := ls, stack := .ref T.heap.size :: .ref T.heap.size :: st.map (mz_cv g), locked := none }) rfl (hcc _ _ d4) _ hsteps
  · rw [he]
    exact ⟨Or.inr ⟨w6, T.heap.size, cl, rfl, hcl, hO.vm, hcls, by rw [hT]; exact Nat.le_trans C0.2.2.2.2.2.2.2.2.2.2.2 hS.1⟩, hR.kept hkeep, fun q => Bool.noConfusion q, State.WarmedH.trans hW0 hW, locs, hsm, hS.2.2⟩
/-- a row of a handler table that doesn't take an object of the class -/
def mz_pass (M : mz_I) (code : Nat) (z : Nat × Nat × Nat × Nat) : Prop := z.2.2.2 ≠ 0 ∧ ∃ nm : String, Cond.classLink (mz_y M).cls z.2.2.2 nm ∈ mz_big ∧ (mz_X code, nm) ∈ mz_NC
/-- one that does -/
def mz_take (M : mz_I) (code pc : Nat) (z : Nat × Nat × Nat × Nat) : Prop := z.1 ≤ pc ∧ pc < z.2.1 ∧ z.2.2.2 ≠ 0 ∧ ∃ nm : String, Cond.classLink (mz_y M).cls z.2.2.2 nm ∈ mz_big ∧ Cond.castable (mz_X code) nm ∈ mz_NW
/-- the search through the handlers, the catch types cold or warm -/
theorem mz_find {e : Env} {s₀ : State} {f : JFrame} {a : Addr} {cell : Cell} (hobj : ∀ k, cell.vm ≠ .statics k) (hk0 : ∃ k, s₀.vm.classes[cell.cls]? = some k) (x : ExceptionTableEntry) (rest : List ExceptionTableEntry) (hx : covers x f.pc = true) (h0 : x.catchType ≠ 0) {cT : ClassId} (hl : s₀.vm.ClassLinks e.platform f.method.cls x.catchType cT) (hfit : s₀.vm.assignable cell.cls cT = true) :
    ∀ (pre : List ExceptionTableEntry) (S : State), s₀.WarmedH S.vm → S.heap[a]? = some cell → (∀ y ∈ pre, y.catchType ≠ 0 ∧ ∃ c, s₀.vm.ClassLinks e.platform f.method.cls y.catchType c ∧ s₀.vm.assignable cell.cls c = false) →
      ∃ vm', s₀.WarmedH vm' ∧ ∀ (Q : Handler → Pre) (E : CtlPost) (d : Bool) (acts : List Action), wp (findHandler.go f a (pre ++ x :: rest)) Q E e d acts S ↔ Q (.found x.handlerPc) d acts (S.setVm vm') := by
  obtain ⟨k0, hk0⟩ := hk0
  have key : ∀ (y : ExceptionTableEntry) (t : List ExceptionTableEntry) (S : State) (c : ClassId), covers y f.pc = true → y.catchType ≠ 0 → s₀.WarmedH S.vm → S.heap[a]? = some cell → s₀.vm.ClassLinks e.platform f.method.cls y.catchType c →
      s₀.WarmedH (S.vm.noted f.method.cls y.catchType (.cls c)) ∧ ∀ (Q : Handler → Pre) (E : CtlPost) (d : Bool) (acts : List Action), wp (findHandler.go f a (y :: t)) Q E e d acts S ↔
        if s₀.vm.assignable cell.cls c = true then Q (.found y.handlerPc) d acts (S.setVm (S.vm.noted f.method.cls y.catchType (.cls c))) else wp (findHandler.go f a t) Q E e d acts (S.setVm (S.vm.noted f.method.cls y.catchType (.cls c))) := by
    intro y t S c hy hy0 hW hcell hly
    obtain ⟨dk, _, _, kt, hd, _, _, _, _, hkt, _, hopen⟩ := hly.here
    have hW' : s₀.WarmedH (S.vm.noted f.method.cls y.catchType (.cls c)) := hW.noted hd hopen (State.rightAt_cls hly)
    refine ⟨hW', fun Q E d acts => ?_⟩
    simp only [covers] at hy
    obtain ⟨ha, htt⟩ := (resolveClass_links e.toSetting (hW.classLinks hly)).op (op := VmOp.resolveClass f.method.cls y.catchType) rfl
    obtain ⟨k1', hk1', -⟩ := hW'.alike.2.2 _ _ hk0
    obtain ⟨k2', hk2', -⟩ := hW'.alike.2.2 _ _ hkt
    have has : (S.vm.noted f.method.cls y.catchType (.cls c)).assignable cell.cls c = s₀.vm.assignable cell.cls c := hW'.alike.assignable _ _
    cases hb : s₀.vm.assignable cell.cls c <;> rw [hb] at has <;> simp [findHandler.go, hy, hy0, ha, htt, hcell, hobj, hk1', hk2', has, VmOp.dirties, VmOp.acts]
  intro pre
  induction pre with
  | nil =>
    intro S hW hcell _
    obtain ⟨hW', hq⟩ := key x rest S cT hx h0 hW hcell hl
    refine ⟨_, hW', fun Q E d acts => ?_⟩
    rw [List.nil_append, hq, if_pos hfit]
  | cons y ys ih =>
    intro S hW hcell hpass
    obtain ⟨hy0, c, hly, hno⟩ := hpass y List.mem_cons_self
    have hrest := fun z hz => hpass z (List.mem_cons_of_mem _ hz)
    by_cases hcov : covers y f.pc = true
    · obtain ⟨hW', hq⟩ := key y (ys ++ x :: rest) S c hcov hy0 hW hcell hly
      obtain ⟨vm', hW2, hq2⟩ := ih (S.setVm (S.vm.noted f.method.cls y.catchType (.cls c))) hW' hcell hrest
      refine ⟨vm', hW2, fun Q E d acts => ?_⟩
      rw [List.cons_append, hq, if_neg (by rw [hno]; exact Bool.false_ne_true)]
      exact hq2 Q E d acts
    · obtain ⟨vm', hW2, hq2⟩ := ih S hW hcell hrest
      refine ⟨vm', hW2, fun Q E d acts => ?_⟩
      rw [List.cons_append, W.findHandler_go_skip (by simpa using hcov)]
      exact hq2 Q E d acts
theorem mz_caught {p : Program} {l : Launch} {e : Env} {s : State} {m : MethodId} {args : Array Value} {below : List Frame} {meth : Method} {c : Code} {T : State} {locs : List Loc} (X : Stand p l e R s m args below meth c T locs k n) {f : JFrame} (hf : f.method = m) {a : Addr} {cell : Cell} (hcell : T.heap[a]? = some cell) (hobj : cell.vm = .none) (hk0 : ∃ k, s.vm.classes[cell.cls]? = some k) (pre : List ExceptionTableEntry) (x : ExceptionTableEntry) (rest : List ExceptionTableEntry) (hsplit : c.exceptionTable.toList = pre ++ x :: rest)
    (hpass : ∀ y ∈ pre, y.catchType ≠ 0 ∧ ∃ c, s.vm.ClassLinks e.platform m.cls y.catchType c ∧ s.vm.assignable cell.cls c = false) (hx : covers x f.pc = true) (h0 : x.catchType ≠ 0) {cT : ClassId} (hl : s.vm.ClassLinks e.platform m.cls x.catchType cT) (hfit : s.vm.assignable cell.cls cT = true) :
    ∃ vm', Stand p l e R s m args below meth c (T.setVm vm') locs k n ∧ ∀ target, Steps p.tables e below ((T.setVm vm').setTop { f with pc := x.handlerPc, stack := [.ref a] }) target → Steps p.tables e below ((T.setTop f).pushFrame (.throwing a)) target := by
  subst hf
  obtain ⟨vm', hW', hq⟩ := mz_find (e := e) (f := f) (a := a) (fun q hq => by rw [hobj] at hq; cases hq) hk0 x rest hx h0 hl hfit pre ((T.setTop f).pushFrame (.throwing a)) X.warmed hcell hpass
  refine ⟨vm', X.noted hW', fun target hrest => ?_⟩
  obtain ⟨hgo, hw⟩ := X.here.throwing (g := f) a
  refine Steps.head hgo hw ?_
  obtain ⟨g₀, hg⟩ := Option.isSome_iff_exists.mp X.here.top
  obtain ⟨r, hr⟩ := State.topJava?_eq_some.mp hg
  have hfind : ∀ (Q : Handler → Pre) (E : CtlPost) (d : Bool) (acts : List Action), wp (findHandler f a) Q E e d acts ((T.setTop f).pushFrame (.throwing a)) ↔ Q (.found x.handlerPc) d acts (((T.setTop f).pushFrame (.throwing a)).setVm vm') := fun Q E d acts => by
    rw [W.findHandler_eq (s := (T.setTop f).pushFrame (.throwing a)) (meth := meth) (code := c) X.method' X.code, hsplit]
    exact hq Q E d acts
  have hst : (stepThrowing e ((T.setTop f).pushFrame (.throwing a)) a (.java f :: T.frames.tail)).1 = (((T.setTop f).pushFrame (.throwing a)).setVm vm').setFrames (.java { f with pc := x.handlerPc, stack := [.ref a] } :: T.frames.tail) := by
    simp only [stepThrowing, searchFrame, vmDo]
    generalize hr9 : Sem.go _ e false [] ((T.setTop f).pushFrame (.throwing a)) = res9
    obtain ⟨as, rfl, -⟩ := Sem.eq_ok_of hr9 (a := Handler.found x.handlerPc) (s' := ((T.setTop f).pushFrame (.throwing a)).setVm vm') (acts' := []) (by simp [hfind _ _ _ _])
    rfl
  rw [stepThread_throwing (frames_entered X.here.top _), hst]
  have hr' : (T.setVm vm').frames = .java g₀ :: r := hr
  rw [State.setTop_of_frames _ hr'] at hrest
  have h9 : ∀ (u : State) (F G : List Frame), ((u.setFrames F).setVm vm').setFrames G = (u.setVm vm').setFrames G := fun u F G => by
    have h1 : (u.setFrames F).setVm vm' = (u.setVm vm').setFrames F := rfl
    rw [h1, State.setFrames_setFrames]
  rw [hr, List.tail_cons, State.pushFrame, h9, State.setTop_of_frames _ hr, h9]
  exact hrest
/-- the callee may throw; what it throws is taken here -/
theorem mz_goC {lv : List (Nat × Value)} (hM : mz_M g M' d' as ex h F' res') (hU : mz_U M') (hV : mz_V g M M' R h k n pc lv as st st0) (hc : (st.map fun v => v.category).sum ≤ 8) (hr : d' + 1 ≤ R.frames ∧ 38 + 38 * d' ≤ R.locals ∧ k + 200 * d' ≤ R.cells ∧ n + 20000 * d' ≤ R.slots)
    (kk : ∀ r', (res' r').1 = 0 → mz_A g M R res (pc + 3) lv ((res' r').2.1.toList ++ st) (res' r').2.2.1 (res' r').2.2.2.1 (k + (res' r').2.2.2.2.1) (n + (res' r').2.2.2.2.2) (Kf r'))
    (kx : ∀ r', (res' r').1 ≠ 0 → F' = some r' → ∃ (code : Nat) (pre : List (Nat × Nat × Nat × Nat)) (z : Nat × Nat × Nat × Nat) (suf : List (Nat × Nat × Nat × Nat)), (res' r').1 = code ∧ mz_h M = pre ++ z :: suf ∧ (∀ y ∈ pre, mz_pass M code y) ∧ mz_take M code pc z ∧
      ∀ j : Nat, mz_A g M R res z.2.2.1 lv [.ref j] (res' r').2.2.1 (res' r').2.2.2.1 (k + (res' r').2.2.2.2.1) (n + (res' r').2.2.2.2.2) (Kf r')) : mz_A g M R res pc lv st0 ex h k n (F'.bind Kf) := by
  intro r hr9 p e s m args below meth c C0 H locs ls hR hX hS hl T hT X
  obtain ⟨r', hF', hK⟩ := Option.bind_eq_some_iff.mp hr9
  obtain ⟨V, L, X2, hR2, hX2, hS2, hcase⟩ := mz_do (hM r' hF') hU hV hc hr.1 hr.2.1 hr.2.2.1 hr.2.2.2 C0 hR hX hS hl.1 hT X
  rcases hcase with ⟨h0, h1⟩ | ⟨h0, q, cl, h1, h2, h3, hqb, h4⟩
  · obtain ⟨t, a1, b1⟩ := kk r' h0 r hK p e s m args below meth c C0 V.heap (locs ++ L) ls hR2 hX2 hS2 hl V rfl X2
    exact ⟨t, h1 t a1, b1⟩
  · obtain ⟨code, pre, z, suf, e1, e2, e3, ⟨e4, e5, e6, nm, e7, e8⟩, e9⟩ := kx r' h0 hF'
    have hts := C0.2.2.2.2.2.1
    have hFs := mz_Fs C0
    have hown := C0.2.2.2.2.1
    have hpl : e.platform.magicAccessors = ({} : Platform).magicAccessors := by rw [X.admits.platform]
    rw [e1] at h3
    obtain ⟨c3, c4, hc3, hc4, hasg⟩ := Cond.castable_spec (va_Nw.use (A := args) rfl (hFs.2.1 _ e8))
    cases Option.some.inj (hc3.symm.trans h3)
    obtain ⟨c5, hc5, hcl5⟩ := Cond.classLink_spec hown (hts _ e7) e.platform hpl
    cases Option.some.inj (hc4.symm.trans hc5)
    have htab : c.exceptionTable.toList = tableOf pre ++ (⟨z.1, z.2.1, z.2.2.1, z.2.2.2⟩ : ExceptionTableEntry) :: tableOf suf := by
      rw [C0.2.2.2.2.2.2.2.1, e2]
      simp [tableOf]
    obtain ⟨vm', X3, st3⟩ := mz_caught X2 (f := F0 m pc ls (st.map (mz_cv g))) rfl h1 h2 (by obtain ⟨k9, h9, -⟩ := Vm.findClass_spec h3; exact ⟨k9, h9⟩) _ _ _ htab
      (fun y hy => by
        obtain ⟨y0, hy0, rfl⟩ := List.mem_map.mp hy
        obtain ⟨p1, nm2, p2, p3⟩ := e3 y0 hy0
        obtain ⟨c6, hc6, hcl6⟩ := Cond.classLink_spec hown (hts _ p2) e.platform hpl
        obtain ⟨a8, b8, n1, n2, n3⟩ := hFs.2.2.2.1 _ p3
        cases Option.some.inj (n1.symm.trans h3)
        cases Option.some.inj (n2.symm.trans hc6)
        exact ⟨p1, _, hcl6, n3⟩) (by simp [covers, e4, e5]) e6 hcl5 hasg
    obtain ⟨t, a1, b1⟩ := e9 (q - mz_b g) r hK p e s m args below meth c C0 V.heap (locs ++ L) ls hR2 hX2 hS2 hl (V.setVm vm') rfl X3
    refine ⟨t, h4.trans (st3 t ?_), b1⟩
    have hqe : mz_b g + (q - mz_b g) = q := by omega
    have hv : ([Value.ref (q - mz_b g)] : List Value).map (mz_cv g) = [.ref q] := by
      show [Value.ref (mz_b g + (q - mz_b g))] = _
      rw [hqe]
    rw [hv] at a1
    exact a1
end MZ8
