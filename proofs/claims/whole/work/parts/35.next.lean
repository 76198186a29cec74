/-! A loop that fills, and the next day. -/
def flG {α : Type} (f : Nat → α) (v : α) (a b : Nat) : Nat → α := fun k => if a ≤ k ∧ k < b then v else f k
theorem flG_step {α : Type} {f : Nat → α} {v : α} {a b : Nat} (h : a < b) : flG (fun k => if k = a then v else f k) v (a + 1) b = flG f v a b := by
  funext k
  unfold flG
  dsimp only
  by_cases z : k = a
  · subst z
    rw [if_neg (by omega), if_pos rfl, if_pos (by omega)]
  · by_cases y : a ≤ k ∧ k < b
    · rw [if_pos (by omega), if_pos y]
    · rw [if_neg (by omega), if_neg z, if_neg y]
theorem flG_end {α : Type} {f : Nat → α} {v : α} {b : Nat} : flG f v b b = f := by
  funext k
  unfold flG
  rw [if_neg (by omega)]
theorem lpG {β σ : Type} (L : Nat → Nat → σ → Option β) (b : Nat) (g : Nat → σ → σ) (F : Nat → σ → σ) (E : σ → Option β) (hF : ∀ a s, a < b → F (a + 1) (g a s) = F a s) (hF0 : ∀ s, F b s = s) (hstep : ∀ n a s, a < b → L (n + 1) a s = L n (a + 1) (g a s)) (hend : ∀ n s, L (n + 1) b s = E s) : ∀ n a s, a ≤ b → b - a < n → L n a s = E (F a s) := by
  intro n
  induction n with
  | zero => intro a s h1 h2; omega
  | succ n ih =>
    intro a s h1 h2
    by_cases h : a = b
    · subst h
      rw [hend, hF0]
    · rw [hstep n a s (by omega), ih (a + 1) (g a s) (by omega) (by omega), hF a s (by omega)]
theorem lt_c {a b : Nat} {c : Int32} (hc : c.toInt = b) (h : a < b) : ¬ c ≤ i3 a := by
  have hb : c.toInt < 2147483648 := Int32.toInt_lt c
  rw [Int32.le_iff_toInt_le, i3_toInt (by omega)]
  omega
theorem ge_c {b : Nat} {c : Int32} (hc : c.toInt = b) : c ≤ i3 b := by
  have hb : c.toInt < 2147483648 := Int32.toInt_lt c
  rw [Int32.le_iff_toInt_le, i3_toInt (by omega)]
  omega
theorem cl_n {a : Nat} (h : a < 2147483648) : (i3 a).toNatClampNeg = a := by
  rw [i3_cl (by omega)]
  omega
theorem ix_n {a b : Nat} (h : a < b) (hb : b ≤ 2147483648) : ¬ (i3 a < 0 ∨ b ≤ (i3 a).toNatClampNeg) := ix_i3 (by omega)
theorem nd_L73 {A B C : Nat → Int32} {D : Int32} {E' : Nat → Int32} {F' : Nat → Int64} {G H I : Nat → Int32} {J K : Int32} (od : Nat → Int32) : f_x_nextDay_L73 1000 A B C D E' F' G H I J K od 0 = some (A, B, C, D, E', F', G, H, I, J, K, flG od 0 0 4) :=
  lpG (fun n a s => f_x_nextDay_L73 n A B C D E' F' G H I J K s (i3 a)) 4 (fun a s k => if k = a then 0 else s k) (fun a s => flG s 0 a 4) (fun s => some (A, B, C, D, E', F', G, H, I, J, K, s)) (fun a s h => flG_step h) (fun s => flG_end)
    (fun n a s h => by
      show f_x_nextDay_L73 (n + 1) A B C D E' F' G H I J K s (i3 a) = f_x_nextDay_L73 n A B C D E' F' G H I J K _ (i3 ((a + 1 : Nat) : Int))
      rw [f_x_nextDay_L73, if_neg (lt_c (b := 4) (by decide) h), if_neg (ix_n h (by omega)), cl_n (by omega), i3s]
      rfl)
    (fun n s => by
      show f_x_nextDay_L73 (n + 1) A B C D E' F' G H I J K s (i3 (4 : Nat)) = _
      rw [f_x_nextDay_L73, if_pos (ge_c (by decide))]) 1000 0 od (by omega) (by omega)
theorem ag_L60 {A B : Nat → Int32} {J K : Int32} (v : Nat → Int32) : f_ag_forget_L60 1000 A B v J K 0 = some (A, B, flG v 24 0 24, J, K) :=
  lpG (fun n a s => f_ag_forget_L60 n A B s J K (i3 a)) 24 (fun a s k => if k = a then 24 else s k) (fun a s => flG s 24 a 24) (fun s => some (A, B, s, J, K)) (fun a s h => flG_step h) (fun s => flG_end)
    (fun n a s h => by
      show f_ag_forget_L60 (n + 1) A B s J K (i3 a) = f_ag_forget_L60 n A B _ J K (i3 ((a + 1 : Nat) : Int))
      rw [f_ag_forget_L60, if_neg (lt_c (b := 24) (by decide) h), if_neg (ix_n h (by omega)), cl_n (by omega), i3s]
      rfl)
    (fun n s => by
      show f_ag_forget_L60 (n + 1) A B s J K (i3 (24 : Nat)) = _
      rw [f_ag_forget_L60, if_pos (ge_c (by decide))]) 1000 0 v (by omega) (by omega)
theorem ag_L36 {A V : Nat → Int32} {J K : Int32} (v : Nat → Int32) : f_ag_forget_L36 1000 A v V J K 0 = some (A, flG v (-1) 0 96, flG V 24 0 24, J, K) :=
  lpG (fun n a s => f_ag_forget_L36 n A s V J K (i3 a)) 96 (fun a s k => if k = a then -1 else s k) (fun a s => flG s (-1) a 96) (fun s => some (A, s, flG V 24 0 24, J, K)) (fun a s h => flG_step h) (fun s => flG_end)
    (fun n a s h => by
      show f_ag_forget_L36 (n + 1) A s V J K (i3 a) = f_ag_forget_L36 n A _ V J K (i3 ((a + 1 : Nat) : Int))
      rw [f_ag_forget_L36, if_neg (lt_c (b := 96) (by decide) h), if_neg (ix_n h (by omega)), cl_n (by omega), i3s]
      rfl)
    (fun n s => by
      show f_ag_forget_L36 (n + 1) A s V J K (i3 (96 : Nat)) = _
      rw [f_ag_forget_L36, if_pos (ge_c (by decide)), ag_L60]) 1000 0 v (by omega) (by omega)
theorem ag_fg {A B V : Nat → Int32} {J K : Int32} : f_ag_forget A B V J K = some (flG A (-1) 0 24, flG B (-1) 0 96, flG V 24 0 24, -1, 0) := by
  unfold f_ag_forget
  exact lpG (fun n a s => f_ag_forget_L12 n s B V (-1) 0 (i3 a)) 24 (fun a s k => if k = a then -1 else s k) (fun a s => flG s (-1) a 24) (fun s => some (s, flG B (-1) 0 96, flG V 24 0 24, -1, 0)) (fun a s h => flG_step h) (fun s => flG_end)
    (fun n a s h => by
      show f_ag_forget_L12 (n + 1) s B V (-1) 0 (i3 a) = f_ag_forget_L12 n _ B V (-1) 0 (i3 ((a + 1 : Nat) : Int))
      rw [f_ag_forget_L12, if_neg (lt_c (b := 24) (by decide) h), if_neg (ix_n h (by omega)), cl_n (by omega), i3s]
      rfl)
    (fun n s => by
      show f_ag_forget_L12 (n + 1) s B V (-1) 0 (i3 (24 : Nat)) = _
      rw [f_ag_forget_L12, if_pos (ge_c (by decide)), ag_L36]) 1000 0 A (by omega) (by omega)
theorem bk_em {c : Nat → Int32} {e : Nat → Int64} : f_bk_empty c e = some (flG c 0 0 25, flG e 0 0 25) := by
  unfold f_bk_empty
  exact lpG (fun n a (s : (Nat → Int32) × (Nat → Int64)) => f_bk_empty_L2 n s.1 s.2 (i3 a)) 25 (fun a s => (fun k => if k = a then 0 else s.1 k, fun k => if k = a then 0 else s.2 k)) (fun a s => (flG s.1 0 a 25, flG s.2 0 a 25)) (fun s => some (s.1, s.2)) (fun a s h => by rw [flG_step h, flG_step h]) (fun s => by rw [flG_end, flG_end])
    (fun n a s h => by
      show f_bk_empty_L2 (n + 1) s.1 s.2 (i3 a) = f_bk_empty_L2 n _ _ (i3 ((a + 1 : Nat) : Int))
      rw [f_bk_empty_L2, if_neg (lt_c (b := 25) (by decide) h), if_neg (ix_n h (by omega)), cl_n (by omega), i3s]
      rfl)
    (fun n s => by
      show f_bk_empty_L2 (n + 1) s.1 s.2 (i3 (25 : Nat)) = _
      rw [f_bk_empty_L2, if_pos (ge_c (by decide))]) 1000 0 (c, e) (by omega) (by omega)
theorem nd_L35 {A B : Nat → Int32} {D : Int32} {E' : Nat → Int32} {F' : Nat → Int64} {G H I : Nat → Int32} {J K : Int32} {od : Nat → Int32} (mt : Nat → Int32) : f_x_nextDay_L35 1000 A B mt D E' F' G H I J K od 0 = some (A, B, flG mt 0 0 18, D, flG E' 0 0 25, flG F' 0 0 25, flG G (-1) 0 24, flG H (-1) 0 96, flG I 24 0 24, -1, 0, flG od 0 0 4) :=
  lpG (fun n a s => f_x_nextDay_L35 n A B s D E' F' G H I J K od (i3 a)) 18 (fun a s k => if k = a then 0 else s k) (fun a s => flG s 0 a 18) (fun s => some (A, B, s, D, flG E' 0 0 25, flG F' 0 0 25, flG G (-1) 0 24, flG H (-1) 0 96, flG I 24 0 24, -1, 0, flG od 0 0 4)) (fun a s h => flG_step h) (fun s => flG_end)
    (fun n a s h => by
      show f_x_nextDay_L35 (n + 1) A B s D E' F' G H I J K od (i3 a) = f_x_nextDay_L35 n A B _ D E' F' G H I J K od (i3 ((a + 1 : Nat) : Int))
      rw [f_x_nextDay_L35, if_neg (lt_c (b := 18) (by decide) h), if_neg (ix_n h (by omega)), cl_n (by omega), i3s]
      rfl)
    (fun n s => by
      show f_x_nextDay_L35 (n + 1) A B s D E' F' G H I J K od (i3 (18 : Nat)) = _
      rw [f_x_nextDay_L35, if_pos (ge_c (by decide)), bk_em, Option.bind_some, ag_fg, Option.bind_some, nd_L73]) 1000 0 mt (by omega) (by omega)
theorem nd_x {A B C : Nat → Int32} {D : Int32} {E' : Nat → Int32} {F' : Nat → Int64} {G H I : Nat → Int32} {J K : Int32} {od : Nat → Int32} : f_x_nextDay A B C D E' F' G H I J K od = some (flG A 0 0 6, flG B 0 0 6, flG C 0 0 18, 0, flG E' 0 0 25, flG F' 0 0 25, flG G (-1) 0 24, flG H (-1) 0 96, flG I 24 0 24, -1, 0, flG od 0 0 4) := by
  unfold f_x_nextDay
  exact lpG (fun n a (s : (Nat → Int32) × (Nat → Int32)) => f_x_nextDay_L2 n s.1 s.2 C D E' F' G H I J K od (i3 a)) 6 (fun a s => (fun k => if k = a then 0 else s.1 k, fun k => if k = a then 0 else s.2 k)) (fun a s => (flG s.1 0 a 6, flG s.2 0 a 6)) (fun s => some (s.1, s.2, flG C 0 0 18, 0, flG E' 0 0 25, flG F' 0 0 25, flG G (-1) 0 24, flG H (-1) 0 96, flG I 24 0 24, -1, 0, flG od 0 0 4)) (fun a s h => by rw [flG_step h, flG_step h]) (fun s => by rw [flG_end, flG_end])
    (fun n a s h => by
      show f_x_nextDay_L2 (n + 1) s.1 s.2 C D E' F' G H I J K od (i3 a) = f_x_nextDay_L2 n _ _ C D E' F' G H I J K od (i3 ((a + 1 : Nat) : Int))
      rw [f_x_nextDay_L2, if_neg (lt_c (b := 6) (by decide) h), if_neg (ix_n h (by omega)), cl_n (by omega), i3s, nar0]
      rfl)
    (fun n s => by
      show f_x_nextDay_L2 (n + 1) s.1 s.2 C D E' F' G H I J K od (i3 (6 : Nat)) = _
      rw [f_x_nextDay_L2, if_pos (ge_c (by decide)), nd_L35]) 1000 0 (A, B) (by omega) (by omega)
theorem mf_L109 {A : Nat → Int32} {B : Nat → Int64} {C D : Nat → Int32} {E' F' : Int32} {G H I : Nat → Int32} (od : Nat → Int32) : f_m_forget_L109 1000 A B C D E' F' G H I od 0 = some (A, B, C, D, 0, -1, G, H, I, flG od 0 0 4) :=
  lpG (fun n a s => f_m_forget_L109 n A B C D E' F' G H I s (i3 a)) 4 (fun a s k => if k = a then 0 else s k) (fun a s => flG s 0 a 4) (fun s => some (A, B, C, D, 0, -1, G, H, I, s)) (fun a s h => flG_step h) (fun s => flG_end)
    (fun n a s h => by
      show f_m_forget_L109 (n + 1) A B C D E' F' G H I s (i3 a) = f_m_forget_L109 n A B C D E' F' G H I _ (i3 ((a + 1 : Nat) : Int))
      rw [f_m_forget_L109, if_neg (lt_c (b := 4) (by decide) h), if_neg (ix_n h (by omega)), cl_n (by omega), i3s, nar0]
      rfl)
    (fun n s => by
      show f_m_forget_L109 (n + 1) A B C D E' F' G H I s (i3 (4 : Nat)) = _
      rw [f_m_forget_L109, if_pos (ge_c (by decide))]) 1000 0 od (by omega) (by omega)
theorem mf_L88 {A : Nat → Int32} {B : Nat → Int64} {C D : Nat → Int32} {E' F' : Int32} {G H od : Nat → Int32} (I : Nat → Int32) : f_m_forget_L88 1000 A B C D E' F' G H I od 0 = some (A, B, C, D, 0, -1, G, H, flG I 0 0 18, flG od 0 0 4) :=
  lpG (fun n a s => f_m_forget_L88 n A B C D E' F' G H s od (i3 a)) 18 (fun a s k => if k = a then 0 else s k) (fun a s => flG s 0 a 18) (fun s => some (A, B, C, D, 0, -1, G, H, s, flG od 0 0 4)) (fun a s h => flG_step h) (fun s => flG_end)
    (fun n a s h => by
      show f_m_forget_L88 (n + 1) A B C D E' F' G H s od (i3 a) = f_m_forget_L88 n A B C D E' F' G H _ od (i3 ((a + 1 : Nat) : Int))
      rw [f_m_forget_L88, if_neg (lt_c (b := 18) (by decide) h), if_neg (ix_n h (by omega)), cl_n (by omega), i3s]
      rfl)
    (fun n s => by
      show f_m_forget_L88 (n + 1) A B C D E' F' G H s od (i3 (18 : Nat)) = _
      rw [f_m_forget_L88, if_pos (ge_c (by decide)), mf_L109]) 1000 0 I (by omega) (by omega)
theorem mf_L60 {A : Nat → Int32} {B : Nat → Int64} {E' F' : Int32} {G H I od : Nat → Int32} (C D : Nat → Int32) : f_m_forget_L60 1000 A B C D E' F' G H I od 0 = some (A, B, flG C 0 0 6, flG D 0 0 6, 0, -1, G, H, flG I 0 0 18, flG od 0 0 4) :=
  lpG (fun n a (s : (Nat → Int32) × (Nat → Int32)) => f_m_forget_L60 n A B s.1 s.2 E' F' G H I od (i3 a)) 6 (fun a s => (fun k => if k = a then 0 else s.1 k, fun k => if k = a then 0 else s.2 k)) (fun a s => (flG s.1 0 a 6, flG s.2 0 a 6)) (fun s => some (A, B, s.1, s.2, 0, -1, G, H, flG I 0 0 18, flG od 0 0 4)) (fun a s h => by rw [flG_step h, flG_step h]) (fun s => by rw [flG_end, flG_end])
    (fun n a s h => by
      show f_m_forget_L60 (n + 1) A B s.1 s.2 E' F' G H I od (i3 a) = f_m_forget_L60 n A B _ _ E' F' G H I od (i3 ((a + 1 : Nat) : Int))
      rw [f_m_forget_L60, if_neg (lt_c (b := 6) (by decide) h), if_neg (ix_n h (by omega)), cl_n (by omega), i3s, nar0]
      rfl)
    (fun n s => by
      show f_m_forget_L60 (n + 1) A B s.1 s.2 E' F' G H I od (i3 (6 : Nat)) = _
      rw [f_m_forget_L60, if_pos (ge_c (by decide)), mf_L88]) 1000 0 (C, D) (by omega) (by omega)
theorem mf_L38 {A : Nat → Int32} {B : Nat → Int64} {E' F' : Int32} {G I od C D : Nat → Int32} (H : Nat → Int32) : f_m_forget_L38 1000 A B C D E' F' G H I od 0 = some (A, B, flG C 0 0 6, flG D 0 0 6, 0, -1, G, flG H (-2) 0 96, flG I 0 0 18, flG od 0 0 4) :=
  lpG (fun n a s => f_m_forget_L38 n A B C D E' F' G s I od (i3 a)) 96 (fun a s k => if k = a then -2 else s k) (fun a s => flG s (-2) a 96) (fun s => some (A, B, flG C 0 0 6, flG D 0 0 6, 0, -1, G, s, flG I 0 0 18, flG od 0 0 4)) (fun a s h => flG_step h) (fun s => flG_end)
    (fun n a s h => by
      show f_m_forget_L38 (n + 1) A B C D E' F' G s I od (i3 a) = f_m_forget_L38 n A B C D E' F' G _ I od (i3 ((a + 1 : Nat) : Int))
      rw [f_m_forget_L38, if_neg (lt_c (b := 96) (by decide) h), if_neg (ix_n h (by omega)), cl_n (by omega), i3s]
      rfl)
    (fun n s => by
      show f_m_forget_L38 (n + 1) A B C D E' F' G s I od (i3 (96 : Nat)) = _
      rw [f_m_forget_L38, if_pos (ge_c (by decide)), mf_L60]) 1000 0 H (by omega) (by omega)
theorem mf_all {A : Nat → Int32} {B : Nat → Int64} {E' F' : Int32} {G H I od C D : Nat → Int32} : f_m_forget A B C D E' F' G H I od = some (flG A 0 0 24, flG B 0 0 24, flG C 0 0 6, flG D 0 0 6, 0, -1, flG G (-2) 0 24, flG H (-2) 0 96, flG I 0 0 18, flG od 0 0 4) := by
  unfold f_m_forget
  exact lpG (fun n a (s : (Nat → Int32) × (Nat → Int64) × (Nat → Int32)) => f_m_forget_L2 n s.1 s.2.1 C D E' F' s.2.2 H I od (i3 a)) 24 (fun a s => (fun k => if k = a then 0 else s.1 k, fun k => if k = a then 0 else s.2.1 k, fun k => if k = a then -2 else s.2.2 k)) (fun a s => (flG s.1 0 a 24, flG s.2.1 0 a 24, flG s.2.2 (-2) a 24)) (fun s => some (s.1, s.2.1, flG C 0 0 6, flG D 0 0 6, 0, -1, s.2.2, flG H (-2) 0 96, flG I 0 0 18, flG od 0 0 4)) (fun a s h => by rw [flG_step h, flG_step h, flG_step h]) (fun s => by rw [flG_end, flG_end, flG_end])
    (fun n a s h => by
      show f_m_forget_L2 (n + 1) s.1 s.2.1 C D E' F' s.2.2 H I od (i3 a) = f_m_forget_L2 n _ _ C D E' F' _ H I od (i3 ((a + 1 : Nat) : Int))
      rw [f_m_forget_L2, if_neg (lt_c (b := 24) (by decide) h), if_neg (ix_n h (by omega)), cl_n (by omega), i3s]
      rfl)
    (fun n s => by
      show f_m_forget_L2 (n + 1) s.1 s.2.1 C D E' F' s.2.2 H I od (i3 (24 : Nat)) = _
      rw [f_m_forget_L2, if_pos (ge_c (by decide)), mf_L38]) 1000 0 (A, B, G) (by omega) (by omega)
theorem flG_in {α : Type} {f : Nat → α} {v : α} {a b k : Nat} (h : a ≤ k ∧ k < b) : flG f v a b k = v := if_pos h
theorem flG_all {α : Type} {f : Nat → α} {v : α} {b : Nat} (h : ∀ k, b ≤ k → f k = v) : flG f v 0 b = fun _ => v := by
  funext k
  unfold flG
  split
  · rfl
  · exact h k (by omega)
theorem cntS_0 {f : Nat → Int32} : ∀ n : Nat, (∀ p, p < n → f p = 0) → cntS f n = 0
  | 0, _ => rfl
  | n + 1, h => by
    show cntS f n + (if f n = 0 then 0 else 1) = 0
    rw [cntS_0 n (fun p hp => h p (by omega)), if_pos (h n (by omega))]
    rfl
/-- the books, all empty -/
theorem iv_b_0 {w ib hs d q l : Nat → Int32} (hw : w = fun k => hs k + (if ib k = 0 then 0 else 100)) (hib : ∀ k, ib k = 0 ∨ ib k = 1) : iv_b (fun _ => 0) (fun _ => 0) (fun _ => 0) (fun _ => 0) w ib hs d d q q l l := by
  refine ⟨⟨rfl, rfl, rfl, rfl, rfl⟩, hw, hib, fun _ => (by decide : 0 ≤ (0 : Int32).toInt ∧ (0 : Int32).toInt ≤ 10), fun b _ => ⟨rfl, rfl⟩, fun _ => (by decide : 0 ≤ (0 : Int64).toInt ∧ (0 : Int64).toInt ≤ 1000000000), fun b i _ hi => ?_⟩
  exact absurd hi (by show ¬ i < (0 : Int32).toInt.toNat; rw [show (0 : Int32).toInt.toNat = 0 from rfl]; omega)
theorem lieq_0 {n : Int32} : lieq n (-1) (-2) := Or.inl ⟨rfl, rfl⟩
theorem step_nextDay (x : SX) (m : SM) (hI : Inv x m) : ∃ c x' m', St_nextDay x m c x' m' ∧ Inv x' m' := by
  obtain ⟨hn, hc, ⟨hs1, hs2, hs3⟩, hm, hb, hr, ht, hv, ho⟩ := id hI
  have hm' : f_m_nextDay m.m_thrown m.m_many m.m_need m.m_sent m.m_sealed m.m_rounds m.m_liar m.m_told m.m_passed m.m_meters m.m_cleared = some (0, flG m.m_many 0 0 24, flG m.m_need 0 0 24, flG m.m_sent 0 0 6, flG m.m_sealed 0 0 6, 0, -1, flG m.m_told (-2) 0 24, flG m.m_passed (-2) 0 96, flG m.m_meters 0 0 18, flG m.m_cleared 0 0 4) := by
    unfold f_m_nextDay
    rw [mf_all]
    rfl
  refine ⟨_, _, _, ⟨_, _, nd_x, hm', rfl, rfl, rfl⟩, Inv_mk hn hc ⟨?_, ?_, ?_⟩ ⟨?_, ?_⟩ ?_ ⟨rfl, (by decide : -1 ≤ (-1 : Int32).toInt ∧ (-1 : Int32).toInt ≤ 3), rfl, (by decide : 0 ≤ (0 : Int32).toInt ∧ (0 : Int32).toInt ≤ 3), fun z => absurd rfl z⟩ ⟨?_, ?_⟩ ?_ ⟨?_, ?_⟩⟩
  · show flG x.x_hasSent 0 0 6 = flG m.m_sent 0 0 6
    rw [hs1]
  · show flG x.x_isSealed 0 0 6 = flG m.m_sealed 0 0 6
    rw [hs2]
  · show (0 : Int32) = i3 (cntS (flG x.x_isSealed 0 0 6) x.x_members.toInt.toNat)
    rw [cntS_0 _ (fun p hp => flG_in (by have := hn.2.1; have := hn.2.2; omega))]
    rfl
  · show flG x.x_metered 0 0 18 = flG m.m_meters 0 0 18
    rw [hm.1]
  · intro k
    show -1000000 ≤ (flG x.x_metered 0 0 18 k).toInt ∧ (flG x.x_metered 0 0 18 k).toInt ≤ 1000000
    unfold flG
    split
    · exact ⟨by decide, by decide⟩
    · exact hm.2 k
  · show iv_b (flG x.bk_counts 0 0 25) (flG m.m_many 0 0 24) (flG x.bk_needs 0 0 25) (flG m.m_need 0 0 24) x.bk_whens m.m_isBlock m.m_hours x.bk_sides m.m_side x.bk_quantities m.m_quantity x.bk_limits m.m_limit
    obtain ⟨⟨b1, b2, b3, b4, b5⟩, hw, hib, hb'⟩ := hb
    have hz := hb'.2.1
    rw [← b1, ← b2, ← b3, ← b4, ← b5, flG_all (fun k hk => (hz k (by omega)).1), flG_all (fun k hk => (hz k (by omega)).1), flG_all (fun k hk => (hz k (by omega)).2), flG_all (fun k hk => (hz k (by omega)).2)]
    exact iv_b_0 hw hib
  · intro k hk
    show lieq x.x_members (flG x.ag_toldLies (-1) 0 24 k) (flG m.m_told (-2) 0 24 k)
    rw [flG_in (by omega), flG_in (by omega)]
    exact lieq_0
  · intro k hk
    show lieq x.x_members (flG x.ag_passedLies (-1) 0 96 k) (flG m.m_passed (-2) 0 96 k)
    rw [flG_in (by omega), flG_in (by omega)]
    exact lieq_0
  · intro z
    exact absurd (show (0 : Int32) = 3 from z) (by decide)
  · show flG x.oc_isDone 0 0 4 = flG m.m_cleared 0 0 4
    rw [ho.1]
  · intro o ho4 hd
    exact absurd (flG_in (by omega)) hd
