/-! What a clearing finds, of a list of entries (slot, when, side, quantity, limit): mathematics alone. -/
abbrev En : Type := Nat × Int × Int × Int × Int
abbrev en_s (e : En) : Nat := e.1
abbrev en_w (e : En) : Int := e.2.1
abbrev en_d (e : En) : Int := e.2.2.1
abbrev en_q (e : En) : Int := e.2.2.2.1
abbrev en_l (e : En) : Int := e.2.2.2.2
def en_0 : En := (0, 0, 0, 0, 0)
/-- the sum of the first a values -/
def smN (f : Nat → Int) : Nat → Int
  | 0 => 0
  | a + 1 => smN f a + f a
def sumE (f : En → Int) : List En → Int
  | [] => 0
  | e :: t => f e + sumE f t
def en_b (e : En) : Bool := decide (100 ≤ en_w e)
def fsH (w : Int) : Int := if w < 100 then w else (w - 100) / 4
def lsH (w : Int) : Int := if w < 100 then w else (w - 100) % 4
abbrev cov (e : En) (h : Int) : Prop := fsH (en_w e) ≤ h ∧ h ≤ lsH (en_w e)
def lnH (w : Int) : Int := lsH w - fsH w + 1
/-- an entry as it may be sent -/
def en_ok (e : En) : Prop := (en_d e = 0 ∨ en_d e = 1) ∧ (1 ≤ en_q e ∧ en_q e ≤ 1000) ∧ (-5000 ≤ en_l e ∧ en_l e ≤ 40000) ∧ (en_w e = 0 ∨ en_w e = 1 ∨ en_w e = 2 ∨ en_w e = 100 ∨ en_w e = 101 ∨ en_w e = 102 ∨ en_w e = 105 ∨ en_w e = 106 ∨ en_w e = 110)
def ordL (E : List En) : List En := E.filter (fun e => !en_b e)
def blkL (E : List En) : List En := (E.filter en_b).take 8
/-- what the taken blocks of a side bring to an hour -/
def blkV (B : List En) (S : Nat) (h s : Int) : Int := smN (fun k => if S.testBit k = true ∧ en_d (B.getD k en_0) = s ∧ cov (B.getD k en_0) h then en_q (B.getD k en_0) else 0) B.length
/-- what the orders of a side bring to an hour at a price: those beyond it; with 'most' also those at it -/
def ordV (O : List En) (h s x : Int) (most : Bool) : Int := sumE (fun e => if en_d e = s ∧ en_w e = h ∧ ((if s = 0 then x < en_l e else en_l e < x) ∨ (most = true ∧ en_l e = x)) then en_q e else 0) O
def vol (B O : List En) (S : Nat) (h s x : Int) (most : Bool) : Int := blkV B S h s + ordV O h s x most
def upF (P : Int → Bool) : Nat → Int → Int
  | 0, x => x
  | n + 1, x => if P x = true then x else upF P n (x + 1)
def dnF (P : Int → Bool) : Nat → Int → Int
  | 0, x => x
  | n + 1, x => if P x = true then x else dnF P n (x - 1)
def sp_lo (B O : List En) (S : Nat) (h : Int) : Int := upF (fun x => decide (vol B O S h 0 x false ≤ vol B O S h 1 x true)) 45001 (-5000)
def sp_hi (B O : List En) (S : Nat) (h : Int) : Int := dnF (fun x => decide (vol B O S h 1 x false ≤ vol B O S h 0 x true)) 45001 40000
def sp_p (B O : List En) (S : Nat) (h : Int) : Int := (sp_lo B O S h + sp_hi B O S h) / 2
def sp_t (B O : List En) (S : Nat) (h : Int) : Int := min (vol B O S h 0 (sp_p B O S h) true) (vol B O S h 1 (sp_p B O S h) true)
def sp_gain (B O : List En) (S : Nat) (e : En) : Int := smN (fun h => if cov e h then sp_p B O S h - en_l e else 0) 3
abbrev sp_lose (B O : List En) (S : Nat) (e : En) : Prop := (en_d e = 1 ∧ sp_gain B O S e < 0) ∨ (en_d e ≠ 1 ∧ 0 < sp_gain B O S e)
def sp_meet (B O : List En) (S : Nat) : Prop := ∀ h : Nat, h < 3 → sp_lo B O S h ≤ sp_hi B O S h
def sp_fit (B O : List En) (S : Nat) : Bool := decide ((∀ h : Nat, h < 3 → sp_lo B O S h ≤ sp_hi B O S h) ∧ ∀ k : Nat, k < B.length → S.testBit k = true → ¬ sp_lose B O S (B.getD k en_0))
/-- what the orders at the price share, and their quantities -/
def sp_sh (B O : List En) (S : Nat) (h s : Int) : Int := sp_t B O S h - vol B O S h s (sp_p B O S h) false
def sp_all (B O : List En) (S : Nat) (h s : Int) : Int := vol B O S h s (sp_p B O S h) true - vol B O S h s (sp_p B O S h) false
def sp_hw (B O : List En) (S : Nat) (h : Int) : Int := sumE (fun e => if en_d e = 0 ∧ en_w e = h ∧ sp_p B O S h < en_l e then en_q e * en_l e else 0) O - sumE (fun e => if en_d e = 1 ∧ en_w e = h ∧ en_l e < sp_p B O S h then en_q e * en_l e else 0) O + (sp_sh B O S h 0 * sp_p B O S h - sp_sh B O S h 1 * sp_p B O S h)
def sp_bw (B : List En) (S : Nat) : Int := smN (fun k => if S.testBit k = true then (if en_d (B.getD k en_0) = 0 then en_q (B.getD k en_0) * en_l (B.getD k en_0) * lnH (en_w (B.getD k en_0)) else -(en_q (B.getD k en_0) * en_l (B.getD k en_0) * lnH (en_w (B.getD k en_0)))) else 0) B.length
def sp_w (B O : List En) (S : Nat) : Int := smN (fun h => sp_hw B O S h) 3 + sp_bw B S
def sp_best (B O : List En) : Nat → Nat × Int
  | 0 => (0, sp_w B O 0)
  | a + 1 => if sp_fit B O (a + 1) = true ∧ (sp_best B O a).2 < sp_w B O (a + 1) then (a + 1, sp_w B O (a + 1)) else sp_best B O a
def sp_set (B O : List En) : Nat := (sp_best B O (2 ^ B.length - 1)).1
/-- the first of the greatest remainders, of (slot, remainder); below nought stands who has none -/
def pk : List (Nat × Int) → Option (Nat × Int)
  | [] => none
  | q :: t => match pk t with
    | none => if 0 ≤ q.2 then some q else none
    | some r => if r.2 ≤ q.2 then some q else some r
def pkN : Nat → List (Nat × Int) → List Nat
  | 0, _ => []
  | n + 1, R => match pk R with
    | none => []
    | some s => s.1 :: pkN n (R.map (fun q => if q.1 = s.1 then (q.1, -1) else q))
def sp_at (B O : List En) (S : Nat) (h s : Int) (e : En) : Prop := en_d e = s ∧ en_w e = h ∧ en_l e = sp_p B O S h
def sp_rems (B O : List En) (S : Nat) (h s : Int) : List (Nat × Int) := O.map (fun e => (en_s e, if en_d e = s ∧ en_w e = h ∧ en_l e = sp_p B O S h then en_q e * sp_sh B O S h s % sp_all B O S h s else -1))
def sp_left (B O : List En) (S : Nat) (h s : Int) : Int := sp_sh B O S h s - sumE (fun e => if en_d e = s ∧ en_w e = h ∧ en_l e = sp_p B O S h then en_q e * sp_sh B O S h s / sp_all B O S h s else 0) O
def sp_fill (B O : List En) (S : Nat) (e : En) : Int :=
  if (if en_d e = 0 then sp_p B O S (en_w e) < en_l e else en_l e < sp_p B O S (en_w e)) then en_q e
  else if en_l e = sp_p B O S (en_w e) then en_q e * sp_sh B O S (en_w e) (en_d e) / sp_all B O S (en_w e) (en_d e) + (if en_s e ∈ pkN (sp_left B O S (en_w e) (en_d e)).toNat (sp_rems B O S (en_w e) (en_d e)) then 1 else 0)
  else 0
def sp_bfill (B : List En) (S : Nat) (k : Nat) (e : En) : Int := if k < B.length ∧ S.testBit k = true then en_q e else 0
/-- the entries of a vector: member p's book has cnt p entries, entry i of it is cont p i -/
def elP (cnt : Nat → Nat) (cont : Nat → Nat → En) (p : Nat) : List En := (List.range (cnt p)).map (cont p)
def elist (n : Nat) (cnt : Nat → Nat) (cont : Nat → Nat → En) : List En := (List.range n).flatMap (elP cnt cont)
/-! What holds between class and reference behind each call. -/
/-- an entry of the books as it stands at the place e, for the slot s -/
def en_at (w d q l : Nat → Int32) (s e : Nat) : En := (s, (w e).toInt, (d e).toInt, (q e).toInt, (l e).toInt)
/-- the vector of an operator -/
def el_of (n : Int32) (c w d q l v : Nat → Int32) (o : Nat) : List En := elist n.toInt.toNat (fun p => (c (v (6 * o + p)).toInt.toNat).toInt.toNat) (fun p i => en_at w d q l (10 * p + i) (10 * (v (6 * o + p)).toInt.toNat + i))
def iv_n (a b : Int32) : Prop := a = b ∧ 1 ≤ a.toInt ∧ a.toInt ≤ 6
def iv_c (f g : Nat → Int32) : Prop := f = g ∧ ∀ k, 0 ≤ (f k).toInt ∧ (f k).toInt ≤ 1000000000
def iv_m (f g : Nat → Int32) : Prop := f = g ∧ ∀ k, -1000000 ≤ (f k).toInt ∧ (f k).toInt ≤ 1000000
def cntS (f : Nat → Int32) (n : Nat) : Int := smN (fun p => if f p = 0 then 0 else 1) n
def iv_s (n : Int32) (a b c d : Nat → Int32) (k : Int32) : Prop := a = b ∧ c = d ∧ k = i3 (cntS c n.toInt.toNat)
def iv_b (c c' : Nat → Int32) (e e' : Nat → Int64) (w ib hs d d' q q' l l' : Nat → Int32) : Prop :=
  (c = c' ∧ e = e' ∧ d = d' ∧ q = q' ∧ l = l') ∧ (w = fun k => hs k + (if ib k = 0 then 0 else 100)) ∧ (∀ k, ib k = 0 ∨ ib k = 1) ∧ (∀ b, 0 ≤ (c b).toInt ∧ (c b).toInt ≤ 10) ∧ (∀ b, 24 ≤ b → c b = 0 ∧ e b = 0) ∧ (∀ b, 0 ≤ (e b).toInt ∧ (e b).toInt ≤ 1000000000) ∧
  (∀ b i : Nat, b < 24 → i < (c b).toInt.toNat → en_ok (en_at w d q l 0 (10 * b + i)) ∧ ((ib (10 * b + i) = 0 ∧ 0 ≤ (hs (10 * b + i)).toInt ∧ (hs (10 * b + i)).toInt ≤ 2) ∨ (ib (10 * b + i) = 1 ∧ 0 ≤ (hs (10 * b + i)).toInt ∧ (hs (10 * b + i)).toInt ≤ 10)))
def iv_r (n : Int32) (a b r s : Int32) (f : Nat → Int32) : Prop := a = b ∧ (-1 ≤ a.toInt ∧ a.toInt ≤ 3) ∧ r = s ∧ (0 ≤ r.toInt ∧ r.toInt ≤ 3) ∧ (r ≠ 0 → ∀ p : Nat, p < n.toInt.toNat → f p ≠ 0)
def lieq (n c d : Int32) : Prop := (c = -1 ∧ d = -2) ∨ (c = 24 ∧ d = -1) ∨ (c = d ∧ 0 ≤ c.toInt ∧ c.toInt < 4 * n.toInt)
def iv_t (n : Int32) (f g f' g' : Nat → Int32) : Prop := (∀ k, k < 24 → lieq n (f k) (g k)) ∧ ∀ k, k < 96 → lieq n (f' k) (g' k)
/-- two numbers of books (the reference's empty one is -1) that hold the same -/
def bkq (c w d q l : Nat → Int32) (a b : Int32) : Prop := (0 ≤ a.toInt ∧ a.toInt ≤ 24) ∧ (-1 ≤ b.toInt ∧ b.toInt ≤ 23) ∧ c a.toInt.toNat = (if b.toInt < 0 then 0 else c b.toInt.toNat) ∧ ∀ i : Nat, i < (c a.toInt.toNat).toInt.toNat → en_at w d q l 0 (10 * a.toInt.toNat + i) = en_at w d q l 0 (10 * b.toInt.toNat + i)
def iv_v (n r : Int32) (c w d q l v v' : Nat → Int32) : Prop := r = 3 → ∀ o p : Nat, o < 4 → p < n.toInt.toNat → bkq c w d q l (v (6 * o + p)) (v' (6 * o + p))
/-- what one operator has cleared -/
def iv_o1 (E : List En) (o : Nat) (op ov of' : Nat → Int32) (ow : Int64) (ot : Int32) (mp mt mf : Nat → Int32) (mw : Nat → Int64) : Prop :=
  ot = i3 (sp_set (blkL E) (ordL E)) ∧ ow = i6 (sp_w (blkL E) (ordL E) (sp_set (blkL E) (ordL E))) ∧ mw o = ow ∧
  (∀ h : Nat, h < 3 → op h = i3 (sp_p (blkL E) (ordL E) (sp_set (blkL E) (ordL E)) h) ∧ mp (3 * o + h) = op h ∧ ov h = i3 (sp_t (blkL E) (ordL E) (sp_set (blkL E) (ordL E)) h) ∧ mt (3 * o + h) = ov h) ∧
  (∀ e ∈ ordL E, of' (en_s e) = i3 (sp_fill (blkL E) (ordL E) (sp_set (blkL E) (ordL E)) e) ∧ mf (60 * o + en_s e) = of' (en_s e)) ∧
  (∀ (k : Nat) (e : En), (E.filter en_b)[k]? = some e → of' (en_s e) = i3 (sp_bfill (blkL E) (sp_set (blkL E) (ordL E)) k e) ∧ mf (60 * o + en_s e) = of' (en_s e))
def iv_o (n r : Int32) (c w d q l v : Nat → Int32) (op ov of' : Nat → Nat → Int32) (ow : Nat → Int64) (ot od : Nat → Int32) (mc mp mt mf : Nat → Int32) (mw : Nat → Int64) : Prop :=
  od = mc ∧ ∀ o : Nat, o < 4 → od o ≠ 0 → r = 3 ∧ iv_o1 (el_of n c w d q l v o) o (op o) (ov o) (of' o) (ow o) (ot o) mp mt mf mw
def Inv (x : SX) (m : SM) : Prop :=
  iv_n x.x_members m.m_n ∧ iv_c x.x_collaterals m.m_collateral ∧ iv_s x.x_members x.x_hasSent m.m_sent x.x_isSealed m.m_sealed x.x_sealedCount ∧ iv_m x.x_metered m.m_meters ∧
  iv_b x.bk_counts m.m_many x.bk_needs m.m_need x.bk_whens m.m_isBlock m.m_hours x.bk_sides m.m_side x.bk_quantities m.m_quantity x.bk_limits m.m_limit ∧
  iv_r x.x_members x.ag_liarOperator m.m_liar x.ag_rounds m.m_rounds x.x_isSealed ∧ iv_t x.x_members x.ag_toldLies m.m_told x.ag_passedLies m.m_passed ∧
  iv_v x.x_members x.ag_rounds x.bk_counts x.bk_whens x.bk_sides x.bk_quantities x.bk_limits x.ag_vectors m.m_vectors ∧
  iv_o x.x_members x.ag_rounds x.bk_counts x.bk_whens x.bk_sides x.bk_quantities x.bk_limits x.ag_vectors x.oc_prices x.oc_volumes x.oc_filled x.oc_worth x.oc_takenSet x.oc_isDone m.m_cleared m.m_prices m.m_trades m.m_fills m.m_welfares
