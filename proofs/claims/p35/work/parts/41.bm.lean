/-! THE RUN, as a machine of its own: place, stack (opener and rounds left; a call: its place and -1), and (x, y, heading, pen, fault, counted, names, rights, ups, strokes by steps) -/
abbrev Cor : Type := Int32 × Int32 × Int32 × Int32 × Int32 × Nat × (Nat → Int32) × (Nat → Int32) × (Nat → Int32) × (Nat → Int32)
abbrev Stk : Type := List (Nat × Int32)
def up1 (f : Nat → Int32) (i : Nat) (v : Int32) : Nat → Int32 := fun j => if j = i then v else f j
def ahX (h : Int32) : Int32 := if h = 1 then 1 else if h = 3 then -1 else 0
def ahY (h : Int32) : Int32 := if h = 0 then 1 else if h = 2 then -1 else 0
abbrev onG (v : Int32) : Prop := 0 ≤ v ∧ v ≤ 15
def bit1 (w x : Int32) : Int32 := (w >>> (x &&& 31)) &&& 1
def minB (a b : Int32) : Int32 := if b < a then b else a
def mvB (x y h d f : Int32) (c : Nat) (nm R U sa : Nat → Int32) (nx ny : Int32) : Cor :=
  if d = 0 then (nx, ny, h, d, f, c, nm, R, U, sa)
  else if nx = x then
    (if bit1 (U (minB y ny).toNatClampNeg) (minB x nx) = 0 then (nx, ny, h, d, f, c, nm, R, up1 U (minB y ny).toNatClampNeg (U (minB y ny).toNatClampNeg ||| ((1 : Int32) <<< (minB x nx &&& 31))), up1 sa c (sa c + 1)) else (nx, ny, h, d, f, c, nm, R, U, sa))
  else (if bit1 (R (minB y ny).toNatClampNeg) (minB x nx) = 0 then (nx, ny, h, d, f, c, nm, up1 R (minB y ny).toNatClampNeg (R (minB y ny).toNatClampNeg ||| ((1 : Int32) <<< (minB x nx &&& 31))), U, up1 sa c (sa c + 1)) else (nx, ny, h, d, f, c, nm, R, U, sa))
def goB : Cor → Cor := fun (x, y, h, d, f, c, nm, R, U, sa) =>
  if c = 600 then (x, y, h, d, 1, c, nm, R, U, sa)
  else if onG (x + ahX h) ∧ onG (y + ahY h) then mvB x y h d f (c + 1) nm R U (up1 sa (c + 1) (sa c)) (x + ahX h) (y + ahY h)
  else (x, y, h, d, 2, c, nm, R, U, sa)
def cF (s : Cor) : Int32 := s.2.2.2.2.1
def cC (s : Cor) : Nat := s.2.2.2.2.2.1
def cNm (s : Cor) : Nat → Int32 := s.2.2.2.2.2.2.1
def cR (s : Cor) : Nat → Int32 := s.2.2.2.2.2.2.2.1
def cU (s : Cor) : Nat → Int32 := s.2.2.2.2.2.2.2.2.1
def cS (s : Cor) : Nat → Int32 := s.2.2.2.2.2.2.2.2.2
def fwB : Nat → Cor → Cor
  | 0, s => s
  | k + 1, s => if cF s = 0 then fwB k (goB s) else s
def calls : Stk → Nat
  | [] => 0
  | (_, v) :: st => (if v = -1 then 1 else 0) + calls st
def endB (at9 : Nat) : Stk → Nat × Stk
  | [] => (at9 + 1, [])
  | (a, v) :: st => if v = -1 then (a + 1, st) else if v - 1 ≤ 0 then (at9 + 1, st) else (a + 1, (a, v - 1) :: st)
def vlB (V N : Nat → Int32) (nm : Nat → Int32) (i : Nat) : Int32 := if N i = 0 then V i else nm (V i).toNatClampNeg
def hdB (h v : Int32) : Int32 := (((h + v) - (h + v) / (4 : Int32) * (4 : Int32)) + (4 : Int32)) - (((h + v) - (h + v) / (4 : Int32) * (4 : Int32)) + (4 : Int32)) / (4 : Int32) * (4 : Int32)
def putB (t v : Int32) : Cor → Cor := fun (x, y, h, d, f, c, nm, R, U, sa) => if -999 ≤ v ∧ v ≤ 999 then (x, y, h, d, f, c, up1 nm t.toNatClampNeg v, R, U, sa) else (x, y, h, d, 3, c, nm, R, U, sa)
def fltB (e : Int32) : Cor → Cor := fun (x, y, h, d, _, c, nm, R, U, sa) => (x, y, h, d, e, c, nm, R, U, sa)
def trnB (v : Int32) : Cor → Cor := fun (x, y, h, d, f, c, nm, R, U, sa) => (x, y, hdB h v, d, f, c, nm, R, U, sa)
def penB (v : Int32) : Cor → Cor := fun (x, y, h, _, f, c, nm, R, U, sa) => (x, y, h, (if v = 1 then 1 else 0), f, c, nm, R, U, sa)
def cntB : Cor → Cor := fun (x, y, h, d, f, c, nm, R, U, sa) => (x, y, h, d, f, c + 1, nm, R, U, up1 sa (c + 1) (sa c))
def doB (K T : Nat → Int32) (cl : Nat → Nat) (ws : Int32 → Option Nat) (i : Nat) (st : Stk) (s : Cor) (v : Int32) : Nat × Stk × Cor :=
  if K i = 0 then (i + 1, st, if v < 0 then fltB 3 s else fwB v.toNatClampNeg s)
  else if K i = 1 then (i + 1, st, trnB v s)
  else if K i = 2 then (i + 1, st, penB v s)
  else if K i = 3 then (i + 1, st, putB (T i) v s)
  else if K i = 4 then (i + 1, st, putB (T i) (cNm s (T i).toNatClampNeg + v) s)
  else if K i = 5 then (if v ≤ 0 ∨ cl i = i + 1 then (cl i + 1, st, s) else (i + 1, (i, v) :: st, s))
  else match ws (T i) with
    | none => (i + 1, st, fltB 5 s)
    | some w => if calls st = 8 then (i + 1, st, fltB 4 s) else (w + 1, (i, -1) :: st, s)
def stB (K T V N : Nat → Int32) (cl : Nat → Nat) (ws : Int32 → Option Nat) (i : Nat) (st : Stk) (s : Cor) : Nat × Stk × Cor :=
  if K i = 6 then (cl i + 1, st, s)
  else if K i = 8 then ((endB i st).1, (endB i st).2, s)
  else if cC s = 600 then (i, st, fltB 1 s)
  else doB K T cl ws i st (cntB s) (vlB V N (cNm s) i)
/-! what a program is -/
def VP (K T V N : Nat → Int32) (n : Nat) : Prop := n ≤ 30 ∧ VD K n ∧ br K n = [] ∧ (∀ i, i < n → 0 ≤ K i ∧ K i ≤ 8) ∧ (∀ i, i < n → 0 ≤ T i ∧ T i ≤ 3) ∧ (∀ i, i < n → (N i = 0 ∧ -99 ≤ V i ∧ V i ≤ 99) ∨ (N i = 1 ∧ 0 ≤ V i ∧ V i ≤ 3)) ∧ (∀ i j, i < n → j < n → K i = 6 → K j = 6 → T i = T j → i = j)
def ClOK (K : Nat → Int32) (n : Nat) (cl : Nat → Nat) : Prop := ∀ o, o < n → (K o = 5 ∨ K o = 6) → isCl K n o (cl o)
def WsOK (K T : Nat → Int32) (n : Nat) (ws : Int32 → Option Nat) : Prop := (∀ t w, ws t = some w → w < n ∧ K w = 6 ∧ T w = t) ∧ ∀ w, w < n → K w = 6 → ws (T w) = some w
def SI (K : Nat → Int32) (n : Nat) : Stk → List Nat → Prop
  | [], L => L = []
  | (a, v) :: st, L => (v = -1 ∧ (∃ o, L = [o] ∧ K o = 6) ∧ K a = 7 ∧ a < n ∧ SI K n st (br K a)) ∨ (v ≠ -1 ∧ ∃ M, L = a :: M ∧ K a = 5 ∧ a + 1 < n ∧ K (a + 1) ≠ 8 ∧ 0 < v ∧ v ≤ 999 ∧ SI K n st M)
def CI (s : Cor) : Prop := match s with
  | (x, y, h, d, _, c, nm, _, _, _) => onG x ∧ onG y ∧ (h = 0 ∨ h = 1 ∨ h = 2 ∨ h = 3) ∧ (d = 0 ∨ d = 1) ∧ (∀ i, i < 4 → -999 ≤ nm i ∧ nm i ≤ 999) ∧ c ≤ 600
def BI (K : Nat → Int32) (n i : Nat) (st : Stk) (s : Cor) : Prop := i ≤ n ∧ SI K n st (br K i) ∧ calls st ≤ 8 ∧ CI s
def PSI (K : Nat → Int32) (n i : Nat) (st : Stk) (c : Nat) : Nat := (600 - c) * 136 + (if i < n ∧ (K i = 6 ∨ K i = 8) then 15 * calls st + (pc K n - pc K i) else 0)
/-- what has been counted stays -/
def MonB (s s' : Cor) : Prop := cC s ≤ cC s' ∧ ∀ j, j ≤ cC s → cS s' j = cS s j
theorem MonB.rfl9 {s : Cor} : MonB s s := ⟨Nat.le_refl _, fun _ _ => rfl⟩
theorem MonB.trans {a b c : Cor} (h : MonB a b) (k : MonB b c) : MonB a c := ⟨Nat.le_trans h.1 k.1, fun j hj => (k.2 j (Nat.le_trans hj h.1)).trans (h.2 j hj)⟩
theorem goB_ok {s : Cor} (h : CI s) : CI (goB s) ∧ MonB s (goB s) := by
  obtain ⟨x, y, h9, d, f, c, nm, R, U, sa⟩ := s
  obtain ⟨h1, h2, h3, h4, h5, h6⟩ := h
  show CI (if c = 600 then _ else _) ∧ MonB _ (if c = 600 then _ else _)
  by_cases e1 : c = 600
  · rw [if_pos e1]
    exact ⟨⟨h1, h2, h3, h4, h5, h6⟩, Nat.le_refl _, fun _ _ => rfl⟩
  · rw [if_neg e1]
    by_cases e2 : onG (x + ahX h9) ∧ onG (y + ahY h9)
    · rw [if_pos e2]
      have k1 : ∀ (a : Cor) (j : Nat), j ≤ c → up1 sa (c + 1) (sa c) j = sa j := fun _ j hj => if_neg (by omega)
      have k2 : ∀ j, j ≤ c → up1 (up1 sa (c + 1) (sa c)) (c + 1) (up1 sa (c + 1) (sa c) (c + 1) + 1) j = sa j := fun j hj => (if_neg (by omega)).trans (if_neg (by omega))
      have hc : c + 1 ≤ 600 := by
        have : c ≤ 600 := h6
        omega
      unfold mvB
      split
      · exact ⟨⟨e2.1, e2.2, h3, h4, h5, hc⟩, Nat.le_succ _, k1 (x, y, h9, d, f, c, nm, R, U, sa)⟩
      · split
        · split
          · exact ⟨⟨e2.1, e2.2, h3, h4, h5, hc⟩, Nat.le_succ _, k2⟩
          · exact ⟨⟨e2.1, e2.2, h3, h4, h5, hc⟩, Nat.le_succ _, k1 (x, y, h9, d, f, c, nm, R, U, sa)⟩
        · split
          · exact ⟨⟨e2.1, e2.2, h3, h4, h5, hc⟩, Nat.le_succ _, k2⟩
          · exact ⟨⟨e2.1, e2.2, h3, h4, h5, hc⟩, Nat.le_succ _, k1 (x, y, h9, d, f, c, nm, R, U, sa)⟩
    · rw [if_neg e2]
      exact ⟨⟨h1, h2, h3, h4, h5, h6⟩, Nat.le_refl _, fun _ _ => rfl⟩
theorem fwB_ok : ∀ (k : Nat) {s : Cor}, CI s → CI (fwB k s) ∧ MonB s (fwB k s) := by
  intro k
  induction k with
  | zero => intro s h; exact ⟨h, MonB.rfl9⟩
  | succ k ih =>
    intro s h
    show CI (if cF s = 0 then _ else _) ∧ MonB s (if cF s = 0 then _ else _)
    by_cases e : cF s = 0
    · rw [if_pos e]
      obtain ⟨q1, q2⟩ := goB_ok h
      exact ⟨(ih q1).1, q2.trans (ih q1).2⟩
    · rw [if_neg e]
      exact ⟨h, MonB.rfl9⟩
theorem val_of {v : Int32} (h1 : -999 ≤ v) (h2 : v ≤ 999) : ∃ k : Nat, k < 1999 ∧ v = nI k - 999 := by
  refine ⟨(v.toInt + 999).toNat, ?_, ?_⟩
  · have a := Int32.le_iff_toInt_le.mp h1
    have b := Int32.le_iff_toInt_le.mp h2
    have e1 : (-999 : Int32).toInt = -999 := by decide
    have e2 : (999 : Int32).toInt = 999 := by decide
    rw [e1] at a; rw [e2] at b
    omega
  · have a := Int32.le_iff_toInt_le.mp h1
    have b := Int32.le_iff_toInt_le.mp h2
    have e1 : (-999 : Int32).toInt = -999 := by decide
    have e2 : (999 : Int32).toInt = 999 := by decide
    rw [e1] at a; rw [e2] at b
    apply Int32.toInt_inj.mp
    rw [show (999 : Int32) = nI 999 from rfl, pk_sub_toInt (by omega) (by omega)]
    omega
theorem hd_all : ∀ k, k < 1999 → ∀ h, h < 4 → (hdB (nI h) (nI k - 999) = 0 ∨ hdB (nI h) (nI k - 999) = 1 ∨ hdB (nI h) (nI k - 999) = 2 ∨ hdB (nI h) (nI k - 999) = 3) := by decide +kernel
theorem hd_of {h v : Int32} (h3 : h = 0 ∨ h = 1 ∨ h = 2 ∨ h = 3) : ∃ k : Nat, k < 4 ∧ h = nI k := by
  rcases h3 with e | e | e | e
  · exact ⟨0, by decide, e⟩
  · exact ⟨1, by decide, e⟩
  · exact ⟨2, by decide, e⟩
  · exact ⟨3, by decide, e⟩
theorem hd_ok {h v : Int32} (h3 : h = 0 ∨ h = 1 ∨ h = 2 ∨ h = 3) (h1 : -999 ≤ v) (h2 : v ≤ 999) : hdB h v = 0 ∨ hdB h v = 1 ∨ hdB h v = 2 ∨ hdB h v = 3 := by
  obtain ⟨k, hk, rfl⟩ := val_of h1 h2
  obtain ⟨j, hj, rfl⟩ := hd_of (v := 0) h3
  exact hd_all k hk j hj
theorem cl_lt4 {v : Int32} (h1 : 0 ≤ v) (h2 : v ≤ 3) : v.toNatClampNeg < 4 := by
  obtain ⟨j, hj, rfl⟩ := nI_of2 (M := 3) (n := 3) rfl (fun q => Int32.lt_irrefl (Int32.lt_of_lt_of_le q h1)) h2
  rw [nI_clamp (by omega)]
  omega
theorem vl_ok {V N : Nat → Int32} {nm : Nat → Int32} {i : Nat} (hv : (N i = 0 ∧ -99 ≤ V i ∧ V i ≤ 99) ∨ (N i = 1 ∧ 0 ≤ V i ∧ V i ≤ 3)) (hn : ∀ i, i < 4 → -999 ≤ nm i ∧ nm i ≤ 999) : -999 ≤ vlB V N nm i ∧ vlB V N nm i ≤ 999 := by
  unfold vlB
  rcases hv with ⟨e, a, b⟩ | ⟨e, a, b⟩
  · rw [if_pos e]
    exact ⟨Int32.le_trans (by decide) a, Int32.le_trans b (by decide)⟩
  · rw [if_neg (by rw [e]; decide)]
    exact hn _ (cl_lt4 a b)
