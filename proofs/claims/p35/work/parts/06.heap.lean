/-! FIELDS, ARRAYS, NEW CELLS over the typed memory -/
abbrev clC (c : Nat) : String := (vwCl.getD c (RX11, TX11, 11)).1
abbrev clT (c : Nat) : u_T := (vwCl.getD c (RX11, TX11, 11)).2.1
theorem m12 {P : Nat → Prop} (h0 : P 0) (h1 : P 1) (h2 : P 2) (h3 : P 3) (h4 : P 4) (h5 : P 5) (h6 : P 6) (h7 : P 7) (h8 : P 8) (h9 : P 9) (h10 : P 10) (h11 : P 11) : ∀ c, c < 12 → P c := by
  intro c hc
  match c, hc with
  | 0, _ => exact h0
  | 1, _ => exact h1
  | 2, _ => exact h2
  | 3, _ => exact h3
  | 4, _ => exact h4
  | 5, _ => exact h5
  | 6, _ => exact h6
  | 7, _ => exact h7
  | 8, _ => exact h8
  | 9, _ => exact h9
  | 10, _ => exact h10
  | 11, _ => exact h11
def ClsOK (c : Nat) : Prop := vwCl[c]? = some (clC c, clT c, fN c) ∧ (∀ w ∈ u_ws (clC c) (clT c) (fN c), w ∈ gd) ∧ (∀ a, a < fN c → ∀ b, b < fN c → a ≠ b → (clT c a).2.1 ≠ (clT c b).2.1) ∧ (∀ k, k < fN c → parseFieldDescriptor (clT c k).2.2.1 = some (tyOf c k)) ∧ fN c < 100
set_option maxRecDepth 20000 in
theorem clsIn0 : ∀ w ∈ u_ws (clC 0) (clT 0) (fN 0), w ∈ gd := by decide +kernel
theorem clsOK0 : ClsOK 0 := ⟨rfl, clsIn0, nmX0, tyX0_ok, by decide⟩
set_option maxRecDepth 20000 in
theorem clsIn1 : ∀ w ∈ u_ws (clC 1) (clT 1) (fN 1), w ∈ gd := by decide +kernel
theorem clsOK1 : ClsOK 1 := ⟨rfl, clsIn1, nmX1, tyX1_ok, by decide⟩
set_option maxRecDepth 20000 in
theorem clsIn2 : ∀ w ∈ u_ws (clC 2) (clT 2) (fN 2), w ∈ gd := by decide +kernel
theorem clsOK2 : ClsOK 2 := ⟨rfl, clsIn2, nmX2, tyX2_ok, by decide⟩
set_option maxRecDepth 20000 in
theorem clsIn3 : ∀ w ∈ u_ws (clC 3) (clT 3) (fN 3), w ∈ gd := by decide +kernel
theorem clsOK3 : ClsOK 3 := ⟨rfl, clsIn3, nmX3, tyX3_ok, by decide⟩
set_option maxRecDepth 20000 in
theorem clsIn4 : ∀ w ∈ u_ws (clC 4) (clT 4) (fN 4), w ∈ gd := by decide +kernel
theorem clsOK4 : ClsOK 4 := ⟨rfl, clsIn4, nmX4, tyX4_ok, by decide⟩
set_option maxRecDepth 20000 in
theorem clsIn5 : ∀ w ∈ u_ws (clC 5) (clT 5) (fN 5), w ∈ gd := by decide +kernel
theorem clsOK5 : ClsOK 5 := ⟨rfl, clsIn5, nmX5, tyX5_ok, by decide⟩
set_option maxRecDepth 20000 in
theorem clsIn6 : ∀ w ∈ u_ws (clC 6) (clT 6) (fN 6), w ∈ gd := by decide +kernel
theorem clsOK6 : ClsOK 6 := ⟨rfl, clsIn6, nmX6, tyX6_ok, by decide⟩
set_option maxRecDepth 20000 in
theorem clsIn7 : ∀ w ∈ u_ws (clC 7) (clT 7) (fN 7), w ∈ gd := by decide +kernel
theorem clsOK7 : ClsOK 7 := ⟨rfl, clsIn7, nmX7, tyX7_ok, by decide⟩
set_option maxRecDepth 20000 in
theorem clsIn8 : ∀ w ∈ u_ws (clC 8) (clT 8) (fN 8), w ∈ gd := by decide +kernel
theorem clsOK8 : ClsOK 8 := ⟨rfl, clsIn8, nmX8, tyX8_ok, by decide⟩
set_option maxRecDepth 20000 in
theorem clsIn9 : ∀ w ∈ u_ws (clC 9) (clT 9) (fN 9), w ∈ gd := by decide +kernel
theorem clsOK9 : ClsOK 9 := ⟨rfl, clsIn9, nmX9, tyX9_ok, by decide⟩
set_option maxRecDepth 20000 in
theorem clsIn10 : ∀ w ∈ u_ws (clC 10) (clT 10) (fN 10), w ∈ gd := by decide +kernel
theorem clsOK10 : ClsOK 10 := ⟨rfl, clsIn10, nmX10, tyX10_ok, by decide⟩
set_option maxRecDepth 20000 in
theorem clsIn11 : ∀ w ∈ u_ws (clC 11) (clT 11) (fN 11), w ∈ gd := by decide +kernel
theorem clsOK11 : ClsOK 11 := ⟨rfl, clsIn11, nmX11, tyX11_ok, by decide⟩
theorem clsOK : ∀ c, c < 12 → ClsOK c := m12 clsOK0 clsOK1 clsOK2 clsOK3 clsOK4 clsOK5 clsOK6 clsOK7 clsOK8 clsOK9 clsOK10 clsOK11
def tyK : FieldType → Bool
  | .int => true
  | .boolean => true
  | .array _ => true
  | .object _ => true
  | _ => false
theorem tyOf_k : ∀ c, c < 12 → ∀ k, k < fN c → tyK (tyOf c k) = true := m12 (by decide) (by decide) (by decide) (by decide) (by decide) (by decide) (by decide) (by decide) (by decide) (by decide) (by decide) (by decide +kernel)
theorem tyOf_ok : ∀ c, c < 12 → ∀ k, k < fN c → (tyOf c k = .int ∨ tyOf c k = .boolean ∨ (∃ t, tyOf c k = .array t) ∨ ∃ t, tyOf c k = .object t) := by
  intro c hc k hk
  have h := tyOf_k c hc k hk
  cases e : tyOf c k <;> rw [e] at h <;> first | exact Or.inl rfl | exact Or.inr (Or.inl rfl) | exact Or.inr (Or.inr (Or.inl ⟨_, rfl⟩)) | exact Or.inr (Or.inr (Or.inr ⟨_, rfl⟩)) | exact absurd h (by decide)
theorem fs_len {X : Mem} {c a : Nat} : (fsOf X c a).length = fN c := by simp [fsOf]
theorem fs_at {X : Mem} {c a k : Nat} (hk : k < fN c) : (fsOf X c a)[k]? = some (if fR c k then va_rf (mR X (100 * c + k) a) else .int (mI X (100 * c + k) a)) := by
  simp [fsOf, hk]
theorem up2_ne {α : Type} {f : Nat → Nat → α} {k a j b : Nat} {v : α} (h : b ≠ a) : up2 f k a v j b = f j b := by simp [up2, h]
theorem up2_nk {α : Type} {f : Nat → Nat → α} {k a j b : Nat} {v : α} (h : j ≠ k) : up2 f k a v j b = f j b := by simp [up2, h]
theorem up2_eq {α : Type} {f : Nat → Nat → α} {k a : Nat} {v : α} : up2 f k a v k a = v := by simp [up2]
theorem fs_wI_ne {X : Mem} {f a b c : Nat} {v : Int32} (h : b ≠ a) : fsOf (wI X f a v) c b = fsOf X c b := by
  unfold fsOf
  refine List.map_congr_left fun k _ => ?_
  show (if fR c k then va_rf (mR X _ b) else .int (up2 (mI X) f a v _ b)) = _
  rw [up2_ne h]
theorem fs_wR_ne {X : Mem} {f a b c : Nat} {v : Option Nat} (h : b ≠ a) : fsOf (wR X f a v) c b = fsOf X c b := by
  unfold fsOf
  refine List.map_congr_left fun k _ => ?_
  show (if fR c k then va_rf (up2 (mR X) f a v _ b) else .int (mI X _ b)) = _
  rw [up2_ne h]
theorem fs_wI_eq {X : Mem} {a c k : Nat} {v : Int32} (hr : fR c k = false) : fsOf (wI X (100 * c + k) a v) c a = (fsOf X c a).set k (.int v) := by
  refine List.ext_getElem? fun j => ?_
  rw [List.getElem?_set]
  by_cases hj : j < fN c
  · rw [fs_at hj]
    by_cases e : k = j
    · subst e
      rw [if_pos rfl, if_pos (show k < (fsOf X c a).length by rw [fs_len]; exact hj), hr]
      show some (Value.int (up2 (mI X) _ a v _ a)) = _
      rw [up2_eq]
    · rw [if_neg e, fs_at hj]
      show some (if fR c j then va_rf (mR X _ a) else Value.int (up2 (mI X) _ a v _ a)) = _
      rw [up2_nk (by omega)]
  · have h1 : (fsOf (wI X (100 * c + k) a v) c a)[j]? = none := List.getElem?_eq_none (by rw [fs_len]; omega)
    have h2 : (fsOf X c a)[j]? = none := List.getElem?_eq_none (by rw [fs_len]; omega)
    rw [h1, h2]
    by_cases e : k = j
    · rw [if_pos e, if_neg (by rw [fs_len]; omega)]
    · rw [if_neg e]
theorem fs_wR_eq {X : Mem} {a c k : Nat} {v : Option Nat} (hr : fR c k = true) : fsOf (wR X (100 * c + k) a v) c a = (fsOf X c a).set k (va_rf v) := by
  refine List.ext_getElem? fun j => ?_
  rw [List.getElem?_set]
  by_cases hj : j < fN c
  · rw [fs_at hj]
    by_cases e : k = j
    · subst e
      rw [if_pos rfl, if_pos (show k < (fsOf X c a).length by rw [fs_len]; exact hj), hr]
      show some (va_rf (up2 (mR X) _ a v _ a)) = _
      rw [up2_eq]
    · rw [if_neg e, fs_at hj]
      show some (if fR c j then va_rf (up2 (mR X) _ a v _ a) else Value.int (mI X _ a)) = _
      rw [up2_nk (by omega)]
  · have h1 : (fsOf (wR X (100 * c + k) a v) c a)[j]? = none := List.getElem?_eq_none (by rw [fs_len]; omega)
    have h2 : (fsOf X c a)[j]? = none := List.getElem?_eq_none (by rw [fs_len]; omega)
    rw [h1, h2]
    by_cases e : k = j
    · rw [if_pos e, if_neg (by rw [fs_len]; omega)]
    · rw [if_neg e]
theorem RepM.objAt {D : DD} {X : Mem} {H : Heap} (h : RepM D X H) {a c n : Nat} (hk : mK X a = some (c, n)) (hc : c < 12) : va_at (D.1, D.2.1) vwCl (a, .inr (c, fsOf X c a)) H := by
  have h1 := (h.1 a c n hk).2
  unfold cellOf at h1
  rw [if_pos hc] at h1
  exact h1
theorem RepM.arrI {D : DD} {X : Mem} {H : Heap} (h : RepM D X H) {a t n : Nat} (hk : mK X a = some (20 + t, n)) (ht : t < 2) : H[a]? = some (vp_cell (D.2.2 t) (n, .inl (aI X a))) := by
  have h1 := (h.1 a _ n hk).2
  unfold cellOf at h1
  rw [if_neg (by omega), if_pos (by omega), show 20 + t - 20 = t by omega] at h1
  exact h1
theorem RepM.arrJ {D : DD} {X : Mem} {H : Heap} (h : RepM D X H) {a n : Nat} (hk : mK X a = some (22, n)) : H[a]? = some (vp_cell (D.2.2 2) (n, .inr (.inl (aJ X a)))) := (h.1 a _ n hk).2
theorem RepM.arrR {D : DD} {X : Mem} {H : Heap} (h : RepM D X H) {a t n : Nat} (hk : mK X a = some (20 + t, n)) (h3 : 3 ≤ t) : H[a]? = some (vp_cell (D.2.2 t) (n, .inr (.inr (.inr (.inr (aR X a)))))) := by
  have h1 := (h.1 a _ n hk).2
  unfold cellOf at h1
  rw [if_neg (by omega), if_neg (by omega), if_neg (by omega), show 20 + t - 20 = t by omega] at h1
  exact h1
/-- what is not at a has not moved, at a is the new cell -/
theorem RepM.moved {D : DD} {X X' : Mem} {H H1 : Heap} (h : RepM D X H) {a : Nat} (hk : mK X' = mK X) (hz : mZ X' = mZ X) (hne : ∀ b c n, b ≠ a → cellOf D X' b c n = cellOf D X b c n) (hat : ∀ c n, mK X a = some (c, n) → va_at (D.1, D.2.1) vwCl (a, cellOf D X' a c n) H1) (z : H1.size = H.size) (oq : ∀ q, q ≠ a → H1[q]? = H[q]?) : RepM D X' H1 := by
  refine ⟨fun b c n hb => ?_, by rw [hz, z]; exact h.2⟩
  rw [hk] at hb
  refine ⟨(h.1 b c n hb).1, ?_⟩
  by_cases e : b = a
  · subst e
    exact hat c n hb
  · rw [hne b c n e]
    exact (h.1 b c n hb).2.kept (oq b e)
theorem P1 {D : va_G} {q : Nat × va_E} {H : Heap} (h : va_at D vwCl q H) : va_P D vwCl [q] H := by
  intro k x hx
  match k, hx with
  | 0, hx => cases hx; exact h
  | k + 1, hx => simp at hx
theorem AK.ty {D : DD} {s : State} (h : AK D s) (t : Nat) (ht : t < 7) : ArrOfT s (D.2.2 t) (arT t) ∧ va_RA s (D.2.2 t) (arT t) := h.1.2 t (D.2.2 t, arT t) (by simp [tysOf, ht])
theorem tys_at {D : DD} {t : Nat} (ht : t < 7) : (tysOf D)[t]? = some (D.2.2 t, arT t) := by simp [tysOf, ht]
section GH
variable {D : DD} {A0 : Nat → Prop} {ev : EV} {Q : State → Prop} {X : Mem} {cs sl pc : Nat} {L : List (Nat × TV)} {st : List TV} {own nm : String} {cc : ByteArray} {nL : Nat} {ret : Option FieldType} {rm : Room}
theorem g_getI (c k : Nat) {a n index : Nat} (B : Amb D A0 ev own nm cc nL ret rm) (hk : mK X a = some (c, n)) (hc : c < 12) (hf : k < fN c) (hr : fR c k = false) (lk : Cond.fieldLink own index (clT c k).1 (clT c k).2.1 (clT c k).2.2.1 ∈ gd) (d : decode cc pc = .ok (.getfield index, 3)) (k9 : Gd D A0 ev Q X cs sl (pc + 3) L (vI (mI X (100 * c + k) a) :: st)) : Gd D A0 ev Q X cs sl pc L (vA (some a) :: st) := by
  obtain ⟨p, l, e9, R, s, m, args, below, meth, c9⟩ := ev
  intro H locs ls hR hA hS hl
  obtain ⟨o1, o2, o3, o4, o5⟩ := clsOK c hc
  exact va_get (ws := [(a, .inr (c, fsOf X c a))]) (Ts := gd) (a := a) B.1 B.2.1 (fun w hw => B.2.2.2.2.1.w hw) o2 B.2.2.2.1 B.2.2.2.2.1.1 (P1 (hR.objAt hk hc)) 0 rfl o1 k hf (B.2.2.2.2.1.w lk) (fun x hx => hx) (by rw [fs_at hf, hr]; rfl) d (k9 H locs ls hR hA hS hl)
theorem g_getR (c k : Nat) {a n index : Nat} (B : Amb D A0 ev own nm cc nL ret rm) (hk : mK X a = some (c, n)) (hc : c < 12) (hf : k < fN c) (hr : fR c k = true) (lk : Cond.fieldLink own index (clT c k).1 (clT c k).2.1 (clT c k).2.2.1 ∈ gd) (d : decode cc pc = .ok (.getfield index, 3)) (k9 : Gd D A0 ev Q X cs sl (pc + 3) L (vA (mR X (100 * c + k) a) :: st)) : Gd D A0 ev Q X cs sl pc L (vA (some a) :: st) := by
  obtain ⟨p, l, e9, R, s, m, args, below, meth, c9⟩ := ev
  intro H locs ls hR hA hS hl
  obtain ⟨o1, o2, o3, o4, o5⟩ := clsOK c hc
  exact va_get (ws := [(a, .inr (c, fsOf X c a))]) (Ts := gd) (a := a) B.1 B.2.1 (fun w hw => B.2.2.2.2.1.w hw) o2 B.2.2.2.1 B.2.2.2.2.1.1 (P1 (hR.objAt hk hc)) 0 rfl o1 k hf (B.2.2.2.2.1.w lk) (fun x hx => hx) (by rw [fs_at hf, hr]; rfl) d (k9 H locs ls hR hA hS hl)
theorem g_getIN (c k : Nat) {a n index : Nat} {host : String} (B : Amb D A0 ev own nm cc nL ret rm) (hk : mK X a = some (c, n)) (hc : c < 12) (hf : k < fN c) (hr : fR c k = false) (lk : Cond.fieldLinkNest own index (clT c k).1 (clT c k).2.1 (clT c k).2.2.1 host ∈ nestW) (d : decode cc pc = .ok (.getfield index, 3)) (k9 : Gd D A0 ev Q X cs sl (pc + 3) L (vI (mI X (100 * c + k) a) :: st)) : Gd D A0 ev Q X cs sl pc L (vA (some a) :: st) := by
  obtain ⟨p, l, e9, R, s, m, args, below, meth, c9⟩ := ev
  intro H locs ls hR hA hS hl
  obtain ⟨o1, o2, o3, o4, o5⟩ := clsOK c hc
  exact va_getN (ws := [(a, .inr (c, fsOf X c a))]) (Ts := gd) (a := a) B.1 B.2.1 (fun w hw => B.2.2.2.2.1.w hw) o2 B.2.2.2.1 B.2.2.2.2.1.1 (P1 (hR.objAt hk hc)) 0 rfl o1 k hf (va_Nw.use rfl (B.2.2.2.2.1.2.2.1 _ lk)) (fun x hx => hx) (by rw [fs_at hf, hr]; rfl) d (k9 H locs ls hR hA hS hl)
theorem g_getRN (c k : Nat) {a n index : Nat} {host : String} (B : Amb D A0 ev own nm cc nL ret rm) (hk : mK X a = some (c, n)) (hc : c < 12) (hf : k < fN c) (hr : fR c k = true) (lk : Cond.fieldLinkNest own index (clT c k).1 (clT c k).2.1 (clT c k).2.2.1 host ∈ nestW) (d : decode cc pc = .ok (.getfield index, 3)) (k9 : Gd D A0 ev Q X cs sl (pc + 3) L (vA (mR X (100 * c + k) a) :: st)) : Gd D A0 ev Q X cs sl pc L (vA (some a) :: st) := by
  obtain ⟨p, l, e9, R, s, m, args, below, meth, c9⟩ := ev
  intro H locs ls hR hA hS hl
  obtain ⟨o1, o2, o3, o4, o5⟩ := clsOK c hc
  exact va_getN (ws := [(a, .inr (c, fsOf X c a))]) (Ts := gd) (a := a) B.1 B.2.1 (fun w hw => B.2.2.2.2.1.w hw) o2 B.2.2.2.1 B.2.2.2.2.1.1 (P1 (hR.objAt hk hc)) 0 rfl o1 k hf (va_Nw.use rfl (B.2.2.2.2.1.2.2.1 _ lk)) (fun x hx => hx) (by rw [fs_at hf, hr]; rfl) d (k9 H locs ls hR hA hS hl)
theorem W_put {p : Program} {l : Launch} {e : Env} {R : Room} {s : State} {m : MethodId} {args : Array Value} {below : List Frame} {meth : Method} {c9 : Code} {H : Heap} {locs : List Loc} {ls : Array Slot} {rest : List Value} (hexec : p.tables.exec = Jvm.exec) (hb : c9.code = cc) (hown : s.vm.findClass own = some m.cls) (hAK : AK D s) {a c k index : Nat} {fs : List Value} {v : Value} (hc : c < 12) (hf : k < fN c) (hlen : fs.length = fN c) (hat : va_at (D.1, D.2.1) vwCl (a, .inr (c, fs)) H) (hlink : (Cond.fieldLink own index (clT c k).1 (clT c k).2.1 (clT c k).2.2.1).before args s = true) (hfin : (clT c k).2.2.2 = false) (hn : narrow (tyOf c k) v = v) (hfit : fits (tyOf c k) v = true) (hdg : decode cc pc = .ok (.putfield index, 3))
    (kk : ∀ (H1 : Heap) (sl9 : Nat), va_at (D.1, D.2.1) vwCl (a, .inr (c, fs.set k v)) H1 → H1.size = H.size → (∀ q, q ≠ a → H1[q]? = H[q]?) → W p l e R s m args below meth c9 H1 (locs ++ [⟨a, sl9⟩]) cs sl Q (F0 m (pc + 3) ls rest)) : W p l e R s m args below meth c9 H locs cs sl Q (F0 m pc ls (v :: .ref a :: rest)) := by
  obtain ⟨o1, o2, o3, o4, o5⟩ := clsOK c hc
  have hd := o4 k hf
  have hts : ∀ w ∈ gd, w.before args s = true := fun w hw => hAK.w hw
  have hK := hAK.1
  have hap := va_apart (own := own) hts o2 (tyOf c) o4 o3 hK o1
  obtain ⟨r, h1, cell, q1, q2, q3, q4⟩ := hat
  have hr : r = (clC c, clT c, fN c) := Option.some.inj (h1.symm.trans o1)
  subst hr
  obtain ⟨hS, hfc, kC, hkC, hkind⟩ := hK.1 c _ o1
  obtain ⟨cf, kf, fi, f, hi, hsl⟩ := hS k hf
  have hlay := (hAK.2.1 _ (o2 _ (u_in_lay hf))) args
  unfold u_lay at hlay
  rw [if_neg (by rw [hfin]; decide)] at hlay
  have hst := (u_facts hfc hkC (u_lays hts o2 hf) hi).1
  have h6 := u_store hfc hkC hkind hlay hi hd hn hfit
  refine W.putK hexec hb (f := f) ⟨hown, hlink, ⟨_, _, _, hi⟩, hst⟩ (by rw [q2]; exact h6) q1 q3 (by rw [hsl]; exact k2_hasslot (q4 k hf)) rfl rfl hdg fun H' e1 e2 e3 => ?_
  rw [hsl] at e1 ⊢
  exact kk H' _ ⟨_, o1, t_OB.to (V := updV (vp_V fs) k v) ⟨_, e1, q2, q3, t_set q4 hap hf v⟩ (fun j _ => vp_updV_set (by rw [hlen]; exact hf) v j)⟩ e2 e3
theorem W_putN {p : Program} {l : Launch} {e : Env} {R : Room} {s : State} {m : MethodId} {args : Array Value} {below : List Frame} {meth : Method} {c9 : Code} {H : Heap} {locs : List Loc} {ls : Array Slot} {rest : List Value} (hexec : p.tables.exec = Jvm.exec) (hb : c9.code = cc) (hown : s.vm.findClass own = some m.cls) (hAK : AK D s) {a c k index : Nat} {host : String} {fs : List Value} {v : Value} (hc : c < 12) (hf : k < fN c) (hlen : fs.length = fN c) (hat : va_at (D.1, D.2.1) vwCl (a, .inr (c, fs)) H) (hlink : (Cond.fieldLinkNest own index (clT c k).1 (clT c k).2.1 (clT c k).2.2.1 host).before args s = true) (hfin : (clT c k).2.2.2 = false) (hn : narrow (tyOf c k) v = v) (hfit : fits (tyOf c k) v = true) (hdg : decode cc pc = .ok (.putfield index, 3))
    (kk : ∀ (H1 : Heap) (sl9 : Nat), va_at (D.1, D.2.1) vwCl (a, .inr (c, fs.set k v)) H1 → H1.size = H.size → (∀ q, q ≠ a → H1[q]? = H[q]?) → W p l e R s m args below meth c9 H1 (locs ++ [⟨a, sl9⟩]) cs sl Q (F0 m (pc + 3) ls rest)) : W p l e R s m args below meth c9 H locs cs sl Q (F0 m pc ls (v :: .ref a :: rest)) := by
  obtain ⟨o1, o2, o3, o4, o5⟩ := clsOK c hc
  have hd := o4 k hf
  have hts : ∀ w ∈ gd, w.before args s = true := fun w hw => hAK.w hw
  have hK := hAK.1
  have hap := va_apart (own := own) hts o2 (tyOf c) o4 o3 hK o1
  obtain ⟨r, h1, cell, q1, q2, q3, q4⟩ := hat
  have hr : r = (clC c, clT c, fN c) := Option.some.inj (h1.symm.trans o1)
  subst hr
  obtain ⟨hS, hfc, kC, hkC, hkind⟩ := hK.1 c _ o1
  obtain ⟨cf, kf, fi, f, hi, hsl⟩ := hS k hf
  have hlay := (hAK.2.1 _ (o2 _ (u_in_lay hf))) args
  unfold u_lay at hlay
  rw [if_neg (by rw [hfin]; decide)] at hlay
  have hst := (u_facts hfc hkC (u_lays hts o2 hf) hi).1
  have h6 := u_store hfc hkC hkind hlay hi hd hn hfit
  refine va_WputK hexec hb (f := f) hown hlink hi hst (by rw [q2]; exact h6) q1 q3 (by rw [hsl]; exact k2_hasslot (q4 k hf)) rfl rfl hdg fun H' e1 e2 e3 => ?_
  rw [hsl] at e1 ⊢
  exact kk H' _ ⟨_, o1, t_OB.to (V := updV (vp_V fs) k v) ⟨_, e1, q2, q3, t_set q4 hap hf v⟩ (fun j _ => vp_updV_set (by rw [hlen]; exact hf) v j)⟩ e2 e3
theorem W_putF {p : Program} {l : Launch} {e : Env} {R : Room} {s : State} {m : MethodId} {args : Array Value} {below : List Frame} {meth : Method} {c9 : Code} {H : Heap} {locs : List Loc} {ls : Array Slot} {rest : List Value} (hexec : p.tables.exec = Jvm.exec) (hb : c9.code = cc) (hown : s.vm.findClass own = some m.cls) (hAK : AK D s) {a c k index : Nat} {fs : List Value} {v : Value} (hc : c < 12) (hf : k < fN c) (hlen : fs.length = fN c) (hat : va_at (D.1, D.2.1) vwCl (a, .inr (c, fs)) H) (hlink : (Cond.fieldLink own index (clT c k).1 (clT c k).2.1 (clT c k).2.2.1).before args s = true) (hfin : (clT c k).2.2.2 = true) (hin2 : meth.name = "<init>") (hdecl : (clT c k).1 = own) (hn : narrow (tyOf c k) v = v) (hfit : fits (tyOf c k) v = true) (hdg : decode cc pc = .ok (.putfield index, 3))
    (kk : ∀ (H1 : Heap) (sl9 : Nat), va_at (D.1, D.2.1) vwCl (a, .inr (c, fs.set k v)) H1 → H1.size = H.size → (∀ q, q ≠ a → H1[q]? = H[q]?) → W p l e R s m args below meth c9 H1 (locs ++ [⟨a, sl9⟩]) cs sl Q (F0 m (pc + 3) ls rest)) : W p l e R s m args below meth c9 H locs cs sl Q (F0 m pc ls (v :: .ref a :: rest)) := by
  obtain ⟨o1, o2, o3, o4, o5⟩ := clsOK c hc
  have hd := o4 k hf
  have hts : ∀ w ∈ gd, w.before args s = true := fun w hw => hAK.w hw
  have hK := hAK.1
  have hap := va_apart (own := own) hts o2 (tyOf c) o4 o3 hK o1
  obtain ⟨r, h1, cell, q1, q2, q3, q4⟩ := hat
  have hr : r = (clC c, clT c, fN c) := Option.some.inj (h1.symm.trans o1)
  subst hr
  obtain ⟨hS, hfc, kC, hkC, hkind⟩ := hK.1 c _ o1
  obtain ⟨cf, kf, fi, f, hi, hsl⟩ := hS k hf
  have hlay := (hAK.2.1 _ (o2 _ (u_in_lay hf))) args
  unfold u_lay at hlay
  rw [if_pos hfin] at hlay
  have hst := (u_facts hfc hkC (u_lays hts o2 hf) hi).1
  have hcf : m.cls = cf := by
    obtain ⟨_, _, c', _, _, _, -, -, hf', -, -, -, hown2, -⟩ := Cond.laysFinal_spec hlay
    have e1 : c' = cf := by have := hi.symm.trans hf'; simp at this; exact this.1.symm
    rw [hdecl] at hown2
    rw [← e1]; exact Option.some.inj (hown.symm.trans hown2)
  have h6 := u_fits hfc hkC hkind (Or.inr hlay) hi hd hn hfit
  refine W.putFinK hexec hb hown hlink hi hst hcf hin2 (by rw [q2]; exact h6) q1 q3 (by rw [hsl]; exact k2_hasslot (q4 k hf)) rfl rfl hdg fun H' e1 e2 e3 => ?_
  rw [hsl] at e1 ⊢
  exact kk H' _ ⟨_, o1, t_OB.to (V := updV (vp_V fs) k v) ⟨_, e1, q2, q3, t_set q4 hap hf v⟩ (fun j _ => vp_updV_set (by rw [hlen]; exact hf) v j)⟩ e2 e3
theorem nar_I {x : Int32} : narrow .int (.int x) = .int x ∧ fits .int (.int x) = true := ⟨rfl, rfl⟩
theorem nar_Z {x : Int32} (h : x = 0 ∨ x = 1) : narrow .boolean (.int x) = .int x ∧ fits .boolean (.int x) = true := by
  rcases h with rfl | rfl <;> exact ⟨by decide +kernel, by decide +kernel⟩
theorem nar_R {c k : Nat} {v : Option Nat} (h : fR c k = true) : narrow (tyOf c k) (va_rf v) = va_rf v ∧ fits (tyOf c k) (va_rf v) = true := by
  unfold fR at h
  cases hty : tyOf c k <;> rw [hty] at h <;> first | exact absurd h (by decide) | (cases v <;> exact ⟨rfl, rfl⟩)
theorem cellOf_wI {X : Mem} {f a b c n : Nat} {v : Int32} (h : b ≠ a) : cellOf D (wI X f a v) b c n = cellOf D X b c n := by
  unfold cellOf
  rw [fs_wI_ne h]
  rfl
theorem cellOf_wR {X : Mem} {f a b c n : Nat} {v : Option Nat} (h : b ≠ a) : cellOf D (wR X f a v) b c n = cellOf D X b c n := by
  unfold cellOf
  rw [fs_wR_ne h]
  rfl
theorem A_put {A : Nat → Prop} {H0 H H1 : Heap} {locs : List Loc} {a k : Nat} (h : va_S A H0 H locs) (z : H1.size = H.size) (oq : ∀ q : Nat, q ≠ a → H1[q]? = H[q]?) (ha : A a) : va_S A H0 H1 (locs ++ [⟨a, k⟩]) := h.put z oq ha
theorem g_putI (c k : Nat) {a n index : Nat} {v : Int32} (B : Amb D A0 ev own nm cc nL ret rm) (hk : mK X a = some (c, n)) (hc : c < 12) (hf : k < fN c) (hy : tyOf c k = .int) (hfin : (clT c k).2.2.2 = false) (lk : Cond.fieldLink own index (clT c k).1 (clT c k).2.1 (clT c k).2.2.1 ∈ gd) (d : decode cc pc = .ok (.putfield index, 3)) (k9 : Gd D A0 ev Q (wI X (100 * c + k) a v) cs sl (pc + 3) L st) : Gd D A0 ev Q X cs sl pc L (vI v :: vA (some a) :: st) := by
  obtain ⟨p, l, e9, R, s, m, args, below, meth, c9⟩ := ev
  intro H locs ls hR hA hS hl
  have hrv : fR c k = false := (by unfold fR; rw [hy])
  refine W_put B.1 B.2.1 B.2.2.2.1 B.2.2.2.2.1 hc hf fs_len (hR.objAt hk hc) (B.2.2.2.2.1.w lk) hfin (by rw [hy]; exact nar_I.1) (by rw [hy]; exact nar_I.2) d (fun H1 sl9 e1 z oq => ?_)
  refine k9 H1 _ ls (hR.moved (a := a) rfl rfl (fun b c8 n8 hb => cellOf_wI hb) (fun c8 n8 h8 => ?_) z oq) hA (hS.put z oq (hA a (by rw [hk]; exact fun z9 => nomatch z9))) hl
  rw [hk] at h8
  cases h8
  unfold cellOf
  rw [if_pos hc, fs_wI_eq hrv]
  exact e1
theorem g_putZ (c k : Nat) {a n index : Nat} {v : Int32} (B : Amb D A0 ev own nm cc nL ret rm) (hk : mK X a = some (c, n)) (hc : c < 12) (hf : k < fN c) (hy : tyOf c k = .boolean) (hv : v = 0 ∨ v = 1) (hfin : (clT c k).2.2.2 = false) (lk : Cond.fieldLink own index (clT c k).1 (clT c k).2.1 (clT c k).2.2.1 ∈ gd) (d : decode cc pc = .ok (.putfield index, 3)) (k9 : Gd D A0 ev Q (wI X (100 * c + k) a v) cs sl (pc + 3) L st) : Gd D A0 ev Q X cs sl pc L (vI v :: vA (some a) :: st) := by
  obtain ⟨p, l, e9, R, s, m, args, below, meth, c9⟩ := ev
  intro H locs ls hR hA hS hl
  have hrv : fR c k = false := (by unfold fR; rw [hy])
  refine W_put B.1 B.2.1 B.2.2.2.1 B.2.2.2.2.1 hc hf fs_len (hR.objAt hk hc) (B.2.2.2.2.1.w lk) hfin (by rw [hy]; exact (nar_Z hv).1) (by rw [hy]; exact (nar_Z hv).2) d (fun H1 sl9 e1 z oq => ?_)
  refine k9 H1 _ ls (hR.moved (a := a) rfl rfl (fun b c8 n8 hb => cellOf_wI hb) (fun c8 n8 h8 => ?_) z oq) hA (hS.put z oq (hA a (by rw [hk]; exact fun z9 => nomatch z9))) hl
  rw [hk] at h8
  cases h8
  unfold cellOf
  rw [if_pos hc, fs_wI_eq hrv]
  exact e1
theorem g_putR (c k : Nat) {a n index : Nat} {v : Option Nat} (B : Amb D A0 ev own nm cc nL ret rm) (hk : mK X a = some (c, n)) (hc : c < 12) (hf : k < fN c) (hr : fR c k = true) (hfin : (clT c k).2.2.2 = false) (lk : Cond.fieldLink own index (clT c k).1 (clT c k).2.1 (clT c k).2.2.1 ∈ gd) (d : decode cc pc = .ok (.putfield index, 3)) (k9 : Gd D A0 ev Q (wR X (100 * c + k) a v) cs sl (pc + 3) L st) : Gd D A0 ev Q X cs sl pc L (vA v :: vA (some a) :: st) := by
  obtain ⟨p, l, e9, R, s, m, args, below, meth, c9⟩ := ev
  intro H locs ls hR hA hS hl
  have hrv : fR c k = true := hr
  refine W_put B.1 B.2.1 B.2.2.2.1 B.2.2.2.2.1 hc hf fs_len (hR.objAt hk hc) (B.2.2.2.2.1.w lk) hfin (nar_R hr).1 (nar_R hr).2 d (fun H1 sl9 e1 z oq => ?_)
  refine k9 H1 _ ls (hR.moved (a := a) rfl rfl (fun b c8 n8 hb => cellOf_wR hb) (fun c8 n8 h8 => ?_) z oq) hA (hS.put z oq (hA a (by rw [hk]; exact fun z9 => nomatch z9))) hl
  rw [hk] at h8
  cases h8
  unfold cellOf
  rw [if_pos hc, fs_wR_eq hrv]
  exact e1
theorem g_putIN (c k : Nat) {a n index : Nat} {v : Int32} {host : String} (B : Amb D A0 ev own nm cc nL ret rm) (hk : mK X a = some (c, n)) (hc : c < 12) (hf : k < fN c) (hy : tyOf c k = .int) (hfin : (clT c k).2.2.2 = false) (lk : Cond.fieldLinkNest own index (clT c k).1 (clT c k).2.1 (clT c k).2.2.1 host ∈ nestW) (d : decode cc pc = .ok (.putfield index, 3)) (k9 : Gd D A0 ev Q (wI X (100 * c + k) a v) cs sl (pc + 3) L st) : Gd D A0 ev Q X cs sl pc L (vI v :: vA (some a) :: st) := by
  obtain ⟨p, l, e9, R, s, m, args, below, meth, c9⟩ := ev
  intro H locs ls hR hA hS hl
  have hrv : fR c k = false := (by unfold fR; rw [hy])
  refine W_putN B.1 B.2.1 B.2.2.2.1 B.2.2.2.2.1 hc hf fs_len (hR.objAt hk hc) (va_Nw.use rfl (B.2.2.2.2.1.2.2.1 _ lk)) hfin (by rw [hy]; exact nar_I.1) (by rw [hy]; exact nar_I.2) d (fun H1 sl9 e1 z oq => ?_)
  refine k9 H1 _ ls (hR.moved (a := a) rfl rfl (fun b c8 n8 hb => cellOf_wI hb) (fun c8 n8 h8 => ?_) z oq) hA (hS.put z oq (hA a (by rw [hk]; exact fun z9 => nomatch z9))) hl
  rw [hk] at h8
  cases h8
  unfold cellOf
  rw [if_pos hc, fs_wI_eq hrv]
  exact e1
theorem g_putZN (c k : Nat) {a n index : Nat} {v : Int32} {host : String} (B : Amb D A0 ev own nm cc nL ret rm) (hk : mK X a = some (c, n)) (hc : c < 12) (hf : k < fN c) (hy : tyOf c k = .boolean) (hv : v = 0 ∨ v = 1) (hfin : (clT c k).2.2.2 = false) (lk : Cond.fieldLinkNest own index (clT c k).1 (clT c k).2.1 (clT c k).2.2.1 host ∈ nestW) (d : decode cc pc = .ok (.putfield index, 3)) (k9 : Gd D A0 ev Q (wI X (100 * c + k) a v) cs sl (pc + 3) L st) : Gd D A0 ev Q X cs sl pc L (vI v :: vA (some a) :: st) := by
  obtain ⟨p, l, e9, R, s, m, args, below, meth, c9⟩ := ev
  intro H locs ls hR hA hS hl
  have hrv : fR c k = false := (by unfold fR; rw [hy])
  refine W_putN B.1 B.2.1 B.2.2.2.1 B.2.2.2.2.1 hc hf fs_len (hR.objAt hk hc) (va_Nw.use rfl (B.2.2.2.2.1.2.2.1 _ lk)) hfin (by rw [hy]; exact (nar_Z hv).1) (by rw [hy]; exact (nar_Z hv).2) d (fun H1 sl9 e1 z oq => ?_)
  refine k9 H1 _ ls (hR.moved (a := a) rfl rfl (fun b c8 n8 hb => cellOf_wI hb) (fun c8 n8 h8 => ?_) z oq) hA (hS.put z oq (hA a (by rw [hk]; exact fun z9 => nomatch z9))) hl
  rw [hk] at h8
  cases h8
  unfold cellOf
  rw [if_pos hc, fs_wI_eq hrv]
  exact e1
theorem g_putRN (c k : Nat) {a n index : Nat} {v : Option Nat} {host : String} (B : Amb D A0 ev own nm cc nL ret rm) (hk : mK X a = some (c, n)) (hc : c < 12) (hf : k < fN c) (hr : fR c k = true) (hfin : (clT c k).2.2.2 = false) (lk : Cond.fieldLinkNest own index (clT c k).1 (clT c k).2.1 (clT c k).2.2.1 host ∈ nestW) (d : decode cc pc = .ok (.putfield index, 3)) (k9 : Gd D A0 ev Q (wR X (100 * c + k) a v) cs sl (pc + 3) L st) : Gd D A0 ev Q X cs sl pc L (vA v :: vA (some a) :: st) := by
  obtain ⟨p, l, e9, R, s, m, args, below, meth, c9⟩ := ev
  intro H locs ls hR hA hS hl
  have hrv : fR c k = true := hr
  refine W_putN B.1 B.2.1 B.2.2.2.1 B.2.2.2.2.1 hc hf fs_len (hR.objAt hk hc) (va_Nw.use rfl (B.2.2.2.2.1.2.2.1 _ lk)) hfin (nar_R hr).1 (nar_R hr).2 d (fun H1 sl9 e1 z oq => ?_)
  refine k9 H1 _ ls (hR.moved (a := a) rfl rfl (fun b c8 n8 hb => cellOf_wR hb) (fun c8 n8 h8 => ?_) z oq) hA (hS.put z oq (hA a (by rw [hk]; exact fun z9 => nomatch z9))) hl
  rw [hk] at h8
  cases h8
  unfold cellOf
  rw [if_pos hc, fs_wR_eq hrv]
  exact e1
theorem g_putIF (c k : Nat) {a n index : Nat} {v : Int32} (B : Amb D A0 ev own nm cc nL ret rm) (hk : mK X a = some (c, n)) (hc : c < 12) (hf : k < fN c) (hy : tyOf c k = .int) (hfin : (clT c k).2.2.2 = true) (hnm : nm = "<init>") (hdecl : (clT c k).1 = own) (lk : Cond.fieldLink own index (clT c k).1 (clT c k).2.1 (clT c k).2.2.1 ∈ gd) (d : decode cc pc = .ok (.putfield index, 3)) (k9 : Gd D A0 ev Q (wI X (100 * c + k) a v) cs sl (pc + 3) L st) : Gd D A0 ev Q X cs sl pc L (vI v :: vA (some a) :: st) := by
  obtain ⟨p, l, e9, R, s, m, args, below, meth, c9⟩ := ev
  intro H locs ls hR hA hS hl
  have hrv : fR c k = false := (by unfold fR; rw [hy])
  refine W_putF B.1 B.2.1 B.2.2.2.1 B.2.2.2.2.1 hc hf fs_len (hR.objAt hk hc) (B.2.2.2.2.1.w lk) hfin (B.2.2.2.2.2.2.2.2.2.2.2.trans hnm) hdecl (by rw [hy]; exact nar_I.1) (by rw [hy]; exact nar_I.2) d (fun H1 sl9 e1 z oq => ?_)
  refine k9 H1 _ ls (hR.moved (a := a) rfl rfl (fun b c8 n8 hb => cellOf_wI hb) (fun c8 n8 h8 => ?_) z oq) hA (hS.put z oq (hA a (by rw [hk]; exact fun z9 => nomatch z9))) hl
  rw [hk] at h8
  cases h8
  unfold cellOf
  rw [if_pos hc, fs_wI_eq hrv]
  exact e1
theorem g_putZF (c k : Nat) {a n index : Nat} {v : Int32} (B : Amb D A0 ev own nm cc nL ret rm) (hk : mK X a = some (c, n)) (hc : c < 12) (hf : k < fN c) (hy : tyOf c k = .boolean) (hv : v = 0 ∨ v = 1) (hfin : (clT c k).2.2.2 = true) (hnm : nm = "<init>") (hdecl : (clT c k).1 = own) (lk : Cond.fieldLink own index (clT c k).1 (clT c k).2.1 (clT c k).2.2.1 ∈ gd) (d : decode cc pc = .ok (.putfield index, 3)) (k9 : Gd D A0 ev Q (wI X (100 * c + k) a v) cs sl (pc + 3) L st) : Gd D A0 ev Q X cs sl pc L (vI v :: vA (some a) :: st) := by
  obtain ⟨p, l, e9, R, s, m, args, below, meth, c9⟩ := ev
  intro H locs ls hR hA hS hl
  have hrv : fR c k = false := (by unfold fR; rw [hy])
  refine W_putF B.1 B.2.1 B.2.2.2.1 B.2.2.2.2.1 hc hf fs_len (hR.objAt hk hc) (B.2.2.2.2.1.w lk) hfin (B.2.2.2.2.2.2.2.2.2.2.2.trans hnm) hdecl (by rw [hy]; exact (nar_Z hv).1) (by rw [hy]; exact (nar_Z hv).2) d (fun H1 sl9 e1 z oq => ?_)
  refine k9 H1 _ ls (hR.moved (a := a) rfl rfl (fun b c8 n8 hb => cellOf_wI hb) (fun c8 n8 h8 => ?_) z oq) hA (hS.put z oq (hA a (by rw [hk]; exact fun z9 => nomatch z9))) hl
  rw [hk] at h8
  cases h8
  unfold cellOf
  rw [if_pos hc, fs_wI_eq hrv]
  exact e1
theorem g_putRF (c k : Nat) {a n index : Nat} {v : Option Nat} (B : Amb D A0 ev own nm cc nL ret rm) (hk : mK X a = some (c, n)) (hc : c < 12) (hf : k < fN c) (hr : fR c k = true) (hfin : (clT c k).2.2.2 = true) (hnm : nm = "<init>") (hdecl : (clT c k).1 = own) (lk : Cond.fieldLink own index (clT c k).1 (clT c k).2.1 (clT c k).2.2.1 ∈ gd) (d : decode cc pc = .ok (.putfield index, 3)) (k9 : Gd D A0 ev Q (wR X (100 * c + k) a v) cs sl (pc + 3) L st) : Gd D A0 ev Q X cs sl pc L (vA v :: vA (some a) :: st) := by
  obtain ⟨p, l, e9, R, s, m, args, below, meth, c9⟩ := ev
  intro H locs ls hR hA hS hl
  have hrv : fR c k = true := hr
  refine W_putF B.1 B.2.1 B.2.2.2.1 B.2.2.2.2.1 hc hf fs_len (hR.objAt hk hc) (B.2.2.2.2.1.w lk) hfin (B.2.2.2.2.2.2.2.2.2.2.2.trans hnm) hdecl (nar_R hr).1 (nar_R hr).2 d (fun H1 sl9 e1 z oq => ?_)
  refine k9 H1 _ ls (hR.moved (a := a) rfl rfl (fun b c8 n8 hb => cellOf_wR hb) (fun c8 n8 h8 => ?_) z oq) hA (hS.put z oq (hA a (by rw [hk]; exact fun z9 => nomatch z9))) hl
  rw [hk] at h8
  cases h8
  unfold cellOf
  rw [if_pos hc, fs_wR_eq hrv]
  exact e1
theorem tyA {t : Nat} (ht : t < 7) : (tysOf D)[t]? = some (D.2.2 t, arT t) := tys_at ht
theorem g_iald {a n : Nat} {i : Int32} (B : Amb D A0 ev own nm cc nL ret rm) (hk : mK X a = some (20, n)) (hin : vp_in i n) (d : decode cc pc = .ok (.iaload, 1)) (k9 : Gd D A0 ev Q X cs sl (pc + 1) L (vI (aI X a i.toNatClampNeg) :: st)) : Gd D A0 ev Q X cs sl pc L (vI i :: vA (some a) :: st) := by
  obtain ⟨p, l, e9, R, s, m, args, below, meth, c9⟩ := ev
  intro H locs ls hR hA hS hl
  exact va_iald (D := (D.1, D.2.1)) (cl := vwCl) (ws := [(a, .inl (D.2.2 0, n, .inl (aI X a)))]) B.1 B.2.1 B.2.2.2.2.1.1 (P1 (hR.arrI (t := 0) hk (by decide))) 0 0 rfl (tys_at (by decide)) hin d (k9 H locs ls hR hA hS hl)
theorem g_zald {a n : Nat} {i : Int32} (B : Amb D A0 ev own nm cc nL ret rm) (hk : mK X a = some (21, n)) (hin : vp_in i n) (d : decode cc pc = .ok (.baload, 1)) (k9 : Gd D A0 ev Q X cs sl (pc + 1) L (vI (aI X a i.toNatClampNeg) :: st)) : Gd D A0 ev Q X cs sl pc L (vI i :: vA (some a) :: st) := by
  obtain ⟨p, l, e9, R, s, m, args, below, meth, c9⟩ := ev
  intro H locs ls hR hA hS hl
  exact va_zald (D := (D.1, D.2.1)) (cl := vwCl) (ws := [(a, .inl (D.2.2 1, n, .inl (aI X a)))]) B.1 B.2.1 B.2.2.2.2.1.1 (P1 (hR.arrI (t := 1) hk (by decide))) 0 1 rfl (tys_at (by decide)) hin d (k9 H locs ls hR hA hS hl)
theorem g_lald {a n : Nat} {i : Int32} (B : Amb D A0 ev own nm cc nL ret rm) (hk : mK X a = some (22, n)) (hin : vp_in i n) (d : decode cc pc = .ok (.laload, 1)) (k9 : Gd D A0 ev Q X cs sl (pc + 1) L (vJ (aJ X a i.toNatClampNeg) :: st)) : Gd D A0 ev Q X cs sl pc L (vI i :: vA (some a) :: st) := by
  obtain ⟨p, l, e9, R, s, m, args, below, meth, c9⟩ := ev
  intro H locs ls hR hA hS hl
  exact va_lald (D := (D.1, D.2.1)) (cl := vwCl) (ws := [(a, .inl (D.2.2 2, n, .inr (.inl (aJ X a))))]) B.1 B.2.1 B.2.2.2.2.1.1 (P1 (hR.arrJ hk)) 0 2 rfl (tys_at (by decide)) hin d (k9 H locs ls hR hA hS hl)
theorem g_aald {a t n : Nat} {i : Int32} (B : Amb D A0 ev own nm cc nL ret rm) (hk : mK X a = some (20 + t, n)) (h3 : 3 ≤ t) (h7 : t < 7) (hin : vp_in i n) (d : decode cc pc = .ok (.aaload, 1)) (k9 : Gd D A0 ev Q X cs sl (pc + 1) L (vA (aR X a i.toNatClampNeg) :: st)) : Gd D A0 ev Q X cs sl pc L (vI i :: vA (some a) :: st) := by
  obtain ⟨p, l, e9, R, s, m, args, below, meth, c9⟩ := ev
  intro H locs ls hR hA hS hl
  obtain ⟨C, hC, -⟩ := B.2.2.2.2.1.2.2.2.2.2.2 t h3 h7
  exact va_aldq (C := C) (D := (D.1, D.2.1)) (cl := vwCl) (ws := [(a, .inl (D.2.2 t, n, .inr (.inr (.inr (.inr (aR X a))))))]) B.1 B.2.1 B.2.2.2.2.1.1 (P1 (hR.arrR hk h3)) 0 t rfl (by rw [tys_at h7, hC]) hin d (k9 H locs ls hR hA hS hl)
theorem g_alen {a t n : Nat} (B : Amb D A0 ev own nm cc nL ret rm) (hk : mK X a = some (20 + t, n)) (h7 : t < 7) (d : decode cc pc = .ok (.arraylength, 1)) (k9 : Gd D A0 ev Q X cs sl (pc + 1) L (vI (nI n) :: st)) : Gd D A0 ev Q X cs sl pc L (vA (some a) :: st) := by
  obtain ⟨p, l, e9, R, s, m, args, below, meth, c9⟩ := ev
  intro H locs ls hR hA hS hl
  have h9 := k9 H locs ls hR hA hS hl
  by_cases h2 : t < 2
  · exact va_alen (D := (D.1, D.2.1)) (cl := vwCl) (ws := [(a, .inl (D.2.2 t, n, .inl (aI X a)))]) B.1 B.2.1 B.2.2.2.2.1.1 (P1 (hR.arrI hk h2)) 0 t rfl (tys_at h7) rfl d h9
  · by_cases h3 : t = 2
    · subst h3
      exact va_alen (D := (D.1, D.2.1)) (cl := vwCl) (ws := [(a, .inl (D.2.2 2, n, .inr (.inl (aJ X a))))]) B.1 B.2.1 B.2.2.2.2.1.1 (P1 (hR.arrJ hk)) 0 2 rfl (tys_at h7) rfl d h9
    · exact va_alen (D := (D.1, D.2.1)) (cl := vwCl) (ws := [(a, .inl (D.2.2 t, n, .inr (.inr (.inr (.inr (aR X a))))))]) B.1 B.2.1 B.2.2.2.2.1.1 (P1 (hR.arrR hk (by omega))) 0 t rfl (tys_at h7) rfl d h9
theorem cellOf_sI {X : Mem} {f a b c n : Nat} {v : Int32} (h : b ≠ a) : cellOf D (sI X a f v) b c n = cellOf D X b c n := by
  have e : aI (sI X a f v) b = aI X b := funext fun i => by show up2 _ _ _ _ _ _ = _; exact up2_nk h
  unfold cellOf
  rw [e]
  rfl
theorem cellOf_sJ {X : Mem} {f a b c n : Nat} {v : Int64} (h : b ≠ a) : cellOf D (sJ X a f v) b c n = cellOf D X b c n := by
  have e : aJ (sJ X a f v) b = aJ X b := funext fun i => by show up2 _ _ _ _ _ _ = _; exact up2_nk h
  unfold cellOf
  rw [e]
  rfl
theorem cellOf_sR {X : Mem} {f a b c n : Nat} {v : Option Nat} (h : b ≠ a) : cellOf D (sR X a f v) b c n = cellOf D X b c n := by
  have e : aR (sR X a f v) b = aR X b := funext fun i => by show up2 _ _ _ _ _ _ = _; exact up2_nk h
  unfold cellOf
  rw [e]
  rfl
theorem va_inl {D : va_G} {a : Nat} {cA : ClassId} {x : vp_A} {H : Heap} (h : H[a]? = some (vp_cell cA x)) : va_at D vwCl (a, .inl (cA, x)) H := h
theorem g_iast {a n : Nat} {i : Int32} {x : Int32} (B : Amb D A0 ev own nm cc nL ret rm) (hk : mK X a = some (20, n)) (hin : vp_in i n) (d : decode cc pc = .ok (.iastore, 1)) (k9 : Gd D A0 ev Q (sI X a i.toNatClampNeg x) cs sl (pc + 1) L st) : Gd D A0 ev Q X cs sl pc L (vI x :: vI i :: vA (some a) :: st) := by
  obtain ⟨p, l, e9, R, s, m, args, below, meth, c9⟩ := ev
  intro H locs ls hR hA hS hl
  refine W.iast B.1 B.2.1 (hR.arrI (t := 0) hk (by decide)) ((B.2.2.2.2.1.ty 0 (by decide)).1 n (fun j => .int (aI X a j))) (fun q => by cases q) (by show ¬ (i < 0 ∨ (arrV _ _ _).slots.size ≤ _); rw [arrV_size]; exact hin) rfl rfl d fun H1 e z oq => ?_
  refine k9 H1 _ ls (hR.moved (a := a) rfl rfl (fun b c8 n8 hb => cellOf_sI hb) (fun c8 n8 h8 => ?_) z oq) hA (hS.put z oq (hA a (by rw [hk]; exact fun z9 => nomatch z9))) hl
  rw [hk] at h8
  cases h8
  refine va_inl ?_
  show H1[a]? = some (vp_cell (D.2.2 0) (n, .inl (aI (sI X a i.toNatClampNeg x) a)))
  rw [e, vp_cell_i, vp_cell_i, arrV_store]
  congr 2
  funext q
  by_cases hq : q = i.toNatClampNeg
  · subst hq
    simp [updV, sI, aI, up2]
  · simp [updV, sI, aI, up2, hq]
theorem g_zast {a n : Nat} {i : Int32} {x : Int32} (B : Amb D A0 ev own nm cc nL ret rm) (hk : mK X a = some (21, n)) (hin : vp_in i n) (hx : x = 0 ∨ x = 1) (d : decode cc pc = .ok (.bastore, 1)) (k9 : Gd D A0 ev Q (sI X a i.toNatClampNeg x) cs sl (pc + 1) L st) : Gd D A0 ev Q X cs sl pc L (vI x :: vI i :: vA (some a) :: st) := by
  obtain ⟨p, l, e9, R, s, m, args, below, meth, c9⟩ := ev
  intro H locs ls hR hA hS hl
  refine W.zast B.1 B.2.1 (hR.arrI (t := 1) hk (by decide)) ((B.2.2.2.2.1.ty 1 (by decide)).1 n (fun j => .int (aI X a j))) (fun q => by cases q) (by show ¬ (i < 0 ∨ (arrV _ _ _).slots.size ≤ _); rw [arrV_size]; exact hin) rfl rfl d fun H1 e z oq => ?_
  refine k9 H1 _ ls (hR.moved (a := a) rfl rfl (fun b c8 n8 hb => cellOf_sI hb) (fun c8 n8 h8 => ?_) z oq) hA (hS.put z oq (hA a (by rw [hk]; exact fun z9 => nomatch z9))) hl
  rw [hk] at h8
  cases h8
  refine va_inl ?_
  show H1[a]? = some (vp_cell (D.2.2 1) (n, .inl (aI (sI X a i.toNatClampNeg x) a)))
  rw [e, vp_cell_i, vp_cell_i, arrV_store]
  congr 2
  funext q
  by_cases hq : q = i.toNatClampNeg
  · subst hq
    have h7 := (nar_Z hx).1
    simp [updV, sI, aI, up2, h7]
  · simp [updV, sI, aI, up2, hq]
theorem g_last {a n : Nat} {i : Int32} {x : Int64} (B : Amb D A0 ev own nm cc nL ret rm) (hk : mK X a = some (22, n)) (hin : vp_in i n) (d : decode cc pc = .ok (.lastore, 1)) (k9 : Gd D A0 ev Q (sJ X a i.toNatClampNeg x) cs sl (pc + 1) L st) : Gd D A0 ev Q X cs sl pc L (vJ x :: vI i :: vA (some a) :: st) := by
  obtain ⟨p, l, e9, R, s, m, args, below, meth, c9⟩ := ev
  intro H locs ls hR hA hS hl
  refine W.last B.1 B.2.1 (hR.arrJ hk) ((B.2.2.2.2.1.ty 2 (by decide)).1 n (fun j => .long (aJ X a j))) (fun q => by cases q) (by show ¬ (i < 0 ∨ (arrV _ _ _).slots.size ≤ _); rw [arrV_size]; exact hin) rfl rfl d fun H1 e z oq => ?_
  refine k9 H1 _ ls (hR.moved (a := a) rfl rfl (fun b c8 n8 hb => cellOf_sJ hb) (fun c8 n8 h8 => ?_) z oq) hA (hS.put z oq (hA a (by rw [hk]; exact fun z9 => nomatch z9))) hl
  rw [hk] at h8
  cases h8
  refine va_inl ?_
  show H1[a]? = some (vp_cell (D.2.2 2) (n, .inr (.inl (aJ (sJ X a i.toNatClampNeg x) a))))
  rw [e, vp_cell_l, vp_cell_l, arrV_store]
  congr 2
  funext q
  by_cases hq : q = i.toNatClampNeg
  · subst hq
    simp [updV, sJ, aJ, up2]
  · simp [updV, sJ, aJ, up2, hq]
theorem g_aast {a t n c b m9 : Nat} {i : Int32} (B : Amb D A0 ev own nm cc nL ret rm) (hk : mK X a = some (20 + t, n)) (h3 : 3 ≤ t) (h7 : t < 7) (hv : mK X b = some (c, m9)) (hc : c < 12) (hty : arT t = .object (clC c)) (hin : vp_in i n) (d : decode cc pc = .ok (.aastore, 1)) (k9 : Gd D A0 ev Q (sR X a i.toNatClampNeg (some b)) cs sl (pc + 1) L st) : Gd D A0 ev Q X cs sl pc L (vA (some b) :: vI i :: vA (some a) :: st) := by
  obtain ⟨p, l, e9, R, s, m, args, below, meth, c9⟩ := ev
  intro H locs ls hR hA hS hl
  have hlt : i.toNatClampNeg < n := Nat.not_le.mp fun q => hin (Or.inr q)
  have h0 : ¬ i < 0 := fun q => hin (Or.inl q)
  obtain ⟨o1, o2, o3, o4, o5⟩ := clsOK c hc
  obtain ⟨r', hr', cellV, g1, g2, g3, -⟩ := hR.objAt hv hc
  have hcls := (B.2.2.2.2.1.1.1 c _ o1).2
  have hra := (B.2.2.2.2.1.ty t h7).2
  rw [hty] at hra
  obtain ⟨kA, comp, k1, k2, k3, -⟩ := hra
  have hcomp : comp = D.1 c := Option.some.inj (k3.symm.trans hcls.1)
  subst hcomp
  obtain ⟨kC, hkC, -⟩ := hcls.2
  refine W.aast B.1 B.2.1 (hR.arrR hk h3) (fun q h => by cases h) (fun h => by cases h) k1 k2 rfl hkC ⟨h0, by show _ < (arrV _ _ _).slots.size; rw [arrV_size]; exact hlt⟩ g1 (fun q h => by rw [g3] at h; cases h) (by rw [g2]; exact hkC) (by rw [g2]; exact va_assign hcls) rfl rfl d fun H1 e z oq => ?_
  refine k9 H1 _ ls (hR.moved (a := a) rfl rfl (fun b c8 n8 hb => cellOf_sR hb) (fun c8 n8 h8 => ?_) z oq) hA (hS.put z oq (hA a (by rw [hk]; exact fun z9 => nomatch z9))) hl
  rw [hk] at h8
  cases h8
  unfold cellOf
  rw [if_neg (by omega), if_neg (by omega), if_neg (by omega), show 20 + t - 20 = t by omega]
  refine va_inl ?_
  rw [e, vp_cell_q, vp_cell_q, arrV_store]
  congr 2
  funext q
  by_cases hq : q = i.toNatClampNeg
  · subst hq
    simp [updV, sR, aR, up2, va_rf]
  · simp [updV, sR, aR, up2, hq]
/-- behind a push at the next address -/
theorem RepM.push {D : DD} {X X' : Mem} {H H1 : Heap} (h : RepM D X H) {c n : Nat} (hcn : c < 12 ∨ (20 ≤ c ∧ c < 27)) (hk : mK X' = fun b => if b = mZ X then some (c, n) else mK X b) (hz : mZ X' = mZ X + 1) (hne : ∀ b c n, b ≠ mZ X → cellOf D X' b c n = cellOf D X b c n) (hat : va_at (D.1, D.2.1) vwCl (mZ X, cellOf D X' (mZ X) c n) H1) (z : H1.size = H.size + 1) (oq : ∀ q, q < H.size → H1[q]? = H[q]?) : RepM D X' H1 := by
  refine ⟨fun b c8 n8 hb => ?_, by rw [hz, z, h.2]⟩
  rw [hk] at hb
  by_cases e : b = mZ X
  · simp only [if_pos e] at hb
    cases hb
    rw [e]
    exact ⟨hcn, hat⟩
  · simp only [if_neg e] at hb
    refine ⟨(h.1 b c8 n8 hb).1, ?_⟩
    rw [hne b c8 n8 e]
    have h8 := (h.1 b c8 n8 hb).2
    exact h8.kept (oq b h8.lt)
theorem cellOf_nO {X : Mem} {b c c0 n : Nat} (h : b ≠ mZ X) : cellOf D (nO X c0) b c n = cellOf D X b c n := by
  have e : fsOf (nO X c0) c b = fsOf X c b := by
    unfold fsOf
    refine List.map_congr_left fun k _ => ?_
    simp [nO, mI, mR, h]
  unfold cellOf
  rw [e]
  rfl
theorem cellOf_nA {X : Mem} {b c t m n : Nat} (h : b ≠ mZ X) : cellOf D (nA X t m) b c n = cellOf D X b c n := by
  have e1 : aI (nA X t m) b = aI X b := funext fun i => by show (if b = mZ X then (0 : Int32) else aI X b i) = _; rw [if_neg h]
  have e2 : aJ (nA X t m) b = aJ X b := funext fun i => by show (if b = mZ X then (0 : Int64) else aJ X b i) = _; rw [if_neg h]
  have e3 : aR (nA X t m) b = aR X b := funext fun i => by show (if b = mZ X then none else aR X b i) = _; rw [if_neg h]
  unfold cellOf
  rw [e1, e2, e3]
  rfl
theorem A_new {A : Nat → Prop} {H0 H H1 : Heap} {locs : List Loc} (h : va_S A H0 H locs) (z : H1.size = H.size + 1) (oq : ∀ q : Nat, q < H.size → H1[q]? = H[q]?) : va_S A H0 H1 locs := ⟨Nat.le_trans h.1 (by omega), fun x h1 h2 => (oq x (Nat.lt_of_lt_of_le h1 h.1)).trans (h.2.1 x h1 h2), h.2.2⟩
theorem dom_new {X X' : Mem} {A : Nat → Prop} {H0 H : Heap} {locs : List Loc} {y : Nat × Nat} (hz : mZ X = H.size) (hS : va_S A H0 H locs) (hA0 : ∀ q : Nat, H0.size ≤ q → A q) (hk : mK X' = fun b => if b = mZ X then some y else mK X b) (hA : ∀ a, mK X a ≠ none → A a) : ∀ a, mK X' a ≠ none → A a := by
  intro a ha
  rw [hk] at ha
  by_cases e : a = mZ X
  · exact hA0 a (by rw [e, hz]; exact hS.1)
  · simp only [if_neg e] at ha
    exact hA a ha
theorem g_new (c : Nat) {index : Nat} (B : Amb D A0 ev own nm cc nL ret rm) (hc : c < 12) (lk : Cond.classLink own index (clC c) ∈ gd) (li : Cond.instantiable (clC c) (fN c) ∈ gd) (lz : Cond.initialized (clC c) ∈ gd) (hcs : cs + 1 ≤ rm.cells) (hsl : sl + fN c ≤ rm.slots) (d : decode cc pc = .ok (.new index, 3)) (k9 : Gd D A0 ev Q (nO X c) (cs + 1) (sl + fN c) (pc + 3) L (vA (some (mZ X)) :: st)) : Gd D A0 ev Q X cs sl pc L st := by
  obtain ⟨p, l, e9, R, s, m, args, below, meth, c9⟩ := ev
  intro H locs ls hR hA hS hl
  obtain ⟨o1, o2, o3, o4, o5⟩ := clsOK c hc
  have hKn := B.2.2.2.2.1.1.1 c _ o1
  refine W.newcK B.1 B.2.1 B.2.2.2.1 (B.2.2.2.2.1.w lk) (B.2.2.2.2.1.w li) (B.2.2.2.2.1.w lz) rfl d (by rw [B.2.2.2.2.2.2.2.1]; exact hcs) (by rw [B.2.2.2.2.2.2.2.1]; exact hsl) hKn.2.1 rfl fun H1 kC hkC e1 z1 o1' => ?_
  have hz := hR.2
  rw [← hz]
  refine k9 H1 locs ls (hR.push (c := c) (n := 0) (Or.inl hc) rfl rfl (fun b c8 n8 hb => cellOf_nO hb) ?_ z1 o1') (dom_new hz hS B.2.2.2.2.2.2.2.2.1 rfl hA) (A_new hS z1 o1') hl
  unfold cellOf
  rw [if_pos hc, hz]
  refine ⟨_, o1, (u_born (tyOf c) (fun w hw => B.2.2.2.2.1.w (a := args) hw) o2 hKn hkC e1 o4).to fun j hj => ?_⟩
  have h8 : vp_V (fsOf (nO X c) c H.size) j = (if fR c j then va_rf (mR (nO X c) (100 * c + j) H.size) else .int (mI (nO X c) (100 * c + j) H.size)) := by
    unfold vp_V
    rw [List.getD_eq_getElem?_getD, fs_at hj]
    rfl
  rw [h8]
  have e2 : mR (nO X c) (100 * c + j) H.size = none := by simp [nO, mR, hz]
  have e3 : mI (nO X c) (100 * c + j) H.size = 0 := by simp [nO, mI, hz]
  rw [e2, e3]
  have h10 := tyOf_ok c hc j hj
  unfold fR
  rcases h10 with h | h | ⟨t, h⟩ | ⟨t, h⟩ <;> rw [h] <;> rfl
theorem g_newa {atype : ArrayType} {t N : Nat} {n : Int32} (B : Amb D A0 ev own nm cc nL ret rm) (h3 : t < 3) (hty : newarray.typeOf atype = arT t) (la : Cond.arrayClass (newarray.typeOf atype) ∈ gd) (hn : ¬ n < 0) (hN : n.toNatClampNeg = N) (hby : N * 8 ≤ 536870912) (hcs : cs + 1 ≤ rm.cells) (hsl : sl + N ≤ rm.slots) (d : decode cc pc = .ok (.newarray atype, 2)) (k9 : Gd D A0 ev Q (nA X t N) (cs + 1) (sl + N) (pc + 2) L (vA (some (mZ X)) :: st)) : Gd D A0 ev Q X cs sl pc L (vI n :: st) := by
  obtain ⟨p, l, e9, R, s, m, args, below, meth, c9⟩ := ev
  intro H locs ls hR hA hS hl
  have hz := hR.2
  have hcb : componentBytes (newarray.typeOf atype) ≤ 8 := by rw [hty]; match t, h3 with
    | 0, _ => decide
    | 1, _ => decide
    | 2, _ => decide
  refine va_newaK B.1 B.2.1 (B.2.2.2.2.1.w la) rfl d rfl hn hN (Nat.le_trans (Nat.mul_le_mul_left N hcb) hby) (by rw [B.2.2.2.2.2.2.2.1]; exact hcs) (by rw [B.2.2.2.2.2.2.2.1]; exact hsl) hz.symm fun H1 cA e1 z1 o1 hAr hNm => ?_
  have hra := (B.2.2.2.2.1.ty t (by omega)).2
  rw [hty] at e1 hAr hNm
  have hcA : cA = D.2.2 t := by
    refine Option.some.inj (hNm.symm.trans ?_)
    match t, h3, hra with
    | 0, _, hra => exact hra
    | 1, _, hra => exact hra
    | 2, _, hra => exact hra
  subst hcA
  rw [hz] at o1 z1 e1
  refine k9 H1 locs ls (hR.push (c := 20 + t) (n := N) (Or.inr ⟨by omega, by omega⟩) rfl rfl (fun b c8 n8 hb => cellOf_nA hb) ?_ z1 o1) (dom_new hz hS B.2.2.2.2.2.2.2.2.1 rfl hA) (A_new hS z1 o1) hl
  rw [hz]
  have f1 : aI (nA X t N) H.size = fun _ => 0 := funext fun i => by show (if H.size = mZ X then (0 : Int32) else aI X H.size i) = _; rw [if_pos hz.symm]
  have f2 : aJ (nA X t N) H.size = fun _ => 0 := funext fun i => by show (if H.size = mZ X then (0 : Int64) else aJ X H.size i) = _; rw [if_pos hz.symm]
  unfold cellOf
  rw [f1, f2]
  match t, h3, e1 with
  | 0, _, e1 => exact e1
  | 1, _, e1 => exact e1
  | 2, _, e1 => exact e1
theorem g_anew {index t N : Nat} {n : Int32} {C : String} (B : Amb D A0 ev own nm cc nL ret rm) (h3 : 3 ≤ t) (h7 : t < 7) (hty : arT t = .object C) (lk : Cond.classLink own index C ∈ gd) (hn : ¬ n < 0) (hN : n.toNatClampNeg = N) (hby : N * 4 ≤ 536870912) (hcs : cs + 1 ≤ rm.cells) (hsl : sl + N ≤ rm.slots) (d : decode cc pc = .ok (.anewarray index, 3)) (k9 : Gd D A0 ev Q (nA X t N) (cs + 1) (sl + N) (pc + 3) L (vA (some (mZ X)) :: st)) : Gd D A0 ev Q X cs sl pc L (vI n :: st) := by
  obtain ⟨p, l, e9, R, s, m, args, below, meth, c9⟩ := ev
  intro H locs ls hR hA hS hl
  have hz := hR.2
  obtain ⟨C', hC, hAO⟩ := B.2.2.2.2.1.2.2.2.2.2.2 t h3 h7
  have hCC : C' = C := by rw [hty] at hC; cases hC; rfl
  subst hCC
  have hra := (B.2.2.2.2.1.ty t h7).2
  rw [hty] at hra
  obtain ⟨kA', comp', q1, q2, q3, q4⟩ := hra
  subst hN
  refine W.anew B.1 B.2.1 B.2.2.2.1 (B.2.2.2.2.1.w lk) (va_AO.use hAO) rfl d rfl hn hby (by rw [B.2.2.2.2.2.2.2.1]; exact hcs) (by rw [B.2.2.2.2.2.2.2.1]; exact hsl) fun cA kA comp f1 f2 f3 f4 => ?_
  have hcA : cA = D.2.2 t := Option.some.inj (f1.symm.trans q4)
  subst hcA
  generalize hH1 : H.push ({ cls := D.2.2 t, slots := Array.replicate n.toNatClampNeg .null, vm := .none } : Cell) = H1
  have z1 : H1.size = H.size + 1 := by rw [← hH1, Array.size_push]
  have e1 : H1[H.size]? = some (arrV (D.2.2 t) n.toNatClampNeg (fun _ => .null)) := by rw [← hH1, Array.getElem?_push_size, ← arrV_new]
  have o1 : ∀ q : Nat, q < H.size → H1[q]? = H[q]? := fun q hq => by rw [← hH1, Array.getElem?_push, if_neg (Nat.ne_of_lt hq)]
  have k8 := k9 H1 locs ls (hR.push (c := 20 + t) (n := n.toNatClampNeg) (Or.inr ⟨by omega, by omega⟩) rfl rfl (fun b c8 n8 hb => cellOf_nA hb) (by
    have f3 : aR (nA X t n.toNatClampNeg) H.size = fun _ => none := funext fun i => by show (if H.size = mZ X then none else aR X H.size i) = _; rw [if_pos hz.symm]
    unfold cellOf
    rw [hz, f3, if_neg (by omega), if_neg (by omega), if_neg (by omega), show 20 + t - 20 = t by omega]
    exact e1) z1 o1) (dom_new hz hS B.2.2.2.2.2.2.2.2.1 rfl hA) (A_new hS z1 o1) hl
  rw [hz] at k8
  exact k8
theorem g_objInit {index : Nat} {r : Nat} (B : Amb D A0 ev own nm cc nL ret rm) (lk : Cond.methodLink own index Lib.objectInit ∈ gd) (li : Cond.instanceMethod Lib.objectInit ∈ gd) (lc : Cond.code Lib.objectInit ⟨#[0xb1]⟩ 1 none ∈ gd) (hw : tW st + 12 ≤ rm.locals) (hfr : 1 ≤ rm.frames) (d : decode cc pc = .ok (.invokespecial index, 3)) (k9 : Gd D A0 ev Q X cs sl (pc + 3) L st) : Gd D A0 ev Q X cs sl pc L (vA (some r) :: st) := by
  obtain ⟨p, l, e9, R, s, m, args, below, meth, c9⟩ := ev
  intro H locs ls hR hA hS hl
  refine W.objInit B.1 B.2.1 B.2.2.2.1 (B.2.2.2.2.1.w lk) (B.2.2.2.2.1.w li) (B.2.2.2.2.1.w lc) rfl hl.1 rfl d (by rw [B.2.2.2.2.2.2.2.1]; exact hfr) ?_ ?_
  · rw [B.2.2.2.2.2.2.2.1]
    show 2 * 0 + ((tS st).map fun v => v.category).sum + 12 ≤ _
    rw [tW_sum]
    omega
  · exact k9 H locs ls hR hA hS hl
theorem n_new {X' : Mem} {q : Nat} (c : Nat) {index : Nat} (B : Amb D A0 ev own nm cc nL ret rm) (eX : some (nO X c) = some X') (eq : some (mZ X) = some q) (hc : c < 12) (lk : Cond.classLink own index (clC c) ∈ gd) (li : Cond.instantiable (clC c) (fN c) ∈ gd) (lz : Cond.initialized (clC c) ∈ gd) (hcs : cs + 1 ≤ rm.cells) (hsl : sl + fN c ≤ rm.slots) (d : decode cc pc = .ok (.new index, 3)) (k9 : Gd D A0 ev Q X' (cs + 1) (sl + fN c) (pc + 3) L (vA (some q) :: st)) : Gd D A0 ev Q X cs sl pc L st := by
  cases eX; cases eq
  exact g_new c B hc lk li lz hcs hsl d k9
theorem n_newa {X' : Mem} {q : Nat} {atype : ArrayType} {t N : Nat} {n : Int32} (B : Amb D A0 ev own nm cc nL ret rm) (eX : some (nA X t N) = some X') (eq : some (mZ X) = some q) (h3 : t < 3) (hty : newarray.typeOf atype = arT t) (la : Cond.arrayClass (newarray.typeOf atype) ∈ gd) (hn : ¬ n < 0) (hN : n.toNatClampNeg = N) (hby : N * 8 ≤ 536870912) (hcs : cs + 1 ≤ rm.cells) (hsl : sl + N ≤ rm.slots) (d : decode cc pc = .ok (.newarray atype, 2)) (k9 : Gd D A0 ev Q X' (cs + 1) (sl + N) (pc + 2) L (vA (some q) :: st)) : Gd D A0 ev Q X cs sl pc L (vI n :: st) := by
  cases eX; cases eq
  exact g_newa B h3 hty la hn hN hby hcs hsl d k9
theorem n_anew {X' : Mem} {q : Nat} {index t N : Nat} {n : Int32} {C : String} (B : Amb D A0 ev own nm cc nL ret rm) (eX : some (nA X t N) = some X') (eq : some (mZ X) = some q) (h3 : 3 ≤ t) (h7 : t < 7) (hty : arT t = .object C) (lk : Cond.classLink own index C ∈ gd) (hn : ¬ n < 0) (hN : n.toNatClampNeg = N) (hby : N * 4 ≤ 536870912) (hcs : cs + 1 ≤ rm.cells) (hsl : sl + N ≤ rm.slots) (d : decode cc pc = .ok (.anewarray index, 3)) (k9 : Gd D A0 ev Q X' (cs + 1) (sl + N) (pc + 3) L (vA (some q) :: st)) : Gd D A0 ev Q X cs sl pc L (vI n :: st) := by
  cases eX; cases eq
  exact g_anew B h3 h7 hty lk hn hN hby hcs hsl d k9
end GH
