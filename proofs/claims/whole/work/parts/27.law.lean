def semR (Rel : Nat → Mem → SM → Prop) (ks : List String) (x : Nat) (X : Mem) (S' : SM) (r : String ⊕ (Int64 × Mem)) (w : Int64) : Prop := match r with
  | .inl E => E ∈ ks ∧ (∀ k, ks[k]? = some E → sc S' 0 = nI (k + 1)) ∧ Rel x X S'
  | .inr (w', X1) => sc S' 0 = 0 ∧ w' = w ∧ Rel x X1 S' ∧ Keeps9 X X1
theorem semR_ok {Rel : Nat → Mem → SM → Prop} {ks : List String} {x : Nat} {X X1 : Mem} {S' : SM} {w w' : Int64} (h : semR Rel ks x X S' (.inr (w', X1)) w) : sc S' 0 = 0 ∧ w' = w ∧ Rel x X1 S' ∧ Keeps9 X X1 := h
theorem semR_ex {Rel : Nat → Mem → SM → Prop} {ks : List String} {x : Nat} {X : Mem} {S' : SM} {w : Int64} {E : String} (h : semR Rel ks x X S' (.inl E) w) : E ∈ ks ∧ (∀ k, ks[k]? = some E → sc S' 0 = nI (k + 1)) ∧ Rel x X S' := h
def FreshM (X : Mem) : Prop := ∀ a, mK X a ≠ none → a < mZ X
theorem LM_fresh {X : Mem} {oa m : Nat} {g : Nat → Int64} {S : SM} (hLD : LD X oa m) (h : ∀ a, mK (LM X oa g m S) a ≠ none → a < mZ (LM X oa g m S)) : FreshM X ∧ oa < mZ X ∧ m + 31 < mZ X := by
  refine ⟨fun a ha => h a (uM_dom.mpr (Or.inl (uM_dom.mpr (Or.inl ha)))), h oa (by rw [LM_out0 hLD]; exact fun z => nomatch z), h (m + 31) ?_⟩
  refine uM_dom.mpr (Or.inr ?_)
  show (if m + 31 = m then _ else if m < m + 31 ∧ m + 31 ≤ m + 31 then some (akind (m + 31 - m - 1)) else none) ≠ none
  rw [if_neg (by omega), if_pos ⟨by omega, by omega⟩]
  exact fun z => nomatch z
def sem_forward (Rel : Nat → Mem → SM → Prop) (fu : Nat) : Prop := ∀ (x : Nat) (X : Mem) (S : SM) (q0 : Int32) (q1 : Int32), (q1 = 0 ∨ q1 = 1) → Rel x X S → FreshM X → ∃ r bv S', fX11_forward X x q0 q1 = some r ∧ fX12_forward S q0 q1 = some (bv, S') ∧ semR Rel ["java/lang/IndexOutOfBoundsException", "java/lang/IllegalArgumentException", "java/lang/IllegalStateException"] x X S' (wrL_forward r) bv.toInt64
def sem_turn (Rel : Nat → Mem → SM → Prop) (fu : Nat) : Prop := ∀ (x : Nat) (X : Mem) (S : SM) (q0 : Int32) (q1 : Int32), (q1 = 0 ∨ q1 = 1) → Rel x X S → FreshM X → ∃ r bv S', fX11_turn X x q0 q1 = some r ∧ fX12_turn S q0 q1 = some (bv, S') ∧ semR Rel ["java/lang/IndexOutOfBoundsException", "java/lang/IllegalArgumentException", "java/lang/IllegalStateException"] x X S' (wrL_turn r) bv.toInt64
def sem_pen (Rel : Nat → Mem → SM → Prop) (fu : Nat) : Prop := ∀ (x : Nat) (X : Mem) (S : SM) (q0 : Int32), (q0 = 0 ∨ q0 = 1) → Rel x X S → FreshM X → ∃ r bv S', fX11_pen X x q0 = some r ∧ fX12_pen S q0 = some (bv, S') ∧ semR Rel ["java/lang/IllegalStateException"] x X S' (wrL_pen r) bv.toInt64
def sem_set (Rel : Nat → Mem → SM → Prop) (fu : Nat) : Prop := ∀ (x : Nat) (X : Mem) (S : SM) (q0 : Int32) (q1 : Int32) (q2 : Int32), (q2 = 0 ∨ q2 = 1) → Rel x X S → FreshM X → ∃ r bv S', fX11_set X x q0 q1 q2 = some r ∧ fX12_set S q0 q1 q2 = some (bv, S') ∧ semR Rel ["java/lang/IndexOutOfBoundsException", "java/lang/IllegalArgumentException", "java/lang/IllegalStateException"] x X S' (wrL_set r) bv.toInt64
def sem_add (Rel : Nat → Mem → SM → Prop) (fu : Nat) : Prop := ∀ (x : Nat) (X : Mem) (S : SM) (q0 : Int32) (q1 : Int32) (q2 : Int32), (q2 = 0 ∨ q2 = 1) → Rel x X S → FreshM X → ∃ r bv S', fX11_add X x q0 q1 q2 = some r ∧ fX12_add S q0 q1 q2 = some (bv, S') ∧ semR Rel ["java/lang/IndexOutOfBoundsException", "java/lang/IllegalArgumentException", "java/lang/IllegalStateException"] x X S' (wrL_add r) bv.toInt64
def sem_repeat (Rel : Nat → Mem → SM → Prop) (fu : Nat) : Prop := ∀ (x : Nat) (X : Mem) (S : SM) (q0 : Int32) (q1 : Int32), (q1 = 0 ∨ q1 = 1) → Rel x X S → FreshM X → ∃ r bv S', fX11_repeat X x q0 q1 = some r ∧ fX12_repeat S q0 q1 = some (bv, S') ∧ semR Rel ["java/lang/IndexOutOfBoundsException", "java/lang/IllegalArgumentException", "java/lang/IllegalStateException"] x X S' (wrL_repeat r) bv.toInt64
def sem_word (Rel : Nat → Mem → SM → Prop) (fu : Nat) : Prop := ∀ (x : Nat) (X : Mem) (S : SM) (q0 : Int32), Rel x X S → FreshM X → ∃ r bv S', fX11_word X x q0 = some r ∧ fX12_word S q0 = some (bv, S') ∧ semR Rel ["java/lang/IndexOutOfBoundsException", "java/lang/IllegalStateException"] x X S' (wrL_word r) bv.toInt64
def sem_call (Rel : Nat → Mem → SM → Prop) (fu : Nat) : Prop := ∀ (x : Nat) (X : Mem) (S : SM) (q0 : Int32), Rel x X S → FreshM X → ∃ r bv S', fX11_call X x q0 = some r ∧ fX12_call S q0 = some (bv, S') ∧ semR Rel ["java/lang/IndexOutOfBoundsException", "java/lang/IllegalStateException"] x X S' (wrL_call r) bv.toInt64
def sem_end (Rel : Nat → Mem → SM → Prop) (fu : Nat) : Prop := ∀ (x : Nat) (X : Mem) (S : SM), Rel x X S → FreshM X → ∃ r bv S', fX11_end X x  = some r ∧ fX12_end S  = some (bv, S') ∧ semR Rel ["java/lang/IllegalStateException"] x X S' (wrL_end r) bv.toInt64
def sem_wipe (Rel : Nat → Mem → SM → Prop) (fu : Nat) : Prop := ∀ (x : Nat) (X : Mem) (S : SM), Rel x X S → FreshM X → ∃ v X1 S', fX11_wipe fu X x = some (v, X1) ∧ fX12_wipe S = some (v, S') ∧ Rel x X1 S' ∧ Keeps9 X X1
def sem_write (Rel : Nat → Mem → SM → Prop) (fu : Nat) : Prop := ∀ (x : Nat) (X : Mem) (S : SM) (q0 : Int32), Rel x X S → FreshM X → ∃ r bv S', fX11_write fu X x q0 = some r ∧ fX12_write fu S q0 = some (bv, S') ∧ semR Rel ["java/lang/IndexOutOfBoundsException", "java/lang/IllegalStateException"] x X S' (wrL_write r) bv.toInt64
def sem_exercise (Rel : Nat → Mem → SM → Prop) (fu : Nat) : Prop := ∀ (x : Nat) (X : Mem) (S : SM) (q0 : Int32) (q1 : Int32) (q2 : Int32), Rel x X S → FreshM X → ∃ r bv S', fX11_exercise X x q0 q1 q2 = some r ∧ fX12_exercise S q0 q1 q2 = some (bv, S') ∧ semR Rel ["java/lang/IndexOutOfBoundsException", "java/lang/IllegalArgumentException", "java/lang/IllegalStateException"] x X S' (wrL_exercise r) bv.toInt64
def sem_allow (Rel : Nat → Mem → SM → Prop) (fu : Nat) : Prop := ∀ (x : Nat) (X : Mem) (S : SM) (q0 : Int32) (q1 : Int32) (q2 : Int32), Rel x X S → FreshM X → ∃ r bv S', fX11_allow fu X x q0 q1 q2 = some r ∧ fX12_allow fu S q0 q1 q2 = some (bv, S') ∧ semR Rel ["java/lang/IndexOutOfBoundsException", "java/lang/IllegalArgumentException"] x X S' (wrL_allow r) bv.toInt64
def sem_handIn (Rel : Nat → Mem → SM → Prop) (fu : Nat) : Prop := ∀ (x : Nat) (X : Mem) (S : SM) (q0 : Int32) (q1 : Int32), Rel x X S → FreshM X → ∃ r bv S', fX11_handIn fu X x q0 q1 = some r ∧ fX12_handIn S q0 q1 = some (bv, S') ∧ semR Rel ["java/lang/IndexOutOfBoundsException", "java/lang/IllegalStateException"] x X S' (wrL_handIn r) bv.toInt64
def sem_clear (Rel : Nat → Mem → SM → Prop) (fu : Nat) : Prop := ∀ (x : Nat) (X : Mem) (S : SM) (q0 : Int32) (q1 : Int32), (q1 = 0 ∨ q1 = 1) → Rel x X S → FreshM X → ∃ r bv S', fX11_clear fu X x q0 q1 = some r ∧ fX12_clear S q0 q1 = some (bv, S') ∧ semR Rel ["java/lang/IndexOutOfBoundsException"] x X S' (wrL_clear r) (if bv = 0 then (0 : Int64) else 1)
def sem_setWall (Rel : Nat → Mem → SM → Prop) (fu : Nat) : Prop := ∀ (x : Nat) (X : Mem) (S : SM) (q0 : Int32) (q1 : Int32), Rel x X S → FreshM X → ∃ r bv S', fX11_setWall fu X x q0 q1 = some r ∧ fX12_setWall fu S q0 q1 = some (bv, S') ∧ semR Rel ["java/lang/IllegalArgumentException"] x X S' (wrL_setWall r) bv.toInt64
def sem_drafted (Rel : Nat → Mem → SM → Prop) (fu : Nat) : Prop := ∀ (x : Nat) (X : Mem) (S : SM), Rel x X S → FreshM X → ∃ v S', fX11_drafted X x = some v ∧ fX12_drafted S = some (v, S') ∧ Rel x X S'
def sem_programs (Rel : Nat → Mem → SM → Prop) (fu : Nat) : Prop := ∀ (x : Nat) (X : Mem) (S : SM), Rel x X S → FreshM X → ∃ v S', fX11_programs X x = some v ∧ fX12_programs S = some (v, S') ∧ Rel x X S'
def sem_fault (Rel : Nat → Mem → SM → Prop) (fu : Nat) : Prop := ∀ (x : Nat) (X : Mem) (S : SM) (q0 : Int32), Rel x X S → FreshM X → ∃ r bv S', fX11_fault X x q0 = some r ∧ fX12_fault S q0 = some (bv, S') ∧ semR Rel ["java/lang/IndexOutOfBoundsException"] x X S' (wrL_fault X r) bv.toInt64
def sem_steps (Rel : Nat → Mem → SM → Prop) (fu : Nat) : Prop := ∀ (x : Nat) (X : Mem) (S : SM) (q0 : Int32), Rel x X S → FreshM X → ∃ r bv S', fX11_steps X x q0 = some r ∧ fX12_steps S q0 = some (bv, S') ∧ semR Rel ["java/lang/IndexOutOfBoundsException"] x X S' (wrL_steps X r) bv.toInt64
def sem_strokes (Rel : Nat → Mem → SM → Prop) (fu : Nat) : Prop := ∀ (x : Nat) (X : Mem) (S : SM) (q0 : Int32), Rel x X S → FreshM X → ∃ r bv S', fX11_strokes X x q0 = some r ∧ fX12_strokes S q0 = some (bv, S') ∧ semR Rel ["java/lang/IndexOutOfBoundsException"] x X S' (wrL_strokes X r) bv.toInt64
def sem_strokesBySteps (Rel : Nat → Mem → SM → Prop) (fu : Nat) : Prop := ∀ (x : Nat) (X : Mem) (S : SM) (q0 : Int32) (q1 : Int32), Rel x X S → FreshM X → ∃ r bv S', fX11_strokesBySteps fu X x q0 q1 = some r ∧ fX12_strokesBySteps fu S q0 q1 = some (bv, S') ∧ semR Rel ["java/lang/IndexOutOfBoundsException", "java/lang/IllegalArgumentException"] x X S' (wrL_strokesBySteps r) bv.toInt64
def sem_isDrawn (Rel : Nat → Mem → SM → Prop) (fu : Nat) : Prop := ∀ (x : Nat) (X : Mem) (S : SM) (q0 : Int32) (q1 : Int32) (q2 : Int32) (q3 : Int32), (q3 = 0 ∨ q3 = 1) → Rel x X S → FreshM X → ∃ r bv S', fX11_isDrawn X x q0 q1 q2 q3 = some r ∧ fX12_isDrawn S q0 q1 q2 q3 = some (bv, S') ∧ semR Rel ["java/lang/IndexOutOfBoundsException"] x X S' (wrL_isDrawn X r) (if bv = 0 then (0 : Int64) else 1)
def sem_areAlike (Rel : Nat → Mem → SM → Prop) (fu : Nat) : Prop := ∀ (x : Nat) (X : Mem) (S : SM) (q0 : Int32) (q1 : Int32), Rel x X S → FreshM X → ∃ r bv S', fX11_areAlike fu X x q0 q1 = some r ∧ fX12_areAlike fu S q0 q1 = some (bv, S') ∧ semR Rel ["java/lang/IndexOutOfBoundsException"] x X S' (wrL_areAlike X r) (if bv = 0 then (0 : Int64) else 1)
def sem_haveOneForm (Rel : Nat → Mem → SM → Prop) (fu : Nat) : Prop := ∀ (x : Nat) (X : Mem) (S : SM) (q0 : Int32) (q1 : Int32), Rel x X S → FreshM X → ∃ r bv S', fX11_haveOneForm fu X x q0 q1 = some r ∧ fX12_haveOneForm fu S q0 q1 = some (bv, S') ∧ semR Rel ["java/lang/IndexOutOfBoundsException"] x X S' (wrL_haveOneForm X r) (if bv = 0 then (0 : Int64) else 1)
def sem_likeness (Rel : Nat → Mem → SM → Prop) (fu : Nat) : Prop := ∀ (x : Nat) (X : Mem) (S : SM) (q0 : Int32) (q1 : Int32), Rel x X S → FreshM X → ∃ r bv S', fX11_likeness fu X x q0 q1 = some r ∧ fX12_likeness fu S q0 q1 = some (bv, S') ∧ semR Rel ["java/lang/IndexOutOfBoundsException"] x X S' (wrL_likeness r) bv.toInt64
def sem_works (Rel : Nat → Mem → SM → Prop) (fu : Nat) : Prop := ∀ (x : Nat) (X : Mem) (S : SM), Rel x X S → FreshM X → ∃ v S', fX11_works X x = some v ∧ fX12_works S = some (v, S') ∧ Rel x X S'
def sem_meets (Rel : Nat → Mem → SM → Prop) (fu : Nat) : Prop := ∀ (x : Nat) (X : Mem) (S : SM) (q0 : Int32), Rel x X S → FreshM X → ∃ r bv S', fX11_meets fu X x q0 = some r ∧ fX12_meets fu S q0 = some (bv, S') ∧ semR Rel ["java/lang/IndexOutOfBoundsException"] x X S' (wrL_meets X r) (if bv = 0 then (0 : Int64) else 1)
def sem_copyOf (Rel : Nat → Mem → SM → Prop) (fu : Nat) : Prop := ∀ (x : Nat) (X : Mem) (S : SM) (q0 : Int32), Rel x X S → FreshM X → ∃ r bv S', fX11_copyOf X x q0 = some r ∧ fX12_copyOf fu S q0 = some (bv, S') ∧ semR Rel ["java/lang/IndexOutOfBoundsException"] x X S' (wrL_copyOf X r) bv.toInt64
def sem_hangs (Rel : Nat → Mem → SM → Prop) (fu : Nat) : Prop := ∀ (x : Nat) (X : Mem) (S : SM) (q0 : Int32), Rel x X S → FreshM X → ∃ r bv S', fX11_hangs X x q0 = some r ∧ fX12_hangs fu S q0 = some (bv, S') ∧ semR Rel ["java/lang/IndexOutOfBoundsException"] x X S' (wrL_hangs X r) bv.toInt64
def sem_onWall (Rel : Nat → Mem → SM → Prop) (fu : Nat) : Prop := ∀ (x : Nat) (X : Mem) (S : SM) (q0 : Int32) (q1 : Int32), Rel x X S → FreshM X → ∃ r bv S', fX11_onWall fu X x q0 q1 = some r ∧ fX12_onWall fu S q0 q1 = some (bv, S') ∧ semR Rel ["java/lang/IndexOutOfBoundsException"] x X S' (wrL_onWall X r) bv.toInt64
def sem_hung (Rel : Nat → Mem → SM → Prop) (fu : Nat) : Prop := ∀ (x : Nat) (X : Mem) (S : SM) (q0 : Int32), Rel x X S → FreshM X → ∃ r bv S', fX11_hung fu X x q0 = some r ∧ fX12_hung fu S q0 = some (bv, S') ∧ semR Rel ["java/lang/IndexOutOfBoundsException"] x X S' (wrL_hung X r) bv.toInt64
set_option maxRecDepth 100000 in
set_option maxHeartbeats 4000000 in
theorem lc_forward {D : DD} {ev : EV} {Q : State → Prop} {Rel : Nat → Mem → SM → Prop} {fu b x m oa Ls : Nat} {xs : Nat → Int32} {g : Nat → Int64} {X : Mem} {S : SM} {i : Int32} {p1 : Int32} {p2 : Int32} {cs sl : Nat} (hrz : ∀ x X S z, Rel x X S → Rel x (zM X z) S) (hrk : ∀ x X S, Rel x X S → mK X x = some (11, 0)) (sem : sem_forward Rel fu) (B : Amb D (A0L ev) ev RL "law" cL_law 7 (some .boolean) room_1) (hnc : EvNc ev) (hs : ScrL ev b Ls xs) (hi1 : vp_in (i + (1 : Int32)) Ls) (hi2 : vp_in (i + (2 : Int32)) Ls) (hp1 : xs (i + (1 : Int32)).toNatClampNeg = p1) (hp2 : xs (i + (2 : Int32)).toNatClampNeg = p2) (hrel : Rel x X S) (hLD : LD X oa m) (hf : cs + 16 ≤ room_1.cells ∧ sl + 200 ≤ room_1.slots)
    (kont : ∀ (X' : Mem) (g' : Nat → Int64) (S' : SM), Rel x X' S' → LD X' oa m → Gd D (A0L ev) ev Q (LM X' oa g' m S') (cs + 16) (sl + 200) 2215 [(0, vA (some b)), (1, vA (some x)), (2, vA (some m)), (3, vA (some oa)), (4, vI i)] []) : Gd D (A0L ev) ev Q (LM X oa g m S) cs sl 180 [(0, vA (some b)), (1, vA (some x)), (2, vA (some m)), (3, vA (some oa)), (4, vI i)] [] := by
  refine g_dom fun hdm => ?_
  obtain ⟨hfr, hoa, hma⟩ := LM_fresh hLD hdm
  refine g_aload_n (pc := 180) B dL_law_180 1 rfl ?_
  refine g_aload_n (pc := 181) B dL_law_181 0 rfl ?_
  refine g_iload (pc := 182) B dL_law_182 4 rfl ?_
  refine g_iconst (pc := 184) B dL_law_184 (1 : Int32) (by decide) ?_
  refine g_iadd (pc := 185) B dL_law_185 ?_
  refine g_sld (pc := 186) B hs hi1 hp1 dL_law_186 ?_
  refine g_aload_n (pc := 187) B dL_law_187 0 rfl ?_
  refine g_iload (pc := 188) B dL_law_188 4 rfl ?_
  refine g_iconst (pc := 190) B dL_law_190 (2 : Int32) (by decide) ?_
  refine g_iadd (pc := 191) B dL_law_191 ?_
  refine g_sld (pc := 192) B hs hi2 hp2 dL_law_192 ?_
  by_cases hc_p2 : p2 = 0
  · refine g_if_eq (pc := 193) (tgt := 200) B dL_law_193 (by decide) (fun _ => ?_) (fun c9 => absurd hc_p2 c9)
    refine g_iconst (pc := 200) B dL_law_200 (0 : Int32) (by decide) ?_
    refine g_aload_n (pc := 201) B dL_law_201 3 rfl ?_
    obtain ⟨r, bv, S', e1, e2, hsem⟩ := sem x X S p1 (0 : Int32) (Or.inl rfl) hrel hfr
    refine l_wrap (pc := 202) (As := [vA (some x), vI p1, vI (0 : Int32), vA (some oa)]) (st := []) B hnc calw_L_forward kmL_114 kz_L_forward hLD (fun l hl => cw_L_forward hl e1 (hrk _ _ _ hrel) hLD.1 (fun v X1 q => by subst q; exact ((semR_ok hsem).2.2.2.2 oa hoa).trans hLD.1) (fun E q => by subst q; exact (semR_ex hsem).1)) rfl (Nat.le_of_ble_eq_true rfl) (by decide) (by decide) hf dL_law_202 rfl (fun E k z hr hk => ?_) (fun w X1 hr => ?_)
    · rw [hr] at hsem
      have hx9 := semR_ex hsem
      have hthr : sc S' 0 = nI (k + 1) := hx9.2.1 k hk
      have hk3 : k < 3 := (List.getElem?_eq_some_iff.mp hk).1
      have hk0 : ¬ nI (k + 1) = 0 := nI_ne0 (by omega) (by omega)
      refine g_istore (pc := 205) (L' := [(5, vI (nI (k + 1))), (0, vA (some b)), (1, vA (some x)), (2, vA (some m)), (3, vA (some oa)), (4, vI i)]) B dL_law_205 (by decide) rfl ?_
      refine g_aload_n (pc := 207) B dL_law_207 3 rfl ?_
      refine g_aload_n (pc := 208) B dL_law_208 1 rfl ?_
      refine g_iload (pc := 209) B dL_law_209 5 rfl ?_
      refine g_iconst (pc := 211) B dL_law_211 (1 : Int32) (by decide) ?_
      refine g_iadd (pc := 212) B dL_law_212 ?_
      refine g_sld (pc := 213) B hs hi1 hp1 dL_law_213 ?_
      refine g_aload_n (pc := 214) B dL_law_214 1 rfl ?_
      refine g_iload (pc := 215) B dL_law_215 5 rfl ?_
      refine g_iconst (pc := 217) B dL_law_217 (2 : Int32) (by decide) ?_
      refine g_iadd (pc := 218) B dL_law_218 ?_
      refine g_sld (pc := 219) B hs hi2 hp2 dL_law_219 ?_
      refine g_if_eq (pc := 220) (tgt := 227) B dL_law_220 (by decide) (fun _ => ?_) (fun c9 => absurd hc_p2 c9)
      refine g_iconst (pc := 227) B dL_law_227 (0 : Int32) (by decide) ?_
      refine l_ref (pc := 228) (As := [vI p1, vI (0 : Int32)]) (st := []) (st10 := [vI bv]) (S' := S') B cal_X12_forward kmL_119 kn_X12_forward ks_X12_forward rfl hLD (fun l hl z => ct_X12_forward hl e2) rfl (Nat.le_of_ble_eq_true rfl) (by decide) (by decide) hf dL_law_228 rfl rfl ?_
      refine g_istore (pc := 231) (L' := [(6, vI bv), (5, vI (nI (k + 1))), (0, vA (some b)), (1, vA (some x)), (2, vA (some m)), (3, vA (some oa)), (4, vI i)]) B dL_law_231 (by decide) rfl ?_
      refine g_aload_n (pc := 233) B dL_law_233 4 rfl ?_
      refine l_ref (pc := 234) (As := []) (st := []) (st10 := [vI (sc S' 0)]) (S' := S') B cal_X12_thrown kmL_120 kn_X12_thrown ks_X12_thrown rfl hLD (fun l hl z => ct_X12_thrown hl (X0 := S') rfl) rfl (Nat.le_of_ble_eq_true rfl) (by decide) (by decide) hf dL_law_234 rfl rfl ?_
      refine g_iload (pc := 237) B dL_law_237 1 rfl ?_
      refine g_icmp_eq (pc := 239) (tgt := 244) B dL_law_239 (by decide) (fun _ => ?_) (fun c9 => absurd hthr c9)
      refine g_iload (pc := 244) B dL_law_244 1 rfl ?_
      refine g_if_ne (pc := 246) (tgt := 261) B dL_law_246 (by decide) (fun _ => ?_) (fun c9 => absurd c9 hk0)
      refine g_goto (pc := 261) (tgt := 2215) B dL_law_261 (by decide) ?_
      refine g_sub (pc := 2215) [2, 3, 4, 5, 6] rfl ?_
      exact kont (zM X z) g S' (hrz _ _ _ _ hx9.2.2) hLD
    · rw [hr] at hsem
      obtain ⟨hthr, hw, hrel1, hkp⟩ := semR_ok hsem
      have hLD1 := hLD.keep hoa hma hkp
      refine g_istore (pc := 205) (L' := [(5, vI 0), (0, vA (some b)), (1, vA (some x)), (2, vA (some m)), (3, vA (some oa)), (4, vI i)]) B dL_law_205 (by decide) rfl ?_
      refine g_aload_n (pc := 207) B dL_law_207 3 rfl ?_
      refine g_aload_n (pc := 208) B dL_law_208 1 rfl ?_
      refine g_iload (pc := 209) B dL_law_209 5 rfl ?_
      refine g_iconst (pc := 211) B dL_law_211 (1 : Int32) (by decide) ?_
      refine g_iadd (pc := 212) B dL_law_212 ?_
      refine g_sld (pc := 213) B hs hi1 hp1 dL_law_213 ?_
      refine g_aload_n (pc := 214) B dL_law_214 1 rfl ?_
      refine g_iload (pc := 215) B dL_law_215 5 rfl ?_
      refine g_iconst (pc := 217) B dL_law_217 (2 : Int32) (by decide) ?_
      refine g_iadd (pc := 218) B dL_law_218 ?_
      refine g_sld (pc := 219) B hs hi2 hp2 dL_law_219 ?_
      refine g_if_eq (pc := 220) (tgt := 227) B dL_law_220 (by decide) (fun _ => ?_) (fun c9 => absurd hc_p2 c9)
      refine g_iconst (pc := 227) B dL_law_227 (0 : Int32) (by decide) ?_
      refine l_ref (pc := 228) (As := [vI p1, vI (0 : Int32)]) (st := []) (st10 := [vI bv]) (S' := S') B cal_X12_forward kmL_119 kn_X12_forward ks_X12_forward rfl hLD1 (fun l hl z => ct_X12_forward hl e2) rfl (Nat.le_of_ble_eq_true rfl) (by decide) (by decide) hf dL_law_228 rfl rfl ?_
      refine g_istore (pc := 231) (L' := [(6, vI bv), (5, vI 0), (0, vA (some b)), (1, vA (some x)), (2, vA (some m)), (3, vA (some oa)), (4, vI i)]) B dL_law_231 (by decide) rfl ?_
      refine g_aload_n (pc := 233) B dL_law_233 4 rfl ?_
      refine l_ref (pc := 234) (As := []) (st := []) (st10 := [vI (sc S' 0)]) (S' := S') B cal_X12_thrown kmL_120 kn_X12_thrown ks_X12_thrown rfl hLD1 (fun l hl z => ct_X12_thrown hl (X0 := S') rfl) rfl (Nat.le_of_ble_eq_true rfl) (by decide) (by decide) hf dL_law_234 rfl rfl ?_
      refine g_iload (pc := 237) B dL_law_237 1 rfl ?_
      refine g_icmp_eq (pc := 239) (tgt := 244) B dL_law_239 (by decide) (fun _ => ?_) (fun c9 => absurd hthr c9)
      refine g_iload (pc := 244) B dL_law_244 1 rfl ?_
      refine g_if_ne (pc := 246) (tgt := 261) B dL_law_246 (by decide) (fun c9 => absurd rfl c9) (fun _ => ?_)
      refine g_aload_n (pc := 249) B dL_law_249 5 rfl ?_
      refine g_iconst (pc := 250) B dL_law_250 (0 : Int32) (by decide) ?_
      refine g_lald (pc := 251) B (LM_out0 hLD1) vin01 dL_law_251 ?_
      rw [LM_aJ hLD1]
      refine g_iload (pc := 252) B dL_law_252 0 rfl ?_
      refine g_i2l (pc := 254) B dL_law_254 ?_
      refine g_lcmp (pc := 255) B dL_law_255 ?_
      have hcmp : lg_cmp w bv.toInt64 = 0 := by rw [hw]; exact cmp_self _
      refine g_if_eq (pc := 256) (tgt := 261) B dL_law_256 (by decide) (fun _ => ?_) (fun c9 => absurd hcmp c9)
      refine g_goto (pc := 261) (tgt := 2215) B dL_law_261 (by decide) ?_
      refine g_sub (pc := 2215) [2, 3, 4, 5, 6] rfl ?_
      exact kont X1 (up0 g w) S' hrel1 hLD1
  · refine g_if_eq (pc := 193) (tgt := 200) B dL_law_193 (by decide) (fun c9 => absurd c9 hc_p2) (fun _ => ?_)
    refine g_iconst (pc := 196) B dL_law_196 (1 : Int32) (by decide) ?_
    refine g_goto (pc := 197) (tgt := 201) B dL_law_197 (by decide) ?_
    refine g_aload_n (pc := 201) B dL_law_201 3 rfl ?_
    obtain ⟨r, bv, S', e1, e2, hsem⟩ := sem x X S p1 (1 : Int32) (Or.inr rfl) hrel hfr
    refine l_wrap (pc := 202) (As := [vA (some x), vI p1, vI (1 : Int32), vA (some oa)]) (st := []) B hnc calw_L_forward kmL_114 kz_L_forward hLD (fun l hl => cw_L_forward hl e1 (hrk _ _ _ hrel) hLD.1 (fun v X1 q => by subst q; exact ((semR_ok hsem).2.2.2.2 oa hoa).trans hLD.1) (fun E q => by subst q; exact (semR_ex hsem).1)) rfl (Nat.le_of_ble_eq_true rfl) (by decide) (by decide) hf dL_law_202 rfl (fun E k z hr hk => ?_) (fun w X1 hr => ?_)
    · rw [hr] at hsem
      have hx9 := semR_ex hsem
      have hthr : sc S' 0 = nI (k + 1) := hx9.2.1 k hk
      have hk3 : k < 3 := (List.getElem?_eq_some_iff.mp hk).1
      have hk0 : ¬ nI (k + 1) = 0 := nI_ne0 (by omega) (by omega)
      refine g_istore (pc := 205) (L' := [(5, vI (nI (k + 1))), (0, vA (some b)), (1, vA (some x)), (2, vA (some m)), (3, vA (some oa)), (4, vI i)]) B dL_law_205 (by decide) rfl ?_
      refine g_aload_n (pc := 207) B dL_law_207 3 rfl ?_
      refine g_aload_n (pc := 208) B dL_law_208 1 rfl ?_
      refine g_iload (pc := 209) B dL_law_209 5 rfl ?_
      refine g_iconst (pc := 211) B dL_law_211 (1 : Int32) (by decide) ?_
      refine g_iadd (pc := 212) B dL_law_212 ?_
      refine g_sld (pc := 213) B hs hi1 hp1 dL_law_213 ?_
      refine g_aload_n (pc := 214) B dL_law_214 1 rfl ?_
      refine g_iload (pc := 215) B dL_law_215 5 rfl ?_
      refine g_iconst (pc := 217) B dL_law_217 (2 : Int32) (by decide) ?_
      refine g_iadd (pc := 218) B dL_law_218 ?_
      refine g_sld (pc := 219) B hs hi2 hp2 dL_law_219 ?_
      refine g_if_eq (pc := 220) (tgt := 227) B dL_law_220 (by decide) (fun c9 => absurd c9 hc_p2) (fun _ => ?_)
      refine g_iconst (pc := 223) B dL_law_223 (1 : Int32) (by decide) ?_
      refine g_goto (pc := 224) (tgt := 228) B dL_law_224 (by decide) ?_
      refine l_ref (pc := 228) (As := [vI p1, vI (1 : Int32)]) (st := []) (st10 := [vI bv]) (S' := S') B cal_X12_forward kmL_119 kn_X12_forward ks_X12_forward rfl hLD (fun l hl z => ct_X12_forward hl e2) rfl (Nat.le_of_ble_eq_true rfl) (by decide) (by decide) hf dL_law_228 rfl rfl ?_
      refine g_istore (pc := 231) (L' := [(6, vI bv), (5, vI (nI (k + 1))), (0, vA (some b)), (1, vA (some x)), (2, vA (some m)), (3, vA (some oa)), (4, vI i)]) B dL_law_231 (by decide) rfl ?_
      refine g_aload_n (pc := 233) B dL_law_233 4 rfl ?_
      refine l_ref (pc := 234) (As := []) (st := []) (st10 := [vI (sc S' 0)]) (S' := S') B cal_X12_thrown kmL_120 kn_X12_thrown ks_X12_thrown rfl hLD (fun l hl z => ct_X12_thrown hl (X0 := S') rfl) rfl (Nat.le_of_ble_eq_true rfl) (by decide) (by decide) hf dL_law_234 rfl rfl ?_
      refine g_iload (pc := 237) B dL_law_237 1 rfl ?_
      refine g_icmp_eq (pc := 239) (tgt := 244) B dL_law_239 (by decide) (fun _ => ?_) (fun c9 => absurd hthr c9)
      refine g_iload (pc := 244) B dL_law_244 1 rfl ?_
      refine g_if_ne (pc := 246) (tgt := 261) B dL_law_246 (by decide) (fun _ => ?_) (fun c9 => absurd c9 hk0)
      refine g_goto (pc := 261) (tgt := 2215) B dL_law_261 (by decide) ?_
      refine g_sub (pc := 2215) [2, 3, 4, 5, 6] rfl ?_
      exact kont (zM X z) g S' (hrz _ _ _ _ hx9.2.2) hLD
    · rw [hr] at hsem
      obtain ⟨hthr, hw, hrel1, hkp⟩ := semR_ok hsem
      have hLD1 := hLD.keep hoa hma hkp
      refine g_istore (pc := 205) (L' := [(5, vI 0), (0, vA (some b)), (1, vA (some x)), (2, vA (some m)), (3, vA (some oa)), (4, vI i)]) B dL_law_205 (by decide) rfl ?_
      refine g_aload_n (pc := 207) B dL_law_207 3 rfl ?_
      refine g_aload_n (pc := 208) B dL_law_208 1 rfl ?_
      refine g_iload (pc := 209) B dL_law_209 5 rfl ?_
      refine g_iconst (pc := 211) B dL_law_211 (1 : Int32) (by decide) ?_
      refine g_iadd (pc := 212) B dL_law_212 ?_
      refine g_sld (pc := 213) B hs hi1 hp1 dL_law_213 ?_
      refine g_aload_n (pc := 214) B dL_law_214 1 rfl ?_
      refine g_iload (pc := 215) B dL_law_215 5 rfl ?_
      refine g_iconst (pc := 217) B dL_law_217 (2 : Int32) (by decide) ?_
      refine g_iadd (pc := 218) B dL_law_218 ?_
      refine g_sld (pc := 219) B hs hi2 hp2 dL_law_219 ?_
      refine g_if_eq (pc := 220) (tgt := 227) B dL_law_220 (by decide) (fun c9 => absurd c9 hc_p2) (fun _ => ?_)
      refine g_iconst (pc := 223) B dL_law_223 (1 : Int32) (by decide) ?_
      refine g_goto (pc := 224) (tgt := 228) B dL_law_224 (by decide) ?_
      refine l_ref (pc := 228) (As := [vI p1, vI (1 : Int32)]) (st := []) (st10 := [vI bv]) (S' := S') B cal_X12_forward kmL_119 kn_X12_forward ks_X12_forward rfl hLD1 (fun l hl z => ct_X12_forward hl e2) rfl (Nat.le_of_ble_eq_true rfl) (by decide) (by decide) hf dL_law_228 rfl rfl ?_
      refine g_istore (pc := 231) (L' := [(6, vI bv), (5, vI 0), (0, vA (some b)), (1, vA (some x)), (2, vA (some m)), (3, vA (some oa)), (4, vI i)]) B dL_law_231 (by decide) rfl ?_
      refine g_aload_n (pc := 233) B dL_law_233 4 rfl ?_
      refine l_ref (pc := 234) (As := []) (st := []) (st10 := [vI (sc S' 0)]) (S' := S') B cal_X12_thrown kmL_120 kn_X12_thrown ks_X12_thrown rfl hLD1 (fun l hl z => ct_X12_thrown hl (X0 := S') rfl) rfl (Nat.le_of_ble_eq_true rfl) (by decide) (by decide) hf dL_law_234 rfl rfl ?_
      refine g_iload (pc := 237) B dL_law_237 1 rfl ?_
      refine g_icmp_eq (pc := 239) (tgt := 244) B dL_law_239 (by decide) (fun _ => ?_) (fun c9 => absurd hthr c9)
      refine g_iload (pc := 244) B dL_law_244 1 rfl ?_
      refine g_if_ne (pc := 246) (tgt := 261) B dL_law_246 (by decide) (fun c9 => absurd rfl c9) (fun _ => ?_)
      refine g_aload_n (pc := 249) B dL_law_249 5 rfl ?_
      refine g_iconst (pc := 250) B dL_law_250 (0 : Int32) (by decide) ?_
      refine g_lald (pc := 251) B (LM_out0 hLD1) vin01 dL_law_251 ?_
      rw [LM_aJ hLD1]
      refine g_iload (pc := 252) B dL_law_252 0 rfl ?_
      refine g_i2l (pc := 254) B dL_law_254 ?_
      refine g_lcmp (pc := 255) B dL_law_255 ?_
      have hcmp : lg_cmp w bv.toInt64 = 0 := by rw [hw]; exact cmp_self _
      refine g_if_eq (pc := 256) (tgt := 261) B dL_law_256 (by decide) (fun _ => ?_) (fun c9 => absurd hcmp c9)
      refine g_goto (pc := 261) (tgt := 2215) B dL_law_261 (by decide) ?_
      refine g_sub (pc := 2215) [2, 3, 4, 5, 6] rfl ?_
      exact kont X1 (up0 g w) S' hrel1 hLD1
set_option maxRecDepth 100000 in
set_option maxHeartbeats 4000000 in
theorem lc_turn {D : DD} {ev : EV} {Q : State → Prop} {Rel : Nat → Mem → SM → Prop} {fu b x m oa Ls : Nat} {xs : Nat → Int32} {g : Nat → Int64} {X : Mem} {S : SM} {i : Int32} {p1 : Int32} {p2 : Int32} {cs sl : Nat} (hrz : ∀ x X S z, Rel x X S → Rel x (zM X z) S) (hrk : ∀ x X S, Rel x X S → mK X x = some (11, 0)) (sem : sem_turn Rel fu) (B : Amb D (A0L ev) ev RL "law" cL_law 7 (some .boolean) room_1) (hnc : EvNc ev) (hs : ScrL ev b Ls xs) (hi1 : vp_in (i + (1 : Int32)) Ls) (hi2 : vp_in (i + (2 : Int32)) Ls) (hp1 : xs (i + (1 : Int32)).toNatClampNeg = p1) (hp2 : xs (i + (2 : Int32)).toNatClampNeg = p2) (hrel : Rel x X S) (hLD : LD X oa m) (hf : cs + 16 ≤ room_1.cells ∧ sl + 200 ≤ room_1.slots)
    (kont : ∀ (X' : Mem) (g' : Nat → Int64) (S' : SM), Rel x X' S' → LD X' oa m → Gd D (A0L ev) ev Q (LM X' oa g' m S') (cs + 16) (sl + 200) 2215 [(0, vA (some b)), (1, vA (some x)), (2, vA (some m)), (3, vA (some oa)), (4, vI i)] []) : Gd D (A0L ev) ev Q (LM X oa g m S) cs sl 264 [(0, vA (some b)), (1, vA (some x)), (2, vA (some m)), (3, vA (some oa)), (4, vI i)] [] := by
  refine g_dom fun hdm => ?_
  obtain ⟨hfr, hoa, hma⟩ := LM_fresh hLD hdm
  refine g_aload_n (pc := 264) B dL_law_264 1 rfl ?_
  refine g_aload_n (pc := 265) B dL_law_265 0 rfl ?_
  refine g_iload (pc := 266) B dL_law_266 4 rfl ?_
  refine g_iconst (pc := 268) B dL_law_268 (1 : Int32) (by decide) ?_
  refine g_iadd (pc := 269) B dL_law_269 ?_
  refine g_sld (pc := 270) B hs hi1 hp1 dL_law_270 ?_
  refine g_aload_n (pc := 271) B dL_law_271 0 rfl ?_
  refine g_iload (pc := 272) B dL_law_272 4 rfl ?_
  refine g_iconst (pc := 274) B dL_law_274 (2 : Int32) (by decide) ?_
  refine g_iadd (pc := 275) B dL_law_275 ?_
  refine g_sld (pc := 276) B hs hi2 hp2 dL_law_276 ?_
  by_cases hc_p2 : p2 = 0
  · refine g_if_eq (pc := 277) (tgt := 284) B dL_law_277 (by decide) (fun _ => ?_) (fun c9 => absurd hc_p2 c9)
    refine g_iconst (pc := 284) B dL_law_284 (0 : Int32) (by decide) ?_
    refine g_aload_n (pc := 285) B dL_law_285 3 rfl ?_
    obtain ⟨r, bv, S', e1, e2, hsem⟩ := sem x X S p1 (0 : Int32) (Or.inl rfl) hrel hfr
    refine l_wrap (pc := 286) (As := [vA (some x), vI p1, vI (0 : Int32), vA (some oa)]) (st := []) B hnc calw_L_turn kmL_123 kz_L_turn hLD (fun l hl => cw_L_turn hl e1 (hrk _ _ _ hrel) hLD.1 (fun v X1 q => by subst q; exact ((semR_ok hsem).2.2.2.2 oa hoa).trans hLD.1) (fun E q => by subst q; exact (semR_ex hsem).1)) rfl (Nat.le_of_ble_eq_true rfl) (by decide) (by decide) hf dL_law_286 rfl (fun E k z hr hk => ?_) (fun w X1 hr => ?_)
    · rw [hr] at hsem
      have hx9 := semR_ex hsem
      have hthr : sc S' 0 = nI (k + 1) := hx9.2.1 k hk
      have hk3 : k < 3 := (List.getElem?_eq_some_iff.mp hk).1
      have hk0 : ¬ nI (k + 1) = 0 := nI_ne0 (by omega) (by omega)
      refine g_istore (pc := 289) (L' := [(5, vI (nI (k + 1))), (0, vA (some b)), (1, vA (some x)), (2, vA (some m)), (3, vA (some oa)), (4, vI i)]) B dL_law_289 (by decide) rfl ?_
      refine g_aload_n (pc := 291) B dL_law_291 3 rfl ?_
      refine g_aload_n (pc := 292) B dL_law_292 1 rfl ?_
      refine g_iload (pc := 293) B dL_law_293 5 rfl ?_
      refine g_iconst (pc := 295) B dL_law_295 (1 : Int32) (by decide) ?_
      refine g_iadd (pc := 296) B dL_law_296 ?_
      refine g_sld (pc := 297) B hs hi1 hp1 dL_law_297 ?_
      refine g_aload_n (pc := 298) B dL_law_298 1 rfl ?_
      refine g_iload (pc := 299) B dL_law_299 5 rfl ?_
      refine g_iconst (pc := 301) B dL_law_301 (2 : Int32) (by decide) ?_
      refine g_iadd (pc := 302) B dL_law_302 ?_
      refine g_sld (pc := 303) B hs hi2 hp2 dL_law_303 ?_
      refine g_if_eq (pc := 304) (tgt := 311) B dL_law_304 (by decide) (fun _ => ?_) (fun c9 => absurd hc_p2 c9)
      refine g_iconst (pc := 311) B dL_law_311 (0 : Int32) (by decide) ?_
      refine l_ref (pc := 312) (As := [vI p1, vI (0 : Int32)]) (st := []) (st10 := [vI bv]) (S' := S') B cal_X12_turn kmL_125 kn_X12_turn ks_X12_turn rfl hLD (fun l hl z => ct_X12_turn hl e2) rfl (Nat.le_of_ble_eq_true rfl) (by decide) (by decide) hf dL_law_312 rfl rfl ?_
      refine g_istore (pc := 315) (L' := [(6, vI bv), (5, vI (nI (k + 1))), (0, vA (some b)), (1, vA (some x)), (2, vA (some m)), (3, vA (some oa)), (4, vI i)]) B dL_law_315 (by decide) rfl ?_
      refine g_aload_n (pc := 317) B dL_law_317 4 rfl ?_
      refine l_ref (pc := 318) (As := []) (st := []) (st10 := [vI (sc S' 0)]) (S' := S') B cal_X12_thrown kmL_120 kn_X12_thrown ks_X12_thrown rfl hLD (fun l hl z => ct_X12_thrown hl (X0 := S') rfl) rfl (Nat.le_of_ble_eq_true rfl) (by decide) (by decide) hf dL_law_318 rfl rfl ?_
      refine g_iload (pc := 321) B dL_law_321 1 rfl ?_
      refine g_icmp_eq (pc := 323) (tgt := 328) B dL_law_323 (by decide) (fun _ => ?_) (fun c9 => absurd hthr c9)
      refine g_iload (pc := 328) B dL_law_328 1 rfl ?_
      refine g_if_ne (pc := 330) (tgt := 345) B dL_law_330 (by decide) (fun _ => ?_) (fun c9 => absurd c9 hk0)
      refine g_goto (pc := 345) (tgt := 2215) B dL_law_345 (by decide) ?_
      refine g_sub (pc := 2215) [2, 3, 4, 5, 6] rfl ?_
      exact kont (zM X z) g S' (hrz _ _ _ _ hx9.2.2) hLD
    · rw [hr] at hsem
      obtain ⟨hthr, hw, hrel1, hkp⟩ := semR_ok hsem
      have hLD1 := hLD.keep hoa hma hkp
      refine g_istore (pc := 289) (L' := [(5, vI 0), (0, vA (some b)), (1, vA (some x)), (2, vA (some m)), (3, vA (some oa)), (4, vI i)]) B dL_law_289 (by decide) rfl ?_
      refine g_aload_n (pc := 291) B dL_law_291 3 rfl ?_
      refine g_aload_n (pc := 292) B dL_law_292 1 rfl ?_
      refine g_iload (pc := 293) B dL_law_293 5 rfl ?_
      refine g_iconst (pc := 295) B dL_law_295 (1 : Int32) (by decide) ?_
      refine g_iadd (pc := 296) B dL_law_296 ?_
      refine g_sld (pc := 297) B hs hi1 hp1 dL_law_297 ?_
      refine g_aload_n (pc := 298) B dL_law_298 1 rfl ?_
      refine g_iload (pc := 299) B dL_law_299 5 rfl ?_
      refine g_iconst (pc := 301) B dL_law_301 (2 : Int32) (by decide) ?_
      refine g_iadd (pc := 302) B dL_law_302 ?_
      refine g_sld (pc := 303) B hs hi2 hp2 dL_law_303 ?_
      refine g_if_eq (pc := 304) (tgt := 311) B dL_law_304 (by decide) (fun _ => ?_) (fun c9 => absurd hc_p2 c9)
      refine g_iconst (pc := 311) B dL_law_311 (0 : Int32) (by decide) ?_
      refine l_ref (pc := 312) (As := [vI p1, vI (0 : Int32)]) (st := []) (st10 := [vI bv]) (S' := S') B cal_X12_turn kmL_125 kn_X12_turn ks_X12_turn rfl hLD1 (fun l hl z => ct_X12_turn hl e2) rfl (Nat.le_of_ble_eq_true rfl) (by decide) (by decide) hf dL_law_312 rfl rfl ?_
      refine g_istore (pc := 315) (L' := [(6, vI bv), (5, vI 0), (0, vA (some b)), (1, vA (some x)), (2, vA (some m)), (3, vA (some oa)), (4, vI i)]) B dL_law_315 (by decide) rfl ?_
      refine g_aload_n (pc := 317) B dL_law_317 4 rfl ?_
      refine l_ref (pc := 318) (As := []) (st := []) (st10 := [vI (sc S' 0)]) (S' := S') B cal_X12_thrown kmL_120 kn_X12_thrown ks_X12_thrown rfl hLD1 (fun l hl z => ct_X12_thrown hl (X0 := S') rfl) rfl (Nat.le_of_ble_eq_true rfl) (by decide) (by decide) hf dL_law_318 rfl rfl ?_
      refine g_iload (pc := 321) B dL_law_321 1 rfl ?_
      refine g_icmp_eq (pc := 323) (tgt := 328) B dL_law_323 (by decide) (fun _ => ?_) (fun c9 => absurd hthr c9)
      refine g_iload (pc := 328) B dL_law_328 1 rfl ?_
      refine g_if_ne (pc := 330) (tgt := 345) B dL_law_330 (by decide) (fun c9 => absurd rfl c9) (fun _ => ?_)
      refine g_aload_n (pc := 333) B dL_law_333 5 rfl ?_
      refine g_iconst (pc := 334) B dL_law_334 (0 : Int32) (by decide) ?_
      refine g_lald (pc := 335) B (LM_out0 hLD1) vin01 dL_law_335 ?_
      rw [LM_aJ hLD1]
      refine g_iload (pc := 336) B dL_law_336 0 rfl ?_
      refine g_i2l (pc := 338) B dL_law_338 ?_
      refine g_lcmp (pc := 339) B dL_law_339 ?_
      have hcmp : lg_cmp w bv.toInt64 = 0 := by rw [hw]; exact cmp_self _
      refine g_if_eq (pc := 340) (tgt := 345) B dL_law_340 (by decide) (fun _ => ?_) (fun c9 => absurd hcmp c9)
      refine g_goto (pc := 345) (tgt := 2215) B dL_law_345 (by decide) ?_
      refine g_sub (pc := 2215) [2, 3, 4, 5, 6] rfl ?_
      exact kont X1 (up0 g w) S' hrel1 hLD1
  · refine g_if_eq (pc := 277) (tgt := 284) B dL_law_277 (by decide) (fun c9 => absurd c9 hc_p2) (fun _ => ?_)
    refine g_iconst (pc := 280) B dL_law_280 (1 : Int32) (by decide) ?_
    refine g_goto (pc := 281) (tgt := 285) B dL_law_281 (by decide) ?_
    refine g_aload_n (pc := 285) B dL_law_285 3 rfl ?_
    obtain ⟨r, bv, S', e1, e2, hsem⟩ := sem x X S p1 (1 : Int32) (Or.inr rfl) hrel hfr
    refine l_wrap (pc := 286) (As := [vA (some x), vI p1, vI (1 : Int32), vA (some oa)]) (st := []) B hnc calw_L_turn kmL_123 kz_L_turn hLD (fun l hl => cw_L_turn hl e1 (hrk _ _ _ hrel) hLD.1 (fun v X1 q => by subst q; exact ((semR_ok hsem).2.2.2.2 oa hoa).trans hLD.1) (fun E q => by subst q; exact (semR_ex hsem).1)) rfl (Nat.le_of_ble_eq_true rfl) (by decide) (by decide) hf dL_law_286 rfl (fun E k z hr hk => ?_) (fun w X1 hr => ?_)
    · rw [hr] at hsem
      have hx9 := semR_ex hsem
      have hthr : sc S' 0 = nI (k + 1) := hx9.2.1 k hk
      have hk3 : k < 3 := (List.getElem?_eq_some_iff.mp hk).1
      have hk0 : ¬ nI (k + 1) = 0 := nI_ne0 (by omega) (by omega)
      refine g_istore (pc := 289) (L' := [(5, vI (nI (k + 1))), (0, vA (some b)), (1, vA (some x)), (2, vA (some m)), (3, vA (some oa)), (4, vI i)]) B dL_law_289 (by decide) rfl ?_
      refine g_aload_n (pc := 291) B dL_law_291 3 rfl ?_
      refine g_aload_n (pc := 292) B dL_law_292 1 rfl ?_
      refine g_iload (pc := 293) B dL_law_293 5 rfl ?_
      refine g_iconst (pc := 295) B dL_law_295 (1 : Int32) (by decide) ?_
      refine g_iadd (pc := 296) B dL_law_296 ?_
      refine g_sld (pc := 297) B hs hi1 hp1 dL_law_297 ?_
      refine g_aload_n (pc := 298) B dL_law_298 1 rfl ?_
      refine g_iload (pc := 299) B dL_law_299 5 rfl ?_
      refine g_iconst (pc := 301) B dL_law_301 (2 : Int32) (by decide) ?_
      refine g_iadd (pc := 302) B dL_law_302 ?_
      refine g_sld (pc := 303) B hs hi2 hp2 dL_law_303 ?_
      refine g_if_eq (pc := 304) (tgt := 311) B dL_law_304 (by decide) (fun c9 => absurd c9 hc_p2) (fun _ => ?_)
      refine g_iconst (pc := 307) B dL_law_307 (1 : Int32) (by decide) ?_
      refine g_goto (pc := 308) (tgt := 312) B dL_law_308 (by decide) ?_
      refine l_ref (pc := 312) (As := [vI p1, vI (1 : Int32)]) (st := []) (st10 := [vI bv]) (S' := S') B cal_X12_turn kmL_125 kn_X12_turn ks_X12_turn rfl hLD (fun l hl z => ct_X12_turn hl e2) rfl (Nat.le_of_ble_eq_true rfl) (by decide) (by decide) hf dL_law_312 rfl rfl ?_
      refine g_istore (pc := 315) (L' := [(6, vI bv), (5, vI (nI (k + 1))), (0, vA (some b)), (1, vA (some x)), (2, vA (some m)), (3, vA (some oa)), (4, vI i)]) B dL_law_315 (by decide) rfl ?_
      refine g_aload_n (pc := 317) B dL_law_317 4 rfl ?_
      refine l_ref (pc := 318) (As := []) (st := []) (st10 := [vI (sc S' 0)]) (S' := S') B cal_X12_thrown kmL_120 kn_X12_thrown ks_X12_thrown rfl hLD (fun l hl z => ct_X12_thrown hl (X0 := S') rfl) rfl (Nat.le_of_ble_eq_true rfl) (by decide) (by decide) hf dL_law_318 rfl rfl ?_
      refine g_iload (pc := 321) B dL_law_321 1 rfl ?_
      refine g_icmp_eq (pc := 323) (tgt := 328) B dL_law_323 (by decide) (fun _ => ?_) (fun c9 => absurd hthr c9)
      refine g_iload (pc := 328) B dL_law_328 1 rfl ?_
      refine g_if_ne (pc := 330) (tgt := 345) B dL_law_330 (by decide) (fun _ => ?_) (fun c9 => absurd c9 hk0)
      refine g_goto (pc := 345) (tgt := 2215) B dL_law_345 (by decide) ?_
      refine g_sub (pc := 2215) [2, 3, 4, 5, 6] rfl ?_
      exact kont (zM X z) g S' (hrz _ _ _ _ hx9.2.2) hLD
    · rw [hr] at hsem
      obtain ⟨hthr, hw, hrel1, hkp⟩ := semR_ok hsem
      have hLD1 := hLD.keep hoa hma hkp
      refine g_istore (pc := 289) (L' := [(5, vI 0), (0, vA (some b)), (1, vA (some x)), (2, vA (some m)), (3, vA (some oa)), (4, vI i)]) B dL_law_289 (by decide) rfl ?_
      refine g_aload_n (pc := 291) B dL_law_291 3 rfl ?_
      refine g_aload_n (pc := 292) B dL_law_292 1 rfl ?_
      refine g_iload (pc := 293) B dL_law_293 5 rfl ?_
      refine g_iconst (pc := 295) B dL_law_295 (1 : Int32) (by decide) ?_
      refine g_iadd (pc := 296) B dL_law_296 ?_
      refine g_sld (pc := 297) B hs hi1 hp1 dL_law_297 ?_
      refine g_aload_n (pc := 298) B dL_law_298 1 rfl ?_
      refine g_iload (pc := 299) B dL_law_299 5 rfl ?_
      refine g_iconst (pc := 301) B dL_law_301 (2 : Int32) (by decide) ?_
      refine g_iadd (pc := 302) B dL_law_302 ?_
      refine g_sld (pc := 303) B hs hi2 hp2 dL_law_303 ?_
      refine g_if_eq (pc := 304) (tgt := 311) B dL_law_304 (by decide) (fun c9 => absurd c9 hc_p2) (fun _ => ?_)
      refine g_iconst (pc := 307) B dL_law_307 (1 : Int32) (by decide) ?_
      refine g_goto (pc := 308) (tgt := 312) B dL_law_308 (by decide) ?_
      refine l_ref (pc := 312) (As := [vI p1, vI (1 : Int32)]) (st := []) (st10 := [vI bv]) (S' := S') B cal_X12_turn kmL_125 kn_X12_turn ks_X12_turn rfl hLD1 (fun l hl z => ct_X12_turn hl e2) rfl (Nat.le_of_ble_eq_true rfl) (by decide) (by decide) hf dL_law_312 rfl rfl ?_
      refine g_istore (pc := 315) (L' := [(6, vI bv), (5, vI 0), (0, vA (some b)), (1, vA (some x)), (2, vA (some m)), (3, vA (some oa)), (4, vI i)]) B dL_law_315 (by decide) rfl ?_
      refine g_aload_n (pc := 317) B dL_law_317 4 rfl ?_
      refine l_ref (pc := 318) (As := []) (st := []) (st10 := [vI (sc S' 0)]) (S' := S') B cal_X12_thrown kmL_120 kn_X12_thrown ks_X12_thrown rfl hLD1 (fun l hl z => ct_X12_thrown hl (X0 := S') rfl) rfl (Nat.le_of_ble_eq_true rfl) (by decide) (by decide) hf dL_law_318 rfl rfl ?_
      refine g_iload (pc := 321) B dL_law_321 1 rfl ?_
      refine g_icmp_eq (pc := 323) (tgt := 328) B dL_law_323 (by decide) (fun _ => ?_) (fun c9 => absurd hthr c9)
      refine g_iload (pc := 328) B dL_law_328 1 rfl ?_
      refine g_if_ne (pc := 330) (tgt := 345) B dL_law_330 (by decide) (fun c9 => absurd rfl c9) (fun _ => ?_)
      refine g_aload_n (pc := 333) B dL_law_333 5 rfl ?_
      refine g_iconst (pc := 334) B dL_law_334 (0 : Int32) (by decide) ?_
      refine g_lald (pc := 335) B (LM_out0 hLD1) vin01 dL_law_335 ?_
      rw [LM_aJ hLD1]
      refine g_iload (pc := 336) B dL_law_336 0 rfl ?_
      refine g_i2l (pc := 338) B dL_law_338 ?_
      refine g_lcmp (pc := 339) B dL_law_339 ?_
      have hcmp : lg_cmp w bv.toInt64 = 0 := by rw [hw]; exact cmp_self _
      refine g_if_eq (pc := 340) (tgt := 345) B dL_law_340 (by decide) (fun _ => ?_) (fun c9 => absurd hcmp c9)
      refine g_goto (pc := 345) (tgt := 2215) B dL_law_345 (by decide) ?_
      refine g_sub (pc := 2215) [2, 3, 4, 5, 6] rfl ?_
      exact kont X1 (up0 g w) S' hrel1 hLD1
set_option maxRecDepth 100000 in
set_option maxHeartbeats 4000000 in
theorem lc_pen {D : DD} {ev : EV} {Q : State → Prop} {Rel : Nat → Mem → SM → Prop} {fu b x m oa Ls : Nat} {xs : Nat → Int32} {g : Nat → Int64} {X : Mem} {S : SM} {i : Int32} {p1 : Int32} {cs sl : Nat} (hrz : ∀ x X S z, Rel x X S → Rel x (zM X z) S) (hrk : ∀ x X S, Rel x X S → mK X x = some (11, 0)) (sem : sem_pen Rel fu) (B : Amb D (A0L ev) ev RL "law" cL_law 7 (some .boolean) room_1) (hnc : EvNc ev) (hs : ScrL ev b Ls xs) (hi1 : vp_in (i + (1 : Int32)) Ls) (hp1 : xs (i + (1 : Int32)).toNatClampNeg = p1) (hrel : Rel x X S) (hLD : LD X oa m) (hf : cs + 16 ≤ room_1.cells ∧ sl + 200 ≤ room_1.slots)
    (kont : ∀ (X' : Mem) (g' : Nat → Int64) (S' : SM), Rel x X' S' → LD X' oa m → Gd D (A0L ev) ev Q (LM X' oa g' m S') (cs + 16) (sl + 200) 2215 [(0, vA (some b)), (1, vA (some x)), (2, vA (some m)), (3, vA (some oa)), (4, vI i)] []) : Gd D (A0L ev) ev Q (LM X oa g m S) cs sl 348 [(0, vA (some b)), (1, vA (some x)), (2, vA (some m)), (3, vA (some oa)), (4, vI i)] [] := by
  refine g_dom fun hdm => ?_
  obtain ⟨hfr, hoa, hma⟩ := LM_fresh hLD hdm
  refine g_aload_n (pc := 348) B dL_law_348 1 rfl ?_
  refine g_aload_n (pc := 349) B dL_law_349 0 rfl ?_
  refine g_iload (pc := 350) B dL_law_350 4 rfl ?_
  refine g_iconst (pc := 352) B dL_law_352 (1 : Int32) (by decide) ?_
  refine g_iadd (pc := 353) B dL_law_353 ?_
  refine g_sld (pc := 354) B hs hi1 hp1 dL_law_354 ?_
  by_cases hc_p1 : p1 = 0
  · refine g_if_eq (pc := 355) (tgt := 362) B dL_law_355 (by decide) (fun _ => ?_) (fun c9 => absurd hc_p1 c9)
    refine g_iconst (pc := 362) B dL_law_362 (0 : Int32) (by decide) ?_
    refine g_aload_n (pc := 363) B dL_law_363 3 rfl ?_
    obtain ⟨r, bv, S', e1, e2, hsem⟩ := sem x X S (0 : Int32) (Or.inl rfl) hrel hfr
    refine l_wrap (pc := 364) (As := [vA (some x), vI (0 : Int32), vA (some oa)]) (st := []) B hnc calw_L_pen kmL_126 kz_L_pen hLD (fun l hl => cw_L_pen hl e1 (hrk _ _ _ hrel) hLD.1 (fun v X1 q => by subst q; exact ((semR_ok hsem).2.2.2.2 oa hoa).trans hLD.1) (fun E q => by subst q; exact (semR_ex hsem).1)) rfl (Nat.le_of_ble_eq_true rfl) (by decide) (by decide) hf dL_law_364 rfl (fun E k z hr hk => ?_) (fun w X1 hr => ?_)
    · rw [hr] at hsem
      have hx9 := semR_ex hsem
      have hthr : sc S' 0 = nI (k + 1) := hx9.2.1 k hk
      have hk3 : k < 1 := (List.getElem?_eq_some_iff.mp hk).1
      have hk0 : ¬ nI (k + 1) = 0 := nI_ne0 (by omega) (by omega)
      refine g_istore (pc := 367) (L' := [(5, vI (nI (k + 1))), (0, vA (some b)), (1, vA (some x)), (2, vA (some m)), (3, vA (some oa)), (4, vI i)]) B dL_law_367 (by decide) rfl ?_
      refine g_aload_n (pc := 369) B dL_law_369 3 rfl ?_
      refine g_aload_n (pc := 370) B dL_law_370 1 rfl ?_
      refine g_iload (pc := 371) B dL_law_371 5 rfl ?_
      refine g_iconst (pc := 373) B dL_law_373 (1 : Int32) (by decide) ?_
      refine g_iadd (pc := 374) B dL_law_374 ?_
      refine g_sld (pc := 375) B hs hi1 hp1 dL_law_375 ?_
      refine g_if_eq (pc := 376) (tgt := 383) B dL_law_376 (by decide) (fun _ => ?_) (fun c9 => absurd hc_p1 c9)
      refine g_iconst (pc := 383) B dL_law_383 (0 : Int32) (by decide) ?_
      refine l_ref (pc := 384) (As := [vI (0 : Int32)]) (st := []) (st10 := [vI bv]) (S' := S') B cal_X12_pen kmL_129 kn_X12_pen ks_X12_pen rfl hLD (fun l hl z => ct_X12_pen hl e2) rfl (Nat.le_of_ble_eq_true rfl) (by decide) (by decide) hf dL_law_384 rfl rfl ?_
      refine g_istore (pc := 387) (L' := [(6, vI bv), (5, vI (nI (k + 1))), (0, vA (some b)), (1, vA (some x)), (2, vA (some m)), (3, vA (some oa)), (4, vI i)]) B dL_law_387 (by decide) rfl ?_
      refine g_aload_n (pc := 389) B dL_law_389 4 rfl ?_
      refine l_ref (pc := 390) (As := []) (st := []) (st10 := [vI (sc S' 0)]) (S' := S') B cal_X12_thrown kmL_120 kn_X12_thrown ks_X12_thrown rfl hLD (fun l hl z => ct_X12_thrown hl (X0 := S') rfl) rfl (Nat.le_of_ble_eq_true rfl) (by decide) (by decide) hf dL_law_390 rfl rfl ?_
      refine g_iload (pc := 393) B dL_law_393 1 rfl ?_
      refine g_icmp_eq (pc := 395) (tgt := 400) B dL_law_395 (by decide) (fun _ => ?_) (fun c9 => absurd hthr c9)
      refine g_iload (pc := 400) B dL_law_400 1 rfl ?_
      refine g_if_ne (pc := 402) (tgt := 417) B dL_law_402 (by decide) (fun _ => ?_) (fun c9 => absurd c9 hk0)
      refine g_goto (pc := 417) (tgt := 2215) B dL_law_417 (by decide) ?_
      refine g_sub (pc := 2215) [2, 3, 4, 5, 6] rfl ?_
      exact kont (zM X z) g S' (hrz _ _ _ _ hx9.2.2) hLD
    · rw [hr] at hsem
      obtain ⟨hthr, hw, hrel1, hkp⟩ := semR_ok hsem
      have hLD1 := hLD.keep hoa hma hkp
      refine g_istore (pc := 367) (L' := [(5, vI 0), (0, vA (some b)), (1, vA (some x)), (2, vA (some m)), (3, vA (some oa)), (4, vI i)]) B dL_law_367 (by decide) rfl ?_
      refine g_aload_n (pc := 369) B dL_law_369 3 rfl ?_
      refine g_aload_n (pc := 370) B dL_law_370 1 rfl ?_
      refine g_iload (pc := 371) B dL_law_371 5 rfl ?_
      refine g_iconst (pc := 373) B dL_law_373 (1 : Int32) (by decide) ?_
      refine g_iadd (pc := 374) B dL_law_374 ?_
      refine g_sld (pc := 375) B hs hi1 hp1 dL_law_375 ?_
      refine g_if_eq (pc := 376) (tgt := 383) B dL_law_376 (by decide) (fun _ => ?_) (fun c9 => absurd hc_p1 c9)
      refine g_iconst (pc := 383) B dL_law_383 (0 : Int32) (by decide) ?_
      refine l_ref (pc := 384) (As := [vI (0 : Int32)]) (st := []) (st10 := [vI bv]) (S' := S') B cal_X12_pen kmL_129 kn_X12_pen ks_X12_pen rfl hLD1 (fun l hl z => ct_X12_pen hl e2) rfl (Nat.le_of_ble_eq_true rfl) (by decide) (by decide) hf dL_law_384 rfl rfl ?_
      refine g_istore (pc := 387) (L' := [(6, vI bv), (5, vI 0), (0, vA (some b)), (1, vA (some x)), (2, vA (some m)), (3, vA (some oa)), (4, vI i)]) B dL_law_387 (by decide) rfl ?_
      refine g_aload_n (pc := 389) B dL_law_389 4 rfl ?_
      refine l_ref (pc := 390) (As := []) (st := []) (st10 := [vI (sc S' 0)]) (S' := S') B cal_X12_thrown kmL_120 kn_X12_thrown ks_X12_thrown rfl hLD1 (fun l hl z => ct_X12_thrown hl (X0 := S') rfl) rfl (Nat.le_of_ble_eq_true rfl) (by decide) (by decide) hf dL_law_390 rfl rfl ?_
      refine g_iload (pc := 393) B dL_law_393 1 rfl ?_
      refine g_icmp_eq (pc := 395) (tgt := 400) B dL_law_395 (by decide) (fun _ => ?_) (fun c9 => absurd hthr c9)
      refine g_iload (pc := 400) B dL_law_400 1 rfl ?_
      refine g_if_ne (pc := 402) (tgt := 417) B dL_law_402 (by decide) (fun c9 => absurd rfl c9) (fun _ => ?_)
      refine g_aload_n (pc := 405) B dL_law_405 5 rfl ?_
      refine g_iconst (pc := 406) B dL_law_406 (0 : Int32) (by decide) ?_
      refine g_lald (pc := 407) B (LM_out0 hLD1) vin01 dL_law_407 ?_
      rw [LM_aJ hLD1]
      refine g_iload (pc := 408) B dL_law_408 0 rfl ?_
      refine g_i2l (pc := 410) B dL_law_410 ?_
      refine g_lcmp (pc := 411) B dL_law_411 ?_
      have hcmp : lg_cmp w bv.toInt64 = 0 := by rw [hw]; exact cmp_self _
      refine g_if_eq (pc := 412) (tgt := 417) B dL_law_412 (by decide) (fun _ => ?_) (fun c9 => absurd hcmp c9)
      refine g_goto (pc := 417) (tgt := 2215) B dL_law_417 (by decide) ?_
      refine g_sub (pc := 2215) [2, 3, 4, 5, 6] rfl ?_
      exact kont X1 (up0 g w) S' hrel1 hLD1
  · refine g_if_eq (pc := 355) (tgt := 362) B dL_law_355 (by decide) (fun c9 => absurd c9 hc_p1) (fun _ => ?_)
    refine g_iconst (pc := 358) B dL_law_358 (1 : Int32) (by decide) ?_
    refine g_goto (pc := 359) (tgt := 363) B dL_law_359 (by decide) ?_
    refine g_aload_n (pc := 363) B dL_law_363 3 rfl ?_
    obtain ⟨r, bv, S', e1, e2, hsem⟩ := sem x X S (1 : Int32) (Or.inr rfl) hrel hfr
    refine l_wrap (pc := 364) (As := [vA (some x), vI (1 : Int32), vA (some oa)]) (st := []) B hnc calw_L_pen kmL_126 kz_L_pen hLD (fun l hl => cw_L_pen hl e1 (hrk _ _ _ hrel) hLD.1 (fun v X1 q => by subst q; exact ((semR_ok hsem).2.2.2.2 oa hoa).trans hLD.1) (fun E q => by subst q; exact (semR_ex hsem).1)) rfl (Nat.le_of_ble_eq_true rfl) (by decide) (by decide) hf dL_law_364 rfl (fun E k z hr hk => ?_) (fun w X1 hr => ?_)
    · rw [hr] at hsem
      have hx9 := semR_ex hsem
      have hthr : sc S' 0 = nI (k + 1) := hx9.2.1 k hk
      have hk3 : k < 1 := (List.getElem?_eq_some_iff.mp hk).1
      have hk0 : ¬ nI (k + 1) = 0 := nI_ne0 (by omega) (by omega)
      refine g_istore (pc := 367) (L' := [(5, vI (nI (k + 1))), (0, vA (some b)), (1, vA (some x)), (2, vA (some m)), (3, vA (some oa)), (4, vI i)]) B dL_law_367 (by decide) rfl ?_
      refine g_aload_n (pc := 369) B dL_law_369 3 rfl ?_
      refine g_aload_n (pc := 370) B dL_law_370 1 rfl ?_
      refine g_iload (pc := 371) B dL_law_371 5 rfl ?_
      refine g_iconst (pc := 373) B dL_law_373 (1 : Int32) (by decide) ?_
      refine g_iadd (pc := 374) B dL_law_374 ?_
      refine g_sld (pc := 375) B hs hi1 hp1 dL_law_375 ?_
      refine g_if_eq (pc := 376) (tgt := 383) B dL_law_376 (by decide) (fun c9 => absurd c9 hc_p1) (fun _ => ?_)
      refine g_iconst (pc := 379) B dL_law_379 (1 : Int32) (by decide) ?_
      refine g_goto (pc := 380) (tgt := 384) B dL_law_380 (by decide) ?_
      refine l_ref (pc := 384) (As := [vI (1 : Int32)]) (st := []) (st10 := [vI bv]) (S' := S') B cal_X12_pen kmL_129 kn_X12_pen ks_X12_pen rfl hLD (fun l hl z => ct_X12_pen hl e2) rfl (Nat.le_of_ble_eq_true rfl) (by decide) (by decide) hf dL_law_384 rfl rfl ?_
      refine g_istore (pc := 387) (L' := [(6, vI bv), (5, vI (nI (k + 1))), (0, vA (some b)), (1, vA (some x)), (2, vA (some m)), (3, vA (some oa)), (4, vI i)]) B dL_law_387 (by decide) rfl ?_
      refine g_aload_n (pc := 389) B dL_law_389 4 rfl ?_
      refine l_ref (pc := 390) (As := []) (st := []) (st10 := [vI (sc S' 0)]) (S' := S') B cal_X12_thrown kmL_120 kn_X12_thrown ks_X12_thrown rfl hLD (fun l hl z => ct_X12_thrown hl (X0 := S') rfl) rfl (Nat.le_of_ble_eq_true rfl) (by decide) (by decide) hf dL_law_390 rfl rfl ?_
      refine g_iload (pc := 393) B dL_law_393 1 rfl ?_
      refine g_icmp_eq (pc := 395) (tgt := 400) B dL_law_395 (by decide) (fun _ => ?_) (fun c9 => absurd hthr c9)
      refine g_iload (pc := 400) B dL_law_400 1 rfl ?_
      refine g_if_ne (pc := 402) (tgt := 417) B dL_law_402 (by decide) (fun _ => ?_) (fun c9 => absurd c9 hk0)
      refine g_goto (pc := 417) (tgt := 2215) B dL_law_417 (by decide) ?_
      refine g_sub (pc := 2215) [2, 3, 4, 5, 6] rfl ?_
      exact kont (zM X z) g S' (hrz _ _ _ _ hx9.2.2) hLD
    · rw [hr] at hsem
      obtain ⟨hthr, hw, hrel1, hkp⟩ := semR_ok hsem
      have hLD1 := hLD.keep hoa hma hkp
      refine g_istore (pc := 367) (L' := [(5, vI 0), (0, vA (some b)), (1, vA (some x)), (2, vA (some m)), (3, vA (some oa)), (4, vI i)]) B dL_law_367 (by decide) rfl ?_
      refine g_aload_n (pc := 369) B dL_law_369 3 rfl ?_
      refine g_aload_n (pc := 370) B dL_law_370 1 rfl ?_
      refine g_iload (pc := 371) B dL_law_371 5 rfl ?_
      refine g_iconst (pc := 373) B dL_law_373 (1 : Int32) (by decide) ?_
      refine g_iadd (pc := 374) B dL_law_374 ?_
      refine g_sld (pc := 375) B hs hi1 hp1 dL_law_375 ?_
      refine g_if_eq (pc := 376) (tgt := 383) B dL_law_376 (by decide) (fun c9 => absurd c9 hc_p1) (fun _ => ?_)
      refine g_iconst (pc := 379) B dL_law_379 (1 : Int32) (by decide) ?_
      refine g_goto (pc := 380) (tgt := 384) B dL_law_380 (by decide) ?_
      refine l_ref (pc := 384) (As := [vI (1 : Int32)]) (st := []) (st10 := [vI bv]) (S' := S') B cal_X12_pen kmL_129 kn_X12_pen ks_X12_pen rfl hLD1 (fun l hl z => ct_X12_pen hl e2) rfl (Nat.le_of_ble_eq_true rfl) (by decide) (by decide) hf dL_law_384 rfl rfl ?_
      refine g_istore (pc := 387) (L' := [(6, vI bv), (5, vI 0), (0, vA (some b)), (1, vA (some x)), (2, vA (some m)), (3, vA (some oa)), (4, vI i)]) B dL_law_387 (by decide) rfl ?_
      refine g_aload_n (pc := 389) B dL_law_389 4 rfl ?_
      refine l_ref (pc := 390) (As := []) (st := []) (st10 := [vI (sc S' 0)]) (S' := S') B cal_X12_thrown kmL_120 kn_X12_thrown ks_X12_thrown rfl hLD1 (fun l hl z => ct_X12_thrown hl (X0 := S') rfl) rfl (Nat.le_of_ble_eq_true rfl) (by decide) (by decide) hf dL_law_390 rfl rfl ?_
      refine g_iload (pc := 393) B dL_law_393 1 rfl ?_
      refine g_icmp_eq (pc := 395) (tgt := 400) B dL_law_395 (by decide) (fun _ => ?_) (fun c9 => absurd hthr c9)
      refine g_iload (pc := 400) B dL_law_400 1 rfl ?_
      refine g_if_ne (pc := 402) (tgt := 417) B dL_law_402 (by decide) (fun c9 => absurd rfl c9) (fun _ => ?_)
      refine g_aload_n (pc := 405) B dL_law_405 5 rfl ?_
      refine g_iconst (pc := 406) B dL_law_406 (0 : Int32) (by decide) ?_
      refine g_lald (pc := 407) B (LM_out0 hLD1) vin01 dL_law_407 ?_
      rw [LM_aJ hLD1]
      refine g_iload (pc := 408) B dL_law_408 0 rfl ?_
      refine g_i2l (pc := 410) B dL_law_410 ?_
      refine g_lcmp (pc := 411) B dL_law_411 ?_
      have hcmp : lg_cmp w bv.toInt64 = 0 := by rw [hw]; exact cmp_self _
      refine g_if_eq (pc := 412) (tgt := 417) B dL_law_412 (by decide) (fun _ => ?_) (fun c9 => absurd hcmp c9)
      refine g_goto (pc := 417) (tgt := 2215) B dL_law_417 (by decide) ?_
      refine g_sub (pc := 2215) [2, 3, 4, 5, 6] rfl ?_
      exact kont X1 (up0 g w) S' hrel1 hLD1
set_option maxRecDepth 100000 in
set_option maxHeartbeats 4000000 in
theorem lc_set {D : DD} {ev : EV} {Q : State → Prop} {Rel : Nat → Mem → SM → Prop} {fu b x m oa Ls : Nat} {xs : Nat → Int32} {g : Nat → Int64} {X : Mem} {S : SM} {i : Int32} {p1 : Int32} {p2 : Int32} {p3 : Int32} {cs sl : Nat} (hrz : ∀ x X S z, Rel x X S → Rel x (zM X z) S) (hrk : ∀ x X S, Rel x X S → mK X x = some (11, 0)) (sem : sem_set Rel fu) (B : Amb D (A0L ev) ev RL "law" cL_law 7 (some .boolean) room_1) (hnc : EvNc ev) (hs : ScrL ev b Ls xs) (hi1 : vp_in (i + (1 : Int32)) Ls) (hi2 : vp_in (i + (2 : Int32)) Ls) (hi3 : vp_in (i + (3 : Int32)) Ls) (hp1 : xs (i + (1 : Int32)).toNatClampNeg = p1) (hp2 : xs (i + (2 : Int32)).toNatClampNeg = p2) (hp3 : xs (i + (3 : Int32)).toNatClampNeg = p3) (hrel : Rel x X S) (hLD : LD X oa m) (hf : cs + 16 ≤ room_1.cells ∧ sl + 200 ≤ room_1.slots)
    (kont : ∀ (X' : Mem) (g' : Nat → Int64) (S' : SM), Rel x X' S' → LD X' oa m → Gd D (A0L ev) ev Q (LM X' oa g' m S') (cs + 16) (sl + 200) 2215 [(0, vA (some b)), (1, vA (some x)), (2, vA (some m)), (3, vA (some oa)), (4, vI i)] []) : Gd D (A0L ev) ev Q (LM X oa g m S) cs sl 420 [(0, vA (some b)), (1, vA (some x)), (2, vA (some m)), (3, vA (some oa)), (4, vI i)] [] := by
  refine g_dom fun hdm => ?_
  obtain ⟨hfr, hoa, hma⟩ := LM_fresh hLD hdm
  refine g_aload_n (pc := 420) B dL_law_420 1 rfl ?_
  refine g_aload_n (pc := 421) B dL_law_421 0 rfl ?_
  refine g_iload (pc := 422) B dL_law_422 4 rfl ?_
  refine g_iconst (pc := 424) B dL_law_424 (1 : Int32) (by decide) ?_
  refine g_iadd (pc := 425) B dL_law_425 ?_
  refine g_sld (pc := 426) B hs hi1 hp1 dL_law_426 ?_
  refine g_aload_n (pc := 427) B dL_law_427 0 rfl ?_
  refine g_iload (pc := 428) B dL_law_428 4 rfl ?_
  refine g_iconst (pc := 430) B dL_law_430 (2 : Int32) (by decide) ?_
  refine g_iadd (pc := 431) B dL_law_431 ?_
  refine g_sld (pc := 432) B hs hi2 hp2 dL_law_432 ?_
  refine g_aload_n (pc := 433) B dL_law_433 0 rfl ?_
  refine g_iload (pc := 434) B dL_law_434 4 rfl ?_
  refine g_iconst (pc := 436) B dL_law_436 (3 : Int32) (by decide) ?_
  refine g_iadd (pc := 437) B dL_law_437 ?_
  refine g_sld (pc := 438) B hs hi3 hp3 dL_law_438 ?_
  by_cases hc_p3 : p3 = 0
  · refine g_if_eq (pc := 439) (tgt := 446) B dL_law_439 (by decide) (fun _ => ?_) (fun c9 => absurd hc_p3 c9)
    refine g_iconst (pc := 446) B dL_law_446 (0 : Int32) (by decide) ?_
    refine g_aload_n (pc := 447) B dL_law_447 3 rfl ?_
    obtain ⟨r, bv, S', e1, e2, hsem⟩ := sem x X S p1 p2 (0 : Int32) (Or.inl rfl) hrel hfr
    refine l_wrap (pc := 448) (As := [vA (some x), vI p1, vI p2, vI (0 : Int32), vA (some oa)]) (st := []) B hnc calw_L_set kmL_130 kz_L_set hLD (fun l hl => cw_L_set hl e1 (hrk _ _ _ hrel) hLD.1 (fun v X1 q => by subst q; exact ((semR_ok hsem).2.2.2.2 oa hoa).trans hLD.1) (fun E q => by subst q; exact (semR_ex hsem).1)) rfl (Nat.le_of_ble_eq_true rfl) (by decide) (by decide) hf dL_law_448 rfl (fun E k z hr hk => ?_) (fun w X1 hr => ?_)
    · rw [hr] at hsem
      have hx9 := semR_ex hsem
      have hthr : sc S' 0 = nI (k + 1) := hx9.2.1 k hk
      have hk3 : k < 3 := (List.getElem?_eq_some_iff.mp hk).1
      have hk0 : ¬ nI (k + 1) = 0 := nI_ne0 (by omega) (by omega)
      refine g_istore (pc := 451) (L' := [(5, vI (nI (k + 1))), (0, vA (some b)), (1, vA (some x)), (2, vA (some m)), (3, vA (some oa)), (4, vI i)]) B dL_law_451 (by decide) rfl ?_
      refine g_aload_n (pc := 453) B dL_law_453 3 rfl ?_
      refine g_aload_n (pc := 454) B dL_law_454 1 rfl ?_
      refine g_iload (pc := 455) B dL_law_455 5 rfl ?_
      refine g_iconst (pc := 457) B dL_law_457 (1 : Int32) (by decide) ?_
      refine g_iadd (pc := 458) B dL_law_458 ?_
      refine g_sld (pc := 459) B hs hi1 hp1 dL_law_459 ?_
      refine g_aload_n (pc := 460) B dL_law_460 1 rfl ?_
      refine g_iload (pc := 461) B dL_law_461 5 rfl ?_
      refine g_iconst (pc := 463) B dL_law_463 (2 : Int32) (by decide) ?_
      refine g_iadd (pc := 464) B dL_law_464 ?_
      refine g_sld (pc := 465) B hs hi2 hp2 dL_law_465 ?_
      refine g_aload_n (pc := 466) B dL_law_466 1 rfl ?_
      refine g_iload (pc := 467) B dL_law_467 5 rfl ?_
      refine g_iconst (pc := 469) B dL_law_469 (3 : Int32) (by decide) ?_
      refine g_iadd (pc := 470) B dL_law_470 ?_
      refine g_sld (pc := 471) B hs hi3 hp3 dL_law_471 ?_
      refine g_if_eq (pc := 472) (tgt := 479) B dL_law_472 (by decide) (fun _ => ?_) (fun c9 => absurd hc_p3 c9)
      refine g_iconst (pc := 479) B dL_law_479 (0 : Int32) (by decide) ?_
      refine l_ref (pc := 480) (As := [vI p1, vI p2, vI (0 : Int32)]) (st := []) (st10 := [vI bv]) (S' := S') B cal_X12_set kmL_133 kn_X12_set ks_X12_set rfl hLD (fun l hl z => ct_X12_set hl e2) rfl (Nat.le_of_ble_eq_true rfl) (by decide) (by decide) hf dL_law_480 rfl rfl ?_
      refine g_istore (pc := 483) (L' := [(6, vI bv), (5, vI (nI (k + 1))), (0, vA (some b)), (1, vA (some x)), (2, vA (some m)), (3, vA (some oa)), (4, vI i)]) B dL_law_483 (by decide) rfl ?_
      refine g_aload_n (pc := 485) B dL_law_485 4 rfl ?_
      refine l_ref (pc := 486) (As := []) (st := []) (st10 := [vI (sc S' 0)]) (S' := S') B cal_X12_thrown kmL_120 kn_X12_thrown ks_X12_thrown rfl hLD (fun l hl z => ct_X12_thrown hl (X0 := S') rfl) rfl (Nat.le_of_ble_eq_true rfl) (by decide) (by decide) hf dL_law_486 rfl rfl ?_
      refine g_iload (pc := 489) B dL_law_489 1 rfl ?_
      refine g_icmp_eq (pc := 491) (tgt := 496) B dL_law_491 (by decide) (fun _ => ?_) (fun c9 => absurd hthr c9)
      refine g_iload (pc := 496) B dL_law_496 1 rfl ?_
      refine g_if_ne (pc := 498) (tgt := 513) B dL_law_498 (by decide) (fun _ => ?_) (fun c9 => absurd c9 hk0)
      refine g_goto (pc := 513) (tgt := 2215) B dL_law_513 (by decide) ?_
      refine g_sub (pc := 2215) [2, 3, 4, 5, 6] rfl ?_
      exact kont (zM X z) g S' (hrz _ _ _ _ hx9.2.2) hLD
    · rw [hr] at hsem
      obtain ⟨hthr, hw, hrel1, hkp⟩ := semR_ok hsem
      have hLD1 := hLD.keep hoa hma hkp
      refine g_istore (pc := 451) (L' := [(5, vI 0), (0, vA (some b)), (1, vA (some x)), (2, vA (some m)), (3, vA (some oa)), (4, vI i)]) B dL_law_451 (by decide) rfl ?_
      refine g_aload_n (pc := 453) B dL_law_453 3 rfl ?_
      refine g_aload_n (pc := 454) B dL_law_454 1 rfl ?_
      refine g_iload (pc := 455) B dL_law_455 5 rfl ?_
      refine g_iconst (pc := 457) B dL_law_457 (1 : Int32) (by decide) ?_
      refine g_iadd (pc := 458) B dL_law_458 ?_
      refine g_sld (pc := 459) B hs hi1 hp1 dL_law_459 ?_
      refine g_aload_n (pc := 460) B dL_law_460 1 rfl ?_
      refine g_iload (pc := 461) B dL_law_461 5 rfl ?_
      refine g_iconst (pc := 463) B dL_law_463 (2 : Int32) (by decide) ?_
      refine g_iadd (pc := 464) B dL_law_464 ?_
      refine g_sld (pc := 465) B hs hi2 hp2 dL_law_465 ?_
      refine g_aload_n (pc := 466) B dL_law_466 1 rfl ?_
      refine g_iload (pc := 467) B dL_law_467 5 rfl ?_
      refine g_iconst (pc := 469) B dL_law_469 (3 : Int32) (by decide) ?_
      refine g_iadd (pc := 470) B dL_law_470 ?_
      refine g_sld (pc := 471) B hs hi3 hp3 dL_law_471 ?_
      refine g_if_eq (pc := 472) (tgt := 479) B dL_law_472 (by decide) (fun _ => ?_) (fun c9 => absurd hc_p3 c9)
      refine g_iconst (pc := 479) B dL_law_479 (0 : Int32) (by decide) ?_
      refine l_ref (pc := 480) (As := [vI p1, vI p2, vI (0 : Int32)]) (st := []) (st10 := [vI bv]) (S' := S') B cal_X12_set kmL_133 kn_X12_set ks_X12_set rfl hLD1 (fun l hl z => ct_X12_set hl e2) rfl (Nat.le_of_ble_eq_true rfl) (by decide) (by decide) hf dL_law_480 rfl rfl ?_
      refine g_istore (pc := 483) (L' := [(6, vI bv), (5, vI 0), (0, vA (some b)), (1, vA (some x)), (2, vA (some m)), (3, vA (some oa)), (4, vI i)]) B dL_law_483 (by decide) rfl ?_
      refine g_aload_n (pc := 485) B dL_law_485 4 rfl ?_
      refine l_ref (pc := 486) (As := []) (st := []) (st10 := [vI (sc S' 0)]) (S' := S') B cal_X12_thrown kmL_120 kn_X12_thrown ks_X12_thrown rfl hLD1 (fun l hl z => ct_X12_thrown hl (X0 := S') rfl) rfl (Nat.le_of_ble_eq_true rfl) (by decide) (by decide) hf dL_law_486 rfl rfl ?_
      refine g_iload (pc := 489) B dL_law_489 1 rfl ?_
      refine g_icmp_eq (pc := 491) (tgt := 496) B dL_law_491 (by decide) (fun _ => ?_) (fun c9 => absurd hthr c9)
      refine g_iload (pc := 496) B dL_law_496 1 rfl ?_
      refine g_if_ne (pc := 498) (tgt := 513) B dL_law_498 (by decide) (fun c9 => absurd rfl c9) (fun _ => ?_)
      refine g_aload_n (pc := 501) B dL_law_501 5 rfl ?_
      refine g_iconst (pc := 502) B dL_law_502 (0 : Int32) (by decide) ?_
      refine g_lald (pc := 503) B (LM_out0 hLD1) vin01 dL_law_503 ?_
      rw [LM_aJ hLD1]
      refine g_iload (pc := 504) B dL_law_504 0 rfl ?_
      refine g_i2l (pc := 506) B dL_law_506 ?_
      refine g_lcmp (pc := 507) B dL_law_507 ?_
      have hcmp : lg_cmp w bv.toInt64 = 0 := by rw [hw]; exact cmp_self _
      refine g_if_eq (pc := 508) (tgt := 513) B dL_law_508 (by decide) (fun _ => ?_) (fun c9 => absurd hcmp c9)
      refine g_goto (pc := 513) (tgt := 2215) B dL_law_513 (by decide) ?_
      refine g_sub (pc := 2215) [2, 3, 4, 5, 6] rfl ?_
      exact kont X1 (up0 g w) S' hrel1 hLD1
  · refine g_if_eq (pc := 439) (tgt := 446) B dL_law_439 (by decide) (fun c9 => absurd c9 hc_p3) (fun _ => ?_)
    refine g_iconst (pc := 442) B dL_law_442 (1 : Int32) (by decide) ?_
    refine g_goto (pc := 443) (tgt := 447) B dL_law_443 (by decide) ?_
    refine g_aload_n (pc := 447) B dL_law_447 3 rfl ?_
    obtain ⟨r, bv, S', e1, e2, hsem⟩ := sem x X S p1 p2 (1 : Int32) (Or.inr rfl) hrel hfr
    refine l_wrap (pc := 448) (As := [vA (some x), vI p1, vI p2, vI (1 : Int32), vA (some oa)]) (st := []) B hnc calw_L_set kmL_130 kz_L_set hLD (fun l hl => cw_L_set hl e1 (hrk _ _ _ hrel) hLD.1 (fun v X1 q => by subst q; exact ((semR_ok hsem).2.2.2.2 oa hoa).trans hLD.1) (fun E q => by subst q; exact (semR_ex hsem).1)) rfl (Nat.le_of_ble_eq_true rfl) (by decide) (by decide) hf dL_law_448 rfl (fun E k z hr hk => ?_) (fun w X1 hr => ?_)
    · rw [hr] at hsem
      have hx9 := semR_ex hsem
      have hthr : sc S' 0 = nI (k + 1) := hx9.2.1 k hk
      have hk3 : k < 3 := (List.getElem?_eq_some_iff.mp hk).1
      have hk0 : ¬ nI (k + 1) = 0 := nI_ne0 (by omega) (by omega)
      refine g_istore (pc := 451) (L' := [(5, vI (nI (k + 1))), (0, vA (some b)), (1, vA (some x)), (2, vA (some m)), (3, vA (some oa)), (4, vI i)]) B dL_law_451 (by decide) rfl ?_
      refine g_aload_n (pc := 453) B dL_law_453 3 rfl ?_
      refine g_aload_n (pc := 454) B dL_law_454 1 rfl ?_
      refine g_iload (pc := 455) B dL_law_455 5 rfl ?_
      refine g_iconst (pc := 457) B dL_law_457 (1 : Int32) (by decide) ?_
      refine g_iadd (pc := 458) B dL_law_458 ?_
      refine g_sld (pc := 459) B hs hi1 hp1 dL_law_459 ?_
      refine g_aload_n (pc := 460) B dL_law_460 1 rfl ?_
      refine g_iload (pc := 461) B dL_law_461 5 rfl ?_
      refine g_iconst (pc := 463) B dL_law_463 (2 : Int32) (by decide) ?_
      refine g_iadd (pc := 464) B dL_law_464 ?_
      refine g_sld (pc := 465) B hs hi2 hp2 dL_law_465 ?_
      refine g_aload_n (pc := 466) B dL_law_466 1 rfl ?_
      refine g_iload (pc := 467) B dL_law_467 5 rfl ?_
      refine g_iconst (pc := 469) B dL_law_469 (3 : Int32) (by decide) ?_
      refine g_iadd (pc := 470) B dL_law_470 ?_
      refine g_sld (pc := 471) B hs hi3 hp3 dL_law_471 ?_
      refine g_if_eq (pc := 472) (tgt := 479) B dL_law_472 (by decide) (fun c9 => absurd c9 hc_p3) (fun _ => ?_)
      refine g_iconst (pc := 475) B dL_law_475 (1 : Int32) (by decide) ?_
      refine g_goto (pc := 476) (tgt := 480) B dL_law_476 (by decide) ?_
      refine l_ref (pc := 480) (As := [vI p1, vI p2, vI (1 : Int32)]) (st := []) (st10 := [vI bv]) (S' := S') B cal_X12_set kmL_133 kn_X12_set ks_X12_set rfl hLD (fun l hl z => ct_X12_set hl e2) rfl (Nat.le_of_ble_eq_true rfl) (by decide) (by decide) hf dL_law_480 rfl rfl ?_
      refine g_istore (pc := 483) (L' := [(6, vI bv), (5, vI (nI (k + 1))), (0, vA (some b)), (1, vA (some x)), (2, vA (some m)), (3, vA (some oa)), (4, vI i)]) B dL_law_483 (by decide) rfl ?_
      refine g_aload_n (pc := 485) B dL_law_485 4 rfl ?_
      refine l_ref (pc := 486) (As := []) (st := []) (st10 := [vI (sc S' 0)]) (S' := S') B cal_X12_thrown kmL_120 kn_X12_thrown ks_X12_thrown rfl hLD (fun l hl z => ct_X12_thrown hl (X0 := S') rfl) rfl (Nat.le_of_ble_eq_true rfl) (by decide) (by decide) hf dL_law_486 rfl rfl ?_
      refine g_iload (pc := 489) B dL_law_489 1 rfl ?_
      refine g_icmp_eq (pc := 491) (tgt := 496) B dL_law_491 (by decide) (fun _ => ?_) (fun c9 => absurd hthr c9)
      refine g_iload (pc := 496) B dL_law_496 1 rfl ?_
      refine g_if_ne (pc := 498) (tgt := 513) B dL_law_498 (by decide) (fun _ => ?_) (fun c9 => absurd c9 hk0)
      refine g_goto (pc := 513) (tgt := 2215) B dL_law_513 (by decide) ?_
      refine g_sub (pc := 2215) [2, 3, 4, 5, 6] rfl ?_
      exact kont (zM X z) g S' (hrz _ _ _ _ hx9.2.2) hLD
    · rw [hr] at hsem
      obtain ⟨hthr, hw, hrel1, hkp⟩ := semR_ok hsem
      have hLD1 := hLD.keep hoa hma hkp
      refine g_istore (pc := 451) (L' := [(5, vI 0), (0, vA (some b)), (1, vA (some x)), (2, vA (some m)), (3, vA (some oa)), (4, vI i)]) B dL_law_451 (by decide) rfl ?_
      refine g_aload_n (pc := 453) B dL_law_453 3 rfl ?_
      refine g_aload_n (pc := 454) B dL_law_454 1 rfl ?_
      refine g_iload (pc := 455) B dL_law_455 5 rfl ?_
      refine g_iconst (pc := 457) B dL_law_457 (1 : Int32) (by decide) ?_
      refine g_iadd (pc := 458) B dL_law_458 ?_
      refine g_sld (pc := 459) B hs hi1 hp1 dL_law_459 ?_
      refine g_aload_n (pc := 460) B dL_law_460 1 rfl ?_
      refine g_iload (pc := 461) B dL_law_461 5 rfl ?_
      refine g_iconst (pc := 463) B dL_law_463 (2 : Int32) (by decide) ?_
      refine g_iadd (pc := 464) B dL_law_464 ?_
      refine g_sld (pc := 465) B hs hi2 hp2 dL_law_465 ?_
      refine g_aload_n (pc := 466) B dL_law_466 1 rfl ?_
      refine g_iload (pc := 467) B dL_law_467 5 rfl ?_
      refine g_iconst (pc := 469) B dL_law_469 (3 : Int32) (by decide) ?_
      refine g_iadd (pc := 470) B dL_law_470 ?_
      refine g_sld (pc := 471) B hs hi3 hp3 dL_law_471 ?_
      refine g_if_eq (pc := 472) (tgt := 479) B dL_law_472 (by decide) (fun c9 => absurd c9 hc_p3) (fun _ => ?_)
      refine g_iconst (pc := 475) B dL_law_475 (1 : Int32) (by decide) ?_
      refine g_goto (pc := 476) (tgt := 480) B dL_law_476 (by decide) ?_
      refine l_ref (pc := 480) (As := [vI p1, vI p2, vI (1 : Int32)]) (st := []) (st10 := [vI bv]) (S' := S') B cal_X12_set kmL_133 kn_X12_set ks_X12_set rfl hLD1 (fun l hl z => ct_X12_set hl e2) rfl (Nat.le_of_ble_eq_true rfl) (by decide) (by decide) hf dL_law_480 rfl rfl ?_
      refine g_istore (pc := 483) (L' := [(6, vI bv), (5, vI 0), (0, vA (some b)), (1, vA (some x)), (2, vA (some m)), (3, vA (some oa)), (4, vI i)]) B dL_law_483 (by decide) rfl ?_
      refine g_aload_n (pc := 485) B dL_law_485 4 rfl ?_
      refine l_ref (pc := 486) (As := []) (st := []) (st10 := [vI (sc S' 0)]) (S' := S') B cal_X12_thrown kmL_120 kn_X12_thrown ks_X12_thrown rfl hLD1 (fun l hl z => ct_X12_thrown hl (X0 := S') rfl) rfl (Nat.le_of_ble_eq_true rfl) (by decide) (by decide) hf dL_law_486 rfl rfl ?_
      refine g_iload (pc := 489) B dL_law_489 1 rfl ?_
      refine g_icmp_eq (pc := 491) (tgt := 496) B dL_law_491 (by decide) (fun _ => ?_) (fun c9 => absurd hthr c9)
      refine g_iload (pc := 496) B dL_law_496 1 rfl ?_
      refine g_if_ne (pc := 498) (tgt := 513) B dL_law_498 (by decide) (fun c9 => absurd rfl c9) (fun _ => ?_)
      refine g_aload_n (pc := 501) B dL_law_501 5 rfl ?_
      refine g_iconst (pc := 502) B dL_law_502 (0 : Int32) (by decide) ?_
      refine g_lald (pc := 503) B (LM_out0 hLD1) vin01 dL_law_503 ?_
      rw [LM_aJ hLD1]
      refine g_iload (pc := 504) B dL_law_504 0 rfl ?_
      refine g_i2l (pc := 506) B dL_law_506 ?_
      refine g_lcmp (pc := 507) B dL_law_507 ?_
      have hcmp : lg_cmp w bv.toInt64 = 0 := by rw [hw]; exact cmp_self _
      refine g_if_eq (pc := 508) (tgt := 513) B dL_law_508 (by decide) (fun _ => ?_) (fun c9 => absurd hcmp c9)
      refine g_goto (pc := 513) (tgt := 2215) B dL_law_513 (by decide) ?_
      refine g_sub (pc := 2215) [2, 3, 4, 5, 6] rfl ?_
      exact kont X1 (up0 g w) S' hrel1 hLD1
set_option maxRecDepth 100000 in
set_option maxHeartbeats 4000000 in
theorem lc_add {D : DD} {ev : EV} {Q : State → Prop} {Rel : Nat → Mem → SM → Prop} {fu b x m oa Ls : Nat} {xs : Nat → Int32} {g : Nat → Int64} {X : Mem} {S : SM} {i : Int32} {p1 : Int32} {p2 : Int32} {p3 : Int32} {cs sl : Nat} (hrz : ∀ x X S z, Rel x X S → Rel x (zM X z) S) (hrk : ∀ x X S, Rel x X S → mK X x = some (11, 0)) (sem : sem_add Rel fu) (B : Amb D (A0L ev) ev RL "law" cL_law 7 (some .boolean) room_1) (hnc : EvNc ev) (hs : ScrL ev b Ls xs) (hi1 : vp_in (i + (1 : Int32)) Ls) (hi2 : vp_in (i + (2 : Int32)) Ls) (hi3 : vp_in (i + (3 : Int32)) Ls) (hp1 : xs (i + (1 : Int32)).toNatClampNeg = p1) (hp2 : xs (i + (2 : Int32)).toNatClampNeg = p2) (hp3 : xs (i + (3 : Int32)).toNatClampNeg = p3) (hrel : Rel x X S) (hLD : LD X oa m) (hf : cs + 16 ≤ room_1.cells ∧ sl + 200 ≤ room_1.slots)
    (kont : ∀ (X' : Mem) (g' : Nat → Int64) (S' : SM), Rel x X' S' → LD X' oa m → Gd D (A0L ev) ev Q (LM X' oa g' m S') (cs + 16) (sl + 200) 2215 [(0, vA (some b)), (1, vA (some x)), (2, vA (some m)), (3, vA (some oa)), (4, vI i)] []) : Gd D (A0L ev) ev Q (LM X oa g m S) cs sl 516 [(0, vA (some b)), (1, vA (some x)), (2, vA (some m)), (3, vA (some oa)), (4, vI i)] [] := by
  refine g_dom fun hdm => ?_
  obtain ⟨hfr, hoa, hma⟩ := LM_fresh hLD hdm
  refine g_aload_n (pc := 516) B dL_law_516 1 rfl ?_
  refine g_aload_n (pc := 517) B dL_law_517 0 rfl ?_
  refine g_iload (pc := 518) B dL_law_518 4 rfl ?_
  refine g_iconst (pc := 520) B dL_law_520 (1 : Int32) (by decide) ?_
  refine g_iadd (pc := 521) B dL_law_521 ?_
  refine g_sld (pc := 522) B hs hi1 hp1 dL_law_522 ?_
  refine g_aload_n (pc := 523) B dL_law_523 0 rfl ?_
  refine g_iload (pc := 524) B dL_law_524 4 rfl ?_
  refine g_iconst (pc := 526) B dL_law_526 (2 : Int32) (by decide) ?_
  refine g_iadd (pc := 527) B dL_law_527 ?_
  refine g_sld (pc := 528) B hs hi2 hp2 dL_law_528 ?_
  refine g_aload_n (pc := 529) B dL_law_529 0 rfl ?_
  refine g_iload (pc := 530) B dL_law_530 4 rfl ?_
  refine g_iconst (pc := 532) B dL_law_532 (3 : Int32) (by decide) ?_
  refine g_iadd (pc := 533) B dL_law_533 ?_
  refine g_sld (pc := 534) B hs hi3 hp3 dL_law_534 ?_
  by_cases hc_p3 : p3 = 0
  · refine g_if_eq (pc := 535) (tgt := 542) B dL_law_535 (by decide) (fun _ => ?_) (fun c9 => absurd hc_p3 c9)
    refine g_iconst (pc := 542) B dL_law_542 (0 : Int32) (by decide) ?_
    refine g_aload_n (pc := 543) B dL_law_543 3 rfl ?_
    obtain ⟨r, bv, S', e1, e2, hsem⟩ := sem x X S p1 p2 (0 : Int32) (Or.inl rfl) hrel hfr
    refine l_wrap (pc := 544) (As := [vA (some x), vI p1, vI p2, vI (0 : Int32), vA (some oa)]) (st := []) B hnc calw_L_add kmL_134 kz_L_add hLD (fun l hl => cw_L_add hl e1 (hrk _ _ _ hrel) hLD.1 (fun v X1 q => by subst q; exact ((semR_ok hsem).2.2.2.2 oa hoa).trans hLD.1) (fun E q => by subst q; exact (semR_ex hsem).1)) rfl (Nat.le_of_ble_eq_true rfl) (by decide) (by decide) hf dL_law_544 rfl (fun E k z hr hk => ?_) (fun w X1 hr => ?_)
    · rw [hr] at hsem
      have hx9 := semR_ex hsem
      have hthr : sc S' 0 = nI (k + 1) := hx9.2.1 k hk
      have hk3 : k < 3 := (List.getElem?_eq_some_iff.mp hk).1
      have hk0 : ¬ nI (k + 1) = 0 := nI_ne0 (by omega) (by omega)
      refine g_istore (pc := 547) (L' := [(5, vI (nI (k + 1))), (0, vA (some b)), (1, vA (some x)), (2, vA (some m)), (3, vA (some oa)), (4, vI i)]) B dL_law_547 (by decide) rfl ?_
      refine g_aload_n (pc := 549) B dL_law_549 3 rfl ?_
      refine g_aload_n (pc := 550) B dL_law_550 1 rfl ?_
      refine g_iload (pc := 551) B dL_law_551 5 rfl ?_
      refine g_iconst (pc := 553) B dL_law_553 (1 : Int32) (by decide) ?_
      refine g_iadd (pc := 554) B dL_law_554 ?_
      refine g_sld (pc := 555) B hs hi1 hp1 dL_law_555 ?_
      refine g_aload_n (pc := 556) B dL_law_556 1 rfl ?_
      refine g_iload (pc := 557) B dL_law_557 5 rfl ?_
      refine g_iconst (pc := 559) B dL_law_559 (2 : Int32) (by decide) ?_
      refine g_iadd (pc := 560) B dL_law_560 ?_
      refine g_sld (pc := 561) B hs hi2 hp2 dL_law_561 ?_
      refine g_aload_n (pc := 562) B dL_law_562 1 rfl ?_
      refine g_iload (pc := 563) B dL_law_563 5 rfl ?_
      refine g_iconst (pc := 565) B dL_law_565 (3 : Int32) (by decide) ?_
      refine g_iadd (pc := 566) B dL_law_566 ?_
      refine g_sld (pc := 567) B hs hi3 hp3 dL_law_567 ?_
      refine g_if_eq (pc := 568) (tgt := 575) B dL_law_568 (by decide) (fun _ => ?_) (fun c9 => absurd hc_p3 c9)
      refine g_iconst (pc := 575) B dL_law_575 (0 : Int32) (by decide) ?_
      refine l_ref (pc := 576) (As := [vI p1, vI p2, vI (0 : Int32)]) (st := []) (st10 := [vI bv]) (S' := S') B cal_X12_add kmL_136 kn_X12_add ks_X12_add rfl hLD (fun l hl z => ct_X12_add hl e2) rfl (Nat.le_of_ble_eq_true rfl) (by decide) (by decide) hf dL_law_576 rfl rfl ?_
      refine g_istore (pc := 579) (L' := [(6, vI bv), (5, vI (nI (k + 1))), (0, vA (some b)), (1, vA (some x)), (2, vA (some m)), (3, vA (some oa)), (4, vI i)]) B dL_law_579 (by decide) rfl ?_
      refine g_aload_n (pc := 581) B dL_law_581 4 rfl ?_
      refine l_ref (pc := 582) (As := []) (st := []) (st10 := [vI (sc S' 0)]) (S' := S') B cal_X12_thrown kmL_120 kn_X12_thrown ks_X12_thrown rfl hLD (fun l hl z => ct_X12_thrown hl (X0 := S') rfl) rfl (Nat.le_of_ble_eq_true rfl) (by decide) (by decide) hf dL_law_582 rfl rfl ?_
      refine g_iload (pc := 585) B dL_law_585 1 rfl ?_
      refine g_icmp_eq (pc := 587) (tgt := 592) B dL_law_587 (by decide) (fun _ => ?_) (fun c9 => absurd hthr c9)
      refine g_iload (pc := 592) B dL_law_592 1 rfl ?_
      refine g_if_ne (pc := 594) (tgt := 609) B dL_law_594 (by decide) (fun _ => ?_) (fun c9 => absurd c9 hk0)
      refine g_goto (pc := 609) (tgt := 2215) B dL_law_609 (by decide) ?_
      refine g_sub (pc := 2215) [2, 3, 4, 5, 6] rfl ?_
      exact kont (zM X z) g S' (hrz _ _ _ _ hx9.2.2) hLD
    · rw [hr] at hsem
      obtain ⟨hthr, hw, hrel1, hkp⟩ := semR_ok hsem
      have hLD1 := hLD.keep hoa hma hkp
      refine g_istore (pc := 547) (L' := [(5, vI 0), (0, vA (some b)), (1, vA (some x)), (2, vA (some m)), (3, vA (some oa)), (4, vI i)]) B dL_law_547 (by decide) rfl ?_
      refine g_aload_n (pc := 549) B dL_law_549 3 rfl ?_
      refine g_aload_n (pc := 550) B dL_law_550 1 rfl ?_
      refine g_iload (pc := 551) B dL_law_551 5 rfl ?_
      refine g_iconst (pc := 553) B dL_law_553 (1 : Int32) (by decide) ?_
      refine g_iadd (pc := 554) B dL_law_554 ?_
      refine g_sld (pc := 555) B hs hi1 hp1 dL_law_555 ?_
      refine g_aload_n (pc := 556) B dL_law_556 1 rfl ?_
      refine g_iload (pc := 557) B dL_law_557 5 rfl ?_
      refine g_iconst (pc := 559) B dL_law_559 (2 : Int32) (by decide) ?_
      refine g_iadd (pc := 560) B dL_law_560 ?_
      refine g_sld (pc := 561) B hs hi2 hp2 dL_law_561 ?_
      refine g_aload_n (pc := 562) B dL_law_562 1 rfl ?_
      refine g_iload (pc := 563) B dL_law_563 5 rfl ?_
      refine g_iconst (pc := 565) B dL_law_565 (3 : Int32) (by decide) ?_
      refine g_iadd (pc := 566) B dL_law_566 ?_
      refine g_sld (pc := 567) B hs hi3 hp3 dL_law_567 ?_
      refine g_if_eq (pc := 568) (tgt := 575) B dL_law_568 (by decide) (fun _ => ?_) (fun c9 => absurd hc_p3 c9)
      refine g_iconst (pc := 575) B dL_law_575 (0 : Int32) (by decide) ?_
      refine l_ref (pc := 576) (As := [vI p1, vI p2, vI (0 : Int32)]) (st := []) (st10 := [vI bv]) (S' := S') B cal_X12_add kmL_136 kn_X12_add ks_X12_add rfl hLD1 (fun l hl z => ct_X12_add hl e2) rfl (Nat.le_of_ble_eq_true rfl) (by decide) (by decide) hf dL_law_576 rfl rfl ?_
      refine g_istore (pc := 579) (L' := [(6, vI bv), (5, vI 0), (0, vA (some b)), (1, vA (some x)), (2, vA (some m)), (3, vA (some oa)), (4, vI i)]) B dL_law_579 (by decide) rfl ?_
      refine g_aload_n (pc := 581) B dL_law_581 4 rfl ?_
      refine l_ref (pc := 582) (As := []) (st := []) (st10 := [vI (sc S' 0)]) (S' := S') B cal_X12_thrown kmL_120 kn_X12_thrown ks_X12_thrown rfl hLD1 (fun l hl z => ct_X12_thrown hl (X0 := S') rfl) rfl (Nat.le_of_ble_eq_true rfl) (by decide) (by decide) hf dL_law_582 rfl rfl ?_
      refine g_iload (pc := 585) B dL_law_585 1 rfl ?_
      refine g_icmp_eq (pc := 587) (tgt := 592) B dL_law_587 (by decide) (fun _ => ?_) (fun c9 => absurd hthr c9)
      refine g_iload (pc := 592) B dL_law_592 1 rfl ?_
      refine g_if_ne (pc := 594) (tgt := 609) B dL_law_594 (by decide) (fun c9 => absurd rfl c9) (fun _ => ?_)
      refine g_aload_n (pc := 597) B dL_law_597 5 rfl ?_
      refine g_iconst (pc := 598) B dL_law_598 (0 : Int32) (by decide) ?_
      refine g_lald (pc := 599) B (LM_out0 hLD1) vin01 dL_law_599 ?_
      rw [LM_aJ hLD1]
      refine g_iload (pc := 600) B dL_law_600 0 rfl ?_
      refine g_i2l (pc := 602) B dL_law_602 ?_
      refine g_lcmp (pc := 603) B dL_law_603 ?_
      have hcmp : lg_cmp w bv.toInt64 = 0 := by rw [hw]; exact cmp_self _
      refine g_if_eq (pc := 604) (tgt := 609) B dL_law_604 (by decide) (fun _ => ?_) (fun c9 => absurd hcmp c9)
      refine g_goto (pc := 609) (tgt := 2215) B dL_law_609 (by decide) ?_
      refine g_sub (pc := 2215) [2, 3, 4, 5, 6] rfl ?_
      exact kont X1 (up0 g w) S' hrel1 hLD1
  · refine g_if_eq (pc := 535) (tgt := 542) B dL_law_535 (by decide) (fun c9 => absurd c9 hc_p3) (fun _ => ?_)
    refine g_iconst (pc := 538) B dL_law_538 (1 : Int32) (by decide) ?_
    refine g_goto (pc := 539) (tgt := 543) B dL_law_539 (by decide) ?_
    refine g_aload_n (pc := 543) B dL_law_543 3 rfl ?_
    obtain ⟨r, bv, S', e1, e2, hsem⟩ := sem x X S p1 p2 (1 : Int32) (Or.inr rfl) hrel hfr
    refine l_wrap (pc := 544) (As := [vA (some x), vI p1, vI p2, vI (1 : Int32), vA (some oa)]) (st := []) B hnc calw_L_add kmL_134 kz_L_add hLD (fun l hl => cw_L_add hl e1 (hrk _ _ _ hrel) hLD.1 (fun v X1 q => by subst q; exact ((semR_ok hsem).2.2.2.2 oa hoa).trans hLD.1) (fun E q => by subst q; exact (semR_ex hsem).1)) rfl (Nat.le_of_ble_eq_true rfl) (by decide) (by decide) hf dL_law_544 rfl (fun E k z hr hk => ?_) (fun w X1 hr => ?_)
    · rw [hr] at hsem
      have hx9 := semR_ex hsem
      have hthr : sc S' 0 = nI (k + 1) := hx9.2.1 k hk
      have hk3 : k < 3 := (List.getElem?_eq_some_iff.mp hk).1
      have hk0 : ¬ nI (k + 1) = 0 := nI_ne0 (by omega) (by omega)
      refine g_istore (pc := 547) (L' := [(5, vI (nI (k + 1))), (0, vA (some b)), (1, vA (some x)), (2, vA (some m)), (3, vA (some oa)), (4, vI i)]) B dL_law_547 (by decide) rfl ?_
      refine g_aload_n (pc := 549) B dL_law_549 3 rfl ?_
      refine g_aload_n (pc := 550) B dL_law_550 1 rfl ?_
      refine g_iload (pc := 551) B dL_law_551 5 rfl ?_
      refine g_iconst (pc := 553) B dL_law_553 (1 : Int32) (by decide) ?_
      refine g_iadd (pc := 554) B dL_law_554 ?_
      refine g_sld (pc := 555) B hs hi1 hp1 dL_law_555 ?_
      refine g_aload_n (pc := 556) B dL_law_556 1 rfl ?_
      refine g_iload (pc := 557) B dL_law_557 5 rfl ?_
      refine g_iconst (pc := 559) B dL_law_559 (2 : Int32) (by decide) ?_
      refine g_iadd (pc := 560) B dL_law_560 ?_
      refine g_sld (pc := 561) B hs hi2 hp2 dL_law_561 ?_
      refine g_aload_n (pc := 562) B dL_law_562 1 rfl ?_
      refine g_iload (pc := 563) B dL_law_563 5 rfl ?_
      refine g_iconst (pc := 565) B dL_law_565 (3 : Int32) (by decide) ?_
      refine g_iadd (pc := 566) B dL_law_566 ?_
      refine g_sld (pc := 567) B hs hi3 hp3 dL_law_567 ?_
      refine g_if_eq (pc := 568) (tgt := 575) B dL_law_568 (by decide) (fun c9 => absurd c9 hc_p3) (fun _ => ?_)
      refine g_iconst (pc := 571) B dL_law_571 (1 : Int32) (by decide) ?_
      refine g_goto (pc := 572) (tgt := 576) B dL_law_572 (by decide) ?_
      refine l_ref (pc := 576) (As := [vI p1, vI p2, vI (1 : Int32)]) (st := []) (st10 := [vI bv]) (S' := S') B cal_X12_add kmL_136 kn_X12_add ks_X12_add rfl hLD (fun l hl z => ct_X12_add hl e2) rfl (Nat.le_of_ble_eq_true rfl) (by decide) (by decide) hf dL_law_576 rfl rfl ?_
      refine g_istore (pc := 579) (L' := [(6, vI bv), (5, vI (nI (k + 1))), (0, vA (some b)), (1, vA (some x)), (2, vA (some m)), (3, vA (some oa)), (4, vI i)]) B dL_law_579 (by decide) rfl ?_
      refine g_aload_n (pc := 581) B dL_law_581 4 rfl ?_
      refine l_ref (pc := 582) (As := []) (st := []) (st10 := [vI (sc S' 0)]) (S' := S') B cal_X12_thrown kmL_120 kn_X12_thrown ks_X12_thrown rfl hLD (fun l hl z => ct_X12_thrown hl (X0 := S') rfl) rfl (Nat.le_of_ble_eq_true rfl) (by decide) (by decide) hf dL_law_582 rfl rfl ?_
      refine g_iload (pc := 585) B dL_law_585 1 rfl ?_
      refine g_icmp_eq (pc := 587) (tgt := 592) B dL_law_587 (by decide) (fun _ => ?_) (fun c9 => absurd hthr c9)
      refine g_iload (pc := 592) B dL_law_592 1 rfl ?_
      refine g_if_ne (pc := 594) (tgt := 609) B dL_law_594 (by decide) (fun _ => ?_) (fun c9 => absurd c9 hk0)
      refine g_goto (pc := 609) (tgt := 2215) B dL_law_609 (by decide) ?_
      refine g_sub (pc := 2215) [2, 3, 4, 5, 6] rfl ?_
      exact kont (zM X z) g S' (hrz _ _ _ _ hx9.2.2) hLD
    · rw [hr] at hsem
      obtain ⟨hthr, hw, hrel1, hkp⟩ := semR_ok hsem
      have hLD1 := hLD.keep hoa hma hkp
      refine g_istore (pc := 547) (L' := [(5, vI 0), (0, vA (some b)), (1, vA (some x)), (2, vA (some m)), (3, vA (some oa)), (4, vI i)]) B dL_law_547 (by decide) rfl ?_
      refine g_aload_n (pc := 549) B dL_law_549 3 rfl ?_
      refine g_aload_n (pc := 550) B dL_law_550 1 rfl ?_
      refine g_iload (pc := 551) B dL_law_551 5 rfl ?_
      refine g_iconst (pc := 553) B dL_law_553 (1 : Int32) (by decide) ?_
      refine g_iadd (pc := 554) B dL_law_554 ?_
      refine g_sld (pc := 555) B hs hi1 hp1 dL_law_555 ?_
      refine g_aload_n (pc := 556) B dL_law_556 1 rfl ?_
      refine g_iload (pc := 557) B dL_law_557 5 rfl ?_
      refine g_iconst (pc := 559) B dL_law_559 (2 : Int32) (by decide) ?_
      refine g_iadd (pc := 560) B dL_law_560 ?_
      refine g_sld (pc := 561) B hs hi2 hp2 dL_law_561 ?_
      refine g_aload_n (pc := 562) B dL_law_562 1 rfl ?_
      refine g_iload (pc := 563) B dL_law_563 5 rfl ?_
      refine g_iconst (pc := 565) B dL_law_565 (3 : Int32) (by decide) ?_
      refine g_iadd (pc := 566) B dL_law_566 ?_
      refine g_sld (pc := 567) B hs hi3 hp3 dL_law_567 ?_
      refine g_if_eq (pc := 568) (tgt := 575) B dL_law_568 (by decide) (fun c9 => absurd c9 hc_p3) (fun _ => ?_)
      refine g_iconst (pc := 571) B dL_law_571 (1 : Int32) (by decide) ?_
      refine g_goto (pc := 572) (tgt := 576) B dL_law_572 (by decide) ?_
      refine l_ref (pc := 576) (As := [vI p1, vI p2, vI (1 : Int32)]) (st := []) (st10 := [vI bv]) (S' := S') B cal_X12_add kmL_136 kn_X12_add ks_X12_add rfl hLD1 (fun l hl z => ct_X12_add hl e2) rfl (Nat.le_of_ble_eq_true rfl) (by decide) (by decide) hf dL_law_576 rfl rfl ?_
      refine g_istore (pc := 579) (L' := [(6, vI bv), (5, vI 0), (0, vA (some b)), (1, vA (some x)), (2, vA (some m)), (3, vA (some oa)), (4, vI i)]) B dL_law_579 (by decide) rfl ?_
      refine g_aload_n (pc := 581) B dL_law_581 4 rfl ?_
      refine l_ref (pc := 582) (As := []) (st := []) (st10 := [vI (sc S' 0)]) (S' := S') B cal_X12_thrown kmL_120 kn_X12_thrown ks_X12_thrown rfl hLD1 (fun l hl z => ct_X12_thrown hl (X0 := S') rfl) rfl (Nat.le_of_ble_eq_true rfl) (by decide) (by decide) hf dL_law_582 rfl rfl ?_
      refine g_iload (pc := 585) B dL_law_585 1 rfl ?_
      refine g_icmp_eq (pc := 587) (tgt := 592) B dL_law_587 (by decide) (fun _ => ?_) (fun c9 => absurd hthr c9)
      refine g_iload (pc := 592) B dL_law_592 1 rfl ?_
      refine g_if_ne (pc := 594) (tgt := 609) B dL_law_594 (by decide) (fun c9 => absurd rfl c9) (fun _ => ?_)
      refine g_aload_n (pc := 597) B dL_law_597 5 rfl ?_
      refine g_iconst (pc := 598) B dL_law_598 (0 : Int32) (by decide) ?_
      refine g_lald (pc := 599) B (LM_out0 hLD1) vin01 dL_law_599 ?_
      rw [LM_aJ hLD1]
      refine g_iload (pc := 600) B dL_law_600 0 rfl ?_
      refine g_i2l (pc := 602) B dL_law_602 ?_
      refine g_lcmp (pc := 603) B dL_law_603 ?_
      have hcmp : lg_cmp w bv.toInt64 = 0 := by rw [hw]; exact cmp_self _
      refine g_if_eq (pc := 604) (tgt := 609) B dL_law_604 (by decide) (fun _ => ?_) (fun c9 => absurd hcmp c9)
      refine g_goto (pc := 609) (tgt := 2215) B dL_law_609 (by decide) ?_
      refine g_sub (pc := 2215) [2, 3, 4, 5, 6] rfl ?_
      exact kont X1 (up0 g w) S' hrel1 hLD1
set_option maxRecDepth 100000 in
set_option maxHeartbeats 4000000 in
theorem lc_repeat {D : DD} {ev : EV} {Q : State → Prop} {Rel : Nat → Mem → SM → Prop} {fu b x m oa Ls : Nat} {xs : Nat → Int32} {g : Nat → Int64} {X : Mem} {S : SM} {i : Int32} {p1 : Int32} {p2 : Int32} {cs sl : Nat} (hrz : ∀ x X S z, Rel x X S → Rel x (zM X z) S) (hrk : ∀ x X S, Rel x X S → mK X x = some (11, 0)) (sem : sem_repeat Rel fu) (B : Amb D (A0L ev) ev RL "law" cL_law 7 (some .boolean) room_1) (hnc : EvNc ev) (hs : ScrL ev b Ls xs) (hi1 : vp_in (i + (1 : Int32)) Ls) (hi2 : vp_in (i + (2 : Int32)) Ls) (hp1 : xs (i + (1 : Int32)).toNatClampNeg = p1) (hp2 : xs (i + (2 : Int32)).toNatClampNeg = p2) (hrel : Rel x X S) (hLD : LD X oa m) (hf : cs + 16 ≤ room_1.cells ∧ sl + 200 ≤ room_1.slots)
    (kont : ∀ (X' : Mem) (g' : Nat → Int64) (S' : SM), Rel x X' S' → LD X' oa m → Gd D (A0L ev) ev Q (LM X' oa g' m S') (cs + 16) (sl + 200) 2215 [(0, vA (some b)), (1, vA (some x)), (2, vA (some m)), (3, vA (some oa)), (4, vI i)] []) : Gd D (A0L ev) ev Q (LM X oa g m S) cs sl 612 [(0, vA (some b)), (1, vA (some x)), (2, vA (some m)), (3, vA (some oa)), (4, vI i)] [] := by
  refine g_dom fun hdm => ?_
  obtain ⟨hfr, hoa, hma⟩ := LM_fresh hLD hdm
  refine g_aload_n (pc := 612) B dL_law_612 1 rfl ?_
  refine g_aload_n (pc := 613) B dL_law_613 0 rfl ?_
  refine g_iload (pc := 614) B dL_law_614 4 rfl ?_
  refine g_iconst (pc := 616) B dL_law_616 (1 : Int32) (by decide) ?_
  refine g_iadd (pc := 617) B dL_law_617 ?_
  refine g_sld (pc := 618) B hs hi1 hp1 dL_law_618 ?_
  refine g_aload_n (pc := 619) B dL_law_619 0 rfl ?_
  refine g_iload (pc := 620) B dL_law_620 4 rfl ?_
  refine g_iconst (pc := 622) B dL_law_622 (2 : Int32) (by decide) ?_
  refine g_iadd (pc := 623) B dL_law_623 ?_
  refine g_sld (pc := 624) B hs hi2 hp2 dL_law_624 ?_
  by_cases hc_p2 : p2 = 0
  · refine g_if_eq (pc := 625) (tgt := 632) B dL_law_625 (by decide) (fun _ => ?_) (fun c9 => absurd hc_p2 c9)
    refine g_iconst (pc := 632) B dL_law_632 (0 : Int32) (by decide) ?_
    refine g_aload_n (pc := 633) B dL_law_633 3 rfl ?_
    obtain ⟨r, bv, S', e1, e2, hsem⟩ := sem x X S p1 (0 : Int32) (Or.inl rfl) hrel hfr
    refine l_wrap (pc := 634) (As := [vA (some x), vI p1, vI (0 : Int32), vA (some oa)]) (st := []) B hnc calw_L_repeat kmL_137 kz_L_repeat hLD (fun l hl => cw_L_repeat hl e1 (hrk _ _ _ hrel) hLD.1 (fun v X1 q => by subst q; exact ((semR_ok hsem).2.2.2.2 oa hoa).trans hLD.1) (fun E q => by subst q; exact (semR_ex hsem).1)) rfl (Nat.le_of_ble_eq_true rfl) (by decide) (by decide) hf dL_law_634 rfl (fun E k z hr hk => ?_) (fun w X1 hr => ?_)
    · rw [hr] at hsem
      have hx9 := semR_ex hsem
      have hthr : sc S' 0 = nI (k + 1) := hx9.2.1 k hk
      have hk3 : k < 3 := (List.getElem?_eq_some_iff.mp hk).1
      have hk0 : ¬ nI (k + 1) = 0 := nI_ne0 (by omega) (by omega)
      refine g_istore (pc := 637) (L' := [(5, vI (nI (k + 1))), (0, vA (some b)), (1, vA (some x)), (2, vA (some m)), (3, vA (some oa)), (4, vI i)]) B dL_law_637 (by decide) rfl ?_
      refine g_aload_n (pc := 639) B dL_law_639 3 rfl ?_
      refine g_aload_n (pc := 640) B dL_law_640 1 rfl ?_
      refine g_iload (pc := 641) B dL_law_641 5 rfl ?_
      refine g_iconst (pc := 643) B dL_law_643 (1 : Int32) (by decide) ?_
      refine g_iadd (pc := 644) B dL_law_644 ?_
      refine g_sld (pc := 645) B hs hi1 hp1 dL_law_645 ?_
      refine g_aload_n (pc := 646) B dL_law_646 1 rfl ?_
      refine g_iload (pc := 647) B dL_law_647 5 rfl ?_
      refine g_iconst (pc := 649) B dL_law_649 (2 : Int32) (by decide) ?_
      refine g_iadd (pc := 650) B dL_law_650 ?_
      refine g_sld (pc := 651) B hs hi2 hp2 dL_law_651 ?_
      refine g_if_eq (pc := 652) (tgt := 659) B dL_law_652 (by decide) (fun _ => ?_) (fun c9 => absurd hc_p2 c9)
      refine g_iconst (pc := 659) B dL_law_659 (0 : Int32) (by decide) ?_
      refine l_ref (pc := 660) (As := [vI p1, vI (0 : Int32)]) (st := []) (st10 := [vI bv]) (S' := S') B cal_X12_repeat kmL_139 kn_X12_repeat ks_X12_repeat rfl hLD (fun l hl z => ct_X12_repeat hl e2) rfl (Nat.le_of_ble_eq_true rfl) (by decide) (by decide) hf dL_law_660 rfl rfl ?_
      refine g_istore (pc := 663) (L' := [(6, vI bv), (5, vI (nI (k + 1))), (0, vA (some b)), (1, vA (some x)), (2, vA (some m)), (3, vA (some oa)), (4, vI i)]) B dL_law_663 (by decide) rfl ?_
      refine g_aload_n (pc := 665) B dL_law_665 4 rfl ?_
      refine l_ref (pc := 666) (As := []) (st := []) (st10 := [vI (sc S' 0)]) (S' := S') B cal_X12_thrown kmL_120 kn_X12_thrown ks_X12_thrown rfl hLD (fun l hl z => ct_X12_thrown hl (X0 := S') rfl) rfl (Nat.le_of_ble_eq_true rfl) (by decide) (by decide) hf dL_law_666 rfl rfl ?_
      refine g_iload (pc := 669) B dL_law_669 1 rfl ?_
      refine g_icmp_eq (pc := 671) (tgt := 676) B dL_law_671 (by decide) (fun _ => ?_) (fun c9 => absurd hthr c9)
      refine g_iload (pc := 676) B dL_law_676 1 rfl ?_
      refine g_if_ne (pc := 678) (tgt := 693) B dL_law_678 (by decide) (fun _ => ?_) (fun c9 => absurd c9 hk0)
      refine g_goto (pc := 693) (tgt := 2215) B dL_law_693 (by decide) ?_
      refine g_sub (pc := 2215) [2, 3, 4, 5, 6] rfl ?_
      exact kont (zM X z) g S' (hrz _ _ _ _ hx9.2.2) hLD
    · rw [hr] at hsem
      obtain ⟨hthr, hw, hrel1, hkp⟩ := semR_ok hsem
      have hLD1 := hLD.keep hoa hma hkp
      refine g_istore (pc := 637) (L' := [(5, vI 0), (0, vA (some b)), (1, vA (some x)), (2, vA (some m)), (3, vA (some oa)), (4, vI i)]) B dL_law_637 (by decide) rfl ?_
      refine g_aload_n (pc := 639) B dL_law_639 3 rfl ?_
      refine g_aload_n (pc := 640) B dL_law_640 1 rfl ?_
      refine g_iload (pc := 641) B dL_law_641 5 rfl ?_
      refine g_iconst (pc := 643) B dL_law_643 (1 : Int32) (by decide) ?_
      refine g_iadd (pc := 644) B dL_law_644 ?_
      refine g_sld (pc := 645) B hs hi1 hp1 dL_law_645 ?_
      refine g_aload_n (pc := 646) B dL_law_646 1 rfl ?_
      refine g_iload (pc := 647) B dL_law_647 5 rfl ?_
      refine g_iconst (pc := 649) B dL_law_649 (2 : Int32) (by decide) ?_
      refine g_iadd (pc := 650) B dL_law_650 ?_
      refine g_sld (pc := 651) B hs hi2 hp2 dL_law_651 ?_
      refine g_if_eq (pc := 652) (tgt := 659) B dL_law_652 (by decide) (fun _ => ?_) (fun c9 => absurd hc_p2 c9)
      refine g_iconst (pc := 659) B dL_law_659 (0 : Int32) (by decide) ?_
      refine l_ref (pc := 660) (As := [vI p1, vI (0 : Int32)]) (st := []) (st10 := [vI bv]) (S' := S') B cal_X12_repeat kmL_139 kn_X12_repeat ks_X12_repeat rfl hLD1 (fun l hl z => ct_X12_repeat hl e2) rfl (Nat.le_of_ble_eq_true rfl) (by decide) (by decide) hf dL_law_660 rfl rfl ?_
      refine g_istore (pc := 663) (L' := [(6, vI bv), (5, vI 0), (0, vA (some b)), (1, vA (some x)), (2, vA (some m)), (3, vA (some oa)), (4, vI i)]) B dL_law_663 (by decide) rfl ?_
      refine g_aload_n (pc := 665) B dL_law_665 4 rfl ?_
      refine l_ref (pc := 666) (As := []) (st := []) (st10 := [vI (sc S' 0)]) (S' := S') B cal_X12_thrown kmL_120 kn_X12_thrown ks_X12_thrown rfl hLD1 (fun l hl z => ct_X12_thrown hl (X0 := S') rfl) rfl (Nat.le_of_ble_eq_true rfl) (by decide) (by decide) hf dL_law_666 rfl rfl ?_
      refine g_iload (pc := 669) B dL_law_669 1 rfl ?_
      refine g_icmp_eq (pc := 671) (tgt := 676) B dL_law_671 (by decide) (fun _ => ?_) (fun c9 => absurd hthr c9)
      refine g_iload (pc := 676) B dL_law_676 1 rfl ?_
      refine g_if_ne (pc := 678) (tgt := 693) B dL_law_678 (by decide) (fun c9 => absurd rfl c9) (fun _ => ?_)
      refine g_aload_n (pc := 681) B dL_law_681 5 rfl ?_
      refine g_iconst (pc := 682) B dL_law_682 (0 : Int32) (by decide) ?_
      refine g_lald (pc := 683) B (LM_out0 hLD1) vin01 dL_law_683 ?_
      rw [LM_aJ hLD1]
      refine g_iload (pc := 684) B dL_law_684 0 rfl ?_
      refine g_i2l (pc := 686) B dL_law_686 ?_
      refine g_lcmp (pc := 687) B dL_law_687 ?_
      have hcmp : lg_cmp w bv.toInt64 = 0 := by rw [hw]; exact cmp_self _
      refine g_if_eq (pc := 688) (tgt := 693) B dL_law_688 (by decide) (fun _ => ?_) (fun c9 => absurd hcmp c9)
      refine g_goto (pc := 693) (tgt := 2215) B dL_law_693 (by decide) ?_
      refine g_sub (pc := 2215) [2, 3, 4, 5, 6] rfl ?_
      exact kont X1 (up0 g w) S' hrel1 hLD1
  · refine g_if_eq (pc := 625) (tgt := 632) B dL_law_625 (by decide) (fun c9 => absurd c9 hc_p2) (fun _ => ?_)
    refine g_iconst (pc := 628) B dL_law_628 (1 : Int32) (by decide) ?_
    refine g_goto (pc := 629) (tgt := 633) B dL_law_629 (by decide) ?_
    refine g_aload_n (pc := 633) B dL_law_633 3 rfl ?_
    obtain ⟨r, bv, S', e1, e2, hsem⟩ := sem x X S p1 (1 : Int32) (Or.inr rfl) hrel hfr
    refine l_wrap (pc := 634) (As := [vA (some x), vI p1, vI (1 : Int32), vA (some oa)]) (st := []) B hnc calw_L_repeat kmL_137 kz_L_repeat hLD (fun l hl => cw_L_repeat hl e1 (hrk _ _ _ hrel) hLD.1 (fun v X1 q => by subst q; exact ((semR_ok hsem).2.2.2.2 oa hoa).trans hLD.1) (fun E q => by subst q; exact (semR_ex hsem).1)) rfl (Nat.le_of_ble_eq_true rfl) (by decide) (by decide) hf dL_law_634 rfl (fun E k z hr hk => ?_) (fun w X1 hr => ?_)
    · rw [hr] at hsem
      have hx9 := semR_ex hsem
      have hthr : sc S' 0 = nI (k + 1) := hx9.2.1 k hk
      have hk3 : k < 3 := (List.getElem?_eq_some_iff.mp hk).1
      have hk0 : ¬ nI (k + 1) = 0 := nI_ne0 (by omega) (by omega)
      refine g_istore (pc := 637) (L' := [(5, vI (nI (k + 1))), (0, vA (some b)), (1, vA (some x)), (2, vA (some m)), (3, vA (some oa)), (4, vI i)]) B dL_law_637 (by decide) rfl ?_
      refine g_aload_n (pc := 639) B dL_law_639 3 rfl ?_
      refine g_aload_n (pc := 640) B dL_law_640 1 rfl ?_
      refine g_iload (pc := 641) B dL_law_641 5 rfl ?_
      refine g_iconst (pc := 643) B dL_law_643 (1 : Int32) (by decide) ?_
      refine g_iadd (pc := 644) B dL_law_644 ?_
      refine g_sld (pc := 645) B hs hi1 hp1 dL_law_645 ?_
      refine g_aload_n (pc := 646) B dL_law_646 1 rfl ?_
      refine g_iload (pc := 647) B dL_law_647 5 rfl ?_
      refine g_iconst (pc := 649) B dL_law_649 (2 : Int32) (by decide) ?_
      refine g_iadd (pc := 650) B dL_law_650 ?_
      refine g_sld (pc := 651) B hs hi2 hp2 dL_law_651 ?_
      refine g_if_eq (pc := 652) (tgt := 659) B dL_law_652 (by decide) (fun c9 => absurd c9 hc_p2) (fun _ => ?_)
      refine g_iconst (pc := 655) B dL_law_655 (1 : Int32) (by decide) ?_
      refine g_goto (pc := 656) (tgt := 660) B dL_law_656 (by decide) ?_
      refine l_ref (pc := 660) (As := [vI p1, vI (1 : Int32)]) (st := []) (st10 := [vI bv]) (S' := S') B cal_X12_repeat kmL_139 kn_X12_repeat ks_X12_repeat rfl hLD (fun l hl z => ct_X12_repeat hl e2) rfl (Nat.le_of_ble_eq_true rfl) (by decide) (by decide) hf dL_law_660 rfl rfl ?_
      refine g_istore (pc := 663) (L' := [(6, vI bv), (5, vI (nI (k + 1))), (0, vA (some b)), (1, vA (some x)), (2, vA (some m)), (3, vA (some oa)), (4, vI i)]) B dL_law_663 (by decide) rfl ?_
      refine g_aload_n (pc := 665) B dL_law_665 4 rfl ?_
      refine l_ref (pc := 666) (As := []) (st := []) (st10 := [vI (sc S' 0)]) (S' := S') B cal_X12_thrown kmL_120 kn_X12_thrown ks_X12_thrown rfl hLD (fun l hl z => ct_X12_thrown hl (X0 := S') rfl) rfl (Nat.le_of_ble_eq_true rfl) (by decide) (by decide) hf dL_law_666 rfl rfl ?_
      refine g_iload (pc := 669) B dL_law_669 1 rfl ?_
      refine g_icmp_eq (pc := 671) (tgt := 676) B dL_law_671 (by decide) (fun _ => ?_) (fun c9 => absurd hthr c9)
      refine g_iload (pc := 676) B dL_law_676 1 rfl ?_
      refine g_if_ne (pc := 678) (tgt := 693) B dL_law_678 (by decide) (fun _ => ?_) (fun c9 => absurd c9 hk0)
      refine g_goto (pc := 693) (tgt := 2215) B dL_law_693 (by decide) ?_
      refine g_sub (pc := 2215) [2, 3, 4, 5, 6] rfl ?_
      exact kont (zM X z) g S' (hrz _ _ _ _ hx9.2.2) hLD
    · rw [hr] at hsem
      obtain ⟨hthr, hw, hrel1, hkp⟩ := semR_ok hsem
      have hLD1 := hLD.keep hoa hma hkp
      refine g_istore (pc := 637) (L' := [(5, vI 0), (0, vA (some b)), (1, vA (some x)), (2, vA (some m)), (3, vA (some oa)), (4, vI i)]) B dL_law_637 (by decide) rfl ?_
      refine g_aload_n (pc := 639) B dL_law_639 3 rfl ?_
      refine g_aload_n (pc := 640) B dL_law_640 1 rfl ?_
      refine g_iload (pc := 641) B dL_law_641 5 rfl ?_
      refine g_iconst (pc := 643) B dL_law_643 (1 : Int32) (by decide) ?_
      refine g_iadd (pc := 644) B dL_law_644 ?_
      refine g_sld (pc := 645) B hs hi1 hp1 dL_law_645 ?_
      refine g_aload_n (pc := 646) B dL_law_646 1 rfl ?_
      refine g_iload (pc := 647) B dL_law_647 5 rfl ?_
      refine g_iconst (pc := 649) B dL_law_649 (2 : Int32) (by decide) ?_
      refine g_iadd (pc := 650) B dL_law_650 ?_
      refine g_sld (pc := 651) B hs hi2 hp2 dL_law_651 ?_
      refine g_if_eq (pc := 652) (tgt := 659) B dL_law_652 (by decide) (fun c9 => absurd c9 hc_p2) (fun _ => ?_)
      refine g_iconst (pc := 655) B dL_law_655 (1 : Int32) (by decide) ?_
      refine g_goto (pc := 656) (tgt := 660) B dL_law_656 (by decide) ?_
      refine l_ref (pc := 660) (As := [vI p1, vI (1 : Int32)]) (st := []) (st10 := [vI bv]) (S' := S') B cal_X12_repeat kmL_139 kn_X12_repeat ks_X12_repeat rfl hLD1 (fun l hl z => ct_X12_repeat hl e2) rfl (Nat.le_of_ble_eq_true rfl) (by decide) (by decide) hf dL_law_660 rfl rfl ?_
      refine g_istore (pc := 663) (L' := [(6, vI bv), (5, vI 0), (0, vA (some b)), (1, vA (some x)), (2, vA (some m)), (3, vA (some oa)), (4, vI i)]) B dL_law_663 (by decide) rfl ?_
      refine g_aload_n (pc := 665) B dL_law_665 4 rfl ?_
      refine l_ref (pc := 666) (As := []) (st := []) (st10 := [vI (sc S' 0)]) (S' := S') B cal_X12_thrown kmL_120 kn_X12_thrown ks_X12_thrown rfl hLD1 (fun l hl z => ct_X12_thrown hl (X0 := S') rfl) rfl (Nat.le_of_ble_eq_true rfl) (by decide) (by decide) hf dL_law_666 rfl rfl ?_
      refine g_iload (pc := 669) B dL_law_669 1 rfl ?_
      refine g_icmp_eq (pc := 671) (tgt := 676) B dL_law_671 (by decide) (fun _ => ?_) (fun c9 => absurd hthr c9)
      refine g_iload (pc := 676) B dL_law_676 1 rfl ?_
      refine g_if_ne (pc := 678) (tgt := 693) B dL_law_678 (by decide) (fun c9 => absurd rfl c9) (fun _ => ?_)
      refine g_aload_n (pc := 681) B dL_law_681 5 rfl ?_
      refine g_iconst (pc := 682) B dL_law_682 (0 : Int32) (by decide) ?_
      refine g_lald (pc := 683) B (LM_out0 hLD1) vin01 dL_law_683 ?_
      rw [LM_aJ hLD1]
      refine g_iload (pc := 684) B dL_law_684 0 rfl ?_
      refine g_i2l (pc := 686) B dL_law_686 ?_
      refine g_lcmp (pc := 687) B dL_law_687 ?_
      have hcmp : lg_cmp w bv.toInt64 = 0 := by rw [hw]; exact cmp_self _
      refine g_if_eq (pc := 688) (tgt := 693) B dL_law_688 (by decide) (fun _ => ?_) (fun c9 => absurd hcmp c9)
      refine g_goto (pc := 693) (tgt := 2215) B dL_law_693 (by decide) ?_
      refine g_sub (pc := 2215) [2, 3, 4, 5, 6] rfl ?_
      exact kont X1 (up0 g w) S' hrel1 hLD1
set_option maxRecDepth 100000 in
set_option maxHeartbeats 4000000 in
theorem lc_word {D : DD} {ev : EV} {Q : State → Prop} {Rel : Nat → Mem → SM → Prop} {fu b x m oa Ls : Nat} {xs : Nat → Int32} {g : Nat → Int64} {X : Mem} {S : SM} {i : Int32} {p1 : Int32} {cs sl : Nat} (hrz : ∀ x X S z, Rel x X S → Rel x (zM X z) S) (hrk : ∀ x X S, Rel x X S → mK X x = some (11, 0)) (sem : sem_word Rel fu) (B : Amb D (A0L ev) ev RL "law" cL_law 7 (some .boolean) room_1) (hnc : EvNc ev) (hs : ScrL ev b Ls xs) (hi1 : vp_in (i + (1 : Int32)) Ls) (hp1 : xs (i + (1 : Int32)).toNatClampNeg = p1) (hrel : Rel x X S) (hLD : LD X oa m) (hf : cs + 16 ≤ room_1.cells ∧ sl + 200 ≤ room_1.slots)
    (kont : ∀ (X' : Mem) (g' : Nat → Int64) (S' : SM), Rel x X' S' → LD X' oa m → Gd D (A0L ev) ev Q (LM X' oa g' m S') (cs + 16) (sl + 200) 2215 [(0, vA (some b)), (1, vA (some x)), (2, vA (some m)), (3, vA (some oa)), (4, vI i)] []) : Gd D (A0L ev) ev Q (LM X oa g m S) cs sl 696 [(0, vA (some b)), (1, vA (some x)), (2, vA (some m)), (3, vA (some oa)), (4, vI i)] [] := by
  refine g_dom fun hdm => ?_
  obtain ⟨hfr, hoa, hma⟩ := LM_fresh hLD hdm
  refine g_aload_n (pc := 696) B dL_law_696 1 rfl ?_
  refine g_aload_n (pc := 697) B dL_law_697 0 rfl ?_
  refine g_iload (pc := 698) B dL_law_698 4 rfl ?_
  refine g_iconst (pc := 700) B dL_law_700 (1 : Int32) (by decide) ?_
  refine g_iadd (pc := 701) B dL_law_701 ?_
  refine g_sld (pc := 702) B hs hi1 hp1 dL_law_702 ?_
  refine g_aload_n (pc := 703) B dL_law_703 3 rfl ?_
  obtain ⟨r, bv, S', e1, e2, hsem⟩ := sem x X S p1  hrel hfr
  refine l_wrap (pc := 704) (As := [vA (some x), vI p1, vA (some oa)]) (st := []) B hnc calw_L_word kmL_140 kz_L_word hLD (fun l hl => cw_L_word hl e1 (hrk _ _ _ hrel) hLD.1 (fun v X1 q => by subst q; exact ((semR_ok hsem).2.2.2.2 oa hoa).trans hLD.1) (fun E q => by subst q; exact (semR_ex hsem).1)) rfl (Nat.le_of_ble_eq_true rfl) (by decide) (by decide) hf dL_law_704 rfl (fun E k z hr hk => ?_) (fun w X1 hr => ?_)
  · rw [hr] at hsem
    have hx9 := semR_ex hsem
    have hthr : sc S' 0 = nI (k + 1) := hx9.2.1 k hk
    have hk3 : k < 2 := (List.getElem?_eq_some_iff.mp hk).1
    have hk0 : ¬ nI (k + 1) = 0 := nI_ne0 (by omega) (by omega)
    refine g_istore (pc := 707) (L' := [(5, vI (nI (k + 1))), (0, vA (some b)), (1, vA (some x)), (2, vA (some m)), (3, vA (some oa)), (4, vI i)]) B dL_law_707 (by decide) rfl ?_
    refine g_aload_n (pc := 709) B dL_law_709 3 rfl ?_
    refine g_aload_n (pc := 710) B dL_law_710 1 rfl ?_
    refine g_iload (pc := 711) B dL_law_711 5 rfl ?_
    refine g_iconst (pc := 713) B dL_law_713 (1 : Int32) (by decide) ?_
    refine g_iadd (pc := 714) B dL_law_714 ?_
    refine g_sld (pc := 715) B hs hi1 hp1 dL_law_715 ?_
    refine l_ref (pc := 716) (As := [vI p1]) (st := []) (st10 := [vI bv]) (S' := S') B cal_X12_word kmL_143 kn_X12_word ks_X12_word rfl hLD (fun l hl z => ct_X12_word hl e2) rfl (Nat.le_of_ble_eq_true rfl) (by decide) (by decide) hf dL_law_716 rfl rfl ?_
    refine g_istore (pc := 719) (L' := [(6, vI bv), (5, vI (nI (k + 1))), (0, vA (some b)), (1, vA (some x)), (2, vA (some m)), (3, vA (some oa)), (4, vI i)]) B dL_law_719 (by decide) rfl ?_
    refine g_aload_n (pc := 721) B dL_law_721 4 rfl ?_
    refine l_ref (pc := 722) (As := []) (st := []) (st10 := [vI (sc S' 0)]) (S' := S') B cal_X12_thrown kmL_120 kn_X12_thrown ks_X12_thrown rfl hLD (fun l hl z => ct_X12_thrown hl (X0 := S') rfl) rfl (Nat.le_of_ble_eq_true rfl) (by decide) (by decide) hf dL_law_722 rfl rfl ?_
    refine g_iload (pc := 725) B dL_law_725 1 rfl ?_
    refine g_icmp_eq (pc := 727) (tgt := 732) B dL_law_727 (by decide) (fun _ => ?_) (fun c9 => absurd hthr c9)
    refine g_iload (pc := 732) B dL_law_732 1 rfl ?_
    refine g_if_ne (pc := 734) (tgt := 749) B dL_law_734 (by decide) (fun _ => ?_) (fun c9 => absurd c9 hk0)
    refine g_goto (pc := 749) (tgt := 2215) B dL_law_749 (by decide) ?_
    refine g_sub (pc := 2215) [2, 3, 4, 5, 6] rfl ?_
    exact kont (zM X z) g S' (hrz _ _ _ _ hx9.2.2) hLD
  · rw [hr] at hsem
    obtain ⟨hthr, hw, hrel1, hkp⟩ := semR_ok hsem
    have hLD1 := hLD.keep hoa hma hkp
    refine g_istore (pc := 707) (L' := [(5, vI 0), (0, vA (some b)), (1, vA (some x)), (2, vA (some m)), (3, vA (some oa)), (4, vI i)]) B dL_law_707 (by decide) rfl ?_
    refine g_aload_n (pc := 709) B dL_law_709 3 rfl ?_
    refine g_aload_n (pc := 710) B dL_law_710 1 rfl ?_
    refine g_iload (pc := 711) B dL_law_711 5 rfl ?_
    refine g_iconst (pc := 713) B dL_law_713 (1 : Int32) (by decide) ?_
    refine g_iadd (pc := 714) B dL_law_714 ?_
    refine g_sld (pc := 715) B hs hi1 hp1 dL_law_715 ?_
    refine l_ref (pc := 716) (As := [vI p1]) (st := []) (st10 := [vI bv]) (S' := S') B cal_X12_word kmL_143 kn_X12_word ks_X12_word rfl hLD1 (fun l hl z => ct_X12_word hl e2) rfl (Nat.le_of_ble_eq_true rfl) (by decide) (by decide) hf dL_law_716 rfl rfl ?_
    refine g_istore (pc := 719) (L' := [(6, vI bv), (5, vI 0), (0, vA (some b)), (1, vA (some x)), (2, vA (some m)), (3, vA (some oa)), (4, vI i)]) B dL_law_719 (by decide) rfl ?_
    refine g_aload_n (pc := 721) B dL_law_721 4 rfl ?_
    refine l_ref (pc := 722) (As := []) (st := []) (st10 := [vI (sc S' 0)]) (S' := S') B cal_X12_thrown kmL_120 kn_X12_thrown ks_X12_thrown rfl hLD1 (fun l hl z => ct_X12_thrown hl (X0 := S') rfl) rfl (Nat.le_of_ble_eq_true rfl) (by decide) (by decide) hf dL_law_722 rfl rfl ?_
    refine g_iload (pc := 725) B dL_law_725 1 rfl ?_
    refine g_icmp_eq (pc := 727) (tgt := 732) B dL_law_727 (by decide) (fun _ => ?_) (fun c9 => absurd hthr c9)
    refine g_iload (pc := 732) B dL_law_732 1 rfl ?_
    refine g_if_ne (pc := 734) (tgt := 749) B dL_law_734 (by decide) (fun c9 => absurd rfl c9) (fun _ => ?_)
    refine g_aload_n (pc := 737) B dL_law_737 5 rfl ?_
    refine g_iconst (pc := 738) B dL_law_738 (0 : Int32) (by decide) ?_
    refine g_lald (pc := 739) B (LM_out0 hLD1) vin01 dL_law_739 ?_
    rw [LM_aJ hLD1]
    refine g_iload (pc := 740) B dL_law_740 0 rfl ?_
    refine g_i2l (pc := 742) B dL_law_742 ?_
    refine g_lcmp (pc := 743) B dL_law_743 ?_
    have hcmp : lg_cmp w bv.toInt64 = 0 := by rw [hw]; exact cmp_self _
    refine g_if_eq (pc := 744) (tgt := 749) B dL_law_744 (by decide) (fun _ => ?_) (fun c9 => absurd hcmp c9)
    refine g_goto (pc := 749) (tgt := 2215) B dL_law_749 (by decide) ?_
    refine g_sub (pc := 2215) [2, 3, 4, 5, 6] rfl ?_
    exact kont X1 (up0 g w) S' hrel1 hLD1
set_option maxRecDepth 100000 in
set_option maxHeartbeats 4000000 in
theorem lc_call {D : DD} {ev : EV} {Q : State → Prop} {Rel : Nat → Mem → SM → Prop} {fu b x m oa Ls : Nat} {xs : Nat → Int32} {g : Nat → Int64} {X : Mem} {S : SM} {i : Int32} {p1 : Int32} {cs sl : Nat} (hrz : ∀ x X S z, Rel x X S → Rel x (zM X z) S) (hrk : ∀ x X S, Rel x X S → mK X x = some (11, 0)) (sem : sem_call Rel fu) (B : Amb D (A0L ev) ev RL "law" cL_law 7 (some .boolean) room_1) (hnc : EvNc ev) (hs : ScrL ev b Ls xs) (hi1 : vp_in (i + (1 : Int32)) Ls) (hp1 : xs (i + (1 : Int32)).toNatClampNeg = p1) (hrel : Rel x X S) (hLD : LD X oa m) (hf : cs + 16 ≤ room_1.cells ∧ sl + 200 ≤ room_1.slots)
    (kont : ∀ (X' : Mem) (g' : Nat → Int64) (S' : SM), Rel x X' S' → LD X' oa m → Gd D (A0L ev) ev Q (LM X' oa g' m S') (cs + 16) (sl + 200) 2215 [(0, vA (some b)), (1, vA (some x)), (2, vA (some m)), (3, vA (some oa)), (4, vI i)] []) : Gd D (A0L ev) ev Q (LM X oa g m S) cs sl 752 [(0, vA (some b)), (1, vA (some x)), (2, vA (some m)), (3, vA (some oa)), (4, vI i)] [] := by
  refine g_dom fun hdm => ?_
  obtain ⟨hfr, hoa, hma⟩ := LM_fresh hLD hdm
  refine g_aload_n (pc := 752) B dL_law_752 1 rfl ?_
  refine g_aload_n (pc := 753) B dL_law_753 0 rfl ?_
  refine g_iload (pc := 754) B dL_law_754 4 rfl ?_
  refine g_iconst (pc := 756) B dL_law_756 (1 : Int32) (by decide) ?_
  refine g_iadd (pc := 757) B dL_law_757 ?_
  refine g_sld (pc := 758) B hs hi1 hp1 dL_law_758 ?_
  refine g_aload_n (pc := 759) B dL_law_759 3 rfl ?_
  obtain ⟨r, bv, S', e1, e2, hsem⟩ := sem x X S p1  hrel hfr
  refine l_wrap (pc := 760) (As := [vA (some x), vI p1, vA (some oa)]) (st := []) B hnc calw_L_call kmL_144 kz_L_call hLD (fun l hl => cw_L_call hl e1 (hrk _ _ _ hrel) hLD.1 (fun v X1 q => by subst q; exact ((semR_ok hsem).2.2.2.2 oa hoa).trans hLD.1) (fun E q => by subst q; exact (semR_ex hsem).1)) rfl (Nat.le_of_ble_eq_true rfl) (by decide) (by decide) hf dL_law_760 rfl (fun E k z hr hk => ?_) (fun w X1 hr => ?_)
  · rw [hr] at hsem
    have hx9 := semR_ex hsem
    have hthr : sc S' 0 = nI (k + 1) := hx9.2.1 k hk
    have hk3 : k < 2 := (List.getElem?_eq_some_iff.mp hk).1
    have hk0 : ¬ nI (k + 1) = 0 := nI_ne0 (by omega) (by omega)
    refine g_istore (pc := 763) (L' := [(5, vI (nI (k + 1))), (0, vA (some b)), (1, vA (some x)), (2, vA (some m)), (3, vA (some oa)), (4, vI i)]) B dL_law_763 (by decide) rfl ?_
    refine g_aload_n (pc := 765) B dL_law_765 3 rfl ?_
    refine g_aload_n (pc := 766) B dL_law_766 1 rfl ?_
    refine g_iload (pc := 767) B dL_law_767 5 rfl ?_
    refine g_iconst (pc := 769) B dL_law_769 (1 : Int32) (by decide) ?_
    refine g_iadd (pc := 770) B dL_law_770 ?_
    refine g_sld (pc := 771) B hs hi1 hp1 dL_law_771 ?_
    refine l_ref (pc := 772) (As := [vI p1]) (st := []) (st10 := [vI bv]) (S' := S') B cal_X12_call kmL_146 kn_X12_call ks_X12_call rfl hLD (fun l hl z => ct_X12_call hl e2) rfl (Nat.le_of_ble_eq_true rfl) (by decide) (by decide) hf dL_law_772 rfl rfl ?_
    refine g_istore (pc := 775) (L' := [(6, vI bv), (5, vI (nI (k + 1))), (0, vA (some b)), (1, vA (some x)), (2, vA (some m)), (3, vA (some oa)), (4, vI i)]) B dL_law_775 (by decide) rfl ?_
    refine g_aload_n (pc := 777) B dL_law_777 4 rfl ?_
    refine l_ref (pc := 778) (As := []) (st := []) (st10 := [vI (sc S' 0)]) (S' := S') B cal_X12_thrown kmL_120 kn_X12_thrown ks_X12_thrown rfl hLD (fun l hl z => ct_X12_thrown hl (X0 := S') rfl) rfl (Nat.le_of_ble_eq_true rfl) (by decide) (by decide) hf dL_law_778 rfl rfl ?_
    refine g_iload (pc := 781) B dL_law_781 1 rfl ?_
    refine g_icmp_eq (pc := 783) (tgt := 788) B dL_law_783 (by decide) (fun _ => ?_) (fun c9 => absurd hthr c9)
    refine g_iload (pc := 788) B dL_law_788 1 rfl ?_
    refine g_if_ne (pc := 790) (tgt := 805) B dL_law_790 (by decide) (fun _ => ?_) (fun c9 => absurd c9 hk0)
    refine g_goto (pc := 805) (tgt := 2215) B dL_law_805 (by decide) ?_
    refine g_sub (pc := 2215) [2, 3, 4, 5, 6] rfl ?_
    exact kont (zM X z) g S' (hrz _ _ _ _ hx9.2.2) hLD
  · rw [hr] at hsem
    obtain ⟨hthr, hw, hrel1, hkp⟩ := semR_ok hsem
    have hLD1 := hLD.keep hoa hma hkp
    refine g_istore (pc := 763) (L' := [(5, vI 0), (0, vA (some b)), (1, vA (some x)), (2, vA (some m)), (3, vA (some oa)), (4, vI i)]) B dL_law_763 (by decide) rfl ?_
    refine g_aload_n (pc := 765) B dL_law_765 3 rfl ?_
    refine g_aload_n (pc := 766) B dL_law_766 1 rfl ?_
    refine g_iload (pc := 767) B dL_law_767 5 rfl ?_
    refine g_iconst (pc := 769) B dL_law_769 (1 : Int32) (by decide) ?_
    refine g_iadd (pc := 770) B dL_law_770 ?_
    refine g_sld (pc := 771) B hs hi1 hp1 dL_law_771 ?_
    refine l_ref (pc := 772) (As := [vI p1]) (st := []) (st10 := [vI bv]) (S' := S') B cal_X12_call kmL_146 kn_X12_call ks_X12_call rfl hLD1 (fun l hl z => ct_X12_call hl e2) rfl (Nat.le_of_ble_eq_true rfl) (by decide) (by decide) hf dL_law_772 rfl rfl ?_
    refine g_istore (pc := 775) (L' := [(6, vI bv), (5, vI 0), (0, vA (some b)), (1, vA (some x)), (2, vA (some m)), (3, vA (some oa)), (4, vI i)]) B dL_law_775 (by decide) rfl ?_
    refine g_aload_n (pc := 777) B dL_law_777 4 rfl ?_
    refine l_ref (pc := 778) (As := []) (st := []) (st10 := [vI (sc S' 0)]) (S' := S') B cal_X12_thrown kmL_120 kn_X12_thrown ks_X12_thrown rfl hLD1 (fun l hl z => ct_X12_thrown hl (X0 := S') rfl) rfl (Nat.le_of_ble_eq_true rfl) (by decide) (by decide) hf dL_law_778 rfl rfl ?_
    refine g_iload (pc := 781) B dL_law_781 1 rfl ?_
    refine g_icmp_eq (pc := 783) (tgt := 788) B dL_law_783 (by decide) (fun _ => ?_) (fun c9 => absurd hthr c9)
    refine g_iload (pc := 788) B dL_law_788 1 rfl ?_
    refine g_if_ne (pc := 790) (tgt := 805) B dL_law_790 (by decide) (fun c9 => absurd rfl c9) (fun _ => ?_)
    refine g_aload_n (pc := 793) B dL_law_793 5 rfl ?_
    refine g_iconst (pc := 794) B dL_law_794 (0 : Int32) (by decide) ?_
    refine g_lald (pc := 795) B (LM_out0 hLD1) vin01 dL_law_795 ?_
    rw [LM_aJ hLD1]
    refine g_iload (pc := 796) B dL_law_796 0 rfl ?_
    refine g_i2l (pc := 798) B dL_law_798 ?_
    refine g_lcmp (pc := 799) B dL_law_799 ?_
    have hcmp : lg_cmp w bv.toInt64 = 0 := by rw [hw]; exact cmp_self _
    refine g_if_eq (pc := 800) (tgt := 805) B dL_law_800 (by decide) (fun _ => ?_) (fun c9 => absurd hcmp c9)
    refine g_goto (pc := 805) (tgt := 2215) B dL_law_805 (by decide) ?_
    refine g_sub (pc := 2215) [2, 3, 4, 5, 6] rfl ?_
    exact kont X1 (up0 g w) S' hrel1 hLD1
set_option maxRecDepth 100000 in
set_option maxHeartbeats 4000000 in
theorem lc_end {D : DD} {ev : EV} {Q : State → Prop} {Rel : Nat → Mem → SM → Prop} {fu b x m oa Ls : Nat} {xs : Nat → Int32} {g : Nat → Int64} {X : Mem} {S : SM} {i : Int32} {cs sl : Nat} (hrz : ∀ x X S z, Rel x X S → Rel x (zM X z) S) (hrk : ∀ x X S, Rel x X S → mK X x = some (11, 0)) (sem : sem_end Rel fu) (B : Amb D (A0L ev) ev RL "law" cL_law 7 (some .boolean) room_1) (hnc : EvNc ev) (hs : ScrL ev b Ls xs) (hrel : Rel x X S) (hLD : LD X oa m) (hf : cs + 16 ≤ room_1.cells ∧ sl + 200 ≤ room_1.slots)
    (kont : ∀ (X' : Mem) (g' : Nat → Int64) (S' : SM), Rel x X' S' → LD X' oa m → Gd D (A0L ev) ev Q (LM X' oa g' m S') (cs + 16) (sl + 200) 2215 [(0, vA (some b)), (1, vA (some x)), (2, vA (some m)), (3, vA (some oa)), (4, vI i)] []) : Gd D (A0L ev) ev Q (LM X oa g m S) cs sl 808 [(0, vA (some b)), (1, vA (some x)), (2, vA (some m)), (3, vA (some oa)), (4, vI i)] [] := by
  refine g_dom fun hdm => ?_
  obtain ⟨hfr, hoa, hma⟩ := LM_fresh hLD hdm
  refine g_aload_n (pc := 808) B dL_law_808 1 rfl ?_
  refine g_aload_n (pc := 809) B dL_law_809 3 rfl ?_
  obtain ⟨r, bv, S', e1, e2, hsem⟩ := sem x X S   hrel hfr
  refine l_wrap (pc := 810) (As := [vA (some x), vA (some oa)]) (st := []) B hnc calw_L_end kmL_147 kz_L_end hLD (fun l hl => cw_L_end hl e1 (hrk _ _ _ hrel) hLD.1 (fun v X1 q => by subst q; exact ((semR_ok hsem).2.2.2.2 oa hoa).trans hLD.1) (fun E q => by subst q; exact (semR_ex hsem).1)) rfl (Nat.le_of_ble_eq_true rfl) (by decide) (by decide) hf dL_law_810 rfl (fun E k z hr hk => ?_) (fun w X1 hr => ?_)
  · rw [hr] at hsem
    have hx9 := semR_ex hsem
    have hthr : sc S' 0 = nI (k + 1) := hx9.2.1 k hk
    have hk3 : k < 1 := (List.getElem?_eq_some_iff.mp hk).1
    have hk0 : ¬ nI (k + 1) = 0 := nI_ne0 (by omega) (by omega)
    refine g_istore (pc := 813) (L' := [(5, vI (nI (k + 1))), (0, vA (some b)), (1, vA (some x)), (2, vA (some m)), (3, vA (some oa)), (4, vI i)]) B dL_law_813 (by decide) rfl ?_
    refine g_aload_n (pc := 815) B dL_law_815 3 rfl ?_
    refine l_ref (pc := 816) (As := []) (st := []) (st10 := [vI bv]) (S' := S') B cal_X12_end kmL_150 kn_X12_end ks_X12_end rfl hLD (fun l hl z => ct_X12_end hl e2) rfl (Nat.le_of_ble_eq_true rfl) (by decide) (by decide) hf dL_law_816 rfl rfl ?_
    refine g_istore (pc := 819) (L' := [(6, vI bv), (5, vI (nI (k + 1))), (0, vA (some b)), (1, vA (some x)), (2, vA (some m)), (3, vA (some oa)), (4, vI i)]) B dL_law_819 (by decide) rfl ?_
    refine g_aload_n (pc := 821) B dL_law_821 4 rfl ?_
    refine l_ref (pc := 822) (As := []) (st := []) (st10 := [vI (sc S' 0)]) (S' := S') B cal_X12_thrown kmL_120 kn_X12_thrown ks_X12_thrown rfl hLD (fun l hl z => ct_X12_thrown hl (X0 := S') rfl) rfl (Nat.le_of_ble_eq_true rfl) (by decide) (by decide) hf dL_law_822 rfl rfl ?_
    refine g_iload (pc := 825) B dL_law_825 1 rfl ?_
    refine g_icmp_eq (pc := 827) (tgt := 832) B dL_law_827 (by decide) (fun _ => ?_) (fun c9 => absurd hthr c9)
    refine g_iload (pc := 832) B dL_law_832 1 rfl ?_
    refine g_if_ne (pc := 834) (tgt := 849) B dL_law_834 (by decide) (fun _ => ?_) (fun c9 => absurd c9 hk0)
    refine g_goto (pc := 849) (tgt := 2215) B dL_law_849 (by decide) ?_
    refine g_sub (pc := 2215) [2, 3, 4, 5, 6] rfl ?_
    exact kont (zM X z) g S' (hrz _ _ _ _ hx9.2.2) hLD
  · rw [hr] at hsem
    obtain ⟨hthr, hw, hrel1, hkp⟩ := semR_ok hsem
    have hLD1 := hLD.keep hoa hma hkp
    refine g_istore (pc := 813) (L' := [(5, vI 0), (0, vA (some b)), (1, vA (some x)), (2, vA (some m)), (3, vA (some oa)), (4, vI i)]) B dL_law_813 (by decide) rfl ?_
    refine g_aload_n (pc := 815) B dL_law_815 3 rfl ?_
    refine l_ref (pc := 816) (As := []) (st := []) (st10 := [vI bv]) (S' := S') B cal_X12_end kmL_150 kn_X12_end ks_X12_end rfl hLD1 (fun l hl z => ct_X12_end hl e2) rfl (Nat.le_of_ble_eq_true rfl) (by decide) (by decide) hf dL_law_816 rfl rfl ?_
    refine g_istore (pc := 819) (L' := [(6, vI bv), (5, vI 0), (0, vA (some b)), (1, vA (some x)), (2, vA (some m)), (3, vA (some oa)), (4, vI i)]) B dL_law_819 (by decide) rfl ?_
    refine g_aload_n (pc := 821) B dL_law_821 4 rfl ?_
    refine l_ref (pc := 822) (As := []) (st := []) (st10 := [vI (sc S' 0)]) (S' := S') B cal_X12_thrown kmL_120 kn_X12_thrown ks_X12_thrown rfl hLD1 (fun l hl z => ct_X12_thrown hl (X0 := S') rfl) rfl (Nat.le_of_ble_eq_true rfl) (by decide) (by decide) hf dL_law_822 rfl rfl ?_
    refine g_iload (pc := 825) B dL_law_825 1 rfl ?_
    refine g_icmp_eq (pc := 827) (tgt := 832) B dL_law_827 (by decide) (fun _ => ?_) (fun c9 => absurd hthr c9)
    refine g_iload (pc := 832) B dL_law_832 1 rfl ?_
    refine g_if_ne (pc := 834) (tgt := 849) B dL_law_834 (by decide) (fun c9 => absurd rfl c9) (fun _ => ?_)
    refine g_aload_n (pc := 837) B dL_law_837 5 rfl ?_
    refine g_iconst (pc := 838) B dL_law_838 (0 : Int32) (by decide) ?_
    refine g_lald (pc := 839) B (LM_out0 hLD1) vin01 dL_law_839 ?_
    rw [LM_aJ hLD1]
    refine g_iload (pc := 840) B dL_law_840 0 rfl ?_
    refine g_i2l (pc := 842) B dL_law_842 ?_
    refine g_lcmp (pc := 843) B dL_law_843 ?_
    have hcmp : lg_cmp w bv.toInt64 = 0 := by rw [hw]; exact cmp_self _
    refine g_if_eq (pc := 844) (tgt := 849) B dL_law_844 (by decide) (fun _ => ?_) (fun c9 => absurd hcmp c9)
    refine g_goto (pc := 849) (tgt := 2215) B dL_law_849 (by decide) ?_
    refine g_sub (pc := 2215) [2, 3, 4, 5, 6] rfl ?_
    exact kont X1 (up0 g w) S' hrel1 hLD1
set_option maxRecDepth 100000 in
set_option maxHeartbeats 4000000 in
theorem lc_wipe {D : DD} {ev : EV} {Q : State → Prop} {Rel : Nat → Mem → SM → Prop} {fu b x m oa Ls : Nat} {xs : Nat → Int32} {g : Nat → Int64} {X : Mem} {S : SM} {i : Int32} {cs sl : Nat} (hrz : ∀ x X S z, Rel x X S → Rel x (zM X z) S) (hrk : ∀ x X S, Rel x X S → mK X x = some (11, 0)) (sem : sem_wipe Rel fu) (B : Amb D (A0L ev) ev RL "law" cL_law 7 (some .boolean) room_1) (hnc : EvNc ev) (hs : ScrL ev b Ls xs) (hrel : Rel x X S) (hLD : LD X oa m) (hf : cs ≤ room_1.cells ∧ sl ≤ room_1.slots)
    (kont : ∀ (X' : Mem) (g' : Nat → Int64) (S' : SM), Rel x X' S' → LD X' oa m → Gd D (A0L ev) ev Q (LM X' oa g' m S') cs sl 2215 [(0, vA (some b)), (1, vA (some x)), (2, vA (some m)), (3, vA (some oa)), (4, vI i)] []) : Gd D (A0L ev) ev Q (LM X oa g m S) cs sl 852 [(0, vA (some b)), (1, vA (some x)), (2, vA (some m)), (3, vA (some oa)), (4, vI i)] [] := by
  refine g_dom fun hdm => ?_
  obtain ⟨hfr, hoa, hma⟩ := LM_fresh hLD hdm
  refine g_aload_n (pc := 852) B dL_law_852 1 rfl ?_
  obtain ⟨bv, X1, S', e1, e2, hrel1, hkp⟩ := sem x X S hrel hfr
  have hLD1 := hLD.keep hoa hma hkp
  refine l_cls (pc := 853) (As := []) (st := []) (st10 := [vI bv]) (X1 := X1) B cal_X11_wipe kmL_151 kn_X11_wipe ks_X11_wipe rfl hLD (hrk _ _ _ hrel) (fun l hl => ct_X11_wipe hl e1) rfl (Nat.le_of_ble_eq_true rfl) (by decide) (by decide) hf dL_law_853 rfl rfl ?_
  refine g_aload_n (pc := 856) B dL_law_856 2 rfl ?_
  refine l_ref (pc := 857) (As := []) (st := [vI bv]) (st10 := [vI bv, vI bv]) (S' := S') B cal_X12_wipe kmL_154 kn_X12_wipe ks_X12_wipe rfl hLD1 (fun l hl z => ct_X12_wipe hl e2) rfl (Nat.le_of_ble_eq_true rfl) (by decide) (by decide) hf dL_law_857 rfl rfl ?_
  refine g_icmp_eq (pc := 860) (tgt := 2215) B dL_law_860 (by decide) (fun _ => ?_) (fun c9 => absurd rfl c9)
  refine g_sub (pc := 2215) [0, 1, 2, 3, 4] rfl ?_
  exact kont X1 g S' hrel1 hLD1
set_option maxRecDepth 100000 in
set_option maxHeartbeats 4000000 in
theorem lc_write {D : DD} {ev : EV} {Q : State → Prop} {Rel : Nat → Mem → SM → Prop} {fu b x m oa Ls : Nat} {xs : Nat → Int32} {g : Nat → Int64} {X : Mem} {S : SM} {i : Int32} {p1 : Int32} {cs sl : Nat} (hrz : ∀ x X S z, Rel x X S → Rel x (zM X z) S) (hrk : ∀ x X S, Rel x X S → mK X x = some (11, 0)) (sem : sem_write Rel fu) (B : Amb D (A0L ev) ev RL "law" cL_law 7 (some .boolean) room_1) (hnc : EvNc ev) (hs : ScrL ev b Ls xs) (hi1 : vp_in (i + (1 : Int32)) Ls) (hp1 : xs (i + (1 : Int32)).toNatClampNeg = p1) (hrel : Rel x X S) (hLD : LD X oa m) (hf : cs + 16 ≤ room_1.cells ∧ sl + 200 ≤ room_1.slots)
    (kont : ∀ (X' : Mem) (g' : Nat → Int64) (S' : SM), Rel x X' S' → LD X' oa m → Gd D (A0L ev) ev Q (LM X' oa g' m S') (cs + 16) (sl + 200) 2215 [(0, vA (some b)), (1, vA (some x)), (2, vA (some m)), (3, vA (some oa)), (4, vI i)] []) : Gd D (A0L ev) ev Q (LM X oa g m S) cs sl 865 [(0, vA (some b)), (1, vA (some x)), (2, vA (some m)), (3, vA (some oa)), (4, vI i)] [] := by
  refine g_dom fun hdm => ?_
  obtain ⟨hfr, hoa, hma⟩ := LM_fresh hLD hdm
  refine g_aload_n (pc := 865) B dL_law_865 1 rfl ?_
  refine g_aload_n (pc := 866) B dL_law_866 0 rfl ?_
  refine g_iload (pc := 867) B dL_law_867 4 rfl ?_
  refine g_iconst (pc := 869) B dL_law_869 (1 : Int32) (by decide) ?_
  refine g_iadd (pc := 870) B dL_law_870 ?_
  refine g_sld (pc := 871) B hs hi1 hp1 dL_law_871 ?_
  refine g_aload_n (pc := 872) B dL_law_872 3 rfl ?_
  obtain ⟨r, bv, S', e1, e2, hsem⟩ := sem x X S p1  hrel hfr
  refine l_wrap (pc := 873) (As := [vA (some x), vI p1, vA (some oa)]) (st := []) B hnc calw_L_write kmL_155 kz_L_write hLD (fun l hl => cw_L_write hl e1 (hrk _ _ _ hrel) hLD.1 (fun v X1 q => by subst q; exact ((semR_ok hsem).2.2.2.2 oa hoa).trans hLD.1) (fun E q => by subst q; exact (semR_ex hsem).1)) rfl (Nat.le_of_ble_eq_true rfl) (by decide) (by decide) hf dL_law_873 rfl (fun E k z hr hk => ?_) (fun w X1 hr => ?_)
  · rw [hr] at hsem
    have hx9 := semR_ex hsem
    have hthr : sc S' 0 = nI (k + 1) := hx9.2.1 k hk
    have hk3 : k < 2 := (List.getElem?_eq_some_iff.mp hk).1
    have hk0 : ¬ nI (k + 1) = 0 := nI_ne0 (by omega) (by omega)
    refine g_istore (pc := 876) (L' := [(5, vI (nI (k + 1))), (0, vA (some b)), (1, vA (some x)), (2, vA (some m)), (3, vA (some oa)), (4, vI i)]) B dL_law_876 (by decide) rfl ?_
    refine g_aload_n (pc := 878) B dL_law_878 3 rfl ?_
    refine g_aload_n (pc := 879) B dL_law_879 1 rfl ?_
    refine g_iload (pc := 880) B dL_law_880 5 rfl ?_
    refine g_iconst (pc := 882) B dL_law_882 (1 : Int32) (by decide) ?_
    refine g_iadd (pc := 883) B dL_law_883 ?_
    refine g_sld (pc := 884) B hs hi1 hp1 dL_law_884 ?_
    refine l_ref (pc := 885) (As := [vI p1]) (st := []) (st10 := [vI bv]) (S' := S') B cal_X12_write kmL_157 kn_X12_write ks_X12_write rfl hLD (fun l hl z => ct_X12_write hl e2) rfl (Nat.le_of_ble_eq_true rfl) (by decide) (by decide) hf dL_law_885 rfl rfl ?_
    refine g_istore (pc := 888) (L' := [(6, vI bv), (5, vI (nI (k + 1))), (0, vA (some b)), (1, vA (some x)), (2, vA (some m)), (3, vA (some oa)), (4, vI i)]) B dL_law_888 (by decide) rfl ?_
    refine g_aload_n (pc := 890) B dL_law_890 4 rfl ?_
    refine l_ref (pc := 891) (As := []) (st := []) (st10 := [vI (sc S' 0)]) (S' := S') B cal_X12_thrown kmL_120 kn_X12_thrown ks_X12_thrown rfl hLD (fun l hl z => ct_X12_thrown hl (X0 := S') rfl) rfl (Nat.le_of_ble_eq_true rfl) (by decide) (by decide) hf dL_law_891 rfl rfl ?_
    refine g_iload (pc := 894) B dL_law_894 1 rfl ?_
    refine g_icmp_eq (pc := 896) (tgt := 901) B dL_law_896 (by decide) (fun _ => ?_) (fun c9 => absurd hthr c9)
    refine g_iload (pc := 901) B dL_law_901 1 rfl ?_
    refine g_if_ne (pc := 903) (tgt := 918) B dL_law_903 (by decide) (fun _ => ?_) (fun c9 => absurd c9 hk0)
    refine g_goto (pc := 918) (tgt := 2215) B dL_law_918 (by decide) ?_
    refine g_sub (pc := 2215) [2, 3, 4, 5, 6] rfl ?_
    exact kont (zM X z) g S' (hrz _ _ _ _ hx9.2.2) hLD
  · rw [hr] at hsem
    obtain ⟨hthr, hw, hrel1, hkp⟩ := semR_ok hsem
    have hLD1 := hLD.keep hoa hma hkp
    refine g_istore (pc := 876) (L' := [(5, vI 0), (0, vA (some b)), (1, vA (some x)), (2, vA (some m)), (3, vA (some oa)), (4, vI i)]) B dL_law_876 (by decide) rfl ?_
    refine g_aload_n (pc := 878) B dL_law_878 3 rfl ?_
    refine g_aload_n (pc := 879) B dL_law_879 1 rfl ?_
    refine g_iload (pc := 880) B dL_law_880 5 rfl ?_
    refine g_iconst (pc := 882) B dL_law_882 (1 : Int32) (by decide) ?_
    refine g_iadd (pc := 883) B dL_law_883 ?_
    refine g_sld (pc := 884) B hs hi1 hp1 dL_law_884 ?_
    refine l_ref (pc := 885) (As := [vI p1]) (st := []) (st10 := [vI bv]) (S' := S') B cal_X12_write kmL_157 kn_X12_write ks_X12_write rfl hLD1 (fun l hl z => ct_X12_write hl e2) rfl (Nat.le_of_ble_eq_true rfl) (by decide) (by decide) hf dL_law_885 rfl rfl ?_
    refine g_istore (pc := 888) (L' := [(6, vI bv), (5, vI 0), (0, vA (some b)), (1, vA (some x)), (2, vA (some m)), (3, vA (some oa)), (4, vI i)]) B dL_law_888 (by decide) rfl ?_
    refine g_aload_n (pc := 890) B dL_law_890 4 rfl ?_
    refine l_ref (pc := 891) (As := []) (st := []) (st10 := [vI (sc S' 0)]) (S' := S') B cal_X12_thrown kmL_120 kn_X12_thrown ks_X12_thrown rfl hLD1 (fun l hl z => ct_X12_thrown hl (X0 := S') rfl) rfl (Nat.le_of_ble_eq_true rfl) (by decide) (by decide) hf dL_law_891 rfl rfl ?_
    refine g_iload (pc := 894) B dL_law_894 1 rfl ?_
    refine g_icmp_eq (pc := 896) (tgt := 901) B dL_law_896 (by decide) (fun _ => ?_) (fun c9 => absurd hthr c9)
    refine g_iload (pc := 901) B dL_law_901 1 rfl ?_
    refine g_if_ne (pc := 903) (tgt := 918) B dL_law_903 (by decide) (fun c9 => absurd rfl c9) (fun _ => ?_)
    refine g_aload_n (pc := 906) B dL_law_906 5 rfl ?_
    refine g_iconst (pc := 907) B dL_law_907 (0 : Int32) (by decide) ?_
    refine g_lald (pc := 908) B (LM_out0 hLD1) vin01 dL_law_908 ?_
    rw [LM_aJ hLD1]
    refine g_iload (pc := 909) B dL_law_909 0 rfl ?_
    refine g_i2l (pc := 911) B dL_law_911 ?_
    refine g_lcmp (pc := 912) B dL_law_912 ?_
    have hcmp : lg_cmp w bv.toInt64 = 0 := by rw [hw]; exact cmp_self _
    refine g_if_eq (pc := 913) (tgt := 918) B dL_law_913 (by decide) (fun _ => ?_) (fun c9 => absurd hcmp c9)
    refine g_goto (pc := 918) (tgt := 2215) B dL_law_918 (by decide) ?_
    refine g_sub (pc := 2215) [2, 3, 4, 5, 6] rfl ?_
    exact kont X1 (up0 g w) S' hrel1 hLD1
set_option maxRecDepth 100000 in
set_option maxHeartbeats 4000000 in
theorem lc_exercise {D : DD} {ev : EV} {Q : State → Prop} {Rel : Nat → Mem → SM → Prop} {fu b x m oa Ls : Nat} {xs : Nat → Int32} {g : Nat → Int64} {X : Mem} {S : SM} {i : Int32} {p1 : Int32} {p2 : Int32} {p3 : Int32} {cs sl : Nat} (hrz : ∀ x X S z, Rel x X S → Rel x (zM X z) S) (hrk : ∀ x X S, Rel x X S → mK X x = some (11, 0)) (sem : sem_exercise Rel fu) (B : Amb D (A0L ev) ev RL "law" cL_law 7 (some .boolean) room_1) (hnc : EvNc ev) (hs : ScrL ev b Ls xs) (hi1 : vp_in (i + (1 : Int32)) Ls) (hi2 : vp_in (i + (2 : Int32)) Ls) (hi3 : vp_in (i + (3 : Int32)) Ls) (hp1 : xs (i + (1 : Int32)).toNatClampNeg = p1) (hp2 : xs (i + (2 : Int32)).toNatClampNeg = p2) (hp3 : xs (i + (3 : Int32)).toNatClampNeg = p3) (hrel : Rel x X S) (hLD : LD X oa m) (hf : cs + 16 ≤ room_1.cells ∧ sl + 200 ≤ room_1.slots)
    (kont : ∀ (X' : Mem) (g' : Nat → Int64) (S' : SM), Rel x X' S' → LD X' oa m → Gd D (A0L ev) ev Q (LM X' oa g' m S') (cs + 16) (sl + 200) 2215 [(0, vA (some b)), (1, vA (some x)), (2, vA (some m)), (3, vA (some oa)), (4, vI i)] []) : Gd D (A0L ev) ev Q (LM X oa g m S) cs sl 921 [(0, vA (some b)), (1, vA (some x)), (2, vA (some m)), (3, vA (some oa)), (4, vI i)] [] := by
  refine g_dom fun hdm => ?_
  obtain ⟨hfr, hoa, hma⟩ := LM_fresh hLD hdm
  refine g_aload_n (pc := 921) B dL_law_921 1 rfl ?_
  refine g_aload_n (pc := 922) B dL_law_922 0 rfl ?_
  refine g_iload (pc := 923) B dL_law_923 4 rfl ?_
  refine g_iconst (pc := 925) B dL_law_925 (1 : Int32) (by decide) ?_
  refine g_iadd (pc := 926) B dL_law_926 ?_
  refine g_sld (pc := 927) B hs hi1 hp1 dL_law_927 ?_
  refine g_aload_n (pc := 928) B dL_law_928 0 rfl ?_
  refine g_iload (pc := 929) B dL_law_929 4 rfl ?_
  refine g_iconst (pc := 931) B dL_law_931 (2 : Int32) (by decide) ?_
  refine g_iadd (pc := 932) B dL_law_932 ?_
  refine g_sld (pc := 933) B hs hi2 hp2 dL_law_933 ?_
  refine g_aload_n (pc := 934) B dL_law_934 0 rfl ?_
  refine g_iload (pc := 935) B dL_law_935 4 rfl ?_
  refine g_iconst (pc := 937) B dL_law_937 (3 : Int32) (by decide) ?_
  refine g_iadd (pc := 938) B dL_law_938 ?_
  refine g_sld (pc := 939) B hs hi3 hp3 dL_law_939 ?_
  refine g_aload_n (pc := 940) B dL_law_940 3 rfl ?_
  obtain ⟨r, bv, S', e1, e2, hsem⟩ := sem x X S p1 p2 p3  hrel hfr
  refine l_wrap (pc := 941) (As := [vA (some x), vI p1, vI p2, vI p3, vA (some oa)]) (st := []) B hnc calw_L_exercise kmL_158 kz_L_exercise hLD (fun l hl => cw_L_exercise hl e1 (hrk _ _ _ hrel) hLD.1 (fun v X1 q => by subst q; exact ((semR_ok hsem).2.2.2.2 oa hoa).trans hLD.1) (fun E q => by subst q; exact (semR_ex hsem).1)) rfl (Nat.le_of_ble_eq_true rfl) (by decide) (by decide) hf dL_law_941 rfl (fun E k z hr hk => ?_) (fun w X1 hr => ?_)
  · rw [hr] at hsem
    have hx9 := semR_ex hsem
    have hthr : sc S' 0 = nI (k + 1) := hx9.2.1 k hk
    have hk3 : k < 3 := (List.getElem?_eq_some_iff.mp hk).1
    have hk0 : ¬ nI (k + 1) = 0 := nI_ne0 (by omega) (by omega)
    refine g_istore (pc := 944) (L' := [(5, vI (nI (k + 1))), (0, vA (some b)), (1, vA (some x)), (2, vA (some m)), (3, vA (some oa)), (4, vI i)]) B dL_law_944 (by decide) rfl ?_
    refine g_aload_n (pc := 946) B dL_law_946 3 rfl ?_
    refine g_aload_n (pc := 947) B dL_law_947 1 rfl ?_
    refine g_iload (pc := 948) B dL_law_948 5 rfl ?_
    refine g_iconst (pc := 950) B dL_law_950 (1 : Int32) (by decide) ?_
    refine g_iadd (pc := 951) B dL_law_951 ?_
    refine g_sld (pc := 952) B hs hi1 hp1 dL_law_952 ?_
    refine g_aload_n (pc := 953) B dL_law_953 1 rfl ?_
    refine g_iload (pc := 954) B dL_law_954 5 rfl ?_
    refine g_iconst (pc := 956) B dL_law_956 (2 : Int32) (by decide) ?_
    refine g_iadd (pc := 957) B dL_law_957 ?_
    refine g_sld (pc := 958) B hs hi2 hp2 dL_law_958 ?_
    refine g_aload_n (pc := 959) B dL_law_959 1 rfl ?_
    refine g_iload (pc := 960) B dL_law_960 5 rfl ?_
    refine g_iconst (pc := 962) B dL_law_962 (3 : Int32) (by decide) ?_
    refine g_iadd (pc := 963) B dL_law_963 ?_
    refine g_sld (pc := 964) B hs hi3 hp3 dL_law_964 ?_
    refine l_ref (pc := 965) (As := [vI p1, vI p2, vI p3]) (st := []) (st10 := [vI bv]) (S' := S') B cal_X12_exercise kmL_161 kn_X12_exercise ks_X12_exercise rfl hLD (fun l hl z => ct_X12_exercise hl e2) rfl (Nat.le_of_ble_eq_true rfl) (by decide) (by decide) hf dL_law_965 rfl rfl ?_
    refine g_istore (pc := 968) (L' := [(6, vI bv), (5, vI (nI (k + 1))), (0, vA (some b)), (1, vA (some x)), (2, vA (some m)), (3, vA (some oa)), (4, vI i)]) B dL_law_968 (by decide) rfl ?_
    refine g_aload_n (pc := 970) B dL_law_970 4 rfl ?_
    refine l_ref (pc := 971) (As := []) (st := []) (st10 := [vI (sc S' 0)]) (S' := S') B cal_X12_thrown kmL_120 kn_X12_thrown ks_X12_thrown rfl hLD (fun l hl z => ct_X12_thrown hl (X0 := S') rfl) rfl (Nat.le_of_ble_eq_true rfl) (by decide) (by decide) hf dL_law_971 rfl rfl ?_
    refine g_iload (pc := 974) B dL_law_974 1 rfl ?_
    refine g_icmp_eq (pc := 976) (tgt := 981) B dL_law_976 (by decide) (fun _ => ?_) (fun c9 => absurd hthr c9)
    refine g_iload (pc := 981) B dL_law_981 1 rfl ?_
    refine g_if_ne (pc := 983) (tgt := 998) B dL_law_983 (by decide) (fun _ => ?_) (fun c9 => absurd c9 hk0)
    refine g_goto (pc := 998) (tgt := 2215) B dL_law_998 (by decide) ?_
    refine g_sub (pc := 2215) [2, 3, 4, 5, 6] rfl ?_
    exact kont (zM X z) g S' (hrz _ _ _ _ hx9.2.2) hLD
  · rw [hr] at hsem
    obtain ⟨hthr, hw, hrel1, hkp⟩ := semR_ok hsem
    have hLD1 := hLD.keep hoa hma hkp
    refine g_istore (pc := 944) (L' := [(5, vI 0), (0, vA (some b)), (1, vA (some x)), (2, vA (some m)), (3, vA (some oa)), (4, vI i)]) B dL_law_944 (by decide) rfl ?_
    refine g_aload_n (pc := 946) B dL_law_946 3 rfl ?_
    refine g_aload_n (pc := 947) B dL_law_947 1 rfl ?_
    refine g_iload (pc := 948) B dL_law_948 5 rfl ?_
    refine g_iconst (pc := 950) B dL_law_950 (1 : Int32) (by decide) ?_
    refine g_iadd (pc := 951) B dL_law_951 ?_
    refine g_sld (pc := 952) B hs hi1 hp1 dL_law_952 ?_
    refine g_aload_n (pc := 953) B dL_law_953 1 rfl ?_
    refine g_iload (pc := 954) B dL_law_954 5 rfl ?_
    refine g_iconst (pc := 956) B dL_law_956 (2 : Int32) (by decide) ?_
    refine g_iadd (pc := 957) B dL_law_957 ?_
    refine g_sld (pc := 958) B hs hi2 hp2 dL_law_958 ?_
    refine g_aload_n (pc := 959) B dL_law_959 1 rfl ?_
    refine g_iload (pc := 960) B dL_law_960 5 rfl ?_
    refine g_iconst (pc := 962) B dL_law_962 (3 : Int32) (by decide) ?_
    refine g_iadd (pc := 963) B dL_law_963 ?_
    refine g_sld (pc := 964) B hs hi3 hp3 dL_law_964 ?_
    refine l_ref (pc := 965) (As := [vI p1, vI p2, vI p3]) (st := []) (st10 := [vI bv]) (S' := S') B cal_X12_exercise kmL_161 kn_X12_exercise ks_X12_exercise rfl hLD1 (fun l hl z => ct_X12_exercise hl e2) rfl (Nat.le_of_ble_eq_true rfl) (by decide) (by decide) hf dL_law_965 rfl rfl ?_
    refine g_istore (pc := 968) (L' := [(6, vI bv), (5, vI 0), (0, vA (some b)), (1, vA (some x)), (2, vA (some m)), (3, vA (some oa)), (4, vI i)]) B dL_law_968 (by decide) rfl ?_
    refine g_aload_n (pc := 970) B dL_law_970 4 rfl ?_
    refine l_ref (pc := 971) (As := []) (st := []) (st10 := [vI (sc S' 0)]) (S' := S') B cal_X12_thrown kmL_120 kn_X12_thrown ks_X12_thrown rfl hLD1 (fun l hl z => ct_X12_thrown hl (X0 := S') rfl) rfl (Nat.le_of_ble_eq_true rfl) (by decide) (by decide) hf dL_law_971 rfl rfl ?_
    refine g_iload (pc := 974) B dL_law_974 1 rfl ?_
    refine g_icmp_eq (pc := 976) (tgt := 981) B dL_law_976 (by decide) (fun _ => ?_) (fun c9 => absurd hthr c9)
    refine g_iload (pc := 981) B dL_law_981 1 rfl ?_
    refine g_if_ne (pc := 983) (tgt := 998) B dL_law_983 (by decide) (fun c9 => absurd rfl c9) (fun _ => ?_)
    refine g_aload_n (pc := 986) B dL_law_986 5 rfl ?_
    refine g_iconst (pc := 987) B dL_law_987 (0 : Int32) (by decide) ?_
    refine g_lald (pc := 988) B (LM_out0 hLD1) vin01 dL_law_988 ?_
    rw [LM_aJ hLD1]
    refine g_iload (pc := 989) B dL_law_989 0 rfl ?_
    refine g_i2l (pc := 991) B dL_law_991 ?_
    refine g_lcmp (pc := 992) B dL_law_992 ?_
    have hcmp : lg_cmp w bv.toInt64 = 0 := by rw [hw]; exact cmp_self _
    refine g_if_eq (pc := 993) (tgt := 998) B dL_law_993 (by decide) (fun _ => ?_) (fun c9 => absurd hcmp c9)
    refine g_goto (pc := 998) (tgt := 2215) B dL_law_998 (by decide) ?_
    refine g_sub (pc := 2215) [2, 3, 4, 5, 6] rfl ?_
    exact kont X1 (up0 g w) S' hrel1 hLD1
set_option maxRecDepth 100000 in
set_option maxHeartbeats 4000000 in
theorem lc_allow {D : DD} {ev : EV} {Q : State → Prop} {Rel : Nat → Mem → SM → Prop} {fu b x m oa Ls : Nat} {xs : Nat → Int32} {g : Nat → Int64} {X : Mem} {S : SM} {i : Int32} {p1 : Int32} {p2 : Int32} {p3 : Int32} {cs sl : Nat} (hrz : ∀ x X S z, Rel x X S → Rel x (zM X z) S) (hrk : ∀ x X S, Rel x X S → mK X x = some (11, 0)) (sem : sem_allow Rel fu) (B : Amb D (A0L ev) ev RL "law" cL_law 7 (some .boolean) room_1) (hnc : EvNc ev) (hs : ScrL ev b Ls xs) (hi1 : vp_in (i + (1 : Int32)) Ls) (hi2 : vp_in (i + (2 : Int32)) Ls) (hi3 : vp_in (i + (3 : Int32)) Ls) (hp1 : xs (i + (1 : Int32)).toNatClampNeg = p1) (hp2 : xs (i + (2 : Int32)).toNatClampNeg = p2) (hp3 : xs (i + (3 : Int32)).toNatClampNeg = p3) (hrel : Rel x X S) (hLD : LD X oa m) (hf : cs + 16 ≤ room_1.cells ∧ sl + 200 ≤ room_1.slots)
    (kont : ∀ (X' : Mem) (g' : Nat → Int64) (S' : SM), Rel x X' S' → LD X' oa m → Gd D (A0L ev) ev Q (LM X' oa g' m S') (cs + 16) (sl + 200) 2215 [(0, vA (some b)), (1, vA (some x)), (2, vA (some m)), (3, vA (some oa)), (4, vI i)] []) : Gd D (A0L ev) ev Q (LM X oa g m S) cs sl 1001 [(0, vA (some b)), (1, vA (some x)), (2, vA (some m)), (3, vA (some oa)), (4, vI i)] [] := by
  refine g_dom fun hdm => ?_
  obtain ⟨hfr, hoa, hma⟩ := LM_fresh hLD hdm
  refine g_aload_n (pc := 1001) B dL_law_1001 1 rfl ?_
  refine g_aload_n (pc := 1002) B dL_law_1002 0 rfl ?_
  refine g_iload (pc := 1003) B dL_law_1003 4 rfl ?_
  refine g_iconst (pc := 1005) B dL_law_1005 (1 : Int32) (by decide) ?_
  refine g_iadd (pc := 1006) B dL_law_1006 ?_
  refine g_sld (pc := 1007) B hs hi1 hp1 dL_law_1007 ?_
  refine g_aload_n (pc := 1008) B dL_law_1008 0 rfl ?_
  refine g_iload (pc := 1009) B dL_law_1009 4 rfl ?_
  refine g_iconst (pc := 1011) B dL_law_1011 (2 : Int32) (by decide) ?_
  refine g_iadd (pc := 1012) B dL_law_1012 ?_
  refine g_sld (pc := 1013) B hs hi2 hp2 dL_law_1013 ?_
  refine g_aload_n (pc := 1014) B dL_law_1014 0 rfl ?_
  refine g_iload (pc := 1015) B dL_law_1015 4 rfl ?_
  refine g_iconst (pc := 1017) B dL_law_1017 (3 : Int32) (by decide) ?_
  refine g_iadd (pc := 1018) B dL_law_1018 ?_
  refine g_sld (pc := 1019) B hs hi3 hp3 dL_law_1019 ?_
  refine g_aload_n (pc := 1020) B dL_law_1020 3 rfl ?_
  obtain ⟨r, bv, S', e1, e2, hsem⟩ := sem x X S p1 p2 p3  hrel hfr
  refine l_wrap (pc := 1021) (As := [vA (some x), vI p1, vI p2, vI p3, vA (some oa)]) (st := []) B hnc calw_L_allow kmL_162 kz_L_allow hLD (fun l hl => cw_L_allow hl e1 (hrk _ _ _ hrel) hLD.1 (fun v X1 q => by subst q; exact ((semR_ok hsem).2.2.2.2 oa hoa).trans hLD.1) (fun E q => by subst q; exact (semR_ex hsem).1)) rfl (Nat.le_of_ble_eq_true rfl) (by decide) (by decide) hf dL_law_1021 rfl (fun E k z hr hk => ?_) (fun w X1 hr => ?_)
  · rw [hr] at hsem
    have hx9 := semR_ex hsem
    have hthr : sc S' 0 = nI (k + 1) := hx9.2.1 k hk
    have hk3 : k < 2 := (List.getElem?_eq_some_iff.mp hk).1
    have hk0 : ¬ nI (k + 1) = 0 := nI_ne0 (by omega) (by omega)
    refine g_istore (pc := 1024) (L' := [(5, vI (nI (k + 1))), (0, vA (some b)), (1, vA (some x)), (2, vA (some m)), (3, vA (some oa)), (4, vI i)]) B dL_law_1024 (by decide) rfl ?_
    refine g_aload_n (pc := 1026) B dL_law_1026 3 rfl ?_
    refine g_aload_n (pc := 1027) B dL_law_1027 1 rfl ?_
    refine g_iload (pc := 1028) B dL_law_1028 5 rfl ?_
    refine g_iconst (pc := 1030) B dL_law_1030 (1 : Int32) (by decide) ?_
    refine g_iadd (pc := 1031) B dL_law_1031 ?_
    refine g_sld (pc := 1032) B hs hi1 hp1 dL_law_1032 ?_
    refine g_aload_n (pc := 1033) B dL_law_1033 1 rfl ?_
    refine g_iload (pc := 1034) B dL_law_1034 5 rfl ?_
    refine g_iconst (pc := 1036) B dL_law_1036 (2 : Int32) (by decide) ?_
    refine g_iadd (pc := 1037) B dL_law_1037 ?_
    refine g_sld (pc := 1038) B hs hi2 hp2 dL_law_1038 ?_
    refine g_aload_n (pc := 1039) B dL_law_1039 1 rfl ?_
    refine g_iload (pc := 1040) B dL_law_1040 5 rfl ?_
    refine g_iconst (pc := 1042) B dL_law_1042 (3 : Int32) (by decide) ?_
    refine g_iadd (pc := 1043) B dL_law_1043 ?_
    refine g_sld (pc := 1044) B hs hi3 hp3 dL_law_1044 ?_
    refine l_ref (pc := 1045) (As := [vI p1, vI p2, vI p3]) (st := []) (st10 := [vI bv]) (S' := S') B cal_X12_allow kmL_164 kn_X12_allow ks_X12_allow rfl hLD (fun l hl z => ct_X12_allow hl e2) rfl (Nat.le_of_ble_eq_true rfl) (by decide) (by decide) hf dL_law_1045 rfl rfl ?_
    refine g_istore (pc := 1048) (L' := [(6, vI bv), (5, vI (nI (k + 1))), (0, vA (some b)), (1, vA (some x)), (2, vA (some m)), (3, vA (some oa)), (4, vI i)]) B dL_law_1048 (by decide) rfl ?_
    refine g_aload_n (pc := 1050) B dL_law_1050 4 rfl ?_
    refine l_ref (pc := 1051) (As := []) (st := []) (st10 := [vI (sc S' 0)]) (S' := S') B cal_X12_thrown kmL_120 kn_X12_thrown ks_X12_thrown rfl hLD (fun l hl z => ct_X12_thrown hl (X0 := S') rfl) rfl (Nat.le_of_ble_eq_true rfl) (by decide) (by decide) hf dL_law_1051 rfl rfl ?_
    refine g_iload (pc := 1054) B dL_law_1054 1 rfl ?_
    refine g_icmp_eq (pc := 1056) (tgt := 1061) B dL_law_1056 (by decide) (fun _ => ?_) (fun c9 => absurd hthr c9)
    refine g_iload (pc := 1061) B dL_law_1061 1 rfl ?_
    refine g_if_ne (pc := 1063) (tgt := 1078) B dL_law_1063 (by decide) (fun _ => ?_) (fun c9 => absurd c9 hk0)
    refine g_goto (pc := 1078) (tgt := 2215) B dL_law_1078 (by decide) ?_
    refine g_sub (pc := 2215) [2, 3, 4, 5, 6] rfl ?_
    exact kont (zM X z) g S' (hrz _ _ _ _ hx9.2.2) hLD
  · rw [hr] at hsem
    obtain ⟨hthr, hw, hrel1, hkp⟩ := semR_ok hsem
    have hLD1 := hLD.keep hoa hma hkp
    refine g_istore (pc := 1024) (L' := [(5, vI 0), (0, vA (some b)), (1, vA (some x)), (2, vA (some m)), (3, vA (some oa)), (4, vI i)]) B dL_law_1024 (by decide) rfl ?_
    refine g_aload_n (pc := 1026) B dL_law_1026 3 rfl ?_
    refine g_aload_n (pc := 1027) B dL_law_1027 1 rfl ?_
    refine g_iload (pc := 1028) B dL_law_1028 5 rfl ?_
    refine g_iconst (pc := 1030) B dL_law_1030 (1 : Int32) (by decide) ?_
    refine g_iadd (pc := 1031) B dL_law_1031 ?_
    refine g_sld (pc := 1032) B hs hi1 hp1 dL_law_1032 ?_
    refine g_aload_n (pc := 1033) B dL_law_1033 1 rfl ?_
    refine g_iload (pc := 1034) B dL_law_1034 5 rfl ?_
    refine g_iconst (pc := 1036) B dL_law_1036 (2 : Int32) (by decide) ?_
    refine g_iadd (pc := 1037) B dL_law_1037 ?_
    refine g_sld (pc := 1038) B hs hi2 hp2 dL_law_1038 ?_
    refine g_aload_n (pc := 1039) B dL_law_1039 1 rfl ?_
    refine g_iload (pc := 1040) B dL_law_1040 5 rfl ?_
    refine g_iconst (pc := 1042) B dL_law_1042 (3 : Int32) (by decide) ?_
    refine g_iadd (pc := 1043) B dL_law_1043 ?_
    refine g_sld (pc := 1044) B hs hi3 hp3 dL_law_1044 ?_
    refine l_ref (pc := 1045) (As := [vI p1, vI p2, vI p3]) (st := []) (st10 := [vI bv]) (S' := S') B cal_X12_allow kmL_164 kn_X12_allow ks_X12_allow rfl hLD1 (fun l hl z => ct_X12_allow hl e2) rfl (Nat.le_of_ble_eq_true rfl) (by decide) (by decide) hf dL_law_1045 rfl rfl ?_
    refine g_istore (pc := 1048) (L' := [(6, vI bv), (5, vI 0), (0, vA (some b)), (1, vA (some x)), (2, vA (some m)), (3, vA (some oa)), (4, vI i)]) B dL_law_1048 (by decide) rfl ?_
    refine g_aload_n (pc := 1050) B dL_law_1050 4 rfl ?_
    refine l_ref (pc := 1051) (As := []) (st := []) (st10 := [vI (sc S' 0)]) (S' := S') B cal_X12_thrown kmL_120 kn_X12_thrown ks_X12_thrown rfl hLD1 (fun l hl z => ct_X12_thrown hl (X0 := S') rfl) rfl (Nat.le_of_ble_eq_true rfl) (by decide) (by decide) hf dL_law_1051 rfl rfl ?_
    refine g_iload (pc := 1054) B dL_law_1054 1 rfl ?_
    refine g_icmp_eq (pc := 1056) (tgt := 1061) B dL_law_1056 (by decide) (fun _ => ?_) (fun c9 => absurd hthr c9)
    refine g_iload (pc := 1061) B dL_law_1061 1 rfl ?_
    refine g_if_ne (pc := 1063) (tgt := 1078) B dL_law_1063 (by decide) (fun c9 => absurd rfl c9) (fun _ => ?_)
    refine g_aload_n (pc := 1066) B dL_law_1066 5 rfl ?_
    refine g_iconst (pc := 1067) B dL_law_1067 (0 : Int32) (by decide) ?_
    refine g_lald (pc := 1068) B (LM_out0 hLD1) vin01 dL_law_1068 ?_
    rw [LM_aJ hLD1]
    refine g_iload (pc := 1069) B dL_law_1069 0 rfl ?_
    refine g_i2l (pc := 1071) B dL_law_1071 ?_
    refine g_lcmp (pc := 1072) B dL_law_1072 ?_
    have hcmp : lg_cmp w bv.toInt64 = 0 := by rw [hw]; exact cmp_self _
    refine g_if_eq (pc := 1073) (tgt := 1078) B dL_law_1073 (by decide) (fun _ => ?_) (fun c9 => absurd hcmp c9)
    refine g_goto (pc := 1078) (tgt := 2215) B dL_law_1078 (by decide) ?_
    refine g_sub (pc := 2215) [2, 3, 4, 5, 6] rfl ?_
    exact kont X1 (up0 g w) S' hrel1 hLD1
set_option maxRecDepth 100000 in
set_option maxHeartbeats 4000000 in
theorem lc_handIn {D : DD} {ev : EV} {Q : State → Prop} {Rel : Nat → Mem → SM → Prop} {fu b x m oa Ls : Nat} {xs : Nat → Int32} {g : Nat → Int64} {X : Mem} {S : SM} {i : Int32} {p1 : Int32} {p2 : Int32} {cs sl : Nat} (hrz : ∀ x X S z, Rel x X S → Rel x (zM X z) S) (hrk : ∀ x X S, Rel x X S → mK X x = some (11, 0)) (sem : sem_handIn Rel fu) (B : Amb D (A0L ev) ev RL "law" cL_law 7 (some .boolean) room_1) (hnc : EvNc ev) (hs : ScrL ev b Ls xs) (hi1 : vp_in (i + (1 : Int32)) Ls) (hi2 : vp_in (i + (2 : Int32)) Ls) (hp1 : xs (i + (1 : Int32)).toNatClampNeg = p1) (hp2 : xs (i + (2 : Int32)).toNatClampNeg = p2) (hrel : Rel x X S) (hLD : LD X oa m) (hf : cs + 16 ≤ room_1.cells ∧ sl + 200 ≤ room_1.slots)
    (kont : ∀ (X' : Mem) (g' : Nat → Int64) (S' : SM), Rel x X' S' → LD X' oa m → Gd D (A0L ev) ev Q (LM X' oa g' m S') (cs + 16) (sl + 200) 2215 [(0, vA (some b)), (1, vA (some x)), (2, vA (some m)), (3, vA (some oa)), (4, vI i)] []) : Gd D (A0L ev) ev Q (LM X oa g m S) cs sl 1081 [(0, vA (some b)), (1, vA (some x)), (2, vA (some m)), (3, vA (some oa)), (4, vI i)] [] := by
  refine g_dom fun hdm => ?_
  obtain ⟨hfr, hoa, hma⟩ := LM_fresh hLD hdm
  refine g_aload_n (pc := 1081) B dL_law_1081 1 rfl ?_
  refine g_aload_n (pc := 1082) B dL_law_1082 0 rfl ?_
  refine g_iload (pc := 1083) B dL_law_1083 4 rfl ?_
  refine g_iconst (pc := 1085) B dL_law_1085 (1 : Int32) (by decide) ?_
  refine g_iadd (pc := 1086) B dL_law_1086 ?_
  refine g_sld (pc := 1087) B hs hi1 hp1 dL_law_1087 ?_
  refine g_aload_n (pc := 1088) B dL_law_1088 0 rfl ?_
  refine g_iload (pc := 1089) B dL_law_1089 4 rfl ?_
  refine g_iconst (pc := 1091) B dL_law_1091 (2 : Int32) (by decide) ?_
  refine g_iadd (pc := 1092) B dL_law_1092 ?_
  refine g_sld (pc := 1093) B hs hi2 hp2 dL_law_1093 ?_
  refine g_aload_n (pc := 1094) B dL_law_1094 3 rfl ?_
  obtain ⟨r, bv, S', e1, e2, hsem⟩ := sem x X S p1 p2  hrel hfr
  refine l_wrap (pc := 1095) (As := [vA (some x), vI p1, vI p2, vA (some oa)]) (st := []) B hnc calw_L_handIn kmL_165 kz_L_handIn hLD (fun l hl => cw_L_handIn hl e1 (hrk _ _ _ hrel) hLD.1 (fun v X1 q => by subst q; exact ((semR_ok hsem).2.2.2.2 oa hoa).trans hLD.1) (fun E q => by subst q; exact (semR_ex hsem).1)) rfl (Nat.le_of_ble_eq_true rfl) (by decide) (by decide) hf dL_law_1095 rfl (fun E k z hr hk => ?_) (fun w X1 hr => ?_)
  · rw [hr] at hsem
    have hx9 := semR_ex hsem
    have hthr : sc S' 0 = nI (k + 1) := hx9.2.1 k hk
    have hk3 : k < 2 := (List.getElem?_eq_some_iff.mp hk).1
    have hk0 : ¬ nI (k + 1) = 0 := nI_ne0 (by omega) (by omega)
    refine g_istore (pc := 1098) (L' := [(5, vI (nI (k + 1))), (0, vA (some b)), (1, vA (some x)), (2, vA (some m)), (3, vA (some oa)), (4, vI i)]) B dL_law_1098 (by decide) rfl ?_
    refine g_aload_n (pc := 1100) B dL_law_1100 3 rfl ?_
    refine g_aload_n (pc := 1101) B dL_law_1101 1 rfl ?_
    refine g_iload (pc := 1102) B dL_law_1102 5 rfl ?_
    refine g_iconst (pc := 1104) B dL_law_1104 (1 : Int32) (by decide) ?_
    refine g_iadd (pc := 1105) B dL_law_1105 ?_
    refine g_sld (pc := 1106) B hs hi1 hp1 dL_law_1106 ?_
    refine g_aload_n (pc := 1107) B dL_law_1107 1 rfl ?_
    refine g_iload (pc := 1108) B dL_law_1108 5 rfl ?_
    refine g_iconst (pc := 1110) B dL_law_1110 (2 : Int32) (by decide) ?_
    refine g_iadd (pc := 1111) B dL_law_1111 ?_
    refine g_sld (pc := 1112) B hs hi2 hp2 dL_law_1112 ?_
    refine l_ref (pc := 1113) (As := [vI p1, vI p2]) (st := []) (st10 := [vI bv]) (S' := S') B cal_X12_handIn kmL_168 kn_X12_handIn ks_X12_handIn rfl hLD (fun l hl z => ct_X12_handIn hl e2) rfl (Nat.le_of_ble_eq_true rfl) (by decide) (by decide) hf dL_law_1113 rfl rfl ?_
    refine g_istore (pc := 1116) (L' := [(6, vI bv), (5, vI (nI (k + 1))), (0, vA (some b)), (1, vA (some x)), (2, vA (some m)), (3, vA (some oa)), (4, vI i)]) B dL_law_1116 (by decide) rfl ?_
    refine g_aload_n (pc := 1118) B dL_law_1118 4 rfl ?_
    refine l_ref (pc := 1119) (As := []) (st := []) (st10 := [vI (sc S' 0)]) (S' := S') B cal_X12_thrown kmL_120 kn_X12_thrown ks_X12_thrown rfl hLD (fun l hl z => ct_X12_thrown hl (X0 := S') rfl) rfl (Nat.le_of_ble_eq_true rfl) (by decide) (by decide) hf dL_law_1119 rfl rfl ?_
    refine g_iload (pc := 1122) B dL_law_1122 1 rfl ?_
    refine g_icmp_eq (pc := 1124) (tgt := 1129) B dL_law_1124 (by decide) (fun _ => ?_) (fun c9 => absurd hthr c9)
    refine g_iload (pc := 1129) B dL_law_1129 1 rfl ?_
    refine g_if_ne (pc := 1131) (tgt := 1146) B dL_law_1131 (by decide) (fun _ => ?_) (fun c9 => absurd c9 hk0)
    refine g_goto (pc := 1146) (tgt := 2215) B dL_law_1146 (by decide) ?_
    refine g_sub (pc := 2215) [2, 3, 4, 5, 6] rfl ?_
    exact kont (zM X z) g S' (hrz _ _ _ _ hx9.2.2) hLD
  · rw [hr] at hsem
    obtain ⟨hthr, hw, hrel1, hkp⟩ := semR_ok hsem
    have hLD1 := hLD.keep hoa hma hkp
    refine g_istore (pc := 1098) (L' := [(5, vI 0), (0, vA (some b)), (1, vA (some x)), (2, vA (some m)), (3, vA (some oa)), (4, vI i)]) B dL_law_1098 (by decide) rfl ?_
    refine g_aload_n (pc := 1100) B dL_law_1100 3 rfl ?_
    refine g_aload_n (pc := 1101) B dL_law_1101 1 rfl ?_
    refine g_iload (pc := 1102) B dL_law_1102 5 rfl ?_
    refine g_iconst (pc := 1104) B dL_law_1104 (1 : Int32) (by decide) ?_
    refine g_iadd (pc := 1105) B dL_law_1105 ?_
    refine g_sld (pc := 1106) B hs hi1 hp1 dL_law_1106 ?_
    refine g_aload_n (pc := 1107) B dL_law_1107 1 rfl ?_
    refine g_iload (pc := 1108) B dL_law_1108 5 rfl ?_
    refine g_iconst (pc := 1110) B dL_law_1110 (2 : Int32) (by decide) ?_
    refine g_iadd (pc := 1111) B dL_law_1111 ?_
    refine g_sld (pc := 1112) B hs hi2 hp2 dL_law_1112 ?_
    refine l_ref (pc := 1113) (As := [vI p1, vI p2]) (st := []) (st10 := [vI bv]) (S' := S') B cal_X12_handIn kmL_168 kn_X12_handIn ks_X12_handIn rfl hLD1 (fun l hl z => ct_X12_handIn hl e2) rfl (Nat.le_of_ble_eq_true rfl) (by decide) (by decide) hf dL_law_1113 rfl rfl ?_
    refine g_istore (pc := 1116) (L' := [(6, vI bv), (5, vI 0), (0, vA (some b)), (1, vA (some x)), (2, vA (some m)), (3, vA (some oa)), (4, vI i)]) B dL_law_1116 (by decide) rfl ?_
    refine g_aload_n (pc := 1118) B dL_law_1118 4 rfl ?_
    refine l_ref (pc := 1119) (As := []) (st := []) (st10 := [vI (sc S' 0)]) (S' := S') B cal_X12_thrown kmL_120 kn_X12_thrown ks_X12_thrown rfl hLD1 (fun l hl z => ct_X12_thrown hl (X0 := S') rfl) rfl (Nat.le_of_ble_eq_true rfl) (by decide) (by decide) hf dL_law_1119 rfl rfl ?_
    refine g_iload (pc := 1122) B dL_law_1122 1 rfl ?_
    refine g_icmp_eq (pc := 1124) (tgt := 1129) B dL_law_1124 (by decide) (fun _ => ?_) (fun c9 => absurd hthr c9)
    refine g_iload (pc := 1129) B dL_law_1129 1 rfl ?_
    refine g_if_ne (pc := 1131) (tgt := 1146) B dL_law_1131 (by decide) (fun c9 => absurd rfl c9) (fun _ => ?_)
    refine g_aload_n (pc := 1134) B dL_law_1134 5 rfl ?_
    refine g_iconst (pc := 1135) B dL_law_1135 (0 : Int32) (by decide) ?_
    refine g_lald (pc := 1136) B (LM_out0 hLD1) vin01 dL_law_1136 ?_
    rw [LM_aJ hLD1]
    refine g_iload (pc := 1137) B dL_law_1137 0 rfl ?_
    refine g_i2l (pc := 1139) B dL_law_1139 ?_
    refine g_lcmp (pc := 1140) B dL_law_1140 ?_
    have hcmp : lg_cmp w bv.toInt64 = 0 := by rw [hw]; exact cmp_self _
    refine g_if_eq (pc := 1141) (tgt := 1146) B dL_law_1141 (by decide) (fun _ => ?_) (fun c9 => absurd hcmp c9)
    refine g_goto (pc := 1146) (tgt := 2215) B dL_law_1146 (by decide) ?_
    refine g_sub (pc := 2215) [2, 3, 4, 5, 6] rfl ?_
    exact kont X1 (up0 g w) S' hrel1 hLD1
set_option maxRecDepth 100000 in
set_option maxHeartbeats 4000000 in
theorem lc_clear {D : DD} {ev : EV} {Q : State → Prop} {Rel : Nat → Mem → SM → Prop} {fu b x m oa Ls : Nat} {xs : Nat → Int32} {g : Nat → Int64} {X : Mem} {S : SM} {i : Int32} {p1 : Int32} {p2 : Int32} {cs sl : Nat} (hrz : ∀ x X S z, Rel x X S → Rel x (zM X z) S) (hrk : ∀ x X S, Rel x X S → mK X x = some (11, 0)) (sem : sem_clear Rel fu) (B : Amb D (A0L ev) ev RL "law" cL_law 7 (some .boolean) room_1) (hnc : EvNc ev) (hs : ScrL ev b Ls xs) (hi1 : vp_in (i + (1 : Int32)) Ls) (hi2 : vp_in (i + (2 : Int32)) Ls) (hp1 : xs (i + (1 : Int32)).toNatClampNeg = p1) (hp2 : xs (i + (2 : Int32)).toNatClampNeg = p2) (hrel : Rel x X S) (hLD : LD X oa m) (hf : cs + 16 ≤ room_1.cells ∧ sl + 200 ≤ room_1.slots)
    (kont : ∀ (X' : Mem) (g' : Nat → Int64) (S' : SM), Rel x X' S' → LD X' oa m → Gd D (A0L ev) ev Q (LM X' oa g' m S') (cs + 16) (sl + 200) 2215 [(0, vA (some b)), (1, vA (some x)), (2, vA (some m)), (3, vA (some oa)), (4, vI i)] []) : Gd D (A0L ev) ev Q (LM X oa g m S) cs sl 1149 [(0, vA (some b)), (1, vA (some x)), (2, vA (some m)), (3, vA (some oa)), (4, vI i)] [] := by
  refine g_dom fun hdm => ?_
  obtain ⟨hfr, hoa, hma⟩ := LM_fresh hLD hdm
  refine g_aload_n (pc := 1149) B dL_law_1149 1 rfl ?_
  refine g_aload_n (pc := 1150) B dL_law_1150 0 rfl ?_
  refine g_iload (pc := 1151) B dL_law_1151 4 rfl ?_
  refine g_iconst (pc := 1153) B dL_law_1153 (1 : Int32) (by decide) ?_
  refine g_iadd (pc := 1154) B dL_law_1154 ?_
  refine g_sld (pc := 1155) B hs hi1 hp1 dL_law_1155 ?_
  refine g_aload_n (pc := 1156) B dL_law_1156 0 rfl ?_
  refine g_iload (pc := 1157) B dL_law_1157 4 rfl ?_
  refine g_iconst (pc := 1159) B dL_law_1159 (2 : Int32) (by decide) ?_
  refine g_iadd (pc := 1160) B dL_law_1160 ?_
  refine g_sld (pc := 1161) B hs hi2 hp2 dL_law_1161 ?_
  by_cases hc_p2 : p2 = 0
  · refine g_if_eq (pc := 1162) (tgt := 1169) B dL_law_1162 (by decide) (fun _ => ?_) (fun c9 => absurd hc_p2 c9)
    refine g_iconst (pc := 1169) B dL_law_1169 (0 : Int32) (by decide) ?_
    refine g_aload_n (pc := 1170) B dL_law_1170 3 rfl ?_
    obtain ⟨r, bv, S', e1, e2, hsem⟩ := sem x X S p1 (0 : Int32) (Or.inl rfl) hrel hfr
    refine l_wrap (pc := 1171) (As := [vA (some x), vI p1, vI (0 : Int32), vA (some oa)]) (st := []) B hnc calw_L_clear kmL_169 kz_L_clear hLD (fun l hl => cw_L_clear hl e1 (hrk _ _ _ hrel) hLD.1 (fun v X1 q => by subst q; exact ((semR_ok hsem).2.2.2.2 oa hoa).trans hLD.1) (fun E q => by subst q; exact (semR_ex hsem).1)) rfl (Nat.le_of_ble_eq_true rfl) (by decide) (by decide) hf dL_law_1171 rfl (fun E k z hr hk => ?_) (fun w X1 hr => ?_)
    · rw [hr] at hsem
      have hx9 := semR_ex hsem
      have hthr : sc S' 0 = nI (k + 1) := hx9.2.1 k hk
      have hk3 : k < 1 := (List.getElem?_eq_some_iff.mp hk).1
      have hk0 : ¬ nI (k + 1) = 0 := nI_ne0 (by omega) (by omega)
      refine g_istore (pc := 1174) (L' := [(5, vI (nI (k + 1))), (0, vA (some b)), (1, vA (some x)), (2, vA (some m)), (3, vA (some oa)), (4, vI i)]) B dL_law_1174 (by decide) rfl ?_
      refine g_aload_n (pc := 1176) B dL_law_1176 3 rfl ?_
      refine g_aload_n (pc := 1177) B dL_law_1177 1 rfl ?_
      refine g_iload (pc := 1178) B dL_law_1178 5 rfl ?_
      refine g_iconst (pc := 1180) B dL_law_1180 (1 : Int32) (by decide) ?_
      refine g_iadd (pc := 1181) B dL_law_1181 ?_
      refine g_sld (pc := 1182) B hs hi1 hp1 dL_law_1182 ?_
      refine g_aload_n (pc := 1183) B dL_law_1183 1 rfl ?_
      refine g_iload (pc := 1184) B dL_law_1184 5 rfl ?_
      refine g_iconst (pc := 1186) B dL_law_1186 (2 : Int32) (by decide) ?_
      refine g_iadd (pc := 1187) B dL_law_1187 ?_
      refine g_sld (pc := 1188) B hs hi2 hp2 dL_law_1188 ?_
      refine g_if_eq (pc := 1189) (tgt := 1196) B dL_law_1189 (by decide) (fun _ => ?_) (fun c9 => absurd hc_p2 c9)
      refine g_iconst (pc := 1196) B dL_law_1196 (0 : Int32) (by decide) ?_
      refine l_ref (pc := 1197) (As := [vI p1, vI (0 : Int32)]) (st := []) (st10 := [vI bv]) (S' := S') B cal_X12_clear kmL_171 kn_X12_clear ks_X12_clear rfl hLD (fun l hl z => ct_X12_clear hl e2) rfl (Nat.le_of_ble_eq_true rfl) (by decide) (by decide) hf dL_law_1197 rfl rfl ?_
      refine g_istore (pc := 1200) (L' := [(6, vI bv), (5, vI (nI (k + 1))), (0, vA (some b)), (1, vA (some x)), (2, vA (some m)), (3, vA (some oa)), (4, vI i)]) B dL_law_1200 (by decide) rfl ?_
      refine g_aload_n (pc := 1202) B dL_law_1202 4 rfl ?_
      refine l_ref (pc := 1203) (As := []) (st := []) (st10 := [vI (sc S' 0)]) (S' := S') B cal_X12_thrown kmL_120 kn_X12_thrown ks_X12_thrown rfl hLD (fun l hl z => ct_X12_thrown hl (X0 := S') rfl) rfl (Nat.le_of_ble_eq_true rfl) (by decide) (by decide) hf dL_law_1203 rfl rfl ?_
      refine g_iload (pc := 1206) B dL_law_1206 1 rfl ?_
      refine g_icmp_eq (pc := 1208) (tgt := 1213) B dL_law_1208 (by decide) (fun _ => ?_) (fun c9 => absurd hthr c9)
      refine g_iload (pc := 1213) B dL_law_1213 1 rfl ?_
      refine g_if_ne (pc := 1215) (tgt := 1237) B dL_law_1215 (by decide) (fun _ => ?_) (fun c9 => absurd c9 hk0)
      refine g_goto (pc := 1237) (tgt := 2215) B dL_law_1237 (by decide) ?_
      refine g_sub (pc := 2215) [2, 3, 4, 5, 6] rfl ?_
      exact kont (zM X z) g S' (hrz _ _ _ _ hx9.2.2) hLD
    · rw [hr] at hsem
      obtain ⟨hthr, hw, hrel1, hkp⟩ := semR_ok hsem
      have hLD1 := hLD.keep hoa hma hkp
      refine g_istore (pc := 1174) (L' := [(5, vI 0), (0, vA (some b)), (1, vA (some x)), (2, vA (some m)), (3, vA (some oa)), (4, vI i)]) B dL_law_1174 (by decide) rfl ?_
      refine g_aload_n (pc := 1176) B dL_law_1176 3 rfl ?_
      refine g_aload_n (pc := 1177) B dL_law_1177 1 rfl ?_
      refine g_iload (pc := 1178) B dL_law_1178 5 rfl ?_
      refine g_iconst (pc := 1180) B dL_law_1180 (1 : Int32) (by decide) ?_
      refine g_iadd (pc := 1181) B dL_law_1181 ?_
      refine g_sld (pc := 1182) B hs hi1 hp1 dL_law_1182 ?_
      refine g_aload_n (pc := 1183) B dL_law_1183 1 rfl ?_
      refine g_iload (pc := 1184) B dL_law_1184 5 rfl ?_
      refine g_iconst (pc := 1186) B dL_law_1186 (2 : Int32) (by decide) ?_
      refine g_iadd (pc := 1187) B dL_law_1187 ?_
      refine g_sld (pc := 1188) B hs hi2 hp2 dL_law_1188 ?_
      refine g_if_eq (pc := 1189) (tgt := 1196) B dL_law_1189 (by decide) (fun _ => ?_) (fun c9 => absurd hc_p2 c9)
      refine g_iconst (pc := 1196) B dL_law_1196 (0 : Int32) (by decide) ?_
      refine l_ref (pc := 1197) (As := [vI p1, vI (0 : Int32)]) (st := []) (st10 := [vI bv]) (S' := S') B cal_X12_clear kmL_171 kn_X12_clear ks_X12_clear rfl hLD1 (fun l hl z => ct_X12_clear hl e2) rfl (Nat.le_of_ble_eq_true rfl) (by decide) (by decide) hf dL_law_1197 rfl rfl ?_
      refine g_istore (pc := 1200) (L' := [(6, vI bv), (5, vI 0), (0, vA (some b)), (1, vA (some x)), (2, vA (some m)), (3, vA (some oa)), (4, vI i)]) B dL_law_1200 (by decide) rfl ?_
      refine g_aload_n (pc := 1202) B dL_law_1202 4 rfl ?_
      refine l_ref (pc := 1203) (As := []) (st := []) (st10 := [vI (sc S' 0)]) (S' := S') B cal_X12_thrown kmL_120 kn_X12_thrown ks_X12_thrown rfl hLD1 (fun l hl z => ct_X12_thrown hl (X0 := S') rfl) rfl (Nat.le_of_ble_eq_true rfl) (by decide) (by decide) hf dL_law_1203 rfl rfl ?_
      refine g_iload (pc := 1206) B dL_law_1206 1 rfl ?_
      refine g_icmp_eq (pc := 1208) (tgt := 1213) B dL_law_1208 (by decide) (fun _ => ?_) (fun c9 => absurd hthr c9)
      refine g_iload (pc := 1213) B dL_law_1213 1 rfl ?_
      refine g_if_ne (pc := 1215) (tgt := 1237) B dL_law_1215 (by decide) (fun c9 => absurd rfl c9) (fun _ => ?_)
      refine g_aload_n (pc := 1218) B dL_law_1218 5 rfl ?_
      refine g_iconst (pc := 1219) B dL_law_1219 (0 : Int32) (by decide) ?_
      refine g_lald (pc := 1220) B (LM_out0 hLD1) vin01 dL_law_1220 ?_
      rw [LM_aJ hLD1]
      refine g_iload (pc := 1221) B dL_law_1221 0 rfl ?_
      by_cases hbv : bv = 0
      · refine g_if_eq (pc := 1223) (tgt := 1230) B dL_law_1223 (by decide) (fun _ => ?_) (fun c9 => absurd hbv c9)
        refine g_lconst (pc := 1230) B dL_law_1230 (0 : Int64) (by decide) ?_
        refine g_lcmp (pc := 1231) B dL_law_1231 ?_
        have hcmp : lg_cmp w (0 : Int64) = 0 := by rw [hw, if_pos hbv]; exact cmp_self _
        refine g_if_eq (pc := 1232) (tgt := 1237) B dL_law_1232 (by decide) (fun _ => ?_) (fun c9 => absurd hcmp c9)
        refine g_goto (pc := 1237) (tgt := 2215) B dL_law_1237 (by decide) ?_
        refine g_sub (pc := 2215) [2, 3, 4, 5, 6] rfl ?_
        exact kont X1 (up0 g w) S' hrel1 hLD1
      · refine g_if_eq (pc := 1223) (tgt := 1230) B dL_law_1223 (by decide) (fun c9 => absurd c9 hbv) (fun _ => ?_)
        refine g_lconst (pc := 1226) B dL_law_1226 (1 : Int64) (by decide) ?_
        refine g_goto (pc := 1227) (tgt := 1231) B dL_law_1227 (by decide) ?_
        refine g_lcmp (pc := 1231) B dL_law_1231 ?_
        have hcmp : lg_cmp w (1 : Int64) = 0 := by rw [hw, if_neg hbv]; exact cmp_self _
        refine g_if_eq (pc := 1232) (tgt := 1237) B dL_law_1232 (by decide) (fun _ => ?_) (fun c9 => absurd hcmp c9)
        refine g_goto (pc := 1237) (tgt := 2215) B dL_law_1237 (by decide) ?_
        refine g_sub (pc := 2215) [2, 3, 4, 5, 6] rfl ?_
        exact kont X1 (up0 g w) S' hrel1 hLD1
  · refine g_if_eq (pc := 1162) (tgt := 1169) B dL_law_1162 (by decide) (fun c9 => absurd c9 hc_p2) (fun _ => ?_)
    refine g_iconst (pc := 1165) B dL_law_1165 (1 : Int32) (by decide) ?_
    refine g_goto (pc := 1166) (tgt := 1170) B dL_law_1166 (by decide) ?_
    refine g_aload_n (pc := 1170) B dL_law_1170 3 rfl ?_
    obtain ⟨r, bv, S', e1, e2, hsem⟩ := sem x X S p1 (1 : Int32) (Or.inr rfl) hrel hfr
    refine l_wrap (pc := 1171) (As := [vA (some x), vI p1, vI (1 : Int32), vA (some oa)]) (st := []) B hnc calw_L_clear kmL_169 kz_L_clear hLD (fun l hl => cw_L_clear hl e1 (hrk _ _ _ hrel) hLD.1 (fun v X1 q => by subst q; exact ((semR_ok hsem).2.2.2.2 oa hoa).trans hLD.1) (fun E q => by subst q; exact (semR_ex hsem).1)) rfl (Nat.le_of_ble_eq_true rfl) (by decide) (by decide) hf dL_law_1171 rfl (fun E k z hr hk => ?_) (fun w X1 hr => ?_)
    · rw [hr] at hsem
      have hx9 := semR_ex hsem
      have hthr : sc S' 0 = nI (k + 1) := hx9.2.1 k hk
      have hk3 : k < 1 := (List.getElem?_eq_some_iff.mp hk).1
      have hk0 : ¬ nI (k + 1) = 0 := nI_ne0 (by omega) (by omega)
      refine g_istore (pc := 1174) (L' := [(5, vI (nI (k + 1))), (0, vA (some b)), (1, vA (some x)), (2, vA (some m)), (3, vA (some oa)), (4, vI i)]) B dL_law_1174 (by decide) rfl ?_
      refine g_aload_n (pc := 1176) B dL_law_1176 3 rfl ?_
      refine g_aload_n (pc := 1177) B dL_law_1177 1 rfl ?_
      refine g_iload (pc := 1178) B dL_law_1178 5 rfl ?_
      refine g_iconst (pc := 1180) B dL_law_1180 (1 : Int32) (by decide) ?_
      refine g_iadd (pc := 1181) B dL_law_1181 ?_
      refine g_sld (pc := 1182) B hs hi1 hp1 dL_law_1182 ?_
      refine g_aload_n (pc := 1183) B dL_law_1183 1 rfl ?_
      refine g_iload (pc := 1184) B dL_law_1184 5 rfl ?_
      refine g_iconst (pc := 1186) B dL_law_1186 (2 : Int32) (by decide) ?_
      refine g_iadd (pc := 1187) B dL_law_1187 ?_
      refine g_sld (pc := 1188) B hs hi2 hp2 dL_law_1188 ?_
      refine g_if_eq (pc := 1189) (tgt := 1196) B dL_law_1189 (by decide) (fun c9 => absurd c9 hc_p2) (fun _ => ?_)
      refine g_iconst (pc := 1192) B dL_law_1192 (1 : Int32) (by decide) ?_
      refine g_goto (pc := 1193) (tgt := 1197) B dL_law_1193 (by decide) ?_
      refine l_ref (pc := 1197) (As := [vI p1, vI (1 : Int32)]) (st := []) (st10 := [vI bv]) (S' := S') B cal_X12_clear kmL_171 kn_X12_clear ks_X12_clear rfl hLD (fun l hl z => ct_X12_clear hl e2) rfl (Nat.le_of_ble_eq_true rfl) (by decide) (by decide) hf dL_law_1197 rfl rfl ?_
      refine g_istore (pc := 1200) (L' := [(6, vI bv), (5, vI (nI (k + 1))), (0, vA (some b)), (1, vA (some x)), (2, vA (some m)), (3, vA (some oa)), (4, vI i)]) B dL_law_1200 (by decide) rfl ?_
      refine g_aload_n (pc := 1202) B dL_law_1202 4 rfl ?_
      refine l_ref (pc := 1203) (As := []) (st := []) (st10 := [vI (sc S' 0)]) (S' := S') B cal_X12_thrown kmL_120 kn_X12_thrown ks_X12_thrown rfl hLD (fun l hl z => ct_X12_thrown hl (X0 := S') rfl) rfl (Nat.le_of_ble_eq_true rfl) (by decide) (by decide) hf dL_law_1203 rfl rfl ?_
      refine g_iload (pc := 1206) B dL_law_1206 1 rfl ?_
      refine g_icmp_eq (pc := 1208) (tgt := 1213) B dL_law_1208 (by decide) (fun _ => ?_) (fun c9 => absurd hthr c9)
      refine g_iload (pc := 1213) B dL_law_1213 1 rfl ?_
      refine g_if_ne (pc := 1215) (tgt := 1237) B dL_law_1215 (by decide) (fun _ => ?_) (fun c9 => absurd c9 hk0)
      refine g_goto (pc := 1237) (tgt := 2215) B dL_law_1237 (by decide) ?_
      refine g_sub (pc := 2215) [2, 3, 4, 5, 6] rfl ?_
      exact kont (zM X z) g S' (hrz _ _ _ _ hx9.2.2) hLD
    · rw [hr] at hsem
      obtain ⟨hthr, hw, hrel1, hkp⟩ := semR_ok hsem
      have hLD1 := hLD.keep hoa hma hkp
      refine g_istore (pc := 1174) (L' := [(5, vI 0), (0, vA (some b)), (1, vA (some x)), (2, vA (some m)), (3, vA (some oa)), (4, vI i)]) B dL_law_1174 (by decide) rfl ?_
      refine g_aload_n (pc := 1176) B dL_law_1176 3 rfl ?_
      refine g_aload_n (pc := 1177) B dL_law_1177 1 rfl ?_
      refine g_iload (pc := 1178) B dL_law_1178 5 rfl ?_
      refine g_iconst (pc := 1180) B dL_law_1180 (1 : Int32) (by decide) ?_
      refine g_iadd (pc := 1181) B dL_law_1181 ?_
      refine g_sld (pc := 1182) B hs hi1 hp1 dL_law_1182 ?_
      refine g_aload_n (pc := 1183) B dL_law_1183 1 rfl ?_
      refine g_iload (pc := 1184) B dL_law_1184 5 rfl ?_
      refine g_iconst (pc := 1186) B dL_law_1186 (2 : Int32) (by decide) ?_
      refine g_iadd (pc := 1187) B dL_law_1187 ?_
      refine g_sld (pc := 1188) B hs hi2 hp2 dL_law_1188 ?_
      refine g_if_eq (pc := 1189) (tgt := 1196) B dL_law_1189 (by decide) (fun c9 => absurd c9 hc_p2) (fun _ => ?_)
      refine g_iconst (pc := 1192) B dL_law_1192 (1 : Int32) (by decide) ?_
      refine g_goto (pc := 1193) (tgt := 1197) B dL_law_1193 (by decide) ?_
      refine l_ref (pc := 1197) (As := [vI p1, vI (1 : Int32)]) (st := []) (st10 := [vI bv]) (S' := S') B cal_X12_clear kmL_171 kn_X12_clear ks_X12_clear rfl hLD1 (fun l hl z => ct_X12_clear hl e2) rfl (Nat.le_of_ble_eq_true rfl) (by decide) (by decide) hf dL_law_1197 rfl rfl ?_
      refine g_istore (pc := 1200) (L' := [(6, vI bv), (5, vI 0), (0, vA (some b)), (1, vA (some x)), (2, vA (some m)), (3, vA (some oa)), (4, vI i)]) B dL_law_1200 (by decide) rfl ?_
      refine g_aload_n (pc := 1202) B dL_law_1202 4 rfl ?_
      refine l_ref (pc := 1203) (As := []) (st := []) (st10 := [vI (sc S' 0)]) (S' := S') B cal_X12_thrown kmL_120 kn_X12_thrown ks_X12_thrown rfl hLD1 (fun l hl z => ct_X12_thrown hl (X0 := S') rfl) rfl (Nat.le_of_ble_eq_true rfl) (by decide) (by decide) hf dL_law_1203 rfl rfl ?_
      refine g_iload (pc := 1206) B dL_law_1206 1 rfl ?_
      refine g_icmp_eq (pc := 1208) (tgt := 1213) B dL_law_1208 (by decide) (fun _ => ?_) (fun c9 => absurd hthr c9)
      refine g_iload (pc := 1213) B dL_law_1213 1 rfl ?_
      refine g_if_ne (pc := 1215) (tgt := 1237) B dL_law_1215 (by decide) (fun c9 => absurd rfl c9) (fun _ => ?_)
      refine g_aload_n (pc := 1218) B dL_law_1218 5 rfl ?_
      refine g_iconst (pc := 1219) B dL_law_1219 (0 : Int32) (by decide) ?_
      refine g_lald (pc := 1220) B (LM_out0 hLD1) vin01 dL_law_1220 ?_
      rw [LM_aJ hLD1]
      refine g_iload (pc := 1221) B dL_law_1221 0 rfl ?_
      by_cases hbv : bv = 0
      · refine g_if_eq (pc := 1223) (tgt := 1230) B dL_law_1223 (by decide) (fun _ => ?_) (fun c9 => absurd hbv c9)
        refine g_lconst (pc := 1230) B dL_law_1230 (0 : Int64) (by decide) ?_
        refine g_lcmp (pc := 1231) B dL_law_1231 ?_
        have hcmp : lg_cmp w (0 : Int64) = 0 := by rw [hw, if_pos hbv]; exact cmp_self _
        refine g_if_eq (pc := 1232) (tgt := 1237) B dL_law_1232 (by decide) (fun _ => ?_) (fun c9 => absurd hcmp c9)
        refine g_goto (pc := 1237) (tgt := 2215) B dL_law_1237 (by decide) ?_
        refine g_sub (pc := 2215) [2, 3, 4, 5, 6] rfl ?_
        exact kont X1 (up0 g w) S' hrel1 hLD1
      · refine g_if_eq (pc := 1223) (tgt := 1230) B dL_law_1223 (by decide) (fun c9 => absurd c9 hbv) (fun _ => ?_)
        refine g_lconst (pc := 1226) B dL_law_1226 (1 : Int64) (by decide) ?_
        refine g_goto (pc := 1227) (tgt := 1231) B dL_law_1227 (by decide) ?_
        refine g_lcmp (pc := 1231) B dL_law_1231 ?_
        have hcmp : lg_cmp w (1 : Int64) = 0 := by rw [hw, if_neg hbv]; exact cmp_self _
        refine g_if_eq (pc := 1232) (tgt := 1237) B dL_law_1232 (by decide) (fun _ => ?_) (fun c9 => absurd hcmp c9)
        refine g_goto (pc := 1237) (tgt := 2215) B dL_law_1237 (by decide) ?_
        refine g_sub (pc := 2215) [2, 3, 4, 5, 6] rfl ?_
        exact kont X1 (up0 g w) S' hrel1 hLD1
set_option maxRecDepth 100000 in
set_option maxHeartbeats 4000000 in
theorem lc_setWall {D : DD} {ev : EV} {Q : State → Prop} {Rel : Nat → Mem → SM → Prop} {fu b x m oa Ls : Nat} {xs : Nat → Int32} {g : Nat → Int64} {X : Mem} {S : SM} {i : Int32} {p1 : Int32} {p2 : Int32} {cs sl : Nat} (hrz : ∀ x X S z, Rel x X S → Rel x (zM X z) S) (hrk : ∀ x X S, Rel x X S → mK X x = some (11, 0)) (sem : sem_setWall Rel fu) (B : Amb D (A0L ev) ev RL "law" cL_law 7 (some .boolean) room_1) (hnc : EvNc ev) (hs : ScrL ev b Ls xs) (hi1 : vp_in (i + (1 : Int32)) Ls) (hi2 : vp_in (i + (2 : Int32)) Ls) (hp1 : xs (i + (1 : Int32)).toNatClampNeg = p1) (hp2 : xs (i + (2 : Int32)).toNatClampNeg = p2) (hrel : Rel x X S) (hLD : LD X oa m) (hf : cs + 16 ≤ room_1.cells ∧ sl + 200 ≤ room_1.slots)
    (kont : ∀ (X' : Mem) (g' : Nat → Int64) (S' : SM), Rel x X' S' → LD X' oa m → Gd D (A0L ev) ev Q (LM X' oa g' m S') (cs + 16) (sl + 200) 2215 [(0, vA (some b)), (1, vA (some x)), (2, vA (some m)), (3, vA (some oa)), (4, vI i)] []) : Gd D (A0L ev) ev Q (LM X oa g m S) cs sl 1240 [(0, vA (some b)), (1, vA (some x)), (2, vA (some m)), (3, vA (some oa)), (4, vI i)] [] := by
  refine g_dom fun hdm => ?_
  obtain ⟨hfr, hoa, hma⟩ := LM_fresh hLD hdm
  refine g_aload_n (pc := 1240) B dL_law_1240 1 rfl ?_
  refine g_aload_n (pc := 1241) B dL_law_1241 0 rfl ?_
  refine g_iload (pc := 1242) B dL_law_1242 4 rfl ?_
  refine g_iconst (pc := 1244) B dL_law_1244 (1 : Int32) (by decide) ?_
  refine g_iadd (pc := 1245) B dL_law_1245 ?_
  refine g_sld (pc := 1246) B hs hi1 hp1 dL_law_1246 ?_
  refine g_aload_n (pc := 1247) B dL_law_1247 0 rfl ?_
  refine g_iload (pc := 1248) B dL_law_1248 4 rfl ?_
  refine g_iconst (pc := 1250) B dL_law_1250 (2 : Int32) (by decide) ?_
  refine g_iadd (pc := 1251) B dL_law_1251 ?_
  refine g_sld (pc := 1252) B hs hi2 hp2 dL_law_1252 ?_
  refine g_aload_n (pc := 1253) B dL_law_1253 3 rfl ?_
  obtain ⟨r, bv, S', e1, e2, hsem⟩ := sem x X S p1 p2  hrel hfr
  refine l_wrap (pc := 1254) (As := [vA (some x), vI p1, vI p2, vA (some oa)]) (st := []) B hnc calw_L_setWall kmL_172 kz_L_setWall hLD (fun l hl => cw_L_setWall hl e1 (hrk _ _ _ hrel) hLD.1 (fun v X1 q => by subst q; exact ((semR_ok hsem).2.2.2.2 oa hoa).trans hLD.1) (fun E q => by subst q; exact (semR_ex hsem).1)) rfl (Nat.le_of_ble_eq_true rfl) (by decide) (by decide) hf dL_law_1254 rfl (fun E k z hr hk => ?_) (fun w X1 hr => ?_)
  · rw [hr] at hsem
    have hx9 := semR_ex hsem
    have hthr : sc S' 0 = nI (k + 1) := hx9.2.1 k hk
    have hk3 : k < 1 := (List.getElem?_eq_some_iff.mp hk).1
    have hk0 : ¬ nI (k + 1) = 0 := nI_ne0 (by omega) (by omega)
    refine g_istore (pc := 1257) (L' := [(5, vI (nI (k + 1))), (0, vA (some b)), (1, vA (some x)), (2, vA (some m)), (3, vA (some oa)), (4, vI i)]) B dL_law_1257 (by decide) rfl ?_
    refine g_aload_n (pc := 1259) B dL_law_1259 3 rfl ?_
    refine g_aload_n (pc := 1260) B dL_law_1260 1 rfl ?_
    refine g_iload (pc := 1261) B dL_law_1261 5 rfl ?_
    refine g_iconst (pc := 1263) B dL_law_1263 (1 : Int32) (by decide) ?_
    refine g_iadd (pc := 1264) B dL_law_1264 ?_
    refine g_sld (pc := 1265) B hs hi1 hp1 dL_law_1265 ?_
    refine g_aload_n (pc := 1266) B dL_law_1266 1 rfl ?_
    refine g_iload (pc := 1267) B dL_law_1267 5 rfl ?_
    refine g_iconst (pc := 1269) B dL_law_1269 (2 : Int32) (by decide) ?_
    refine g_iadd (pc := 1270) B dL_law_1270 ?_
    refine g_sld (pc := 1271) B hs hi2 hp2 dL_law_1271 ?_
    refine l_ref (pc := 1272) (As := [vI p1, vI p2]) (st := []) (st10 := [vI bv]) (S' := S') B cal_X12_setWall kmL_174 kn_X12_setWall ks_X12_setWall rfl hLD (fun l hl z => ct_X12_setWall hl e2) rfl (Nat.le_of_ble_eq_true rfl) (by decide) (by decide) hf dL_law_1272 rfl rfl ?_
    refine g_istore (pc := 1275) (L' := [(6, vI bv), (5, vI (nI (k + 1))), (0, vA (some b)), (1, vA (some x)), (2, vA (some m)), (3, vA (some oa)), (4, vI i)]) B dL_law_1275 (by decide) rfl ?_
    refine g_aload_n (pc := 1277) B dL_law_1277 4 rfl ?_
    refine l_ref (pc := 1278) (As := []) (st := []) (st10 := [vI (sc S' 0)]) (S' := S') B cal_X12_thrown kmL_120 kn_X12_thrown ks_X12_thrown rfl hLD (fun l hl z => ct_X12_thrown hl (X0 := S') rfl) rfl (Nat.le_of_ble_eq_true rfl) (by decide) (by decide) hf dL_law_1278 rfl rfl ?_
    refine g_iload (pc := 1281) B dL_law_1281 1 rfl ?_
    refine g_icmp_eq (pc := 1283) (tgt := 1288) B dL_law_1283 (by decide) (fun _ => ?_) (fun c9 => absurd hthr c9)
    refine g_iload (pc := 1288) B dL_law_1288 1 rfl ?_
    refine g_if_ne (pc := 1290) (tgt := 1305) B dL_law_1290 (by decide) (fun _ => ?_) (fun c9 => absurd c9 hk0)
    refine g_goto (pc := 1305) (tgt := 2215) B dL_law_1305 (by decide) ?_
    refine g_sub (pc := 2215) [2, 3, 4, 5, 6] rfl ?_
    exact kont (zM X z) g S' (hrz _ _ _ _ hx9.2.2) hLD
  · rw [hr] at hsem
    obtain ⟨hthr, hw, hrel1, hkp⟩ := semR_ok hsem
    have hLD1 := hLD.keep hoa hma hkp
    refine g_istore (pc := 1257) (L' := [(5, vI 0), (0, vA (some b)), (1, vA (some x)), (2, vA (some m)), (3, vA (some oa)), (4, vI i)]) B dL_law_1257 (by decide) rfl ?_
    refine g_aload_n (pc := 1259) B dL_law_1259 3 rfl ?_
    refine g_aload_n (pc := 1260) B dL_law_1260 1 rfl ?_
    refine g_iload (pc := 1261) B dL_law_1261 5 rfl ?_
    refine g_iconst (pc := 1263) B dL_law_1263 (1 : Int32) (by decide) ?_
    refine g_iadd (pc := 1264) B dL_law_1264 ?_
    refine g_sld (pc := 1265) B hs hi1 hp1 dL_law_1265 ?_
    refine g_aload_n (pc := 1266) B dL_law_1266 1 rfl ?_
    refine g_iload (pc := 1267) B dL_law_1267 5 rfl ?_
    refine g_iconst (pc := 1269) B dL_law_1269 (2 : Int32) (by decide) ?_
    refine g_iadd (pc := 1270) B dL_law_1270 ?_
    refine g_sld (pc := 1271) B hs hi2 hp2 dL_law_1271 ?_
    refine l_ref (pc := 1272) (As := [vI p1, vI p2]) (st := []) (st10 := [vI bv]) (S' := S') B cal_X12_setWall kmL_174 kn_X12_setWall ks_X12_setWall rfl hLD1 (fun l hl z => ct_X12_setWall hl e2) rfl (Nat.le_of_ble_eq_true rfl) (by decide) (by decide) hf dL_law_1272 rfl rfl ?_
    refine g_istore (pc := 1275) (L' := [(6, vI bv), (5, vI 0), (0, vA (some b)), (1, vA (some x)), (2, vA (some m)), (3, vA (some oa)), (4, vI i)]) B dL_law_1275 (by decide) rfl ?_
    refine g_aload_n (pc := 1277) B dL_law_1277 4 rfl ?_
    refine l_ref (pc := 1278) (As := []) (st := []) (st10 := [vI (sc S' 0)]) (S' := S') B cal_X12_thrown kmL_120 kn_X12_thrown ks_X12_thrown rfl hLD1 (fun l hl z => ct_X12_thrown hl (X0 := S') rfl) rfl (Nat.le_of_ble_eq_true rfl) (by decide) (by decide) hf dL_law_1278 rfl rfl ?_
    refine g_iload (pc := 1281) B dL_law_1281 1 rfl ?_
    refine g_icmp_eq (pc := 1283) (tgt := 1288) B dL_law_1283 (by decide) (fun _ => ?_) (fun c9 => absurd hthr c9)
    refine g_iload (pc := 1288) B dL_law_1288 1 rfl ?_
    refine g_if_ne (pc := 1290) (tgt := 1305) B dL_law_1290 (by decide) (fun c9 => absurd rfl c9) (fun _ => ?_)
    refine g_aload_n (pc := 1293) B dL_law_1293 5 rfl ?_
    refine g_iconst (pc := 1294) B dL_law_1294 (0 : Int32) (by decide) ?_
    refine g_lald (pc := 1295) B (LM_out0 hLD1) vin01 dL_law_1295 ?_
    rw [LM_aJ hLD1]
    refine g_iload (pc := 1296) B dL_law_1296 0 rfl ?_
    refine g_i2l (pc := 1298) B dL_law_1298 ?_
    refine g_lcmp (pc := 1299) B dL_law_1299 ?_
    have hcmp : lg_cmp w bv.toInt64 = 0 := by rw [hw]; exact cmp_self _
    refine g_if_eq (pc := 1300) (tgt := 1305) B dL_law_1300 (by decide) (fun _ => ?_) (fun c9 => absurd hcmp c9)
    refine g_goto (pc := 1305) (tgt := 2215) B dL_law_1305 (by decide) ?_
    refine g_sub (pc := 2215) [2, 3, 4, 5, 6] rfl ?_
    exact kont X1 (up0 g w) S' hrel1 hLD1
set_option maxRecDepth 100000 in
set_option maxHeartbeats 4000000 in
theorem lc_drafted {D : DD} {ev : EV} {Q : State → Prop} {Rel : Nat → Mem → SM → Prop} {fu b x m oa Ls : Nat} {xs : Nat → Int32} {g : Nat → Int64} {X : Mem} {S : SM} {i : Int32} {cs sl : Nat} (hrz : ∀ x X S z, Rel x X S → Rel x (zM X z) S) (hrk : ∀ x X S, Rel x X S → mK X x = some (11, 0)) (sem : sem_drafted Rel fu) (B : Amb D (A0L ev) ev RL "law" cL_law 7 (some .boolean) room_1) (hnc : EvNc ev) (hs : ScrL ev b Ls xs) (hrel : Rel x X S) (hLD : LD X oa m) (hf : cs ≤ room_1.cells ∧ sl ≤ room_1.slots)
    (kont : ∀ (X' : Mem) (g' : Nat → Int64) (S' : SM), Rel x X' S' → LD X' oa m → Gd D (A0L ev) ev Q (LM X' oa g' m S') cs sl 2215 [(0, vA (some b)), (1, vA (some x)), (2, vA (some m)), (3, vA (some oa)), (4, vI i)] []) : Gd D (A0L ev) ev Q (LM X oa g m S) cs sl 1308 [(0, vA (some b)), (1, vA (some x)), (2, vA (some m)), (3, vA (some oa)), (4, vI i)] [] := by
  refine g_dom fun hdm => ?_
  obtain ⟨hfr, hoa, hma⟩ := LM_fresh hLD hdm
  refine g_aload_n (pc := 1308) B dL_law_1308 1 rfl ?_
  obtain ⟨bv, S', e1, e2, hrel1⟩ := sem x X S hrel hfr
  refine l_cls (pc := 1309) (As := []) (st := []) (st10 := [vI bv]) (X1 := X) B cal_X11_drafted kmL_175 kn_X11_drafted ks_X11_drafted rfl hLD (hrk _ _ _ hrel) (fun l hl => ct_X11_drafted hl e1) rfl (Nat.le_of_ble_eq_true rfl) (by decide) (by decide) hf dL_law_1309 rfl rfl ?_
  refine g_aload_n (pc := 1312) B dL_law_1312 2 rfl ?_
  refine l_ref (pc := 1313) (As := []) (st := [vI bv]) (st10 := [vI bv, vI bv]) (S' := S') B cal_X12_drafted kmL_178 kn_X12_drafted ks_X12_drafted rfl hLD (fun l hl z => ct_X12_drafted hl e2) rfl (Nat.le_of_ble_eq_true rfl) (by decide) (by decide) hf dL_law_1313 rfl rfl ?_
  refine g_icmp_eq (pc := 1316) (tgt := 2215) B dL_law_1316 (by decide) (fun _ => ?_) (fun c9 => absurd rfl c9)
  refine g_sub (pc := 2215) [0, 1, 2, 3, 4] rfl ?_
  exact kont X g S' hrel1 hLD
set_option maxRecDepth 100000 in
set_option maxHeartbeats 4000000 in
theorem lc_programs {D : DD} {ev : EV} {Q : State → Prop} {Rel : Nat → Mem → SM → Prop} {fu b x m oa Ls : Nat} {xs : Nat → Int32} {g : Nat → Int64} {X : Mem} {S : SM} {i : Int32} {cs sl : Nat} (hrz : ∀ x X S z, Rel x X S → Rel x (zM X z) S) (hrk : ∀ x X S, Rel x X S → mK X x = some (11, 0)) (sem : sem_programs Rel fu) (B : Amb D (A0L ev) ev RL "law" cL_law 7 (some .boolean) room_1) (hnc : EvNc ev) (hs : ScrL ev b Ls xs) (hrel : Rel x X S) (hLD : LD X oa m) (hf : cs ≤ room_1.cells ∧ sl ≤ room_1.slots)
    (kont : ∀ (X' : Mem) (g' : Nat → Int64) (S' : SM), Rel x X' S' → LD X' oa m → Gd D (A0L ev) ev Q (LM X' oa g' m S') cs sl 2215 [(0, vA (some b)), (1, vA (some x)), (2, vA (some m)), (3, vA (some oa)), (4, vI i)] []) : Gd D (A0L ev) ev Q (LM X oa g m S) cs sl 1321 [(0, vA (some b)), (1, vA (some x)), (2, vA (some m)), (3, vA (some oa)), (4, vI i)] [] := by
  refine g_dom fun hdm => ?_
  obtain ⟨hfr, hoa, hma⟩ := LM_fresh hLD hdm
  refine g_aload_n (pc := 1321) B dL_law_1321 1 rfl ?_
  obtain ⟨bv, S', e1, e2, hrel1⟩ := sem x X S hrel hfr
  refine l_cls (pc := 1322) (As := []) (st := []) (st10 := [vI bv]) (X1 := X) B cal_X11_programs kmL_179 kn_X11_programs ks_X11_programs rfl hLD (hrk _ _ _ hrel) (fun l hl => ct_X11_programs hl e1) rfl (Nat.le_of_ble_eq_true rfl) (by decide) (by decide) hf dL_law_1322 rfl rfl ?_
  refine g_aload_n (pc := 1325) B dL_law_1325 2 rfl ?_
  refine l_ref (pc := 1326) (As := []) (st := [vI bv]) (st10 := [vI bv, vI bv]) (S' := S') B cal_X12_programs kmL_182 kn_X12_programs ks_X12_programs rfl hLD (fun l hl z => ct_X12_programs hl e2) rfl (Nat.le_of_ble_eq_true rfl) (by decide) (by decide) hf dL_law_1326 rfl rfl ?_
  refine g_icmp_eq (pc := 1329) (tgt := 2215) B dL_law_1329 (by decide) (fun _ => ?_) (fun c9 => absurd rfl c9)
  refine g_sub (pc := 2215) [0, 1, 2, 3, 4] rfl ?_
  exact kont X g S' hrel1 hLD
set_option maxRecDepth 100000 in
set_option maxHeartbeats 4000000 in
theorem lc_fault {D : DD} {ev : EV} {Q : State → Prop} {Rel : Nat → Mem → SM → Prop} {fu b x m oa Ls : Nat} {xs : Nat → Int32} {g : Nat → Int64} {X : Mem} {S : SM} {i : Int32} {p1 : Int32} {cs sl : Nat} (hrz : ∀ x X S z, Rel x X S → Rel x (zM X z) S) (hrk : ∀ x X S, Rel x X S → mK X x = some (11, 0)) (sem : sem_fault Rel fu) (B : Amb D (A0L ev) ev RL "law" cL_law 7 (some .boolean) room_1) (hnc : EvNc ev) (hs : ScrL ev b Ls xs) (hi1 : vp_in (i + (1 : Int32)) Ls) (hp1 : xs (i + (1 : Int32)).toNatClampNeg = p1) (hrel : Rel x X S) (hLD : LD X oa m) (hf : cs + 16 ≤ room_1.cells ∧ sl + 200 ≤ room_1.slots)
    (kont : ∀ (X' : Mem) (g' : Nat → Int64) (S' : SM), Rel x X' S' → LD X' oa m → Gd D (A0L ev) ev Q (LM X' oa g' m S') (cs + 16) (sl + 200) 2215 [(0, vA (some b)), (1, vA (some x)), (2, vA (some m)), (3, vA (some oa)), (4, vI i)] []) : Gd D (A0L ev) ev Q (LM X oa g m S) cs sl 1334 [(0, vA (some b)), (1, vA (some x)), (2, vA (some m)), (3, vA (some oa)), (4, vI i)] [] := by
  refine g_dom fun hdm => ?_
  obtain ⟨hfr, hoa, hma⟩ := LM_fresh hLD hdm
  refine g_aload_n (pc := 1334) B dL_law_1334 1 rfl ?_
  refine g_aload_n (pc := 1335) B dL_law_1335 0 rfl ?_
  refine g_iload (pc := 1336) B dL_law_1336 4 rfl ?_
  refine g_iconst (pc := 1338) B dL_law_1338 (1 : Int32) (by decide) ?_
  refine g_iadd (pc := 1339) B dL_law_1339 ?_
  refine g_sld (pc := 1340) B hs hi1 hp1 dL_law_1340 ?_
  refine g_aload_n (pc := 1341) B dL_law_1341 3 rfl ?_
  obtain ⟨r, bv, S', e1, e2, hsem⟩ := sem x X S p1  hrel hfr
  refine l_wrap (pc := 1342) (As := [vA (some x), vI p1, vA (some oa)]) (st := []) B hnc calw_L_fault kmL_183 kz_L_fault hLD (fun l hl => cw_L_fault hl e1 (hrk _ _ _ hrel) hLD.1 (fun E q => by subst q; exact (semR_ex hsem).1)) rfl (Nat.le_of_ble_eq_true rfl) (by decide) (by decide) hf dL_law_1342 rfl (fun E k z hr hk => ?_) (fun w X1 hr => ?_)
  · rw [hr] at hsem
    have hx9 := semR_ex hsem
    have hthr : sc S' 0 = nI (k + 1) := hx9.2.1 k hk
    have hk3 : k < 1 := (List.getElem?_eq_some_iff.mp hk).1
    have hk0 : ¬ nI (k + 1) = 0 := nI_ne0 (by omega) (by omega)
    refine g_istore (pc := 1345) (L' := [(5, vI (nI (k + 1))), (0, vA (some b)), (1, vA (some x)), (2, vA (some m)), (3, vA (some oa)), (4, vI i)]) B dL_law_1345 (by decide) rfl ?_
    refine g_aload_n (pc := 1347) B dL_law_1347 3 rfl ?_
    refine g_aload_n (pc := 1348) B dL_law_1348 1 rfl ?_
    refine g_iload (pc := 1349) B dL_law_1349 5 rfl ?_
    refine g_iconst (pc := 1351) B dL_law_1351 (1 : Int32) (by decide) ?_
    refine g_iadd (pc := 1352) B dL_law_1352 ?_
    refine g_sld (pc := 1353) B hs hi1 hp1 dL_law_1353 ?_
    refine l_ref (pc := 1354) (As := [vI p1]) (st := []) (st10 := [vI bv]) (S' := S') B cal_X12_fault kmL_185 kn_X12_fault ks_X12_fault rfl hLD (fun l hl z => ct_X12_fault hl e2) rfl (Nat.le_of_ble_eq_true rfl) (by decide) (by decide) hf dL_law_1354 rfl rfl ?_
    refine g_istore (pc := 1357) (L' := [(6, vI bv), (5, vI (nI (k + 1))), (0, vA (some b)), (1, vA (some x)), (2, vA (some m)), (3, vA (some oa)), (4, vI i)]) B dL_law_1357 (by decide) rfl ?_
    refine g_aload_n (pc := 1359) B dL_law_1359 4 rfl ?_
    refine l_ref (pc := 1360) (As := []) (st := []) (st10 := [vI (sc S' 0)]) (S' := S') B cal_X12_thrown kmL_120 kn_X12_thrown ks_X12_thrown rfl hLD (fun l hl z => ct_X12_thrown hl (X0 := S') rfl) rfl (Nat.le_of_ble_eq_true rfl) (by decide) (by decide) hf dL_law_1360 rfl rfl ?_
    refine g_iload (pc := 1363) B dL_law_1363 1 rfl ?_
    refine g_icmp_eq (pc := 1365) (tgt := 1370) B dL_law_1365 (by decide) (fun _ => ?_) (fun c9 => absurd hthr c9)
    refine g_iload (pc := 1370) B dL_law_1370 1 rfl ?_
    refine g_if_ne (pc := 1372) (tgt := 1387) B dL_law_1372 (by decide) (fun _ => ?_) (fun c9 => absurd c9 hk0)
    refine g_goto (pc := 1387) (tgt := 2215) B dL_law_1387 (by decide) ?_
    refine g_sub (pc := 2215) [2, 3, 4, 5, 6] rfl ?_
    exact kont (zM X z) g S' (hrz _ _ _ _ hx9.2.2) hLD
  · rw [hr] at hsem
    obtain ⟨hthr, hw, hrel1, hkp⟩ := semR_ok hsem
    have hLD1 := hLD.keep hoa hma hkp
    refine g_istore (pc := 1345) (L' := [(5, vI 0), (0, vA (some b)), (1, vA (some x)), (2, vA (some m)), (3, vA (some oa)), (4, vI i)]) B dL_law_1345 (by decide) rfl ?_
    refine g_aload_n (pc := 1347) B dL_law_1347 3 rfl ?_
    refine g_aload_n (pc := 1348) B dL_law_1348 1 rfl ?_
    refine g_iload (pc := 1349) B dL_law_1349 5 rfl ?_
    refine g_iconst (pc := 1351) B dL_law_1351 (1 : Int32) (by decide) ?_
    refine g_iadd (pc := 1352) B dL_law_1352 ?_
    refine g_sld (pc := 1353) B hs hi1 hp1 dL_law_1353 ?_
    refine l_ref (pc := 1354) (As := [vI p1]) (st := []) (st10 := [vI bv]) (S' := S') B cal_X12_fault kmL_185 kn_X12_fault ks_X12_fault rfl hLD1 (fun l hl z => ct_X12_fault hl e2) rfl (Nat.le_of_ble_eq_true rfl) (by decide) (by decide) hf dL_law_1354 rfl rfl ?_
    refine g_istore (pc := 1357) (L' := [(6, vI bv), (5, vI 0), (0, vA (some b)), (1, vA (some x)), (2, vA (some m)), (3, vA (some oa)), (4, vI i)]) B dL_law_1357 (by decide) rfl ?_
    refine g_aload_n (pc := 1359) B dL_law_1359 4 rfl ?_
    refine l_ref (pc := 1360) (As := []) (st := []) (st10 := [vI (sc S' 0)]) (S' := S') B cal_X12_thrown kmL_120 kn_X12_thrown ks_X12_thrown rfl hLD1 (fun l hl z => ct_X12_thrown hl (X0 := S') rfl) rfl (Nat.le_of_ble_eq_true rfl) (by decide) (by decide) hf dL_law_1360 rfl rfl ?_
    refine g_iload (pc := 1363) B dL_law_1363 1 rfl ?_
    refine g_icmp_eq (pc := 1365) (tgt := 1370) B dL_law_1365 (by decide) (fun _ => ?_) (fun c9 => absurd hthr c9)
    refine g_iload (pc := 1370) B dL_law_1370 1 rfl ?_
    refine g_if_ne (pc := 1372) (tgt := 1387) B dL_law_1372 (by decide) (fun c9 => absurd rfl c9) (fun _ => ?_)
    refine g_aload_n (pc := 1375) B dL_law_1375 5 rfl ?_
    refine g_iconst (pc := 1376) B dL_law_1376 (0 : Int32) (by decide) ?_
    refine g_lald (pc := 1377) B (LM_out0 hLD1) vin01 dL_law_1377 ?_
    rw [LM_aJ hLD1]
    refine g_iload (pc := 1378) B dL_law_1378 0 rfl ?_
    refine g_i2l (pc := 1380) B dL_law_1380 ?_
    refine g_lcmp (pc := 1381) B dL_law_1381 ?_
    have hcmp : lg_cmp w bv.toInt64 = 0 := by rw [hw]; exact cmp_self _
    refine g_if_eq (pc := 1382) (tgt := 1387) B dL_law_1382 (by decide) (fun _ => ?_) (fun c9 => absurd hcmp c9)
    refine g_goto (pc := 1387) (tgt := 2215) B dL_law_1387 (by decide) ?_
    refine g_sub (pc := 2215) [2, 3, 4, 5, 6] rfl ?_
    exact kont X1 (up0 g w) S' hrel1 hLD1
set_option maxRecDepth 100000 in
set_option maxHeartbeats 4000000 in
theorem lc_steps {D : DD} {ev : EV} {Q : State → Prop} {Rel : Nat → Mem → SM → Prop} {fu b x m oa Ls : Nat} {xs : Nat → Int32} {g : Nat → Int64} {X : Mem} {S : SM} {i : Int32} {p1 : Int32} {cs sl : Nat} (hrz : ∀ x X S z, Rel x X S → Rel x (zM X z) S) (hrk : ∀ x X S, Rel x X S → mK X x = some (11, 0)) (sem : sem_steps Rel fu) (B : Amb D (A0L ev) ev RL "law" cL_law 7 (some .boolean) room_1) (hnc : EvNc ev) (hs : ScrL ev b Ls xs) (hi1 : vp_in (i + (1 : Int32)) Ls) (hp1 : xs (i + (1 : Int32)).toNatClampNeg = p1) (hrel : Rel x X S) (hLD : LD X oa m) (hf : cs + 16 ≤ room_1.cells ∧ sl + 200 ≤ room_1.slots)
    (kont : ∀ (X' : Mem) (g' : Nat → Int64) (S' : SM), Rel x X' S' → LD X' oa m → Gd D (A0L ev) ev Q (LM X' oa g' m S') (cs + 16) (sl + 200) 2215 [(0, vA (some b)), (1, vA (some x)), (2, vA (some m)), (3, vA (some oa)), (4, vI i)] []) : Gd D (A0L ev) ev Q (LM X oa g m S) cs sl 1390 [(0, vA (some b)), (1, vA (some x)), (2, vA (some m)), (3, vA (some oa)), (4, vI i)] [] := by
  refine g_dom fun hdm => ?_
  obtain ⟨hfr, hoa, hma⟩ := LM_fresh hLD hdm
  refine g_aload_n (pc := 1390) B dL_law_1390 1 rfl ?_
  refine g_aload_n (pc := 1391) B dL_law_1391 0 rfl ?_
  refine g_iload (pc := 1392) B dL_law_1392 4 rfl ?_
  refine g_iconst (pc := 1394) B dL_law_1394 (1 : Int32) (by decide) ?_
  refine g_iadd (pc := 1395) B dL_law_1395 ?_
  refine g_sld (pc := 1396) B hs hi1 hp1 dL_law_1396 ?_
  refine g_aload_n (pc := 1397) B dL_law_1397 3 rfl ?_
  obtain ⟨r, bv, S', e1, e2, hsem⟩ := sem x X S p1  hrel hfr
  refine l_wrap (pc := 1398) (As := [vA (some x), vI p1, vA (some oa)]) (st := []) B hnc calw_L_steps kmL_186 kz_L_steps hLD (fun l hl => cw_L_steps hl e1 (hrk _ _ _ hrel) hLD.1 (fun E q => by subst q; exact (semR_ex hsem).1)) rfl (Nat.le_of_ble_eq_true rfl) (by decide) (by decide) hf dL_law_1398 rfl (fun E k z hr hk => ?_) (fun w X1 hr => ?_)
  · rw [hr] at hsem
    have hx9 := semR_ex hsem
    have hthr : sc S' 0 = nI (k + 1) := hx9.2.1 k hk
    have hk3 : k < 1 := (List.getElem?_eq_some_iff.mp hk).1
    have hk0 : ¬ nI (k + 1) = 0 := nI_ne0 (by omega) (by omega)
    refine g_istore (pc := 1401) (L' := [(5, vI (nI (k + 1))), (0, vA (some b)), (1, vA (some x)), (2, vA (some m)), (3, vA (some oa)), (4, vI i)]) B dL_law_1401 (by decide) rfl ?_
    refine g_aload_n (pc := 1403) B dL_law_1403 3 rfl ?_
    refine g_aload_n (pc := 1404) B dL_law_1404 1 rfl ?_
    refine g_iload (pc := 1405) B dL_law_1405 5 rfl ?_
    refine g_iconst (pc := 1407) B dL_law_1407 (1 : Int32) (by decide) ?_
    refine g_iadd (pc := 1408) B dL_law_1408 ?_
    refine g_sld (pc := 1409) B hs hi1 hp1 dL_law_1409 ?_
    refine l_ref (pc := 1410) (As := [vI p1]) (st := []) (st10 := [vI bv]) (S' := S') B cal_X12_steps kmL_188 kn_X12_steps ks_X12_steps rfl hLD (fun l hl z => ct_X12_steps hl e2) rfl (Nat.le_of_ble_eq_true rfl) (by decide) (by decide) hf dL_law_1410 rfl rfl ?_
    refine g_istore (pc := 1413) (L' := [(6, vI bv), (5, vI (nI (k + 1))), (0, vA (some b)), (1, vA (some x)), (2, vA (some m)), (3, vA (some oa)), (4, vI i)]) B dL_law_1413 (by decide) rfl ?_
    refine g_aload_n (pc := 1415) B dL_law_1415 4 rfl ?_
    refine l_ref (pc := 1416) (As := []) (st := []) (st10 := [vI (sc S' 0)]) (S' := S') B cal_X12_thrown kmL_120 kn_X12_thrown ks_X12_thrown rfl hLD (fun l hl z => ct_X12_thrown hl (X0 := S') rfl) rfl (Nat.le_of_ble_eq_true rfl) (by decide) (by decide) hf dL_law_1416 rfl rfl ?_
    refine g_iload (pc := 1419) B dL_law_1419 1 rfl ?_
    refine g_icmp_eq (pc := 1421) (tgt := 1426) B dL_law_1421 (by decide) (fun _ => ?_) (fun c9 => absurd hthr c9)
    refine g_iload (pc := 1426) B dL_law_1426 1 rfl ?_
    refine g_if_ne (pc := 1428) (tgt := 1443) B dL_law_1428 (by decide) (fun _ => ?_) (fun c9 => absurd c9 hk0)
    refine g_goto (pc := 1443) (tgt := 2215) B dL_law_1443 (by decide) ?_
    refine g_sub (pc := 2215) [2, 3, 4, 5, 6] rfl ?_
    exact kont (zM X z) g S' (hrz _ _ _ _ hx9.2.2) hLD
  · rw [hr] at hsem
    obtain ⟨hthr, hw, hrel1, hkp⟩ := semR_ok hsem
    have hLD1 := hLD.keep hoa hma hkp
    refine g_istore (pc := 1401) (L' := [(5, vI 0), (0, vA (some b)), (1, vA (some x)), (2, vA (some m)), (3, vA (some oa)), (4, vI i)]) B dL_law_1401 (by decide) rfl ?_
    refine g_aload_n (pc := 1403) B dL_law_1403 3 rfl ?_
    refine g_aload_n (pc := 1404) B dL_law_1404 1 rfl ?_
    refine g_iload (pc := 1405) B dL_law_1405 5 rfl ?_
    refine g_iconst (pc := 1407) B dL_law_1407 (1 : Int32) (by decide) ?_
    refine g_iadd (pc := 1408) B dL_law_1408 ?_
    refine g_sld (pc := 1409) B hs hi1 hp1 dL_law_1409 ?_
    refine l_ref (pc := 1410) (As := [vI p1]) (st := []) (st10 := [vI bv]) (S' := S') B cal_X12_steps kmL_188 kn_X12_steps ks_X12_steps rfl hLD1 (fun l hl z => ct_X12_steps hl e2) rfl (Nat.le_of_ble_eq_true rfl) (by decide) (by decide) hf dL_law_1410 rfl rfl ?_
    refine g_istore (pc := 1413) (L' := [(6, vI bv), (5, vI 0), (0, vA (some b)), (1, vA (some x)), (2, vA (some m)), (3, vA (some oa)), (4, vI i)]) B dL_law_1413 (by decide) rfl ?_
    refine g_aload_n (pc := 1415) B dL_law_1415 4 rfl ?_
    refine l_ref (pc := 1416) (As := []) (st := []) (st10 := [vI (sc S' 0)]) (S' := S') B cal_X12_thrown kmL_120 kn_X12_thrown ks_X12_thrown rfl hLD1 (fun l hl z => ct_X12_thrown hl (X0 := S') rfl) rfl (Nat.le_of_ble_eq_true rfl) (by decide) (by decide) hf dL_law_1416 rfl rfl ?_
    refine g_iload (pc := 1419) B dL_law_1419 1 rfl ?_
    refine g_icmp_eq (pc := 1421) (tgt := 1426) B dL_law_1421 (by decide) (fun _ => ?_) (fun c9 => absurd hthr c9)
    refine g_iload (pc := 1426) B dL_law_1426 1 rfl ?_
    refine g_if_ne (pc := 1428) (tgt := 1443) B dL_law_1428 (by decide) (fun c9 => absurd rfl c9) (fun _ => ?_)
    refine g_aload_n (pc := 1431) B dL_law_1431 5 rfl ?_
    refine g_iconst (pc := 1432) B dL_law_1432 (0 : Int32) (by decide) ?_
    refine g_lald (pc := 1433) B (LM_out0 hLD1) vin01 dL_law_1433 ?_
    rw [LM_aJ hLD1]
    refine g_iload (pc := 1434) B dL_law_1434 0 rfl ?_
    refine g_i2l (pc := 1436) B dL_law_1436 ?_
    refine g_lcmp (pc := 1437) B dL_law_1437 ?_
    have hcmp : lg_cmp w bv.toInt64 = 0 := by rw [hw]; exact cmp_self _
    refine g_if_eq (pc := 1438) (tgt := 1443) B dL_law_1438 (by decide) (fun _ => ?_) (fun c9 => absurd hcmp c9)
    refine g_goto (pc := 1443) (tgt := 2215) B dL_law_1443 (by decide) ?_
    refine g_sub (pc := 2215) [2, 3, 4, 5, 6] rfl ?_
    exact kont X1 (up0 g w) S' hrel1 hLD1
set_option maxRecDepth 100000 in
set_option maxHeartbeats 4000000 in
theorem lc_strokes {D : DD} {ev : EV} {Q : State → Prop} {Rel : Nat → Mem → SM → Prop} {fu b x m oa Ls : Nat} {xs : Nat → Int32} {g : Nat → Int64} {X : Mem} {S : SM} {i : Int32} {p1 : Int32} {cs sl : Nat} (hrz : ∀ x X S z, Rel x X S → Rel x (zM X z) S) (hrk : ∀ x X S, Rel x X S → mK X x = some (11, 0)) (sem : sem_strokes Rel fu) (B : Amb D (A0L ev) ev RL "law" cL_law 7 (some .boolean) room_1) (hnc : EvNc ev) (hs : ScrL ev b Ls xs) (hi1 : vp_in (i + (1 : Int32)) Ls) (hp1 : xs (i + (1 : Int32)).toNatClampNeg = p1) (hrel : Rel x X S) (hLD : LD X oa m) (hf : cs + 16 ≤ room_1.cells ∧ sl + 200 ≤ room_1.slots)
    (kont : ∀ (X' : Mem) (g' : Nat → Int64) (S' : SM), Rel x X' S' → LD X' oa m → Gd D (A0L ev) ev Q (LM X' oa g' m S') (cs + 16) (sl + 200) 2215 [(0, vA (some b)), (1, vA (some x)), (2, vA (some m)), (3, vA (some oa)), (4, vI i)] []) : Gd D (A0L ev) ev Q (LM X oa g m S) cs sl 1446 [(0, vA (some b)), (1, vA (some x)), (2, vA (some m)), (3, vA (some oa)), (4, vI i)] [] := by
  refine g_dom fun hdm => ?_
  obtain ⟨hfr, hoa, hma⟩ := LM_fresh hLD hdm
  refine g_aload_n (pc := 1446) B dL_law_1446 1 rfl ?_
  refine g_aload_n (pc := 1447) B dL_law_1447 0 rfl ?_
  refine g_iload (pc := 1448) B dL_law_1448 4 rfl ?_
  refine g_iconst (pc := 1450) B dL_law_1450 (1 : Int32) (by decide) ?_
  refine g_iadd (pc := 1451) B dL_law_1451 ?_
  refine g_sld (pc := 1452) B hs hi1 hp1 dL_law_1452 ?_
  refine g_aload_n (pc := 1453) B dL_law_1453 3 rfl ?_
  obtain ⟨r, bv, S', e1, e2, hsem⟩ := sem x X S p1  hrel hfr
  refine l_wrap (pc := 1454) (As := [vA (some x), vI p1, vA (some oa)]) (st := []) B hnc calw_L_strokes kmL_189 kz_L_strokes hLD (fun l hl => cw_L_strokes hl e1 (hrk _ _ _ hrel) hLD.1 (fun E q => by subst q; exact (semR_ex hsem).1)) rfl (Nat.le_of_ble_eq_true rfl) (by decide) (by decide) hf dL_law_1454 rfl (fun E k z hr hk => ?_) (fun w X1 hr => ?_)
  · rw [hr] at hsem
    have hx9 := semR_ex hsem
    have hthr : sc S' 0 = nI (k + 1) := hx9.2.1 k hk
    have hk3 : k < 1 := (List.getElem?_eq_some_iff.mp hk).1
    have hk0 : ¬ nI (k + 1) = 0 := nI_ne0 (by omega) (by omega)
    refine g_istore (pc := 1457) (L' := [(5, vI (nI (k + 1))), (0, vA (some b)), (1, vA (some x)), (2, vA (some m)), (3, vA (some oa)), (4, vI i)]) B dL_law_1457 (by decide) rfl ?_
    refine g_aload_n (pc := 1459) B dL_law_1459 3 rfl ?_
    refine g_aload_n (pc := 1460) B dL_law_1460 1 rfl ?_
    refine g_iload (pc := 1461) B dL_law_1461 5 rfl ?_
    refine g_iconst (pc := 1463) B dL_law_1463 (1 : Int32) (by decide) ?_
    refine g_iadd (pc := 1464) B dL_law_1464 ?_
    refine g_sld (pc := 1465) B hs hi1 hp1 dL_law_1465 ?_
    refine l_ref (pc := 1466) (As := [vI p1]) (st := []) (st10 := [vI bv]) (S' := S') B cal_X12_strokes kmL_191 kn_X12_strokes ks_X12_strokes rfl hLD (fun l hl z => ct_X12_strokes hl e2) rfl (Nat.le_of_ble_eq_true rfl) (by decide) (by decide) hf dL_law_1466 rfl rfl ?_
    refine g_istore (pc := 1469) (L' := [(6, vI bv), (5, vI (nI (k + 1))), (0, vA (some b)), (1, vA (some x)), (2, vA (some m)), (3, vA (some oa)), (4, vI i)]) B dL_law_1469 (by decide) rfl ?_
    refine g_aload_n (pc := 1471) B dL_law_1471 4 rfl ?_
    refine l_ref (pc := 1472) (As := []) (st := []) (st10 := [vI (sc S' 0)]) (S' := S') B cal_X12_thrown kmL_120 kn_X12_thrown ks_X12_thrown rfl hLD (fun l hl z => ct_X12_thrown hl (X0 := S') rfl) rfl (Nat.le_of_ble_eq_true rfl) (by decide) (by decide) hf dL_law_1472 rfl rfl ?_
    refine g_iload (pc := 1475) B dL_law_1475 1 rfl ?_
    refine g_icmp_eq (pc := 1477) (tgt := 1482) B dL_law_1477 (by decide) (fun _ => ?_) (fun c9 => absurd hthr c9)
    refine g_iload (pc := 1482) B dL_law_1482 1 rfl ?_
    refine g_if_ne (pc := 1484) (tgt := 1499) B dL_law_1484 (by decide) (fun _ => ?_) (fun c9 => absurd c9 hk0)
    refine g_goto (pc := 1499) (tgt := 2215) B dL_law_1499 (by decide) ?_
    refine g_sub (pc := 2215) [2, 3, 4, 5, 6] rfl ?_
    exact kont (zM X z) g S' (hrz _ _ _ _ hx9.2.2) hLD
  · rw [hr] at hsem
    obtain ⟨hthr, hw, hrel1, hkp⟩ := semR_ok hsem
    have hLD1 := hLD.keep hoa hma hkp
    refine g_istore (pc := 1457) (L' := [(5, vI 0), (0, vA (some b)), (1, vA (some x)), (2, vA (some m)), (3, vA (some oa)), (4, vI i)]) B dL_law_1457 (by decide) rfl ?_
    refine g_aload_n (pc := 1459) B dL_law_1459 3 rfl ?_
    refine g_aload_n (pc := 1460) B dL_law_1460 1 rfl ?_
    refine g_iload (pc := 1461) B dL_law_1461 5 rfl ?_
    refine g_iconst (pc := 1463) B dL_law_1463 (1 : Int32) (by decide) ?_
    refine g_iadd (pc := 1464) B dL_law_1464 ?_
    refine g_sld (pc := 1465) B hs hi1 hp1 dL_law_1465 ?_
    refine l_ref (pc := 1466) (As := [vI p1]) (st := []) (st10 := [vI bv]) (S' := S') B cal_X12_strokes kmL_191 kn_X12_strokes ks_X12_strokes rfl hLD1 (fun l hl z => ct_X12_strokes hl e2) rfl (Nat.le_of_ble_eq_true rfl) (by decide) (by decide) hf dL_law_1466 rfl rfl ?_
    refine g_istore (pc := 1469) (L' := [(6, vI bv), (5, vI 0), (0, vA (some b)), (1, vA (some x)), (2, vA (some m)), (3, vA (some oa)), (4, vI i)]) B dL_law_1469 (by decide) rfl ?_
    refine g_aload_n (pc := 1471) B dL_law_1471 4 rfl ?_
    refine l_ref (pc := 1472) (As := []) (st := []) (st10 := [vI (sc S' 0)]) (S' := S') B cal_X12_thrown kmL_120 kn_X12_thrown ks_X12_thrown rfl hLD1 (fun l hl z => ct_X12_thrown hl (X0 := S') rfl) rfl (Nat.le_of_ble_eq_true rfl) (by decide) (by decide) hf dL_law_1472 rfl rfl ?_
    refine g_iload (pc := 1475) B dL_law_1475 1 rfl ?_
    refine g_icmp_eq (pc := 1477) (tgt := 1482) B dL_law_1477 (by decide) (fun _ => ?_) (fun c9 => absurd hthr c9)
    refine g_iload (pc := 1482) B dL_law_1482 1 rfl ?_
    refine g_if_ne (pc := 1484) (tgt := 1499) B dL_law_1484 (by decide) (fun c9 => absurd rfl c9) (fun _ => ?_)
    refine g_aload_n (pc := 1487) B dL_law_1487 5 rfl ?_
    refine g_iconst (pc := 1488) B dL_law_1488 (0 : Int32) (by decide) ?_
    refine g_lald (pc := 1489) B (LM_out0 hLD1) vin01 dL_law_1489 ?_
    rw [LM_aJ hLD1]
    refine g_iload (pc := 1490) B dL_law_1490 0 rfl ?_
    refine g_i2l (pc := 1492) B dL_law_1492 ?_
    refine g_lcmp (pc := 1493) B dL_law_1493 ?_
    have hcmp : lg_cmp w bv.toInt64 = 0 := by rw [hw]; exact cmp_self _
    refine g_if_eq (pc := 1494) (tgt := 1499) B dL_law_1494 (by decide) (fun _ => ?_) (fun c9 => absurd hcmp c9)
    refine g_goto (pc := 1499) (tgt := 2215) B dL_law_1499 (by decide) ?_
    refine g_sub (pc := 2215) [2, 3, 4, 5, 6] rfl ?_
    exact kont X1 (up0 g w) S' hrel1 hLD1
set_option maxRecDepth 100000 in
set_option maxHeartbeats 4000000 in
theorem lc_strokesBySteps {D : DD} {ev : EV} {Q : State → Prop} {Rel : Nat → Mem → SM → Prop} {fu b x m oa Ls : Nat} {xs : Nat → Int32} {g : Nat → Int64} {X : Mem} {S : SM} {i : Int32} {p1 : Int32} {p2 : Int32} {cs sl : Nat} (hrz : ∀ x X S z, Rel x X S → Rel x (zM X z) S) (hrk : ∀ x X S, Rel x X S → mK X x = some (11, 0)) (sem : sem_strokesBySteps Rel fu) (B : Amb D (A0L ev) ev RL "law" cL_law 7 (some .boolean) room_1) (hnc : EvNc ev) (hs : ScrL ev b Ls xs) (hi1 : vp_in (i + (1 : Int32)) Ls) (hi2 : vp_in (i + (2 : Int32)) Ls) (hp1 : xs (i + (1 : Int32)).toNatClampNeg = p1) (hp2 : xs (i + (2 : Int32)).toNatClampNeg = p2) (hrel : Rel x X S) (hLD : LD X oa m) (hf : cs + 16 ≤ room_1.cells ∧ sl + 200 ≤ room_1.slots)
    (kont : ∀ (X' : Mem) (g' : Nat → Int64) (S' : SM), Rel x X' S' → LD X' oa m → Gd D (A0L ev) ev Q (LM X' oa g' m S') (cs + 16) (sl + 200) 2215 [(0, vA (some b)), (1, vA (some x)), (2, vA (some m)), (3, vA (some oa)), (4, vI i)] []) : Gd D (A0L ev) ev Q (LM X oa g m S) cs sl 1502 [(0, vA (some b)), (1, vA (some x)), (2, vA (some m)), (3, vA (some oa)), (4, vI i)] [] := by
  refine g_dom fun hdm => ?_
  obtain ⟨hfr, hoa, hma⟩ := LM_fresh hLD hdm
  refine g_aload_n (pc := 1502) B dL_law_1502 1 rfl ?_
  refine g_aload_n (pc := 1503) B dL_law_1503 0 rfl ?_
  refine g_iload (pc := 1504) B dL_law_1504 4 rfl ?_
  refine g_iconst (pc := 1506) B dL_law_1506 (1 : Int32) (by decide) ?_
  refine g_iadd (pc := 1507) B dL_law_1507 ?_
  refine g_sld (pc := 1508) B hs hi1 hp1 dL_law_1508 ?_
  refine g_aload_n (pc := 1509) B dL_law_1509 0 rfl ?_
  refine g_iload (pc := 1510) B dL_law_1510 4 rfl ?_
  refine g_iconst (pc := 1512) B dL_law_1512 (2 : Int32) (by decide) ?_
  refine g_iadd (pc := 1513) B dL_law_1513 ?_
  refine g_sld (pc := 1514) B hs hi2 hp2 dL_law_1514 ?_
  refine g_aload_n (pc := 1515) B dL_law_1515 3 rfl ?_
  obtain ⟨r, bv, S', e1, e2, hsem⟩ := sem x X S p1 p2  hrel hfr
  refine l_wrap (pc := 1516) (As := [vA (some x), vI p1, vI p2, vA (some oa)]) (st := []) B hnc calw_L_strokesBySteps kmL_192 kz_L_strokesBySteps hLD (fun l hl => cw_L_strokesBySteps hl e1 (hrk _ _ _ hrel) hLD.1 (fun v X1 q => by subst q; exact ((semR_ok hsem).2.2.2.2 oa hoa).trans hLD.1) (fun E q => by subst q; exact (semR_ex hsem).1)) rfl (Nat.le_of_ble_eq_true rfl) (by decide) (by decide) hf dL_law_1516 rfl (fun E k z hr hk => ?_) (fun w X1 hr => ?_)
  · rw [hr] at hsem
    have hx9 := semR_ex hsem
    have hthr : sc S' 0 = nI (k + 1) := hx9.2.1 k hk
    have hk3 : k < 2 := (List.getElem?_eq_some_iff.mp hk).1
    have hk0 : ¬ nI (k + 1) = 0 := nI_ne0 (by omega) (by omega)
    refine g_istore (pc := 1519) (L' := [(5, vI (nI (k + 1))), (0, vA (some b)), (1, vA (some x)), (2, vA (some m)), (3, vA (some oa)), (4, vI i)]) B dL_law_1519 (by decide) rfl ?_
    refine g_aload_n (pc := 1521) B dL_law_1521 3 rfl ?_
    refine g_aload_n (pc := 1522) B dL_law_1522 1 rfl ?_
    refine g_iload (pc := 1523) B dL_law_1523 5 rfl ?_
    refine g_iconst (pc := 1525) B dL_law_1525 (1 : Int32) (by decide) ?_
    refine g_iadd (pc := 1526) B dL_law_1526 ?_
    refine g_sld (pc := 1527) B hs hi1 hp1 dL_law_1527 ?_
    refine g_aload_n (pc := 1528) B dL_law_1528 1 rfl ?_
    refine g_iload (pc := 1529) B dL_law_1529 5 rfl ?_
    refine g_iconst (pc := 1531) B dL_law_1531 (2 : Int32) (by decide) ?_
    refine g_iadd (pc := 1532) B dL_law_1532 ?_
    refine g_sld (pc := 1533) B hs hi2 hp2 dL_law_1533 ?_
    refine l_ref (pc := 1534) (As := [vI p1, vI p2]) (st := []) (st10 := [vI bv]) (S' := S') B cal_X12_strokesBySteps kmL_194 kn_X12_strokesBySteps ks_X12_strokesBySteps rfl hLD (fun l hl z => ct_X12_strokesBySteps hl e2) rfl (Nat.le_of_ble_eq_true rfl) (by decide) (by decide) hf dL_law_1534 rfl rfl ?_
    refine g_istore (pc := 1537) (L' := [(6, vI bv), (5, vI (nI (k + 1))), (0, vA (some b)), (1, vA (some x)), (2, vA (some m)), (3, vA (some oa)), (4, vI i)]) B dL_law_1537 (by decide) rfl ?_
    refine g_aload_n (pc := 1539) B dL_law_1539 4 rfl ?_
    refine l_ref (pc := 1540) (As := []) (st := []) (st10 := [vI (sc S' 0)]) (S' := S') B cal_X12_thrown kmL_120 kn_X12_thrown ks_X12_thrown rfl hLD (fun l hl z => ct_X12_thrown hl (X0 := S') rfl) rfl (Nat.le_of_ble_eq_true rfl) (by decide) (by decide) hf dL_law_1540 rfl rfl ?_
    refine g_iload (pc := 1543) B dL_law_1543 1 rfl ?_
    refine g_icmp_eq (pc := 1545) (tgt := 1550) B dL_law_1545 (by decide) (fun _ => ?_) (fun c9 => absurd hthr c9)
    refine g_iload (pc := 1550) B dL_law_1550 1 rfl ?_
    refine g_if_ne (pc := 1552) (tgt := 1567) B dL_law_1552 (by decide) (fun _ => ?_) (fun c9 => absurd c9 hk0)
    refine g_goto (pc := 1567) (tgt := 2215) B dL_law_1567 (by decide) ?_
    refine g_sub (pc := 2215) [2, 3, 4, 5, 6] rfl ?_
    exact kont (zM X z) g S' (hrz _ _ _ _ hx9.2.2) hLD
  · rw [hr] at hsem
    obtain ⟨hthr, hw, hrel1, hkp⟩ := semR_ok hsem
    have hLD1 := hLD.keep hoa hma hkp
    refine g_istore (pc := 1519) (L' := [(5, vI 0), (0, vA (some b)), (1, vA (some x)), (2, vA (some m)), (3, vA (some oa)), (4, vI i)]) B dL_law_1519 (by decide) rfl ?_
    refine g_aload_n (pc := 1521) B dL_law_1521 3 rfl ?_
    refine g_aload_n (pc := 1522) B dL_law_1522 1 rfl ?_
    refine g_iload (pc := 1523) B dL_law_1523 5 rfl ?_
    refine g_iconst (pc := 1525) B dL_law_1525 (1 : Int32) (by decide) ?_
    refine g_iadd (pc := 1526) B dL_law_1526 ?_
    refine g_sld (pc := 1527) B hs hi1 hp1 dL_law_1527 ?_
    refine g_aload_n (pc := 1528) B dL_law_1528 1 rfl ?_
    refine g_iload (pc := 1529) B dL_law_1529 5 rfl ?_
    refine g_iconst (pc := 1531) B dL_law_1531 (2 : Int32) (by decide) ?_
    refine g_iadd (pc := 1532) B dL_law_1532 ?_
    refine g_sld (pc := 1533) B hs hi2 hp2 dL_law_1533 ?_
    refine l_ref (pc := 1534) (As := [vI p1, vI p2]) (st := []) (st10 := [vI bv]) (S' := S') B cal_X12_strokesBySteps kmL_194 kn_X12_strokesBySteps ks_X12_strokesBySteps rfl hLD1 (fun l hl z => ct_X12_strokesBySteps hl e2) rfl (Nat.le_of_ble_eq_true rfl) (by decide) (by decide) hf dL_law_1534 rfl rfl ?_
    refine g_istore (pc := 1537) (L' := [(6, vI bv), (5, vI 0), (0, vA (some b)), (1, vA (some x)), (2, vA (some m)), (3, vA (some oa)), (4, vI i)]) B dL_law_1537 (by decide) rfl ?_
    refine g_aload_n (pc := 1539) B dL_law_1539 4 rfl ?_
    refine l_ref (pc := 1540) (As := []) (st := []) (st10 := [vI (sc S' 0)]) (S' := S') B cal_X12_thrown kmL_120 kn_X12_thrown ks_X12_thrown rfl hLD1 (fun l hl z => ct_X12_thrown hl (X0 := S') rfl) rfl (Nat.le_of_ble_eq_true rfl) (by decide) (by decide) hf dL_law_1540 rfl rfl ?_
    refine g_iload (pc := 1543) B dL_law_1543 1 rfl ?_
    refine g_icmp_eq (pc := 1545) (tgt := 1550) B dL_law_1545 (by decide) (fun _ => ?_) (fun c9 => absurd hthr c9)
    refine g_iload (pc := 1550) B dL_law_1550 1 rfl ?_
    refine g_if_ne (pc := 1552) (tgt := 1567) B dL_law_1552 (by decide) (fun c9 => absurd rfl c9) (fun _ => ?_)
    refine g_aload_n (pc := 1555) B dL_law_1555 5 rfl ?_
    refine g_iconst (pc := 1556) B dL_law_1556 (0 : Int32) (by decide) ?_
    refine g_lald (pc := 1557) B (LM_out0 hLD1) vin01 dL_law_1557 ?_
    rw [LM_aJ hLD1]
    refine g_iload (pc := 1558) B dL_law_1558 0 rfl ?_
    refine g_i2l (pc := 1560) B dL_law_1560 ?_
    refine g_lcmp (pc := 1561) B dL_law_1561 ?_
    have hcmp : lg_cmp w bv.toInt64 = 0 := by rw [hw]; exact cmp_self _
    refine g_if_eq (pc := 1562) (tgt := 1567) B dL_law_1562 (by decide) (fun _ => ?_) (fun c9 => absurd hcmp c9)
    refine g_goto (pc := 1567) (tgt := 2215) B dL_law_1567 (by decide) ?_
    refine g_sub (pc := 2215) [2, 3, 4, 5, 6] rfl ?_
    exact kont X1 (up0 g w) S' hrel1 hLD1
set_option maxRecDepth 100000 in
set_option maxHeartbeats 4000000 in
theorem lc_isDrawn {D : DD} {ev : EV} {Q : State → Prop} {Rel : Nat → Mem → SM → Prop} {fu b x m oa Ls : Nat} {xs : Nat → Int32} {g : Nat → Int64} {X : Mem} {S : SM} {i : Int32} {p1 : Int32} {p2 : Int32} {p3 : Int32} {p4 : Int32} {cs sl : Nat} (hrz : ∀ x X S z, Rel x X S → Rel x (zM X z) S) (hrk : ∀ x X S, Rel x X S → mK X x = some (11, 0)) (sem : sem_isDrawn Rel fu) (B : Amb D (A0L ev) ev RL "law" cL_law 7 (some .boolean) room_1) (hnc : EvNc ev) (hs : ScrL ev b Ls xs) (hi1 : vp_in (i + (1 : Int32)) Ls) (hi2 : vp_in (i + (2 : Int32)) Ls) (hi3 : vp_in (i + (3 : Int32)) Ls) (hi4 : vp_in (i + (4 : Int32)) Ls) (hp1 : xs (i + (1 : Int32)).toNatClampNeg = p1) (hp2 : xs (i + (2 : Int32)).toNatClampNeg = p2) (hp3 : xs (i + (3 : Int32)).toNatClampNeg = p3) (hp4 : xs (i + (4 : Int32)).toNatClampNeg = p4) (hrel : Rel x X S) (hLD : LD X oa m) (hf : cs + 16 ≤ room_1.cells ∧ sl + 200 ≤ room_1.slots)
    (kont : ∀ (X' : Mem) (g' : Nat → Int64) (S' : SM), Rel x X' S' → LD X' oa m → Gd D (A0L ev) ev Q (LM X' oa g' m S') (cs + 16) (sl + 200) 2215 [(0, vA (some b)), (1, vA (some x)), (2, vA (some m)), (3, vA (some oa)), (4, vI i)] []) : Gd D (A0L ev) ev Q (LM X oa g m S) cs sl 1570 [(0, vA (some b)), (1, vA (some x)), (2, vA (some m)), (3, vA (some oa)), (4, vI i)] [] := by
  refine g_dom fun hdm => ?_
  obtain ⟨hfr, hoa, hma⟩ := LM_fresh hLD hdm
  refine g_aload_n (pc := 1570) B dL_law_1570 1 rfl ?_
  refine g_aload_n (pc := 1571) B dL_law_1571 0 rfl ?_
  refine g_iload (pc := 1572) B dL_law_1572 4 rfl ?_
  refine g_iconst (pc := 1574) B dL_law_1574 (1 : Int32) (by decide) ?_
  refine g_iadd (pc := 1575) B dL_law_1575 ?_
  refine g_sld (pc := 1576) B hs hi1 hp1 dL_law_1576 ?_
  refine g_aload_n (pc := 1577) B dL_law_1577 0 rfl ?_
  refine g_iload (pc := 1578) B dL_law_1578 4 rfl ?_
  refine g_iconst (pc := 1580) B dL_law_1580 (2 : Int32) (by decide) ?_
  refine g_iadd (pc := 1581) B dL_law_1581 ?_
  refine g_sld (pc := 1582) B hs hi2 hp2 dL_law_1582 ?_
  refine g_aload_n (pc := 1583) B dL_law_1583 0 rfl ?_
  refine g_iload (pc := 1584) B dL_law_1584 4 rfl ?_
  refine g_iconst (pc := 1586) B dL_law_1586 (3 : Int32) (by decide) ?_
  refine g_iadd (pc := 1587) B dL_law_1587 ?_
  refine g_sld (pc := 1588) B hs hi3 hp3 dL_law_1588 ?_
  refine g_aload_n (pc := 1589) B dL_law_1589 0 rfl ?_
  refine g_iload (pc := 1590) B dL_law_1590 4 rfl ?_
  refine g_iconst (pc := 1592) B dL_law_1592 (4 : Int32) (by decide) ?_
  refine g_iadd (pc := 1593) B dL_law_1593 ?_
  refine g_sld (pc := 1594) B hs hi4 hp4 dL_law_1594 ?_
  by_cases hc_p4 : p4 = 0
  · refine g_if_eq (pc := 1595) (tgt := 1602) B dL_law_1595 (by decide) (fun _ => ?_) (fun c9 => absurd hc_p4 c9)
    refine g_iconst (pc := 1602) B dL_law_1602 (0 : Int32) (by decide) ?_
    refine g_aload_n (pc := 1603) B dL_law_1603 3 rfl ?_
    obtain ⟨r, bv, S', e1, e2, hsem⟩ := sem x X S p1 p2 p3 (0 : Int32) (Or.inl rfl) hrel hfr
    refine l_wrap (pc := 1604) (As := [vA (some x), vI p1, vI p2, vI p3, vI (0 : Int32), vA (some oa)]) (st := []) B hnc calw_L_isDrawn kmL_195 kz_L_isDrawn hLD (fun l hl => cw_L_isDrawn hl e1 (hrk _ _ _ hrel) hLD.1 (fun E q => by subst q; exact (semR_ex hsem).1)) rfl (Nat.le_of_ble_eq_true rfl) (by decide) (by decide) hf dL_law_1604 rfl (fun E k z hr hk => ?_) (fun w X1 hr => ?_)
    · rw [hr] at hsem
      have hx9 := semR_ex hsem
      have hthr : sc S' 0 = nI (k + 1) := hx9.2.1 k hk
      have hk3 : k < 1 := (List.getElem?_eq_some_iff.mp hk).1
      have hk0 : ¬ nI (k + 1) = 0 := nI_ne0 (by omega) (by omega)
      refine g_istore (pc := 1607) (L' := [(5, vI (nI (k + 1))), (0, vA (some b)), (1, vA (some x)), (2, vA (some m)), (3, vA (some oa)), (4, vI i)]) B dL_law_1607 (by decide) rfl ?_
      refine g_aload_n (pc := 1609) B dL_law_1609 3 rfl ?_
      refine g_aload_n (pc := 1610) B dL_law_1610 1 rfl ?_
      refine g_iload (pc := 1611) B dL_law_1611 5 rfl ?_
      refine g_iconst (pc := 1613) B dL_law_1613 (1 : Int32) (by decide) ?_
      refine g_iadd (pc := 1614) B dL_law_1614 ?_
      refine g_sld (pc := 1615) B hs hi1 hp1 dL_law_1615 ?_
      refine g_aload_n (pc := 1616) B dL_law_1616 1 rfl ?_
      refine g_iload (pc := 1617) B dL_law_1617 5 rfl ?_
      refine g_iconst (pc := 1619) B dL_law_1619 (2 : Int32) (by decide) ?_
      refine g_iadd (pc := 1620) B dL_law_1620 ?_
      refine g_sld (pc := 1621) B hs hi2 hp2 dL_law_1621 ?_
      refine g_aload_n (pc := 1622) B dL_law_1622 1 rfl ?_
      refine g_iload (pc := 1623) B dL_law_1623 5 rfl ?_
      refine g_iconst (pc := 1625) B dL_law_1625 (3 : Int32) (by decide) ?_
      refine g_iadd (pc := 1626) B dL_law_1626 ?_
      refine g_sld (pc := 1627) B hs hi3 hp3 dL_law_1627 ?_
      refine g_aload_n (pc := 1628) B dL_law_1628 1 rfl ?_
      refine g_iload (pc := 1629) B dL_law_1629 5 rfl ?_
      refine g_iconst (pc := 1631) B dL_law_1631 (4 : Int32) (by decide) ?_
      refine g_iadd (pc := 1632) B dL_law_1632 ?_
      refine g_sld (pc := 1633) B hs hi4 hp4 dL_law_1633 ?_
      refine g_if_eq (pc := 1634) (tgt := 1641) B dL_law_1634 (by decide) (fun _ => ?_) (fun c9 => absurd hc_p4 c9)
      refine g_iconst (pc := 1641) B dL_law_1641 (0 : Int32) (by decide) ?_
      refine l_ref (pc := 1642) (As := [vI p1, vI p2, vI p3, vI (0 : Int32)]) (st := []) (st10 := [vI bv]) (S' := S') B cal_X12_isDrawn kmL_198 kn_X12_isDrawn ks_X12_isDrawn rfl hLD (fun l hl z => ct_X12_isDrawn hl e2) rfl (Nat.le_of_ble_eq_true rfl) (by decide) (by decide) hf dL_law_1642 rfl rfl ?_
      refine g_istore (pc := 1645) (L' := [(6, vI bv), (5, vI (nI (k + 1))), (0, vA (some b)), (1, vA (some x)), (2, vA (some m)), (3, vA (some oa)), (4, vI i)]) B dL_law_1645 (by decide) rfl ?_
      refine g_aload_n (pc := 1647) B dL_law_1647 4 rfl ?_
      refine l_ref (pc := 1648) (As := []) (st := []) (st10 := [vI (sc S' 0)]) (S' := S') B cal_X12_thrown kmL_120 kn_X12_thrown ks_X12_thrown rfl hLD (fun l hl z => ct_X12_thrown hl (X0 := S') rfl) rfl (Nat.le_of_ble_eq_true rfl) (by decide) (by decide) hf dL_law_1648 rfl rfl ?_
      refine g_iload (pc := 1651) B dL_law_1651 1 rfl ?_
      refine g_icmp_eq (pc := 1653) (tgt := 1658) B dL_law_1653 (by decide) (fun _ => ?_) (fun c9 => absurd hthr c9)
      refine g_iload (pc := 1658) B dL_law_1658 1 rfl ?_
      refine g_if_ne (pc := 1660) (tgt := 1682) B dL_law_1660 (by decide) (fun _ => ?_) (fun c9 => absurd c9 hk0)
      refine g_goto (pc := 1682) (tgt := 2215) B dL_law_1682 (by decide) ?_
      refine g_sub (pc := 2215) [2, 3, 4, 5, 6] rfl ?_
      exact kont (zM X z) g S' (hrz _ _ _ _ hx9.2.2) hLD
    · rw [hr] at hsem
      obtain ⟨hthr, hw, hrel1, hkp⟩ := semR_ok hsem
      have hLD1 := hLD.keep hoa hma hkp
      refine g_istore (pc := 1607) (L' := [(5, vI 0), (0, vA (some b)), (1, vA (some x)), (2, vA (some m)), (3, vA (some oa)), (4, vI i)]) B dL_law_1607 (by decide) rfl ?_
      refine g_aload_n (pc := 1609) B dL_law_1609 3 rfl ?_
      refine g_aload_n (pc := 1610) B dL_law_1610 1 rfl ?_
      refine g_iload (pc := 1611) B dL_law_1611 5 rfl ?_
      refine g_iconst (pc := 1613) B dL_law_1613 (1 : Int32) (by decide) ?_
      refine g_iadd (pc := 1614) B dL_law_1614 ?_
      refine g_sld (pc := 1615) B hs hi1 hp1 dL_law_1615 ?_
      refine g_aload_n (pc := 1616) B dL_law_1616 1 rfl ?_
      refine g_iload (pc := 1617) B dL_law_1617 5 rfl ?_
      refine g_iconst (pc := 1619) B dL_law_1619 (2 : Int32) (by decide) ?_
      refine g_iadd (pc := 1620) B dL_law_1620 ?_
      refine g_sld (pc := 1621) B hs hi2 hp2 dL_law_1621 ?_
      refine g_aload_n (pc := 1622) B dL_law_1622 1 rfl ?_
      refine g_iload (pc := 1623) B dL_law_1623 5 rfl ?_
      refine g_iconst (pc := 1625) B dL_law_1625 (3 : Int32) (by decide) ?_
      refine g_iadd (pc := 1626) B dL_law_1626 ?_
      refine g_sld (pc := 1627) B hs hi3 hp3 dL_law_1627 ?_
      refine g_aload_n (pc := 1628) B dL_law_1628 1 rfl ?_
      refine g_iload (pc := 1629) B dL_law_1629 5 rfl ?_
      refine g_iconst (pc := 1631) B dL_law_1631 (4 : Int32) (by decide) ?_
      refine g_iadd (pc := 1632) B dL_law_1632 ?_
      refine g_sld (pc := 1633) B hs hi4 hp4 dL_law_1633 ?_
      refine g_if_eq (pc := 1634) (tgt := 1641) B dL_law_1634 (by decide) (fun _ => ?_) (fun c9 => absurd hc_p4 c9)
      refine g_iconst (pc := 1641) B dL_law_1641 (0 : Int32) (by decide) ?_
      refine l_ref (pc := 1642) (As := [vI p1, vI p2, vI p3, vI (0 : Int32)]) (st := []) (st10 := [vI bv]) (S' := S') B cal_X12_isDrawn kmL_198 kn_X12_isDrawn ks_X12_isDrawn rfl hLD1 (fun l hl z => ct_X12_isDrawn hl e2) rfl (Nat.le_of_ble_eq_true rfl) (by decide) (by decide) hf dL_law_1642 rfl rfl ?_
      refine g_istore (pc := 1645) (L' := [(6, vI bv), (5, vI 0), (0, vA (some b)), (1, vA (some x)), (2, vA (some m)), (3, vA (some oa)), (4, vI i)]) B dL_law_1645 (by decide) rfl ?_
      refine g_aload_n (pc := 1647) B dL_law_1647 4 rfl ?_
      refine l_ref (pc := 1648) (As := []) (st := []) (st10 := [vI (sc S' 0)]) (S' := S') B cal_X12_thrown kmL_120 kn_X12_thrown ks_X12_thrown rfl hLD1 (fun l hl z => ct_X12_thrown hl (X0 := S') rfl) rfl (Nat.le_of_ble_eq_true rfl) (by decide) (by decide) hf dL_law_1648 rfl rfl ?_
      refine g_iload (pc := 1651) B dL_law_1651 1 rfl ?_
      refine g_icmp_eq (pc := 1653) (tgt := 1658) B dL_law_1653 (by decide) (fun _ => ?_) (fun c9 => absurd hthr c9)
      refine g_iload (pc := 1658) B dL_law_1658 1 rfl ?_
      refine g_if_ne (pc := 1660) (tgt := 1682) B dL_law_1660 (by decide) (fun c9 => absurd rfl c9) (fun _ => ?_)
      refine g_aload_n (pc := 1663) B dL_law_1663 5 rfl ?_
      refine g_iconst (pc := 1664) B dL_law_1664 (0 : Int32) (by decide) ?_
      refine g_lald (pc := 1665) B (LM_out0 hLD1) vin01 dL_law_1665 ?_
      rw [LM_aJ hLD1]
      refine g_iload (pc := 1666) B dL_law_1666 0 rfl ?_
      by_cases hbv : bv = 0
      · refine g_if_eq (pc := 1668) (tgt := 1675) B dL_law_1668 (by decide) (fun _ => ?_) (fun c9 => absurd hbv c9)
        refine g_lconst (pc := 1675) B dL_law_1675 (0 : Int64) (by decide) ?_
        refine g_lcmp (pc := 1676) B dL_law_1676 ?_
        have hcmp : lg_cmp w (0 : Int64) = 0 := by rw [hw, if_pos hbv]; exact cmp_self _
        refine g_if_eq (pc := 1677) (tgt := 1682) B dL_law_1677 (by decide) (fun _ => ?_) (fun c9 => absurd hcmp c9)
        refine g_goto (pc := 1682) (tgt := 2215) B dL_law_1682 (by decide) ?_
        refine g_sub (pc := 2215) [2, 3, 4, 5, 6] rfl ?_
        exact kont X1 (up0 g w) S' hrel1 hLD1
      · refine g_if_eq (pc := 1668) (tgt := 1675) B dL_law_1668 (by decide) (fun c9 => absurd c9 hbv) (fun _ => ?_)
        refine g_lconst (pc := 1671) B dL_law_1671 (1 : Int64) (by decide) ?_
        refine g_goto (pc := 1672) (tgt := 1676) B dL_law_1672 (by decide) ?_
        refine g_lcmp (pc := 1676) B dL_law_1676 ?_
        have hcmp : lg_cmp w (1 : Int64) = 0 := by rw [hw, if_neg hbv]; exact cmp_self _
        refine g_if_eq (pc := 1677) (tgt := 1682) B dL_law_1677 (by decide) (fun _ => ?_) (fun c9 => absurd hcmp c9)
        refine g_goto (pc := 1682) (tgt := 2215) B dL_law_1682 (by decide) ?_
        refine g_sub (pc := 2215) [2, 3, 4, 5, 6] rfl ?_
        exact kont X1 (up0 g w) S' hrel1 hLD1
  · refine g_if_eq (pc := 1595) (tgt := 1602) B dL_law_1595 (by decide) (fun c9 => absurd c9 hc_p4) (fun _ => ?_)
    refine g_iconst (pc := 1598) B dL_law_1598 (1 : Int32) (by decide) ?_
    refine g_goto (pc := 1599) (tgt := 1603) B dL_law_1599 (by decide) ?_
    refine g_aload_n (pc := 1603) B dL_law_1603 3 rfl ?_
    obtain ⟨r, bv, S', e1, e2, hsem⟩ := sem x X S p1 p2 p3 (1 : Int32) (Or.inr rfl) hrel hfr
    refine l_wrap (pc := 1604) (As := [vA (some x), vI p1, vI p2, vI p3, vI (1 : Int32), vA (some oa)]) (st := []) B hnc calw_L_isDrawn kmL_195 kz_L_isDrawn hLD (fun l hl => cw_L_isDrawn hl e1 (hrk _ _ _ hrel) hLD.1 (fun E q => by subst q; exact (semR_ex hsem).1)) rfl (Nat.le_of_ble_eq_true rfl) (by decide) (by decide) hf dL_law_1604 rfl (fun E k z hr hk => ?_) (fun w X1 hr => ?_)
    · rw [hr] at hsem
      have hx9 := semR_ex hsem
      have hthr : sc S' 0 = nI (k + 1) := hx9.2.1 k hk
      have hk3 : k < 1 := (List.getElem?_eq_some_iff.mp hk).1
      have hk0 : ¬ nI (k + 1) = 0 := nI_ne0 (by omega) (by omega)
      refine g_istore (pc := 1607) (L' := [(5, vI (nI (k + 1))), (0, vA (some b)), (1, vA (some x)), (2, vA (some m)), (3, vA (some oa)), (4, vI i)]) B dL_law_1607 (by decide) rfl ?_
      refine g_aload_n (pc := 1609) B dL_law_1609 3 rfl ?_
      refine g_aload_n (pc := 1610) B dL_law_1610 1 rfl ?_
      refine g_iload (pc := 1611) B dL_law_1611 5 rfl ?_
      refine g_iconst (pc := 1613) B dL_law_1613 (1 : Int32) (by decide) ?_
      refine g_iadd (pc := 1614) B dL_law_1614 ?_
      refine g_sld (pc := 1615) B hs hi1 hp1 dL_law_1615 ?_
      refine g_aload_n (pc := 1616) B dL_law_1616 1 rfl ?_
      refine g_iload (pc := 1617) B dL_law_1617 5 rfl ?_
      refine g_iconst (pc := 1619) B dL_law_1619 (2 : Int32) (by decide) ?_
      refine g_iadd (pc := 1620) B dL_law_1620 ?_
      refine g_sld (pc := 1621) B hs hi2 hp2 dL_law_1621 ?_
      refine g_aload_n (pc := 1622) B dL_law_1622 1 rfl ?_
      refine g_iload (pc := 1623) B dL_law_1623 5 rfl ?_
      refine g_iconst (pc := 1625) B dL_law_1625 (3 : Int32) (by decide) ?_
      refine g_iadd (pc := 1626) B dL_law_1626 ?_
      refine g_sld (pc := 1627) B hs hi3 hp3 dL_law_1627 ?_
      refine g_aload_n (pc := 1628) B dL_law_1628 1 rfl ?_
      refine g_iload (pc := 1629) B dL_law_1629 5 rfl ?_
      refine g_iconst (pc := 1631) B dL_law_1631 (4 : Int32) (by decide) ?_
      refine g_iadd (pc := 1632) B dL_law_1632 ?_
      refine g_sld (pc := 1633) B hs hi4 hp4 dL_law_1633 ?_
      refine g_if_eq (pc := 1634) (tgt := 1641) B dL_law_1634 (by decide) (fun c9 => absurd c9 hc_p4) (fun _ => ?_)
      refine g_iconst (pc := 1637) B dL_law_1637 (1 : Int32) (by decide) ?_
      refine g_goto (pc := 1638) (tgt := 1642) B dL_law_1638 (by decide) ?_
      refine l_ref (pc := 1642) (As := [vI p1, vI p2, vI p3, vI (1 : Int32)]) (st := []) (st10 := [vI bv]) (S' := S') B cal_X12_isDrawn kmL_198 kn_X12_isDrawn ks_X12_isDrawn rfl hLD (fun l hl z => ct_X12_isDrawn hl e2) rfl (Nat.le_of_ble_eq_true rfl) (by decide) (by decide) hf dL_law_1642 rfl rfl ?_
      refine g_istore (pc := 1645) (L' := [(6, vI bv), (5, vI (nI (k + 1))), (0, vA (some b)), (1, vA (some x)), (2, vA (some m)), (3, vA (some oa)), (4, vI i)]) B dL_law_1645 (by decide) rfl ?_
      refine g_aload_n (pc := 1647) B dL_law_1647 4 rfl ?_
      refine l_ref (pc := 1648) (As := []) (st := []) (st10 := [vI (sc S' 0)]) (S' := S') B cal_X12_thrown kmL_120 kn_X12_thrown ks_X12_thrown rfl hLD (fun l hl z => ct_X12_thrown hl (X0 := S') rfl) rfl (Nat.le_of_ble_eq_true rfl) (by decide) (by decide) hf dL_law_1648 rfl rfl ?_
      refine g_iload (pc := 1651) B dL_law_1651 1 rfl ?_
      refine g_icmp_eq (pc := 1653) (tgt := 1658) B dL_law_1653 (by decide) (fun _ => ?_) (fun c9 => absurd hthr c9)
      refine g_iload (pc := 1658) B dL_law_1658 1 rfl ?_
      refine g_if_ne (pc := 1660) (tgt := 1682) B dL_law_1660 (by decide) (fun _ => ?_) (fun c9 => absurd c9 hk0)
      refine g_goto (pc := 1682) (tgt := 2215) B dL_law_1682 (by decide) ?_
      refine g_sub (pc := 2215) [2, 3, 4, 5, 6] rfl ?_
      exact kont (zM X z) g S' (hrz _ _ _ _ hx9.2.2) hLD
    · rw [hr] at hsem
      obtain ⟨hthr, hw, hrel1, hkp⟩ := semR_ok hsem
      have hLD1 := hLD.keep hoa hma hkp
      refine g_istore (pc := 1607) (L' := [(5, vI 0), (0, vA (some b)), (1, vA (some x)), (2, vA (some m)), (3, vA (some oa)), (4, vI i)]) B dL_law_1607 (by decide) rfl ?_
      refine g_aload_n (pc := 1609) B dL_law_1609 3 rfl ?_
      refine g_aload_n (pc := 1610) B dL_law_1610 1 rfl ?_
      refine g_iload (pc := 1611) B dL_law_1611 5 rfl ?_
      refine g_iconst (pc := 1613) B dL_law_1613 (1 : Int32) (by decide) ?_
      refine g_iadd (pc := 1614) B dL_law_1614 ?_
      refine g_sld (pc := 1615) B hs hi1 hp1 dL_law_1615 ?_
      refine g_aload_n (pc := 1616) B dL_law_1616 1 rfl ?_
      refine g_iload (pc := 1617) B dL_law_1617 5 rfl ?_
      refine g_iconst (pc := 1619) B dL_law_1619 (2 : Int32) (by decide) ?_
      refine g_iadd (pc := 1620) B dL_law_1620 ?_
      refine g_sld (pc := 1621) B hs hi2 hp2 dL_law_1621 ?_
      refine g_aload_n (pc := 1622) B dL_law_1622 1 rfl ?_
      refine g_iload (pc := 1623) B dL_law_1623 5 rfl ?_
      refine g_iconst (pc := 1625) B dL_law_1625 (3 : Int32) (by decide) ?_
      refine g_iadd (pc := 1626) B dL_law_1626 ?_
      refine g_sld (pc := 1627) B hs hi3 hp3 dL_law_1627 ?_
      refine g_aload_n (pc := 1628) B dL_law_1628 1 rfl ?_
      refine g_iload (pc := 1629) B dL_law_1629 5 rfl ?_
      refine g_iconst (pc := 1631) B dL_law_1631 (4 : Int32) (by decide) ?_
      refine g_iadd (pc := 1632) B dL_law_1632 ?_
      refine g_sld (pc := 1633) B hs hi4 hp4 dL_law_1633 ?_
      refine g_if_eq (pc := 1634) (tgt := 1641) B dL_law_1634 (by decide) (fun c9 => absurd c9 hc_p4) (fun _ => ?_)
      refine g_iconst (pc := 1637) B dL_law_1637 (1 : Int32) (by decide) ?_
      refine g_goto (pc := 1638) (tgt := 1642) B dL_law_1638 (by decide) ?_
      refine l_ref (pc := 1642) (As := [vI p1, vI p2, vI p3, vI (1 : Int32)]) (st := []) (st10 := [vI bv]) (S' := S') B cal_X12_isDrawn kmL_198 kn_X12_isDrawn ks_X12_isDrawn rfl hLD1 (fun l hl z => ct_X12_isDrawn hl e2) rfl (Nat.le_of_ble_eq_true rfl) (by decide) (by decide) hf dL_law_1642 rfl rfl ?_
      refine g_istore (pc := 1645) (L' := [(6, vI bv), (5, vI 0), (0, vA (some b)), (1, vA (some x)), (2, vA (some m)), (3, vA (some oa)), (4, vI i)]) B dL_law_1645 (by decide) rfl ?_
      refine g_aload_n (pc := 1647) B dL_law_1647 4 rfl ?_
      refine l_ref (pc := 1648) (As := []) (st := []) (st10 := [vI (sc S' 0)]) (S' := S') B cal_X12_thrown kmL_120 kn_X12_thrown ks_X12_thrown rfl hLD1 (fun l hl z => ct_X12_thrown hl (X0 := S') rfl) rfl (Nat.le_of_ble_eq_true rfl) (by decide) (by decide) hf dL_law_1648 rfl rfl ?_
      refine g_iload (pc := 1651) B dL_law_1651 1 rfl ?_
      refine g_icmp_eq (pc := 1653) (tgt := 1658) B dL_law_1653 (by decide) (fun _ => ?_) (fun c9 => absurd hthr c9)
      refine g_iload (pc := 1658) B dL_law_1658 1 rfl ?_
      refine g_if_ne (pc := 1660) (tgt := 1682) B dL_law_1660 (by decide) (fun c9 => absurd rfl c9) (fun _ => ?_)
      refine g_aload_n (pc := 1663) B dL_law_1663 5 rfl ?_
      refine g_iconst (pc := 1664) B dL_law_1664 (0 : Int32) (by decide) ?_
      refine g_lald (pc := 1665) B (LM_out0 hLD1) vin01 dL_law_1665 ?_
      rw [LM_aJ hLD1]
      refine g_iload (pc := 1666) B dL_law_1666 0 rfl ?_
      by_cases hbv : bv = 0
      · refine g_if_eq (pc := 1668) (tgt := 1675) B dL_law_1668 (by decide) (fun _ => ?_) (fun c9 => absurd hbv c9)
        refine g_lconst (pc := 1675) B dL_law_1675 (0 : Int64) (by decide) ?_
        refine g_lcmp (pc := 1676) B dL_law_1676 ?_
        have hcmp : lg_cmp w (0 : Int64) = 0 := by rw [hw, if_pos hbv]; exact cmp_self _
        refine g_if_eq (pc := 1677) (tgt := 1682) B dL_law_1677 (by decide) (fun _ => ?_) (fun c9 => absurd hcmp c9)
        refine g_goto (pc := 1682) (tgt := 2215) B dL_law_1682 (by decide) ?_
        refine g_sub (pc := 2215) [2, 3, 4, 5, 6] rfl ?_
        exact kont X1 (up0 g w) S' hrel1 hLD1
      · refine g_if_eq (pc := 1668) (tgt := 1675) B dL_law_1668 (by decide) (fun c9 => absurd c9 hbv) (fun _ => ?_)
        refine g_lconst (pc := 1671) B dL_law_1671 (1 : Int64) (by decide) ?_
        refine g_goto (pc := 1672) (tgt := 1676) B dL_law_1672 (by decide) ?_
        refine g_lcmp (pc := 1676) B dL_law_1676 ?_
        have hcmp : lg_cmp w (1 : Int64) = 0 := by rw [hw, if_neg hbv]; exact cmp_self _
        refine g_if_eq (pc := 1677) (tgt := 1682) B dL_law_1677 (by decide) (fun _ => ?_) (fun c9 => absurd hcmp c9)
        refine g_goto (pc := 1682) (tgt := 2215) B dL_law_1682 (by decide) ?_
        refine g_sub (pc := 2215) [2, 3, 4, 5, 6] rfl ?_
        exact kont X1 (up0 g w) S' hrel1 hLD1
set_option maxRecDepth 100000 in
set_option maxHeartbeats 4000000 in
theorem lc_areAlike {D : DD} {ev : EV} {Q : State → Prop} {Rel : Nat → Mem → SM → Prop} {fu b x m oa Ls : Nat} {xs : Nat → Int32} {g : Nat → Int64} {X : Mem} {S : SM} {i : Int32} {p1 : Int32} {p2 : Int32} {cs sl : Nat} (hrz : ∀ x X S z, Rel x X S → Rel x (zM X z) S) (hrk : ∀ x X S, Rel x X S → mK X x = some (11, 0)) (sem : sem_areAlike Rel fu) (B : Amb D (A0L ev) ev RL "law" cL_law 7 (some .boolean) room_1) (hnc : EvNc ev) (hs : ScrL ev b Ls xs) (hi1 : vp_in (i + (1 : Int32)) Ls) (hi2 : vp_in (i + (2 : Int32)) Ls) (hp1 : xs (i + (1 : Int32)).toNatClampNeg = p1) (hp2 : xs (i + (2 : Int32)).toNatClampNeg = p2) (hrel : Rel x X S) (hLD : LD X oa m) (hf : cs + 16 ≤ room_1.cells ∧ sl + 200 ≤ room_1.slots)
    (kont : ∀ (X' : Mem) (g' : Nat → Int64) (S' : SM), Rel x X' S' → LD X' oa m → Gd D (A0L ev) ev Q (LM X' oa g' m S') (cs + 16) (sl + 200) 2215 [(0, vA (some b)), (1, vA (some x)), (2, vA (some m)), (3, vA (some oa)), (4, vI i)] []) : Gd D (A0L ev) ev Q (LM X oa g m S) cs sl 1685 [(0, vA (some b)), (1, vA (some x)), (2, vA (some m)), (3, vA (some oa)), (4, vI i)] [] := by
  refine g_dom fun hdm => ?_
  obtain ⟨hfr, hoa, hma⟩ := LM_fresh hLD hdm
  refine g_aload_n (pc := 1685) B dL_law_1685 1 rfl ?_
  refine g_aload_n (pc := 1686) B dL_law_1686 0 rfl ?_
  refine g_iload (pc := 1687) B dL_law_1687 4 rfl ?_
  refine g_iconst (pc := 1689) B dL_law_1689 (1 : Int32) (by decide) ?_
  refine g_iadd (pc := 1690) B dL_law_1690 ?_
  refine g_sld (pc := 1691) B hs hi1 hp1 dL_law_1691 ?_
  refine g_aload_n (pc := 1692) B dL_law_1692 0 rfl ?_
  refine g_iload (pc := 1693) B dL_law_1693 4 rfl ?_
  refine g_iconst (pc := 1695) B dL_law_1695 (2 : Int32) (by decide) ?_
  refine g_iadd (pc := 1696) B dL_law_1696 ?_
  refine g_sld (pc := 1697) B hs hi2 hp2 dL_law_1697 ?_
  refine g_aload_n (pc := 1698) B dL_law_1698 3 rfl ?_
  obtain ⟨r, bv, S', e1, e2, hsem⟩ := sem x X S p1 p2  hrel hfr
  refine l_wrap (pc := 1699) (As := [vA (some x), vI p1, vI p2, vA (some oa)]) (st := []) B hnc calw_L_areAlike kmL_199 kz_L_areAlike hLD (fun l hl => cw_L_areAlike hl e1 (hrk _ _ _ hrel) hLD.1 (fun E q => by subst q; exact (semR_ex hsem).1)) rfl (Nat.le_of_ble_eq_true rfl) (by decide) (by decide) hf dL_law_1699 rfl (fun E k z hr hk => ?_) (fun w X1 hr => ?_)
  · rw [hr] at hsem
    have hx9 := semR_ex hsem
    have hthr : sc S' 0 = nI (k + 1) := hx9.2.1 k hk
    have hk3 : k < 1 := (List.getElem?_eq_some_iff.mp hk).1
    have hk0 : ¬ nI (k + 1) = 0 := nI_ne0 (by omega) (by omega)
    refine g_istore (pc := 1702) (L' := [(5, vI (nI (k + 1))), (0, vA (some b)), (1, vA (some x)), (2, vA (some m)), (3, vA (some oa)), (4, vI i)]) B dL_law_1702 (by decide) rfl ?_
    refine g_aload_n (pc := 1704) B dL_law_1704 3 rfl ?_
    refine g_aload_n (pc := 1705) B dL_law_1705 1 rfl ?_
    refine g_iload (pc := 1706) B dL_law_1706 5 rfl ?_
    refine g_iconst (pc := 1708) B dL_law_1708 (1 : Int32) (by decide) ?_
    refine g_iadd (pc := 1709) B dL_law_1709 ?_
    refine g_sld (pc := 1710) B hs hi1 hp1 dL_law_1710 ?_
    refine g_aload_n (pc := 1711) B dL_law_1711 1 rfl ?_
    refine g_iload (pc := 1712) B dL_law_1712 5 rfl ?_
    refine g_iconst (pc := 1714) B dL_law_1714 (2 : Int32) (by decide) ?_
    refine g_iadd (pc := 1715) B dL_law_1715 ?_
    refine g_sld (pc := 1716) B hs hi2 hp2 dL_law_1716 ?_
    refine l_ref (pc := 1717) (As := [vI p1, vI p2]) (st := []) (st10 := [vI bv]) (S' := S') B cal_X12_areAlike kmL_201 kn_X12_areAlike ks_X12_areAlike rfl hLD (fun l hl z => ct_X12_areAlike hl e2) rfl (Nat.le_of_ble_eq_true rfl) (by decide) (by decide) hf dL_law_1717 rfl rfl ?_
    refine g_istore (pc := 1720) (L' := [(6, vI bv), (5, vI (nI (k + 1))), (0, vA (some b)), (1, vA (some x)), (2, vA (some m)), (3, vA (some oa)), (4, vI i)]) B dL_law_1720 (by decide) rfl ?_
    refine g_aload_n (pc := 1722) B dL_law_1722 4 rfl ?_
    refine l_ref (pc := 1723) (As := []) (st := []) (st10 := [vI (sc S' 0)]) (S' := S') B cal_X12_thrown kmL_120 kn_X12_thrown ks_X12_thrown rfl hLD (fun l hl z => ct_X12_thrown hl (X0 := S') rfl) rfl (Nat.le_of_ble_eq_true rfl) (by decide) (by decide) hf dL_law_1723 rfl rfl ?_
    refine g_iload (pc := 1726) B dL_law_1726 1 rfl ?_
    refine g_icmp_eq (pc := 1728) (tgt := 1733) B dL_law_1728 (by decide) (fun _ => ?_) (fun c9 => absurd hthr c9)
    refine g_iload (pc := 1733) B dL_law_1733 1 rfl ?_
    refine g_if_ne (pc := 1735) (tgt := 1757) B dL_law_1735 (by decide) (fun _ => ?_) (fun c9 => absurd c9 hk0)
    refine g_goto (pc := 1757) (tgt := 2215) B dL_law_1757 (by decide) ?_
    refine g_sub (pc := 2215) [2, 3, 4, 5, 6] rfl ?_
    exact kont (zM X z) g S' (hrz _ _ _ _ hx9.2.2) hLD
  · rw [hr] at hsem
    obtain ⟨hthr, hw, hrel1, hkp⟩ := semR_ok hsem
    have hLD1 := hLD.keep hoa hma hkp
    refine g_istore (pc := 1702) (L' := [(5, vI 0), (0, vA (some b)), (1, vA (some x)), (2, vA (some m)), (3, vA (some oa)), (4, vI i)]) B dL_law_1702 (by decide) rfl ?_
    refine g_aload_n (pc := 1704) B dL_law_1704 3 rfl ?_
    refine g_aload_n (pc := 1705) B dL_law_1705 1 rfl ?_
    refine g_iload (pc := 1706) B dL_law_1706 5 rfl ?_
    refine g_iconst (pc := 1708) B dL_law_1708 (1 : Int32) (by decide) ?_
    refine g_iadd (pc := 1709) B dL_law_1709 ?_
    refine g_sld (pc := 1710) B hs hi1 hp1 dL_law_1710 ?_
    refine g_aload_n (pc := 1711) B dL_law_1711 1 rfl ?_
    refine g_iload (pc := 1712) B dL_law_1712 5 rfl ?_
    refine g_iconst (pc := 1714) B dL_law_1714 (2 : Int32) (by decide) ?_
    refine g_iadd (pc := 1715) B dL_law_1715 ?_
    refine g_sld (pc := 1716) B hs hi2 hp2 dL_law_1716 ?_
    refine l_ref (pc := 1717) (As := [vI p1, vI p2]) (st := []) (st10 := [vI bv]) (S' := S') B cal_X12_areAlike kmL_201 kn_X12_areAlike ks_X12_areAlike rfl hLD1 (fun l hl z => ct_X12_areAlike hl e2) rfl (Nat.le_of_ble_eq_true rfl) (by decide) (by decide) hf dL_law_1717 rfl rfl ?_
    refine g_istore (pc := 1720) (L' := [(6, vI bv), (5, vI 0), (0, vA (some b)), (1, vA (some x)), (2, vA (some m)), (3, vA (some oa)), (4, vI i)]) B dL_law_1720 (by decide) rfl ?_
    refine g_aload_n (pc := 1722) B dL_law_1722 4 rfl ?_
    refine l_ref (pc := 1723) (As := []) (st := []) (st10 := [vI (sc S' 0)]) (S' := S') B cal_X12_thrown kmL_120 kn_X12_thrown ks_X12_thrown rfl hLD1 (fun l hl z => ct_X12_thrown hl (X0 := S') rfl) rfl (Nat.le_of_ble_eq_true rfl) (by decide) (by decide) hf dL_law_1723 rfl rfl ?_
    refine g_iload (pc := 1726) B dL_law_1726 1 rfl ?_
    refine g_icmp_eq (pc := 1728) (tgt := 1733) B dL_law_1728 (by decide) (fun _ => ?_) (fun c9 => absurd hthr c9)
    refine g_iload (pc := 1733) B dL_law_1733 1 rfl ?_
    refine g_if_ne (pc := 1735) (tgt := 1757) B dL_law_1735 (by decide) (fun c9 => absurd rfl c9) (fun _ => ?_)
    refine g_aload_n (pc := 1738) B dL_law_1738 5 rfl ?_
    refine g_iconst (pc := 1739) B dL_law_1739 (0 : Int32) (by decide) ?_
    refine g_lald (pc := 1740) B (LM_out0 hLD1) vin01 dL_law_1740 ?_
    rw [LM_aJ hLD1]
    refine g_iload (pc := 1741) B dL_law_1741 0 rfl ?_
    by_cases hbv : bv = 0
    · refine g_if_eq (pc := 1743) (tgt := 1750) B dL_law_1743 (by decide) (fun _ => ?_) (fun c9 => absurd hbv c9)
      refine g_lconst (pc := 1750) B dL_law_1750 (0 : Int64) (by decide) ?_
      refine g_lcmp (pc := 1751) B dL_law_1751 ?_
      have hcmp : lg_cmp w (0 : Int64) = 0 := by rw [hw, if_pos hbv]; exact cmp_self _
      refine g_if_eq (pc := 1752) (tgt := 1757) B dL_law_1752 (by decide) (fun _ => ?_) (fun c9 => absurd hcmp c9)
      refine g_goto (pc := 1757) (tgt := 2215) B dL_law_1757 (by decide) ?_
      refine g_sub (pc := 2215) [2, 3, 4, 5, 6] rfl ?_
      exact kont X1 (up0 g w) S' hrel1 hLD1
    · refine g_if_eq (pc := 1743) (tgt := 1750) B dL_law_1743 (by decide) (fun c9 => absurd c9 hbv) (fun _ => ?_)
      refine g_lconst (pc := 1746) B dL_law_1746 (1 : Int64) (by decide) ?_
      refine g_goto (pc := 1747) (tgt := 1751) B dL_law_1747 (by decide) ?_
      refine g_lcmp (pc := 1751) B dL_law_1751 ?_
      have hcmp : lg_cmp w (1 : Int64) = 0 := by rw [hw, if_neg hbv]; exact cmp_self _
      refine g_if_eq (pc := 1752) (tgt := 1757) B dL_law_1752 (by decide) (fun _ => ?_) (fun c9 => absurd hcmp c9)
      refine g_goto (pc := 1757) (tgt := 2215) B dL_law_1757 (by decide) ?_
      refine g_sub (pc := 2215) [2, 3, 4, 5, 6] rfl ?_
      exact kont X1 (up0 g w) S' hrel1 hLD1
set_option maxRecDepth 100000 in
set_option maxHeartbeats 4000000 in
theorem lc_haveOneForm {D : DD} {ev : EV} {Q : State → Prop} {Rel : Nat → Mem → SM → Prop} {fu b x m oa Ls : Nat} {xs : Nat → Int32} {g : Nat → Int64} {X : Mem} {S : SM} {i : Int32} {p1 : Int32} {p2 : Int32} {cs sl : Nat} (hrz : ∀ x X S z, Rel x X S → Rel x (zM X z) S) (hrk : ∀ x X S, Rel x X S → mK X x = some (11, 0)) (sem : sem_haveOneForm Rel fu) (B : Amb D (A0L ev) ev RL "law" cL_law 7 (some .boolean) room_1) (hnc : EvNc ev) (hs : ScrL ev b Ls xs) (hi1 : vp_in (i + (1 : Int32)) Ls) (hi2 : vp_in (i + (2 : Int32)) Ls) (hp1 : xs (i + (1 : Int32)).toNatClampNeg = p1) (hp2 : xs (i + (2 : Int32)).toNatClampNeg = p2) (hrel : Rel x X S) (hLD : LD X oa m) (hf : cs + 16 ≤ room_1.cells ∧ sl + 200 ≤ room_1.slots)
    (kont : ∀ (X' : Mem) (g' : Nat → Int64) (S' : SM), Rel x X' S' → LD X' oa m → Gd D (A0L ev) ev Q (LM X' oa g' m S') (cs + 16) (sl + 200) 2215 [(0, vA (some b)), (1, vA (some x)), (2, vA (some m)), (3, vA (some oa)), (4, vI i)] []) : Gd D (A0L ev) ev Q (LM X oa g m S) cs sl 1760 [(0, vA (some b)), (1, vA (some x)), (2, vA (some m)), (3, vA (some oa)), (4, vI i)] [] := by
  refine g_dom fun hdm => ?_
  obtain ⟨hfr, hoa, hma⟩ := LM_fresh hLD hdm
  refine g_aload_n (pc := 1760) B dL_law_1760 1 rfl ?_
  refine g_aload_n (pc := 1761) B dL_law_1761 0 rfl ?_
  refine g_iload (pc := 1762) B dL_law_1762 4 rfl ?_
  refine g_iconst (pc := 1764) B dL_law_1764 (1 : Int32) (by decide) ?_
  refine g_iadd (pc := 1765) B dL_law_1765 ?_
  refine g_sld (pc := 1766) B hs hi1 hp1 dL_law_1766 ?_
  refine g_aload_n (pc := 1767) B dL_law_1767 0 rfl ?_
  refine g_iload (pc := 1768) B dL_law_1768 4 rfl ?_
  refine g_iconst (pc := 1770) B dL_law_1770 (2 : Int32) (by decide) ?_
  refine g_iadd (pc := 1771) B dL_law_1771 ?_
  refine g_sld (pc := 1772) B hs hi2 hp2 dL_law_1772 ?_
  refine g_aload_n (pc := 1773) B dL_law_1773 3 rfl ?_
  obtain ⟨r, bv, S', e1, e2, hsem⟩ := sem x X S p1 p2  hrel hfr
  refine l_wrap (pc := 1774) (As := [vA (some x), vI p1, vI p2, vA (some oa)]) (st := []) B hnc calw_L_haveOneForm kmL_202 kz_L_haveOneForm hLD (fun l hl => cw_L_haveOneForm hl e1 (hrk _ _ _ hrel) hLD.1 (fun E q => by subst q; exact (semR_ex hsem).1)) rfl (Nat.le_of_ble_eq_true rfl) (by decide) (by decide) hf dL_law_1774 rfl (fun E k z hr hk => ?_) (fun w X1 hr => ?_)
  · rw [hr] at hsem
    have hx9 := semR_ex hsem
    have hthr : sc S' 0 = nI (k + 1) := hx9.2.1 k hk
    have hk3 : k < 1 := (List.getElem?_eq_some_iff.mp hk).1
    have hk0 : ¬ nI (k + 1) = 0 := nI_ne0 (by omega) (by omega)
    refine g_istore (pc := 1777) (L' := [(5, vI (nI (k + 1))), (0, vA (some b)), (1, vA (some x)), (2, vA (some m)), (3, vA (some oa)), (4, vI i)]) B dL_law_1777 (by decide) rfl ?_
    refine g_aload_n (pc := 1779) B dL_law_1779 3 rfl ?_
    refine g_aload_n (pc := 1780) B dL_law_1780 1 rfl ?_
    refine g_iload (pc := 1781) B dL_law_1781 5 rfl ?_
    refine g_iconst (pc := 1783) B dL_law_1783 (1 : Int32) (by decide) ?_
    refine g_iadd (pc := 1784) B dL_law_1784 ?_
    refine g_sld (pc := 1785) B hs hi1 hp1 dL_law_1785 ?_
    refine g_aload_n (pc := 1786) B dL_law_1786 1 rfl ?_
    refine g_iload (pc := 1787) B dL_law_1787 5 rfl ?_
    refine g_iconst (pc := 1789) B dL_law_1789 (2 : Int32) (by decide) ?_
    refine g_iadd (pc := 1790) B dL_law_1790 ?_
    refine g_sld (pc := 1791) B hs hi2 hp2 dL_law_1791 ?_
    refine l_ref (pc := 1792) (As := [vI p1, vI p2]) (st := []) (st10 := [vI bv]) (S' := S') B cal_X12_haveOneForm kmL_204 kn_X12_haveOneForm ks_X12_haveOneForm rfl hLD (fun l hl z => ct_X12_haveOneForm hl e2) rfl (Nat.le_of_ble_eq_true rfl) (by decide) (by decide) hf dL_law_1792 rfl rfl ?_
    refine g_istore (pc := 1795) (L' := [(6, vI bv), (5, vI (nI (k + 1))), (0, vA (some b)), (1, vA (some x)), (2, vA (some m)), (3, vA (some oa)), (4, vI i)]) B dL_law_1795 (by decide) rfl ?_
    refine g_aload_n (pc := 1797) B dL_law_1797 4 rfl ?_
    refine l_ref (pc := 1798) (As := []) (st := []) (st10 := [vI (sc S' 0)]) (S' := S') B cal_X12_thrown kmL_120 kn_X12_thrown ks_X12_thrown rfl hLD (fun l hl z => ct_X12_thrown hl (X0 := S') rfl) rfl (Nat.le_of_ble_eq_true rfl) (by decide) (by decide) hf dL_law_1798 rfl rfl ?_
    refine g_iload (pc := 1801) B dL_law_1801 1 rfl ?_
    refine g_icmp_eq (pc := 1803) (tgt := 1808) B dL_law_1803 (by decide) (fun _ => ?_) (fun c9 => absurd hthr c9)
    refine g_iload (pc := 1808) B dL_law_1808 1 rfl ?_
    refine g_if_ne (pc := 1810) (tgt := 1832) B dL_law_1810 (by decide) (fun _ => ?_) (fun c9 => absurd c9 hk0)
    refine g_goto (pc := 1832) (tgt := 2215) B dL_law_1832 (by decide) ?_
    refine g_sub (pc := 2215) [2, 3, 4, 5, 6] rfl ?_
    exact kont (zM X z) g S' (hrz _ _ _ _ hx9.2.2) hLD
  · rw [hr] at hsem
    obtain ⟨hthr, hw, hrel1, hkp⟩ := semR_ok hsem
    have hLD1 := hLD.keep hoa hma hkp
    refine g_istore (pc := 1777) (L' := [(5, vI 0), (0, vA (some b)), (1, vA (some x)), (2, vA (some m)), (3, vA (some oa)), (4, vI i)]) B dL_law_1777 (by decide) rfl ?_
    refine g_aload_n (pc := 1779) B dL_law_1779 3 rfl ?_
    refine g_aload_n (pc := 1780) B dL_law_1780 1 rfl ?_
    refine g_iload (pc := 1781) B dL_law_1781 5 rfl ?_
    refine g_iconst (pc := 1783) B dL_law_1783 (1 : Int32) (by decide) ?_
    refine g_iadd (pc := 1784) B dL_law_1784 ?_
    refine g_sld (pc := 1785) B hs hi1 hp1 dL_law_1785 ?_
    refine g_aload_n (pc := 1786) B dL_law_1786 1 rfl ?_
    refine g_iload (pc := 1787) B dL_law_1787 5 rfl ?_
    refine g_iconst (pc := 1789) B dL_law_1789 (2 : Int32) (by decide) ?_
    refine g_iadd (pc := 1790) B dL_law_1790 ?_
    refine g_sld (pc := 1791) B hs hi2 hp2 dL_law_1791 ?_
    refine l_ref (pc := 1792) (As := [vI p1, vI p2]) (st := []) (st10 := [vI bv]) (S' := S') B cal_X12_haveOneForm kmL_204 kn_X12_haveOneForm ks_X12_haveOneForm rfl hLD1 (fun l hl z => ct_X12_haveOneForm hl e2) rfl (Nat.le_of_ble_eq_true rfl) (by decide) (by decide) hf dL_law_1792 rfl rfl ?_
    refine g_istore (pc := 1795) (L' := [(6, vI bv), (5, vI 0), (0, vA (some b)), (1, vA (some x)), (2, vA (some m)), (3, vA (some oa)), (4, vI i)]) B dL_law_1795 (by decide) rfl ?_
    refine g_aload_n (pc := 1797) B dL_law_1797 4 rfl ?_
    refine l_ref (pc := 1798) (As := []) (st := []) (st10 := [vI (sc S' 0)]) (S' := S') B cal_X12_thrown kmL_120 kn_X12_thrown ks_X12_thrown rfl hLD1 (fun l hl z => ct_X12_thrown hl (X0 := S') rfl) rfl (Nat.le_of_ble_eq_true rfl) (by decide) (by decide) hf dL_law_1798 rfl rfl ?_
    refine g_iload (pc := 1801) B dL_law_1801 1 rfl ?_
    refine g_icmp_eq (pc := 1803) (tgt := 1808) B dL_law_1803 (by decide) (fun _ => ?_) (fun c9 => absurd hthr c9)
    refine g_iload (pc := 1808) B dL_law_1808 1 rfl ?_
    refine g_if_ne (pc := 1810) (tgt := 1832) B dL_law_1810 (by decide) (fun c9 => absurd rfl c9) (fun _ => ?_)
    refine g_aload_n (pc := 1813) B dL_law_1813 5 rfl ?_
    refine g_iconst (pc := 1814) B dL_law_1814 (0 : Int32) (by decide) ?_
    refine g_lald (pc := 1815) B (LM_out0 hLD1) vin01 dL_law_1815 ?_
    rw [LM_aJ hLD1]
    refine g_iload (pc := 1816) B dL_law_1816 0 rfl ?_
    by_cases hbv : bv = 0
    · refine g_if_eq (pc := 1818) (tgt := 1825) B dL_law_1818 (by decide) (fun _ => ?_) (fun c9 => absurd hbv c9)
      refine g_lconst (pc := 1825) B dL_law_1825 (0 : Int64) (by decide) ?_
      refine g_lcmp (pc := 1826) B dL_law_1826 ?_
      have hcmp : lg_cmp w (0 : Int64) = 0 := by rw [hw, if_pos hbv]; exact cmp_self _
      refine g_if_eq (pc := 1827) (tgt := 1832) B dL_law_1827 (by decide) (fun _ => ?_) (fun c9 => absurd hcmp c9)
      refine g_goto (pc := 1832) (tgt := 2215) B dL_law_1832 (by decide) ?_
      refine g_sub (pc := 2215) [2, 3, 4, 5, 6] rfl ?_
      exact kont X1 (up0 g w) S' hrel1 hLD1
    · refine g_if_eq (pc := 1818) (tgt := 1825) B dL_law_1818 (by decide) (fun c9 => absurd c9 hbv) (fun _ => ?_)
      refine g_lconst (pc := 1821) B dL_law_1821 (1 : Int64) (by decide) ?_
      refine g_goto (pc := 1822) (tgt := 1826) B dL_law_1822 (by decide) ?_
      refine g_lcmp (pc := 1826) B dL_law_1826 ?_
      have hcmp : lg_cmp w (1 : Int64) = 0 := by rw [hw, if_neg hbv]; exact cmp_self _
      refine g_if_eq (pc := 1827) (tgt := 1832) B dL_law_1827 (by decide) (fun _ => ?_) (fun c9 => absurd hcmp c9)
      refine g_goto (pc := 1832) (tgt := 2215) B dL_law_1832 (by decide) ?_
      refine g_sub (pc := 2215) [2, 3, 4, 5, 6] rfl ?_
      exact kont X1 (up0 g w) S' hrel1 hLD1
set_option maxRecDepth 100000 in
set_option maxHeartbeats 4000000 in
theorem lc_likeness {D : DD} {ev : EV} {Q : State → Prop} {Rel : Nat → Mem → SM → Prop} {fu b x m oa Ls : Nat} {xs : Nat → Int32} {g : Nat → Int64} {X : Mem} {S : SM} {i : Int32} {p1 : Int32} {p2 : Int32} {cs sl : Nat} (hrz : ∀ x X S z, Rel x X S → Rel x (zM X z) S) (hrk : ∀ x X S, Rel x X S → mK X x = some (11, 0)) (sem : sem_likeness Rel fu) (B : Amb D (A0L ev) ev RL "law" cL_law 7 (some .boolean) room_1) (hnc : EvNc ev) (hs : ScrL ev b Ls xs) (hi1 : vp_in (i + (1 : Int32)) Ls) (hi2 : vp_in (i + (2 : Int32)) Ls) (hp1 : xs (i + (1 : Int32)).toNatClampNeg = p1) (hp2 : xs (i + (2 : Int32)).toNatClampNeg = p2) (hrel : Rel x X S) (hLD : LD X oa m) (hf : cs + 16 ≤ room_1.cells ∧ sl + 200 ≤ room_1.slots)
    (kont : ∀ (X' : Mem) (g' : Nat → Int64) (S' : SM), Rel x X' S' → LD X' oa m → Gd D (A0L ev) ev Q (LM X' oa g' m S') (cs + 16) (sl + 200) 2215 [(0, vA (some b)), (1, vA (some x)), (2, vA (some m)), (3, vA (some oa)), (4, vI i)] []) : Gd D (A0L ev) ev Q (LM X oa g m S) cs sl 1835 [(0, vA (some b)), (1, vA (some x)), (2, vA (some m)), (3, vA (some oa)), (4, vI i)] [] := by
  refine g_dom fun hdm => ?_
  obtain ⟨hfr, hoa, hma⟩ := LM_fresh hLD hdm
  refine g_aload_n (pc := 1835) B dL_law_1835 1 rfl ?_
  refine g_aload_n (pc := 1836) B dL_law_1836 0 rfl ?_
  refine g_iload (pc := 1837) B dL_law_1837 4 rfl ?_
  refine g_iconst (pc := 1839) B dL_law_1839 (1 : Int32) (by decide) ?_
  refine g_iadd (pc := 1840) B dL_law_1840 ?_
  refine g_sld (pc := 1841) B hs hi1 hp1 dL_law_1841 ?_
  refine g_aload_n (pc := 1842) B dL_law_1842 0 rfl ?_
  refine g_iload (pc := 1843) B dL_law_1843 4 rfl ?_
  refine g_iconst (pc := 1845) B dL_law_1845 (2 : Int32) (by decide) ?_
  refine g_iadd (pc := 1846) B dL_law_1846 ?_
  refine g_sld (pc := 1847) B hs hi2 hp2 dL_law_1847 ?_
  refine g_aload_n (pc := 1848) B dL_law_1848 3 rfl ?_
  obtain ⟨r, bv, S', e1, e2, hsem⟩ := sem x X S p1 p2  hrel hfr
  refine l_wrap (pc := 1849) (As := [vA (some x), vI p1, vI p2, vA (some oa)]) (st := []) B hnc calw_L_likeness kmL_205 kz_L_likeness hLD (fun l hl => cw_L_likeness hl e1 (hrk _ _ _ hrel) hLD.1 (fun v X1 q => by subst q; exact ((semR_ok hsem).2.2.2.2 oa hoa).trans hLD.1) (fun E q => by subst q; exact (semR_ex hsem).1)) rfl (Nat.le_of_ble_eq_true rfl) (by decide) (by decide) hf dL_law_1849 rfl (fun E k z hr hk => ?_) (fun w X1 hr => ?_)
  · rw [hr] at hsem
    have hx9 := semR_ex hsem
    have hthr : sc S' 0 = nI (k + 1) := hx9.2.1 k hk
    have hk3 : k < 1 := (List.getElem?_eq_some_iff.mp hk).1
    have hk0 : ¬ nI (k + 1) = 0 := nI_ne0 (by omega) (by omega)
    refine g_istore (pc := 1852) (L' := [(5, vI (nI (k + 1))), (0, vA (some b)), (1, vA (some x)), (2, vA (some m)), (3, vA (some oa)), (4, vI i)]) B dL_law_1852 (by decide) rfl ?_
    refine g_aload_n (pc := 1854) B dL_law_1854 3 rfl ?_
    refine g_aload_n (pc := 1855) B dL_law_1855 1 rfl ?_
    refine g_iload (pc := 1856) B dL_law_1856 5 rfl ?_
    refine g_iconst (pc := 1858) B dL_law_1858 (1 : Int32) (by decide) ?_
    refine g_iadd (pc := 1859) B dL_law_1859 ?_
    refine g_sld (pc := 1860) B hs hi1 hp1 dL_law_1860 ?_
    refine g_aload_n (pc := 1861) B dL_law_1861 1 rfl ?_
    refine g_iload (pc := 1862) B dL_law_1862 5 rfl ?_
    refine g_iconst (pc := 1864) B dL_law_1864 (2 : Int32) (by decide) ?_
    refine g_iadd (pc := 1865) B dL_law_1865 ?_
    refine g_sld (pc := 1866) B hs hi2 hp2 dL_law_1866 ?_
    refine l_ref (pc := 1867) (As := [vI p1, vI p2]) (st := []) (st10 := [vI bv]) (S' := S') B cal_X12_likeness kmL_207 kn_X12_likeness ks_X12_likeness rfl hLD (fun l hl z => ct_X12_likeness hl e2) rfl (Nat.le_of_ble_eq_true rfl) (by decide) (by decide) hf dL_law_1867 rfl rfl ?_
    refine g_istore (pc := 1870) (L' := [(6, vI bv), (5, vI (nI (k + 1))), (0, vA (some b)), (1, vA (some x)), (2, vA (some m)), (3, vA (some oa)), (4, vI i)]) B dL_law_1870 (by decide) rfl ?_
    refine g_aload_n (pc := 1872) B dL_law_1872 4 rfl ?_
    refine l_ref (pc := 1873) (As := []) (st := []) (st10 := [vI (sc S' 0)]) (S' := S') B cal_X12_thrown kmL_120 kn_X12_thrown ks_X12_thrown rfl hLD (fun l hl z => ct_X12_thrown hl (X0 := S') rfl) rfl (Nat.le_of_ble_eq_true rfl) (by decide) (by decide) hf dL_law_1873 rfl rfl ?_
    refine g_iload (pc := 1876) B dL_law_1876 1 rfl ?_
    refine g_icmp_eq (pc := 1878) (tgt := 1883) B dL_law_1878 (by decide) (fun _ => ?_) (fun c9 => absurd hthr c9)
    refine g_iload (pc := 1883) B dL_law_1883 1 rfl ?_
    refine g_if_ne (pc := 1885) (tgt := 1900) B dL_law_1885 (by decide) (fun _ => ?_) (fun c9 => absurd c9 hk0)
    refine g_goto (pc := 1900) (tgt := 2215) B dL_law_1900 (by decide) ?_
    refine g_sub (pc := 2215) [2, 3, 4, 5, 6] rfl ?_
    exact kont (zM X z) g S' (hrz _ _ _ _ hx9.2.2) hLD
  · rw [hr] at hsem
    obtain ⟨hthr, hw, hrel1, hkp⟩ := semR_ok hsem
    have hLD1 := hLD.keep hoa hma hkp
    refine g_istore (pc := 1852) (L' := [(5, vI 0), (0, vA (some b)), (1, vA (some x)), (2, vA (some m)), (3, vA (some oa)), (4, vI i)]) B dL_law_1852 (by decide) rfl ?_
    refine g_aload_n (pc := 1854) B dL_law_1854 3 rfl ?_
    refine g_aload_n (pc := 1855) B dL_law_1855 1 rfl ?_
    refine g_iload (pc := 1856) B dL_law_1856 5 rfl ?_
    refine g_iconst (pc := 1858) B dL_law_1858 (1 : Int32) (by decide) ?_
    refine g_iadd (pc := 1859) B dL_law_1859 ?_
    refine g_sld (pc := 1860) B hs hi1 hp1 dL_law_1860 ?_
    refine g_aload_n (pc := 1861) B dL_law_1861 1 rfl ?_
    refine g_iload (pc := 1862) B dL_law_1862 5 rfl ?_
    refine g_iconst (pc := 1864) B dL_law_1864 (2 : Int32) (by decide) ?_
    refine g_iadd (pc := 1865) B dL_law_1865 ?_
    refine g_sld (pc := 1866) B hs hi2 hp2 dL_law_1866 ?_
    refine l_ref (pc := 1867) (As := [vI p1, vI p2]) (st := []) (st10 := [vI bv]) (S' := S') B cal_X12_likeness kmL_207 kn_X12_likeness ks_X12_likeness rfl hLD1 (fun l hl z => ct_X12_likeness hl e2) rfl (Nat.le_of_ble_eq_true rfl) (by decide) (by decide) hf dL_law_1867 rfl rfl ?_
    refine g_istore (pc := 1870) (L' := [(6, vI bv), (5, vI 0), (0, vA (some b)), (1, vA (some x)), (2, vA (some m)), (3, vA (some oa)), (4, vI i)]) B dL_law_1870 (by decide) rfl ?_
    refine g_aload_n (pc := 1872) B dL_law_1872 4 rfl ?_
    refine l_ref (pc := 1873) (As := []) (st := []) (st10 := [vI (sc S' 0)]) (S' := S') B cal_X12_thrown kmL_120 kn_X12_thrown ks_X12_thrown rfl hLD1 (fun l hl z => ct_X12_thrown hl (X0 := S') rfl) rfl (Nat.le_of_ble_eq_true rfl) (by decide) (by decide) hf dL_law_1873 rfl rfl ?_
    refine g_iload (pc := 1876) B dL_law_1876 1 rfl ?_
    refine g_icmp_eq (pc := 1878) (tgt := 1883) B dL_law_1878 (by decide) (fun _ => ?_) (fun c9 => absurd hthr c9)
    refine g_iload (pc := 1883) B dL_law_1883 1 rfl ?_
    refine g_if_ne (pc := 1885) (tgt := 1900) B dL_law_1885 (by decide) (fun c9 => absurd rfl c9) (fun _ => ?_)
    refine g_aload_n (pc := 1888) B dL_law_1888 5 rfl ?_
    refine g_iconst (pc := 1889) B dL_law_1889 (0 : Int32) (by decide) ?_
    refine g_lald (pc := 1890) B (LM_out0 hLD1) vin01 dL_law_1890 ?_
    rw [LM_aJ hLD1]
    refine g_iload (pc := 1891) B dL_law_1891 0 rfl ?_
    refine g_i2l (pc := 1893) B dL_law_1893 ?_
    refine g_lcmp (pc := 1894) B dL_law_1894 ?_
    have hcmp : lg_cmp w bv.toInt64 = 0 := by rw [hw]; exact cmp_self _
    refine g_if_eq (pc := 1895) (tgt := 1900) B dL_law_1895 (by decide) (fun _ => ?_) (fun c9 => absurd hcmp c9)
    refine g_goto (pc := 1900) (tgt := 2215) B dL_law_1900 (by decide) ?_
    refine g_sub (pc := 2215) [2, 3, 4, 5, 6] rfl ?_
    exact kont X1 (up0 g w) S' hrel1 hLD1
set_option maxRecDepth 100000 in
set_option maxHeartbeats 4000000 in
theorem lc_works {D : DD} {ev : EV} {Q : State → Prop} {Rel : Nat → Mem → SM → Prop} {fu b x m oa Ls : Nat} {xs : Nat → Int32} {g : Nat → Int64} {X : Mem} {S : SM} {i : Int32} {cs sl : Nat} (hrz : ∀ x X S z, Rel x X S → Rel x (zM X z) S) (hrk : ∀ x X S, Rel x X S → mK X x = some (11, 0)) (sem : sem_works Rel fu) (B : Amb D (A0L ev) ev RL "law" cL_law 7 (some .boolean) room_1) (hnc : EvNc ev) (hs : ScrL ev b Ls xs) (hrel : Rel x X S) (hLD : LD X oa m) (hf : cs ≤ room_1.cells ∧ sl ≤ room_1.slots)
    (kont : ∀ (X' : Mem) (g' : Nat → Int64) (S' : SM), Rel x X' S' → LD X' oa m → Gd D (A0L ev) ev Q (LM X' oa g' m S') cs sl 2215 [(0, vA (some b)), (1, vA (some x)), (2, vA (some m)), (3, vA (some oa)), (4, vI i)] []) : Gd D (A0L ev) ev Q (LM X oa g m S) cs sl 1903 [(0, vA (some b)), (1, vA (some x)), (2, vA (some m)), (3, vA (some oa)), (4, vI i)] [] := by
  refine g_dom fun hdm => ?_
  obtain ⟨hfr, hoa, hma⟩ := LM_fresh hLD hdm
  refine g_aload_n (pc := 1903) B dL_law_1903 1 rfl ?_
  obtain ⟨bv, S', e1, e2, hrel1⟩ := sem x X S hrel hfr
  refine l_cls (pc := 1904) (As := []) (st := []) (st10 := [vI bv]) (X1 := X) B cal_X11_works kmL_208 kn_X11_works ks_X11_works rfl hLD (hrk _ _ _ hrel) (fun l hl => ct_X11_works hl e1) rfl (Nat.le_of_ble_eq_true rfl) (by decide) (by decide) hf dL_law_1904 rfl rfl ?_
  refine g_aload_n (pc := 1907) B dL_law_1907 2 rfl ?_
  refine l_ref (pc := 1908) (As := []) (st := [vI bv]) (st10 := [vI bv, vI bv]) (S' := S') B cal_X12_works kmL_211 kn_X12_works ks_X12_works rfl hLD (fun l hl z => ct_X12_works hl e2) rfl (Nat.le_of_ble_eq_true rfl) (by decide) (by decide) hf dL_law_1908 rfl rfl ?_
  refine g_icmp_eq (pc := 1911) (tgt := 2215) B dL_law_1911 (by decide) (fun _ => ?_) (fun c9 => absurd rfl c9)
  refine g_sub (pc := 2215) [0, 1, 2, 3, 4] rfl ?_
  exact kont X g S' hrel1 hLD
set_option maxRecDepth 100000 in
set_option maxHeartbeats 4000000 in
theorem lc_meets {D : DD} {ev : EV} {Q : State → Prop} {Rel : Nat → Mem → SM → Prop} {fu b x m oa Ls : Nat} {xs : Nat → Int32} {g : Nat → Int64} {X : Mem} {S : SM} {i : Int32} {p1 : Int32} {cs sl : Nat} (hrz : ∀ x X S z, Rel x X S → Rel x (zM X z) S) (hrk : ∀ x X S, Rel x X S → mK X x = some (11, 0)) (sem : sem_meets Rel fu) (B : Amb D (A0L ev) ev RL "law" cL_law 7 (some .boolean) room_1) (hnc : EvNc ev) (hs : ScrL ev b Ls xs) (hi1 : vp_in (i + (1 : Int32)) Ls) (hp1 : xs (i + (1 : Int32)).toNatClampNeg = p1) (hrel : Rel x X S) (hLD : LD X oa m) (hf : cs + 16 ≤ room_1.cells ∧ sl + 200 ≤ room_1.slots)
    (kont : ∀ (X' : Mem) (g' : Nat → Int64) (S' : SM), Rel x X' S' → LD X' oa m → Gd D (A0L ev) ev Q (LM X' oa g' m S') (cs + 16) (sl + 200) 2215 [(0, vA (some b)), (1, vA (some x)), (2, vA (some m)), (3, vA (some oa)), (4, vI i)] []) : Gd D (A0L ev) ev Q (LM X oa g m S) cs sl 1916 [(0, vA (some b)), (1, vA (some x)), (2, vA (some m)), (3, vA (some oa)), (4, vI i)] [] := by
  refine g_dom fun hdm => ?_
  obtain ⟨hfr, hoa, hma⟩ := LM_fresh hLD hdm
  refine g_aload_n (pc := 1916) B dL_law_1916 1 rfl ?_
  refine g_aload_n (pc := 1917) B dL_law_1917 0 rfl ?_
  refine g_iload (pc := 1918) B dL_law_1918 4 rfl ?_
  refine g_iconst (pc := 1920) B dL_law_1920 (1 : Int32) (by decide) ?_
  refine g_iadd (pc := 1921) B dL_law_1921 ?_
  refine g_sld (pc := 1922) B hs hi1 hp1 dL_law_1922 ?_
  refine g_aload_n (pc := 1923) B dL_law_1923 3 rfl ?_
  obtain ⟨r, bv, S', e1, e2, hsem⟩ := sem x X S p1  hrel hfr
  refine l_wrap (pc := 1924) (As := [vA (some x), vI p1, vA (some oa)]) (st := []) B hnc calw_L_meets kmL_212 kz_L_meets hLD (fun l hl => cw_L_meets hl e1 (hrk _ _ _ hrel) hLD.1 (fun E q => by subst q; exact (semR_ex hsem).1)) rfl (Nat.le_of_ble_eq_true rfl) (by decide) (by decide) hf dL_law_1924 rfl (fun E k z hr hk => ?_) (fun w X1 hr => ?_)
  · rw [hr] at hsem
    have hx9 := semR_ex hsem
    have hthr : sc S' 0 = nI (k + 1) := hx9.2.1 k hk
    have hk3 : k < 1 := (List.getElem?_eq_some_iff.mp hk).1
    have hk0 : ¬ nI (k + 1) = 0 := nI_ne0 (by omega) (by omega)
    refine g_istore (pc := 1927) (L' := [(5, vI (nI (k + 1))), (0, vA (some b)), (1, vA (some x)), (2, vA (some m)), (3, vA (some oa)), (4, vI i)]) B dL_law_1927 (by decide) rfl ?_
    refine g_aload_n (pc := 1929) B dL_law_1929 3 rfl ?_
    refine g_aload_n (pc := 1930) B dL_law_1930 1 rfl ?_
    refine g_iload (pc := 1931) B dL_law_1931 5 rfl ?_
    refine g_iconst (pc := 1933) B dL_law_1933 (1 : Int32) (by decide) ?_
    refine g_iadd (pc := 1934) B dL_law_1934 ?_
    refine g_sld (pc := 1935) B hs hi1 hp1 dL_law_1935 ?_
    refine l_ref (pc := 1936) (As := [vI p1]) (st := []) (st10 := [vI bv]) (S' := S') B cal_X12_meets kmL_214 kn_X12_meets ks_X12_meets rfl hLD (fun l hl z => ct_X12_meets hl e2) rfl (Nat.le_of_ble_eq_true rfl) (by decide) (by decide) hf dL_law_1936 rfl rfl ?_
    refine g_istore (pc := 1939) (L' := [(6, vI bv), (5, vI (nI (k + 1))), (0, vA (some b)), (1, vA (some x)), (2, vA (some m)), (3, vA (some oa)), (4, vI i)]) B dL_law_1939 (by decide) rfl ?_
    refine g_aload_n (pc := 1941) B dL_law_1941 4 rfl ?_
    refine l_ref (pc := 1942) (As := []) (st := []) (st10 := [vI (sc S' 0)]) (S' := S') B cal_X12_thrown kmL_120 kn_X12_thrown ks_X12_thrown rfl hLD (fun l hl z => ct_X12_thrown hl (X0 := S') rfl) rfl (Nat.le_of_ble_eq_true rfl) (by decide) (by decide) hf dL_law_1942 rfl rfl ?_
    refine g_iload (pc := 1945) B dL_law_1945 1 rfl ?_
    refine g_icmp_eq (pc := 1947) (tgt := 1952) B dL_law_1947 (by decide) (fun _ => ?_) (fun c9 => absurd hthr c9)
    refine g_iload (pc := 1952) B dL_law_1952 1 rfl ?_
    refine g_if_ne (pc := 1954) (tgt := 1976) B dL_law_1954 (by decide) (fun _ => ?_) (fun c9 => absurd c9 hk0)
    refine g_goto (pc := 1976) (tgt := 2215) B dL_law_1976 (by decide) ?_
    refine g_sub (pc := 2215) [2, 3, 4, 5, 6] rfl ?_
    exact kont (zM X z) g S' (hrz _ _ _ _ hx9.2.2) hLD
  · rw [hr] at hsem
    obtain ⟨hthr, hw, hrel1, hkp⟩ := semR_ok hsem
    have hLD1 := hLD.keep hoa hma hkp
    refine g_istore (pc := 1927) (L' := [(5, vI 0), (0, vA (some b)), (1, vA (some x)), (2, vA (some m)), (3, vA (some oa)), (4, vI i)]) B dL_law_1927 (by decide) rfl ?_
    refine g_aload_n (pc := 1929) B dL_law_1929 3 rfl ?_
    refine g_aload_n (pc := 1930) B dL_law_1930 1 rfl ?_
    refine g_iload (pc := 1931) B dL_law_1931 5 rfl ?_
    refine g_iconst (pc := 1933) B dL_law_1933 (1 : Int32) (by decide) ?_
    refine g_iadd (pc := 1934) B dL_law_1934 ?_
    refine g_sld (pc := 1935) B hs hi1 hp1 dL_law_1935 ?_
    refine l_ref (pc := 1936) (As := [vI p1]) (st := []) (st10 := [vI bv]) (S' := S') B cal_X12_meets kmL_214 kn_X12_meets ks_X12_meets rfl hLD1 (fun l hl z => ct_X12_meets hl e2) rfl (Nat.le_of_ble_eq_true rfl) (by decide) (by decide) hf dL_law_1936 rfl rfl ?_
    refine g_istore (pc := 1939) (L' := [(6, vI bv), (5, vI 0), (0, vA (some b)), (1, vA (some x)), (2, vA (some m)), (3, vA (some oa)), (4, vI i)]) B dL_law_1939 (by decide) rfl ?_
    refine g_aload_n (pc := 1941) B dL_law_1941 4 rfl ?_
    refine l_ref (pc := 1942) (As := []) (st := []) (st10 := [vI (sc S' 0)]) (S' := S') B cal_X12_thrown kmL_120 kn_X12_thrown ks_X12_thrown rfl hLD1 (fun l hl z => ct_X12_thrown hl (X0 := S') rfl) rfl (Nat.le_of_ble_eq_true rfl) (by decide) (by decide) hf dL_law_1942 rfl rfl ?_
    refine g_iload (pc := 1945) B dL_law_1945 1 rfl ?_
    refine g_icmp_eq (pc := 1947) (tgt := 1952) B dL_law_1947 (by decide) (fun _ => ?_) (fun c9 => absurd hthr c9)
    refine g_iload (pc := 1952) B dL_law_1952 1 rfl ?_
    refine g_if_ne (pc := 1954) (tgt := 1976) B dL_law_1954 (by decide) (fun c9 => absurd rfl c9) (fun _ => ?_)
    refine g_aload_n (pc := 1957) B dL_law_1957 5 rfl ?_
    refine g_iconst (pc := 1958) B dL_law_1958 (0 : Int32) (by decide) ?_
    refine g_lald (pc := 1959) B (LM_out0 hLD1) vin01 dL_law_1959 ?_
    rw [LM_aJ hLD1]
    refine g_iload (pc := 1960) B dL_law_1960 0 rfl ?_
    by_cases hbv : bv = 0
    · refine g_if_eq (pc := 1962) (tgt := 1969) B dL_law_1962 (by decide) (fun _ => ?_) (fun c9 => absurd hbv c9)
      refine g_lconst (pc := 1969) B dL_law_1969 (0 : Int64) (by decide) ?_
      refine g_lcmp (pc := 1970) B dL_law_1970 ?_
      have hcmp : lg_cmp w (0 : Int64) = 0 := by rw [hw, if_pos hbv]; exact cmp_self _
      refine g_if_eq (pc := 1971) (tgt := 1976) B dL_law_1971 (by decide) (fun _ => ?_) (fun c9 => absurd hcmp c9)
      refine g_goto (pc := 1976) (tgt := 2215) B dL_law_1976 (by decide) ?_
      refine g_sub (pc := 2215) [2, 3, 4, 5, 6] rfl ?_
      exact kont X1 (up0 g w) S' hrel1 hLD1
    · refine g_if_eq (pc := 1962) (tgt := 1969) B dL_law_1962 (by decide) (fun c9 => absurd c9 hbv) (fun _ => ?_)
      refine g_lconst (pc := 1965) B dL_law_1965 (1 : Int64) (by decide) ?_
      refine g_goto (pc := 1966) (tgt := 1970) B dL_law_1966 (by decide) ?_
      refine g_lcmp (pc := 1970) B dL_law_1970 ?_
      have hcmp : lg_cmp w (1 : Int64) = 0 := by rw [hw, if_neg hbv]; exact cmp_self _
      refine g_if_eq (pc := 1971) (tgt := 1976) B dL_law_1971 (by decide) (fun _ => ?_) (fun c9 => absurd hcmp c9)
      refine g_goto (pc := 1976) (tgt := 2215) B dL_law_1976 (by decide) ?_
      refine g_sub (pc := 2215) [2, 3, 4, 5, 6] rfl ?_
      exact kont X1 (up0 g w) S' hrel1 hLD1
set_option maxRecDepth 100000 in
set_option maxHeartbeats 4000000 in
theorem lc_copyOf {D : DD} {ev : EV} {Q : State → Prop} {Rel : Nat → Mem → SM → Prop} {fu b x m oa Ls : Nat} {xs : Nat → Int32} {g : Nat → Int64} {X : Mem} {S : SM} {i : Int32} {p1 : Int32} {cs sl : Nat} (hrz : ∀ x X S z, Rel x X S → Rel x (zM X z) S) (hrk : ∀ x X S, Rel x X S → mK X x = some (11, 0)) (sem : sem_copyOf Rel fu) (B : Amb D (A0L ev) ev RL "law" cL_law 7 (some .boolean) room_1) (hnc : EvNc ev) (hs : ScrL ev b Ls xs) (hi1 : vp_in (i + (1 : Int32)) Ls) (hp1 : xs (i + (1 : Int32)).toNatClampNeg = p1) (hrel : Rel x X S) (hLD : LD X oa m) (hf : cs + 16 ≤ room_1.cells ∧ sl + 200 ≤ room_1.slots)
    (kont : ∀ (X' : Mem) (g' : Nat → Int64) (S' : SM), Rel x X' S' → LD X' oa m → Gd D (A0L ev) ev Q (LM X' oa g' m S') (cs + 16) (sl + 200) 2215 [(0, vA (some b)), (1, vA (some x)), (2, vA (some m)), (3, vA (some oa)), (4, vI i)] []) : Gd D (A0L ev) ev Q (LM X oa g m S) cs sl 1979 [(0, vA (some b)), (1, vA (some x)), (2, vA (some m)), (3, vA (some oa)), (4, vI i)] [] := by
  refine g_dom fun hdm => ?_
  obtain ⟨hfr, hoa, hma⟩ := LM_fresh hLD hdm
  refine g_aload_n (pc := 1979) B dL_law_1979 1 rfl ?_
  refine g_aload_n (pc := 1980) B dL_law_1980 0 rfl ?_
  refine g_iload (pc := 1981) B dL_law_1981 4 rfl ?_
  refine g_iconst (pc := 1983) B dL_law_1983 (1 : Int32) (by decide) ?_
  refine g_iadd (pc := 1984) B dL_law_1984 ?_
  refine g_sld (pc := 1985) B hs hi1 hp1 dL_law_1985 ?_
  refine g_aload_n (pc := 1986) B dL_law_1986 3 rfl ?_
  obtain ⟨r, bv, S', e1, e2, hsem⟩ := sem x X S p1  hrel hfr
  refine l_wrap (pc := 1987) (As := [vA (some x), vI p1, vA (some oa)]) (st := []) B hnc calw_L_copyOf kmL_215 kz_L_copyOf hLD (fun l hl => cw_L_copyOf hl e1 (hrk _ _ _ hrel) hLD.1 (fun E q => by subst q; exact (semR_ex hsem).1)) rfl (Nat.le_of_ble_eq_true rfl) (by decide) (by decide) hf dL_law_1987 rfl (fun E k z hr hk => ?_) (fun w X1 hr => ?_)
  · rw [hr] at hsem
    have hx9 := semR_ex hsem
    have hthr : sc S' 0 = nI (k + 1) := hx9.2.1 k hk
    have hk3 : k < 1 := (List.getElem?_eq_some_iff.mp hk).1
    have hk0 : ¬ nI (k + 1) = 0 := nI_ne0 (by omega) (by omega)
    refine g_istore (pc := 1990) (L' := [(5, vI (nI (k + 1))), (0, vA (some b)), (1, vA (some x)), (2, vA (some m)), (3, vA (some oa)), (4, vI i)]) B dL_law_1990 (by decide) rfl ?_
    refine g_aload_n (pc := 1992) B dL_law_1992 3 rfl ?_
    refine g_aload_n (pc := 1993) B dL_law_1993 1 rfl ?_
    refine g_iload (pc := 1994) B dL_law_1994 5 rfl ?_
    refine g_iconst (pc := 1996) B dL_law_1996 (1 : Int32) (by decide) ?_
    refine g_iadd (pc := 1997) B dL_law_1997 ?_
    refine g_sld (pc := 1998) B hs hi1 hp1 dL_law_1998 ?_
    refine l_ref (pc := 1999) (As := [vI p1]) (st := []) (st10 := [vI bv]) (S' := S') B cal_X12_copyOf kmL_217 kn_X12_copyOf ks_X12_copyOf rfl hLD (fun l hl z => ct_X12_copyOf hl e2) rfl (Nat.le_of_ble_eq_true rfl) (by decide) (by decide) hf dL_law_1999 rfl rfl ?_
    refine g_istore (pc := 2002) (L' := [(6, vI bv), (5, vI (nI (k + 1))), (0, vA (some b)), (1, vA (some x)), (2, vA (some m)), (3, vA (some oa)), (4, vI i)]) B dL_law_2002 (by decide) rfl ?_
    refine g_aload_n (pc := 2004) B dL_law_2004 4 rfl ?_
    refine l_ref (pc := 2005) (As := []) (st := []) (st10 := [vI (sc S' 0)]) (S' := S') B cal_X12_thrown kmL_120 kn_X12_thrown ks_X12_thrown rfl hLD (fun l hl z => ct_X12_thrown hl (X0 := S') rfl) rfl (Nat.le_of_ble_eq_true rfl) (by decide) (by decide) hf dL_law_2005 rfl rfl ?_
    refine g_iload (pc := 2008) B dL_law_2008 1 rfl ?_
    refine g_icmp_eq (pc := 2010) (tgt := 2015) B dL_law_2010 (by decide) (fun _ => ?_) (fun c9 => absurd hthr c9)
    refine g_iload (pc := 2015) B dL_law_2015 1 rfl ?_
    refine g_if_ne (pc := 2017) (tgt := 2032) B dL_law_2017 (by decide) (fun _ => ?_) (fun c9 => absurd c9 hk0)
    refine g_goto (pc := 2032) (tgt := 2215) B dL_law_2032 (by decide) ?_
    refine g_sub (pc := 2215) [2, 3, 4, 5, 6] rfl ?_
    exact kont (zM X z) g S' (hrz _ _ _ _ hx9.2.2) hLD
  · rw [hr] at hsem
    obtain ⟨hthr, hw, hrel1, hkp⟩ := semR_ok hsem
    have hLD1 := hLD.keep hoa hma hkp
    refine g_istore (pc := 1990) (L' := [(5, vI 0), (0, vA (some b)), (1, vA (some x)), (2, vA (some m)), (3, vA (some oa)), (4, vI i)]) B dL_law_1990 (by decide) rfl ?_
    refine g_aload_n (pc := 1992) B dL_law_1992 3 rfl ?_
    refine g_aload_n (pc := 1993) B dL_law_1993 1 rfl ?_
    refine g_iload (pc := 1994) B dL_law_1994 5 rfl ?_
    refine g_iconst (pc := 1996) B dL_law_1996 (1 : Int32) (by decide) ?_
    refine g_iadd (pc := 1997) B dL_law_1997 ?_
    refine g_sld (pc := 1998) B hs hi1 hp1 dL_law_1998 ?_
    refine l_ref (pc := 1999) (As := [vI p1]) (st := []) (st10 := [vI bv]) (S' := S') B cal_X12_copyOf kmL_217 kn_X12_copyOf ks_X12_copyOf rfl hLD1 (fun l hl z => ct_X12_copyOf hl e2) rfl (Nat.le_of_ble_eq_true rfl) (by decide) (by decide) hf dL_law_1999 rfl rfl ?_
    refine g_istore (pc := 2002) (L' := [(6, vI bv), (5, vI 0), (0, vA (some b)), (1, vA (some x)), (2, vA (some m)), (3, vA (some oa)), (4, vI i)]) B dL_law_2002 (by decide) rfl ?_
    refine g_aload_n (pc := 2004) B dL_law_2004 4 rfl ?_
    refine l_ref (pc := 2005) (As := []) (st := []) (st10 := [vI (sc S' 0)]) (S' := S') B cal_X12_thrown kmL_120 kn_X12_thrown ks_X12_thrown rfl hLD1 (fun l hl z => ct_X12_thrown hl (X0 := S') rfl) rfl (Nat.le_of_ble_eq_true rfl) (by decide) (by decide) hf dL_law_2005 rfl rfl ?_
    refine g_iload (pc := 2008) B dL_law_2008 1 rfl ?_
    refine g_icmp_eq (pc := 2010) (tgt := 2015) B dL_law_2010 (by decide) (fun _ => ?_) (fun c9 => absurd hthr c9)
    refine g_iload (pc := 2015) B dL_law_2015 1 rfl ?_
    refine g_if_ne (pc := 2017) (tgt := 2032) B dL_law_2017 (by decide) (fun c9 => absurd rfl c9) (fun _ => ?_)
    refine g_aload_n (pc := 2020) B dL_law_2020 5 rfl ?_
    refine g_iconst (pc := 2021) B dL_law_2021 (0 : Int32) (by decide) ?_
    refine g_lald (pc := 2022) B (LM_out0 hLD1) vin01 dL_law_2022 ?_
    rw [LM_aJ hLD1]
    refine g_iload (pc := 2023) B dL_law_2023 0 rfl ?_
    refine g_i2l (pc := 2025) B dL_law_2025 ?_
    refine g_lcmp (pc := 2026) B dL_law_2026 ?_
    have hcmp : lg_cmp w bv.toInt64 = 0 := by rw [hw]; exact cmp_self _
    refine g_if_eq (pc := 2027) (tgt := 2032) B dL_law_2027 (by decide) (fun _ => ?_) (fun c9 => absurd hcmp c9)
    refine g_goto (pc := 2032) (tgt := 2215) B dL_law_2032 (by decide) ?_
    refine g_sub (pc := 2215) [2, 3, 4, 5, 6] rfl ?_
    exact kont X1 (up0 g w) S' hrel1 hLD1
set_option maxRecDepth 100000 in
set_option maxHeartbeats 4000000 in
theorem lc_hangs {D : DD} {ev : EV} {Q : State → Prop} {Rel : Nat → Mem → SM → Prop} {fu b x m oa Ls : Nat} {xs : Nat → Int32} {g : Nat → Int64} {X : Mem} {S : SM} {i : Int32} {p1 : Int32} {cs sl : Nat} (hrz : ∀ x X S z, Rel x X S → Rel x (zM X z) S) (hrk : ∀ x X S, Rel x X S → mK X x = some (11, 0)) (sem : sem_hangs Rel fu) (B : Amb D (A0L ev) ev RL "law" cL_law 7 (some .boolean) room_1) (hnc : EvNc ev) (hs : ScrL ev b Ls xs) (hi1 : vp_in (i + (1 : Int32)) Ls) (hp1 : xs (i + (1 : Int32)).toNatClampNeg = p1) (hrel : Rel x X S) (hLD : LD X oa m) (hf : cs + 16 ≤ room_1.cells ∧ sl + 200 ≤ room_1.slots)
    (kont : ∀ (X' : Mem) (g' : Nat → Int64) (S' : SM), Rel x X' S' → LD X' oa m → Gd D (A0L ev) ev Q (LM X' oa g' m S') (cs + 16) (sl + 200) 2215 [(0, vA (some b)), (1, vA (some x)), (2, vA (some m)), (3, vA (some oa)), (4, vI i)] []) : Gd D (A0L ev) ev Q (LM X oa g m S) cs sl 2035 [(0, vA (some b)), (1, vA (some x)), (2, vA (some m)), (3, vA (some oa)), (4, vI i)] [] := by
  refine g_dom fun hdm => ?_
  obtain ⟨hfr, hoa, hma⟩ := LM_fresh hLD hdm
  refine g_aload_n (pc := 2035) B dL_law_2035 1 rfl ?_
  refine g_aload_n (pc := 2036) B dL_law_2036 0 rfl ?_
  refine g_iload (pc := 2037) B dL_law_2037 4 rfl ?_
  refine g_iconst (pc := 2039) B dL_law_2039 (1 : Int32) (by decide) ?_
  refine g_iadd (pc := 2040) B dL_law_2040 ?_
  refine g_sld (pc := 2041) B hs hi1 hp1 dL_law_2041 ?_
  refine g_aload_n (pc := 2042) B dL_law_2042 3 rfl ?_
  obtain ⟨r, bv, S', e1, e2, hsem⟩ := sem x X S p1  hrel hfr
  refine l_wrap (pc := 2043) (As := [vA (some x), vI p1, vA (some oa)]) (st := []) B hnc calw_L_hangs kmL_218 kz_L_hangs hLD (fun l hl => cw_L_hangs hl e1 (hrk _ _ _ hrel) hLD.1 (fun E q => by subst q; exact (semR_ex hsem).1)) rfl (Nat.le_of_ble_eq_true rfl) (by decide) (by decide) hf dL_law_2043 rfl (fun E k z hr hk => ?_) (fun w X1 hr => ?_)
  · rw [hr] at hsem
    have hx9 := semR_ex hsem
    have hthr : sc S' 0 = nI (k + 1) := hx9.2.1 k hk
    have hk3 : k < 1 := (List.getElem?_eq_some_iff.mp hk).1
    have hk0 : ¬ nI (k + 1) = 0 := nI_ne0 (by omega) (by omega)
    refine g_istore (pc := 2046) (L' := [(5, vI (nI (k + 1))), (0, vA (some b)), (1, vA (some x)), (2, vA (some m)), (3, vA (some oa)), (4, vI i)]) B dL_law_2046 (by decide) rfl ?_
    refine g_aload_n (pc := 2048) B dL_law_2048 3 rfl ?_
    refine g_aload_n (pc := 2049) B dL_law_2049 1 rfl ?_
    refine g_iload (pc := 2050) B dL_law_2050 5 rfl ?_
    refine g_iconst (pc := 2052) B dL_law_2052 (1 : Int32) (by decide) ?_
    refine g_iadd (pc := 2053) B dL_law_2053 ?_
    refine g_sld (pc := 2054) B hs hi1 hp1 dL_law_2054 ?_
    refine l_ref (pc := 2055) (As := [vI p1]) (st := []) (st10 := [vI bv]) (S' := S') B cal_X12_hangs kmL_220 kn_X12_hangs ks_X12_hangs rfl hLD (fun l hl z => ct_X12_hangs hl e2) rfl (Nat.le_of_ble_eq_true rfl) (by decide) (by decide) hf dL_law_2055 rfl rfl ?_
    refine g_istore (pc := 2058) (L' := [(6, vI bv), (5, vI (nI (k + 1))), (0, vA (some b)), (1, vA (some x)), (2, vA (some m)), (3, vA (some oa)), (4, vI i)]) B dL_law_2058 (by decide) rfl ?_
    refine g_aload_n (pc := 2060) B dL_law_2060 4 rfl ?_
    refine l_ref (pc := 2061) (As := []) (st := []) (st10 := [vI (sc S' 0)]) (S' := S') B cal_X12_thrown kmL_120 kn_X12_thrown ks_X12_thrown rfl hLD (fun l hl z => ct_X12_thrown hl (X0 := S') rfl) rfl (Nat.le_of_ble_eq_true rfl) (by decide) (by decide) hf dL_law_2061 rfl rfl ?_
    refine g_iload (pc := 2064) B dL_law_2064 1 rfl ?_
    refine g_icmp_eq (pc := 2066) (tgt := 2071) B dL_law_2066 (by decide) (fun _ => ?_) (fun c9 => absurd hthr c9)
    refine g_iload (pc := 2071) B dL_law_2071 1 rfl ?_
    refine g_if_ne (pc := 2073) (tgt := 2088) B dL_law_2073 (by decide) (fun _ => ?_) (fun c9 => absurd c9 hk0)
    refine g_goto (pc := 2088) (tgt := 2215) B dL_law_2088 (by decide) ?_
    refine g_sub (pc := 2215) [2, 3, 4, 5, 6] rfl ?_
    exact kont (zM X z) g S' (hrz _ _ _ _ hx9.2.2) hLD
  · rw [hr] at hsem
    obtain ⟨hthr, hw, hrel1, hkp⟩ := semR_ok hsem
    have hLD1 := hLD.keep hoa hma hkp
    refine g_istore (pc := 2046) (L' := [(5, vI 0), (0, vA (some b)), (1, vA (some x)), (2, vA (some m)), (3, vA (some oa)), (4, vI i)]) B dL_law_2046 (by decide) rfl ?_
    refine g_aload_n (pc := 2048) B dL_law_2048 3 rfl ?_
    refine g_aload_n (pc := 2049) B dL_law_2049 1 rfl ?_
    refine g_iload (pc := 2050) B dL_law_2050 5 rfl ?_
    refine g_iconst (pc := 2052) B dL_law_2052 (1 : Int32) (by decide) ?_
    refine g_iadd (pc := 2053) B dL_law_2053 ?_
    refine g_sld (pc := 2054) B hs hi1 hp1 dL_law_2054 ?_
    refine l_ref (pc := 2055) (As := [vI p1]) (st := []) (st10 := [vI bv]) (S' := S') B cal_X12_hangs kmL_220 kn_X12_hangs ks_X12_hangs rfl hLD1 (fun l hl z => ct_X12_hangs hl e2) rfl (Nat.le_of_ble_eq_true rfl) (by decide) (by decide) hf dL_law_2055 rfl rfl ?_
    refine g_istore (pc := 2058) (L' := [(6, vI bv), (5, vI 0), (0, vA (some b)), (1, vA (some x)), (2, vA (some m)), (3, vA (some oa)), (4, vI i)]) B dL_law_2058 (by decide) rfl ?_
    refine g_aload_n (pc := 2060) B dL_law_2060 4 rfl ?_
    refine l_ref (pc := 2061) (As := []) (st := []) (st10 := [vI (sc S' 0)]) (S' := S') B cal_X12_thrown kmL_120 kn_X12_thrown ks_X12_thrown rfl hLD1 (fun l hl z => ct_X12_thrown hl (X0 := S') rfl) rfl (Nat.le_of_ble_eq_true rfl) (by decide) (by decide) hf dL_law_2061 rfl rfl ?_
    refine g_iload (pc := 2064) B dL_law_2064 1 rfl ?_
    refine g_icmp_eq (pc := 2066) (tgt := 2071) B dL_law_2066 (by decide) (fun _ => ?_) (fun c9 => absurd hthr c9)
    refine g_iload (pc := 2071) B dL_law_2071 1 rfl ?_
    refine g_if_ne (pc := 2073) (tgt := 2088) B dL_law_2073 (by decide) (fun c9 => absurd rfl c9) (fun _ => ?_)
    refine g_aload_n (pc := 2076) B dL_law_2076 5 rfl ?_
    refine g_iconst (pc := 2077) B dL_law_2077 (0 : Int32) (by decide) ?_
    refine g_lald (pc := 2078) B (LM_out0 hLD1) vin01 dL_law_2078 ?_
    rw [LM_aJ hLD1]
    refine g_iload (pc := 2079) B dL_law_2079 0 rfl ?_
    refine g_i2l (pc := 2081) B dL_law_2081 ?_
    refine g_lcmp (pc := 2082) B dL_law_2082 ?_
    have hcmp : lg_cmp w bv.toInt64 = 0 := by rw [hw]; exact cmp_self _
    refine g_if_eq (pc := 2083) (tgt := 2088) B dL_law_2083 (by decide) (fun _ => ?_) (fun c9 => absurd hcmp c9)
    refine g_goto (pc := 2088) (tgt := 2215) B dL_law_2088 (by decide) ?_
    refine g_sub (pc := 2215) [2, 3, 4, 5, 6] rfl ?_
    exact kont X1 (up0 g w) S' hrel1 hLD1
set_option maxRecDepth 100000 in
set_option maxHeartbeats 4000000 in
theorem lc_onWall {D : DD} {ev : EV} {Q : State → Prop} {Rel : Nat → Mem → SM → Prop} {fu b x m oa Ls : Nat} {xs : Nat → Int32} {g : Nat → Int64} {X : Mem} {S : SM} {i : Int32} {p1 : Int32} {p2 : Int32} {cs sl : Nat} (hrz : ∀ x X S z, Rel x X S → Rel x (zM X z) S) (hrk : ∀ x X S, Rel x X S → mK X x = some (11, 0)) (sem : sem_onWall Rel fu) (B : Amb D (A0L ev) ev RL "law" cL_law 7 (some .boolean) room_1) (hnc : EvNc ev) (hs : ScrL ev b Ls xs) (hi1 : vp_in (i + (1 : Int32)) Ls) (hi2 : vp_in (i + (2 : Int32)) Ls) (hp1 : xs (i + (1 : Int32)).toNatClampNeg = p1) (hp2 : xs (i + (2 : Int32)).toNatClampNeg = p2) (hrel : Rel x X S) (hLD : LD X oa m) (hf : cs + 16 ≤ room_1.cells ∧ sl + 200 ≤ room_1.slots)
    (kont : ∀ (X' : Mem) (g' : Nat → Int64) (S' : SM), Rel x X' S' → LD X' oa m → Gd D (A0L ev) ev Q (LM X' oa g' m S') (cs + 16) (sl + 200) 2215 [(0, vA (some b)), (1, vA (some x)), (2, vA (some m)), (3, vA (some oa)), (4, vI i)] []) : Gd D (A0L ev) ev Q (LM X oa g m S) cs sl 2091 [(0, vA (some b)), (1, vA (some x)), (2, vA (some m)), (3, vA (some oa)), (4, vI i)] [] := by
  refine g_dom fun hdm => ?_
  obtain ⟨hfr, hoa, hma⟩ := LM_fresh hLD hdm
  refine g_aload_n (pc := 2091) B dL_law_2091 1 rfl ?_
  refine g_aload_n (pc := 2092) B dL_law_2092 0 rfl ?_
  refine g_iload (pc := 2093) B dL_law_2093 4 rfl ?_
  refine g_iconst (pc := 2095) B dL_law_2095 (1 : Int32) (by decide) ?_
  refine g_iadd (pc := 2096) B dL_law_2096 ?_
  refine g_sld (pc := 2097) B hs hi1 hp1 dL_law_2097 ?_
  refine g_aload_n (pc := 2098) B dL_law_2098 0 rfl ?_
  refine g_iload (pc := 2099) B dL_law_2099 4 rfl ?_
  refine g_iconst (pc := 2101) B dL_law_2101 (2 : Int32) (by decide) ?_
  refine g_iadd (pc := 2102) B dL_law_2102 ?_
  refine g_sld (pc := 2103) B hs hi2 hp2 dL_law_2103 ?_
  refine g_aload_n (pc := 2104) B dL_law_2104 3 rfl ?_
  obtain ⟨r, bv, S', e1, e2, hsem⟩ := sem x X S p1 p2  hrel hfr
  refine l_wrap (pc := 2105) (As := [vA (some x), vI p1, vI p2, vA (some oa)]) (st := []) B hnc calw_L_onWall kmL_221 kz_L_onWall hLD (fun l hl => cw_L_onWall hl e1 (hrk _ _ _ hrel) hLD.1 (fun E q => by subst q; exact (semR_ex hsem).1)) rfl (Nat.le_of_ble_eq_true rfl) (by decide) (by decide) hf dL_law_2105 rfl (fun E k z hr hk => ?_) (fun w X1 hr => ?_)
  · rw [hr] at hsem
    have hx9 := semR_ex hsem
    have hthr : sc S' 0 = nI (k + 1) := hx9.2.1 k hk
    have hk3 : k < 1 := (List.getElem?_eq_some_iff.mp hk).1
    have hk0 : ¬ nI (k + 1) = 0 := nI_ne0 (by omega) (by omega)
    refine g_istore (pc := 2108) (L' := [(5, vI (nI (k + 1))), (0, vA (some b)), (1, vA (some x)), (2, vA (some m)), (3, vA (some oa)), (4, vI i)]) B dL_law_2108 (by decide) rfl ?_
    refine g_aload_n (pc := 2110) B dL_law_2110 3 rfl ?_
    refine g_aload_n (pc := 2111) B dL_law_2111 1 rfl ?_
    refine g_iload (pc := 2112) B dL_law_2112 5 rfl ?_
    refine g_iconst (pc := 2114) B dL_law_2114 (1 : Int32) (by decide) ?_
    refine g_iadd (pc := 2115) B dL_law_2115 ?_
    refine g_sld (pc := 2116) B hs hi1 hp1 dL_law_2116 ?_
    refine g_aload_n (pc := 2117) B dL_law_2117 1 rfl ?_
    refine g_iload (pc := 2118) B dL_law_2118 5 rfl ?_
    refine g_iconst (pc := 2120) B dL_law_2120 (2 : Int32) (by decide) ?_
    refine g_iadd (pc := 2121) B dL_law_2121 ?_
    refine g_sld (pc := 2122) B hs hi2 hp2 dL_law_2122 ?_
    refine l_ref (pc := 2123) (As := [vI p1, vI p2]) (st := []) (st10 := [vI bv]) (S' := S') B cal_X12_onWall kmL_223 kn_X12_onWall ks_X12_onWall rfl hLD (fun l hl z => ct_X12_onWall hl e2) rfl (Nat.le_of_ble_eq_true rfl) (by decide) (by decide) hf dL_law_2123 rfl rfl ?_
    refine g_istore (pc := 2126) (L' := [(6, vI bv), (5, vI (nI (k + 1))), (0, vA (some b)), (1, vA (some x)), (2, vA (some m)), (3, vA (some oa)), (4, vI i)]) B dL_law_2126 (by decide) rfl ?_
    refine g_aload_n (pc := 2128) B dL_law_2128 4 rfl ?_
    refine l_ref (pc := 2129) (As := []) (st := []) (st10 := [vI (sc S' 0)]) (S' := S') B cal_X12_thrown kmL_120 kn_X12_thrown ks_X12_thrown rfl hLD (fun l hl z => ct_X12_thrown hl (X0 := S') rfl) rfl (Nat.le_of_ble_eq_true rfl) (by decide) (by decide) hf dL_law_2129 rfl rfl ?_
    refine g_iload (pc := 2132) B dL_law_2132 1 rfl ?_
    refine g_icmp_eq (pc := 2134) (tgt := 2139) B dL_law_2134 (by decide) (fun _ => ?_) (fun c9 => absurd hthr c9)
    refine g_iload (pc := 2139) B dL_law_2139 1 rfl ?_
    refine g_if_ne (pc := 2141) (tgt := 2156) B dL_law_2141 (by decide) (fun _ => ?_) (fun c9 => absurd c9 hk0)
    refine g_goto (pc := 2156) (tgt := 2215) B dL_law_2156 (by decide) ?_
    refine g_sub (pc := 2215) [2, 3, 4, 5, 6] rfl ?_
    exact kont (zM X z) g S' (hrz _ _ _ _ hx9.2.2) hLD
  · rw [hr] at hsem
    obtain ⟨hthr, hw, hrel1, hkp⟩ := semR_ok hsem
    have hLD1 := hLD.keep hoa hma hkp
    refine g_istore (pc := 2108) (L' := [(5, vI 0), (0, vA (some b)), (1, vA (some x)), (2, vA (some m)), (3, vA (some oa)), (4, vI i)]) B dL_law_2108 (by decide) rfl ?_
    refine g_aload_n (pc := 2110) B dL_law_2110 3 rfl ?_
    refine g_aload_n (pc := 2111) B dL_law_2111 1 rfl ?_
    refine g_iload (pc := 2112) B dL_law_2112 5 rfl ?_
    refine g_iconst (pc := 2114) B dL_law_2114 (1 : Int32) (by decide) ?_
    refine g_iadd (pc := 2115) B dL_law_2115 ?_
    refine g_sld (pc := 2116) B hs hi1 hp1 dL_law_2116 ?_
    refine g_aload_n (pc := 2117) B dL_law_2117 1 rfl ?_
    refine g_iload (pc := 2118) B dL_law_2118 5 rfl ?_
    refine g_iconst (pc := 2120) B dL_law_2120 (2 : Int32) (by decide) ?_
    refine g_iadd (pc := 2121) B dL_law_2121 ?_
    refine g_sld (pc := 2122) B hs hi2 hp2 dL_law_2122 ?_
    refine l_ref (pc := 2123) (As := [vI p1, vI p2]) (st := []) (st10 := [vI bv]) (S' := S') B cal_X12_onWall kmL_223 kn_X12_onWall ks_X12_onWall rfl hLD1 (fun l hl z => ct_X12_onWall hl e2) rfl (Nat.le_of_ble_eq_true rfl) (by decide) (by decide) hf dL_law_2123 rfl rfl ?_
    refine g_istore (pc := 2126) (L' := [(6, vI bv), (5, vI 0), (0, vA (some b)), (1, vA (some x)), (2, vA (some m)), (3, vA (some oa)), (4, vI i)]) B dL_law_2126 (by decide) rfl ?_
    refine g_aload_n (pc := 2128) B dL_law_2128 4 rfl ?_
    refine l_ref (pc := 2129) (As := []) (st := []) (st10 := [vI (sc S' 0)]) (S' := S') B cal_X12_thrown kmL_120 kn_X12_thrown ks_X12_thrown rfl hLD1 (fun l hl z => ct_X12_thrown hl (X0 := S') rfl) rfl (Nat.le_of_ble_eq_true rfl) (by decide) (by decide) hf dL_law_2129 rfl rfl ?_
    refine g_iload (pc := 2132) B dL_law_2132 1 rfl ?_
    refine g_icmp_eq (pc := 2134) (tgt := 2139) B dL_law_2134 (by decide) (fun _ => ?_) (fun c9 => absurd hthr c9)
    refine g_iload (pc := 2139) B dL_law_2139 1 rfl ?_
    refine g_if_ne (pc := 2141) (tgt := 2156) B dL_law_2141 (by decide) (fun c9 => absurd rfl c9) (fun _ => ?_)
    refine g_aload_n (pc := 2144) B dL_law_2144 5 rfl ?_
    refine g_iconst (pc := 2145) B dL_law_2145 (0 : Int32) (by decide) ?_
    refine g_lald (pc := 2146) B (LM_out0 hLD1) vin01 dL_law_2146 ?_
    rw [LM_aJ hLD1]
    refine g_iload (pc := 2147) B dL_law_2147 0 rfl ?_
    refine g_i2l (pc := 2149) B dL_law_2149 ?_
    refine g_lcmp (pc := 2150) B dL_law_2150 ?_
    have hcmp : lg_cmp w bv.toInt64 = 0 := by rw [hw]; exact cmp_self _
    refine g_if_eq (pc := 2151) (tgt := 2156) B dL_law_2151 (by decide) (fun _ => ?_) (fun c9 => absurd hcmp c9)
    refine g_goto (pc := 2156) (tgt := 2215) B dL_law_2156 (by decide) ?_
    refine g_sub (pc := 2215) [2, 3, 4, 5, 6] rfl ?_
    exact kont X1 (up0 g w) S' hrel1 hLD1
set_option maxRecDepth 100000 in
set_option maxHeartbeats 4000000 in
theorem lc_hung {D : DD} {ev : EV} {Q : State → Prop} {Rel : Nat → Mem → SM → Prop} {fu b x m oa Ls : Nat} {xs : Nat → Int32} {g : Nat → Int64} {X : Mem} {S : SM} {i : Int32} {p1 : Int32} {cs sl : Nat} (hrz : ∀ x X S z, Rel x X S → Rel x (zM X z) S) (hrk : ∀ x X S, Rel x X S → mK X x = some (11, 0)) (sem : sem_hung Rel fu) (B : Amb D (A0L ev) ev RL "law" cL_law 7 (some .boolean) room_1) (hnc : EvNc ev) (hs : ScrL ev b Ls xs) (hi1 : vp_in (i + (1 : Int32)) Ls) (hp1 : xs (i + (1 : Int32)).toNatClampNeg = p1) (hrel : Rel x X S) (hLD : LD X oa m) (hf : cs + 16 ≤ room_1.cells ∧ sl + 200 ≤ room_1.slots)
    (kont : ∀ (X' : Mem) (g' : Nat → Int64) (S' : SM), Rel x X' S' → LD X' oa m → Gd D (A0L ev) ev Q (LM X' oa g' m S') (cs + 16) (sl + 200) 2215 [(0, vA (some b)), (1, vA (some x)), (2, vA (some m)), (3, vA (some oa)), (4, vI i)] []) : Gd D (A0L ev) ev Q (LM X oa g m S) cs sl 2159 [(0, vA (some b)), (1, vA (some x)), (2, vA (some m)), (3, vA (some oa)), (4, vI i)] [] := by
  refine g_dom fun hdm => ?_
  obtain ⟨hfr, hoa, hma⟩ := LM_fresh hLD hdm
  refine g_aload_n (pc := 2159) B dL_law_2159 1 rfl ?_
  refine g_aload_n (pc := 2160) B dL_law_2160 0 rfl ?_
  refine g_iload (pc := 2161) B dL_law_2161 4 rfl ?_
  refine g_iconst (pc := 2163) B dL_law_2163 (1 : Int32) (by decide) ?_
  refine g_iadd (pc := 2164) B dL_law_2164 ?_
  refine g_sld (pc := 2165) B hs hi1 hp1 dL_law_2165 ?_
  refine g_aload_n (pc := 2166) B dL_law_2166 3 rfl ?_
  obtain ⟨r, bv, S', e1, e2, hsem⟩ := sem x X S p1  hrel hfr
  refine l_wrap (pc := 2167) (As := [vA (some x), vI p1, vA (some oa)]) (st := []) B hnc calw_L_hung kmL_224 kz_L_hung hLD (fun l hl => cw_L_hung hl e1 (hrk _ _ _ hrel) hLD.1 (fun E q => by subst q; exact (semR_ex hsem).1)) rfl (Nat.le_of_ble_eq_true rfl) (by decide) (by decide) hf dL_law_2167 rfl (fun E k z hr hk => ?_) (fun w X1 hr => ?_)
  · rw [hr] at hsem
    have hx9 := semR_ex hsem
    have hthr : sc S' 0 = nI (k + 1) := hx9.2.1 k hk
    have hk3 : k < 1 := (List.getElem?_eq_some_iff.mp hk).1
    have hk0 : ¬ nI (k + 1) = 0 := nI_ne0 (by omega) (by omega)
    refine g_istore (pc := 2170) (L' := [(5, vI (nI (k + 1))), (0, vA (some b)), (1, vA (some x)), (2, vA (some m)), (3, vA (some oa)), (4, vI i)]) B dL_law_2170 (by decide) rfl ?_
    refine g_aload_n (pc := 2172) B dL_law_2172 3 rfl ?_
    refine g_aload_n (pc := 2173) B dL_law_2173 1 rfl ?_
    refine g_iload (pc := 2174) B dL_law_2174 5 rfl ?_
    refine g_iconst (pc := 2176) B dL_law_2176 (1 : Int32) (by decide) ?_
    refine g_iadd (pc := 2177) B dL_law_2177 ?_
    refine g_sld (pc := 2178) B hs hi1 hp1 dL_law_2178 ?_
    refine l_ref (pc := 2179) (As := [vI p1]) (st := []) (st10 := [vI bv]) (S' := S') B cal_X12_hung kmL_226 kn_X12_hung ks_X12_hung rfl hLD (fun l hl z => ct_X12_hung hl e2) rfl (Nat.le_of_ble_eq_true rfl) (by decide) (by decide) hf dL_law_2179 rfl rfl ?_
    refine g_istore (pc := 2182) (L' := [(6, vI bv), (5, vI (nI (k + 1))), (0, vA (some b)), (1, vA (some x)), (2, vA (some m)), (3, vA (some oa)), (4, vI i)]) B dL_law_2182 (by decide) rfl ?_
    refine g_aload_n (pc := 2184) B dL_law_2184 4 rfl ?_
    refine l_ref (pc := 2185) (As := []) (st := []) (st10 := [vI (sc S' 0)]) (S' := S') B cal_X12_thrown kmL_120 kn_X12_thrown ks_X12_thrown rfl hLD (fun l hl z => ct_X12_thrown hl (X0 := S') rfl) rfl (Nat.le_of_ble_eq_true rfl) (by decide) (by decide) hf dL_law_2185 rfl rfl ?_
    refine g_iload (pc := 2188) B dL_law_2188 1 rfl ?_
    refine g_icmp_eq (pc := 2190) (tgt := 2195) B dL_law_2190 (by decide) (fun _ => ?_) (fun c9 => absurd hthr c9)
    refine g_iload (pc := 2195) B dL_law_2195 1 rfl ?_
    refine g_if_ne (pc := 2197) (tgt := 2212) B dL_law_2197 (by decide) (fun _ => ?_) (fun c9 => absurd c9 hk0)
    refine g_goto (pc := 2212) (tgt := 2215) B dL_law_2212 (by decide) ?_
    refine g_sub (pc := 2215) [2, 3, 4, 5, 6] rfl ?_
    exact kont (zM X z) g S' (hrz _ _ _ _ hx9.2.2) hLD
  · rw [hr] at hsem
    obtain ⟨hthr, hw, hrel1, hkp⟩ := semR_ok hsem
    have hLD1 := hLD.keep hoa hma hkp
    refine g_istore (pc := 2170) (L' := [(5, vI 0), (0, vA (some b)), (1, vA (some x)), (2, vA (some m)), (3, vA (some oa)), (4, vI i)]) B dL_law_2170 (by decide) rfl ?_
    refine g_aload_n (pc := 2172) B dL_law_2172 3 rfl ?_
    refine g_aload_n (pc := 2173) B dL_law_2173 1 rfl ?_
    refine g_iload (pc := 2174) B dL_law_2174 5 rfl ?_
    refine g_iconst (pc := 2176) B dL_law_2176 (1 : Int32) (by decide) ?_
    refine g_iadd (pc := 2177) B dL_law_2177 ?_
    refine g_sld (pc := 2178) B hs hi1 hp1 dL_law_2178 ?_
    refine l_ref (pc := 2179) (As := [vI p1]) (st := []) (st10 := [vI bv]) (S' := S') B cal_X12_hung kmL_226 kn_X12_hung ks_X12_hung rfl hLD1 (fun l hl z => ct_X12_hung hl e2) rfl (Nat.le_of_ble_eq_true rfl) (by decide) (by decide) hf dL_law_2179 rfl rfl ?_
    refine g_istore (pc := 2182) (L' := [(6, vI bv), (5, vI 0), (0, vA (some b)), (1, vA (some x)), (2, vA (some m)), (3, vA (some oa)), (4, vI i)]) B dL_law_2182 (by decide) rfl ?_
    refine g_aload_n (pc := 2184) B dL_law_2184 4 rfl ?_
    refine l_ref (pc := 2185) (As := []) (st := []) (st10 := [vI (sc S' 0)]) (S' := S') B cal_X12_thrown kmL_120 kn_X12_thrown ks_X12_thrown rfl hLD1 (fun l hl z => ct_X12_thrown hl (X0 := S') rfl) rfl (Nat.le_of_ble_eq_true rfl) (by decide) (by decide) hf dL_law_2185 rfl rfl ?_
    refine g_iload (pc := 2188) B dL_law_2188 1 rfl ?_
    refine g_icmp_eq (pc := 2190) (tgt := 2195) B dL_law_2190 (by decide) (fun _ => ?_) (fun c9 => absurd hthr c9)
    refine g_iload (pc := 2195) B dL_law_2195 1 rfl ?_
    refine g_if_ne (pc := 2197) (tgt := 2212) B dL_law_2197 (by decide) (fun c9 => absurd rfl c9) (fun _ => ?_)
    refine g_aload_n (pc := 2200) B dL_law_2200 5 rfl ?_
    refine g_iconst (pc := 2201) B dL_law_2201 (0 : Int32) (by decide) ?_
    refine g_lald (pc := 2202) B (LM_out0 hLD1) vin01 dL_law_2202 ?_
    rw [LM_aJ hLD1]
    refine g_iload (pc := 2203) B dL_law_2203 0 rfl ?_
    refine g_i2l (pc := 2205) B dL_law_2205 ?_
    refine g_lcmp (pc := 2206) B dL_law_2206 ?_
    have hcmp : lg_cmp w bv.toInt64 = 0 := by rw [hw]; exact cmp_self _
    refine g_if_eq (pc := 2207) (tgt := 2212) B dL_law_2207 (by decide) (fun _ => ?_) (fun c9 => absurd hcmp c9)
    refine g_goto (pc := 2212) (tgt := 2215) B dL_law_2212 (by decide) ?_
    refine g_sub (pc := 2215) [2, 3, 4, 5, 6] rfl ?_
    exact kont X1 (up0 g w) S' hrel1 hLD1
