/-! the way ahead; a bound that stops the run -/
def Stop (g : Nat → Nat) (ms : Nat) (X : Mem) (s : Cor) : Prop := ms < 600 ∧ mI X 202 (g 5) = cS s ms ∧ ms ≤ cC s
theorem Stop.mon {g : Nat → Nat} {ms : Nat} {X : Mem} {s s' : Cor} (h : Stop g ms X s) (k : MonB s s') : Stop g ms X s' := ⟨h.1, by rw [k.2 ms h.2.2]; exact h.2.1, Nat.le_trans h.2.2 k.1⟩
theorem fwB_f {s : Cor} (h : cF s ≠ 0) : ∀ t, fwB t s = s
  | 0 => rfl
  | _ + 1 => if_neg h
theorem cF_flt {e : Int32} {s : Cor} : cF (fltB e s) = e := by
  obtain ⟨x, y, h9, d, f, c, nm, R, U, sa⟩ := s
  rfl
theorem cC_flt {e : Int32} {s : Cor} : cC (fltB e s) = cC s := by
  obtain ⟨x, y, h9, d, f, c, nm, R, U, sa⟩ := s
  rfl
section CFW
variable {g : Nat → Nat} {K T V N : Nat → Int32} {n ms : Nat} {cl : Nat → Nat} {ws : Int32 → Option Nat}
theorem CQ.flt {X : Mem} {s : Cor} {e : Int32} (h : CQ g ms X s) : CQ g ms (wI X 708 (g 0) e) (fltB e s) := by
  obtain ⟨x, y, h9, d, f, c, nm, R, U, sa⟩ := s
  obtain ⟨q1, q2, q3, q4, q5, q6, q7, q8, q9, q10, q11, q12⟩ := h
  have m : ∀ j, j ≠ 708 → mI (wI X 708 (g 0) e) j = mI X j := fun j hj => funext fun z => if_neg (fun q => hj q.1)
  refine ⟨by rw [m 800 (by omega)]; exact q1, by rw [m 801 (by omega)]; exact q2, by rw [m 802 (by omega)]; exact q3, by rw [m 803 (by omega)]; exact q4, by rw [mI_wI, if_pos ⟨rfl, rfl⟩], by rw [m 707 (by omega)]; exact q6, by rw [m 706 (by omega)]; exact q7, q8, q9, q10, by rw [m 202 (by omega)]; exact q11, ?_⟩
  rw [m 203 (by omega), m 204 (by omega), m 205 (by omega), m 206 (by omega)]
  exact q12
theorem CQ.cs {X : Mem} {s : Cor} (h : CQ g ms X s) : mI X 202 (g 5) = cS s (cC s) ∧ mI X 707 (g 0) = nI (cC s) ∧ mI X 706 (g 0) = nI ms ∧ mI X 708 (g 0) = cF s ∧ ∀ j, j < 4 → aI X (g 2) j = cNm s j := by
  obtain ⟨x, y, h9, d, f, c, nm, R, U, sa⟩ := s
  obtain ⟨q1, q2, q3, q4, q5, q6, q7, q8, q9, q10, q11, q12⟩ := h
  exact ⟨q11, q6, q7, q5, q8⟩
theorem c_canCount {X : Mem} {s : Cor} (hG : RG g K T V N n cl ws X) (hQ : CQ g ms X s) (hms : ms ≤ 600) (hc : cC s ≤ ms) : fX7_canCount X (g 0) = some (if cC s < ms then (1, X) else (0, wI X 708 (g 0) 1)) := by
  unfold fX7_canCount
  rw [if_pos hG.k0, hQ.cs.2.1, hQ.cs.2.2.1]
  by_cases h : cC s < ms
  · rw [if_pos h, if_pos ((nI_ltI (by omega) (by omega)).mpr h)]
  · rw [if_neg h, if_neg (fun q => h ((nI_ltI (by omega) (by omega)).mp q))]
/-- the bound is reached -/
theorem Stop.at9 {X : Mem} {s s' : Cor} (hQ : CQ g ms X s) (hc : cC s = ms) (hms : ms < 600) (hm : MonB s s') : Stop g ms (wI X 708 (g 0) 1) s' := by
  refine Stop.mon ⟨hms, ?_, by omega⟩ hm
  rw [mI_wI, if_neg (by omega), hQ.cs.1, hc]
theorem c_fw {fu v : Nat} (hms : ms ≤ 600) (hv : v < 2 ^ 31) : ∀ (t k m : Nat) (X : Mem) (s : Cor), k + t = v → RG g K T V N n cl ws X → CI s → cF s = 0 → cC s ≤ ms → CQ g ms X s →
    ∃ r X', fX7_goForward_L13 fu (m + t + 1) X (g 0) (nI v) (nI k) = some (r, X') ∧ FG g X X' ∧ ((r = 1 ∧ CQ g ms X' (fwB t s) ∧ cF (fwB t s) = 0 ∧ cC (fwB t s) ≤ ms) ∨ (r = 0 ∧ CQ g ms X' (fwB t s) ∧ cF (fwB t s) ≠ 0 ∧ cC (fwB t s) ≤ ms) ∨ (r = 0 ∧ Stop g ms X' (fwB t s))) := by
  intro t
  induction t with
  | zero =>
    intro k m X s hk hG hC hf hc hQ
    refine ⟨1, X, ?_, FG.rfl9, Or.inl ⟨rfl, hQ, hf, hc⟩⟩
    show fX7_goForward_L13b fu (fX7_goForward_L13 fu m) X (g 0) (nI v) (nI k) = _
    unfold fX7_goForward_L13b
    rw [if_pos ((nI_leI hv (by omega)).mpr (by omega))]
  | succ t ih =>
    intro k m X s hk hG hC hf hc hQ
    have efw : fwB (t + 1) s = fwB t (goB s) := if_pos hf
    rw [efw]
    show ∃ r X', fX7_goForward_L13b fu (fX7_goForward_L13 fu (m + t + 1)) X (g 0) (nI v) (nI k) = some (r, X') ∧ _
    unfold fX7_goForward_L13b
    rw [if_neg (fun q => by have := (nI_leI hv (by omega)).mp q; omega), if_pos hG.k0, c_canCount hG hQ hms hc]
    by_cases hlt : cC s < ms
    · rw [if_pos hlt, bW_some, if_neg (by decide), if_pos hG.k0, hG.r700, bi_some, if_pos hG.k1, c_canGo hG.k1, bi_some]
      obtain ⟨x, y, h9, d, f, c, nm, R, U, sa⟩ := s
      obtain ⟨q1, q2, q3, q4, q5, q6, q7, q8, q9, q10, q11, q12⟩ := id hQ
      obtain ⟨c1, c2, c3, c4, c5, c6⟩ := id hC
      have hlt : c < ms := hlt
      have hf : f = 0 := hf
      obtain ⟨a, ha, rfl⟩ := onG_of c1
      obtain ⟨b, hb, rfl⟩ := onG_of c2
      rw [q1, q2, q3]
      have eg : goB (nI a, nI b, h9, d, f, c, nm, R, U, sa) = if onG (nI a + ahX h9) ∧ onG (nI b + ahY h9) then mvB (nI a) (nI b) h9 d f (c + 1) nm R U (up1 sa (c + 1) (sa c)) (nI a + ahX h9) (nI b + ahY h9) else (nI a, nI b, h9, d, 2, c, nm, R, U, sa) := if_neg (by omega)
      by_cases eo : onG (nI a + ahX h9) ∧ onG (nI b + ahY h9)
      · rw [if_pos eo, if_neg (by decide)]
        obtain ⟨e2, h2, k2⟩ := onG_of eo.1
        obtain ⟨e3, h3, k3⟩ := onG_of eo.2
        obtain ⟨X1, w1, w2, w3⟩ := c_go hG hQ ha hb h2 h3 (by omega) k2 k3
        rw [if_pos eo, k2, k3] at eg
        have hfc : cF (goB (nI a, nI b, h9, d, f, c, nm, R, U, sa)) = 0 ∧ cC (goB (nI a, nI b, h9, d, f, c, nm, R, U, sa)) = c + 1 := by
          rw [eg]
          unfold mvB
          split
          · exact ⟨hf, rfl⟩
          · split
            · split
              · exact ⟨hf, rfl⟩
              · exact ⟨hf, rfl⟩
            · split
              · exact ⟨hf, rfl⟩
              · exact ⟨hf, rfl⟩
        rw [← eg] at w2
        rw [q6, mR_wI, hG.r700, bi_some, mK_wI, if_pos hG.k1, hG.r704, w1, bi_some, nI_1]
        obtain ⟨r, X2, z1, z2, z3⟩ := ih (k + 1) m X1 (goB (nI a, nI b, h9, d, f, c, nm, R, U, sa)) (by omega) (hG.fr w3.1) (goB_ok hC).1 hfc.1 (by rw [hfc.2]; omega) w2
        exact ⟨r, X2, z1, w3.trans z2, z3⟩
      · rw [if_neg eo, if_pos rfl]
        rw [if_neg eo] at eg
        have ef : cF (goB (nI a, nI b, h9, d, f, c, nm, R, U, sa)) ≠ 0 := by
          rw [eg]
          exact (show ¬ (2 : Int32) = 0 by decide)
        refine ⟨0, _, rfl, FG.wI (by omega), Or.inr (Or.inl ⟨rfl, ?_, ?_, ?_⟩)⟩
        · rw [fwB_f ef, eg]
          exact hQ.flt (e := 2)
        · rw [fwB_f ef]; exact ef
        · rw [fwB_f ef, eg]
          exact hc
    · rw [if_neg hlt, bW_some, if_pos rfl]
      have hcm : cC s = ms := by omega
      refine ⟨0, _, rfl, FG.wI (by omega), ?_⟩
      by_cases h6 : ms = 600
      · have eg : goB s = fltB 1 s := by
          obtain ⟨x, y, h9, d, f, c, nm, R, U, sa⟩ := s
          exact if_pos (show c = 600 by have : c = ms := hcm; omega)
        have ef : cF (goB s) ≠ 0 := by rw [eg, cF_flt]; decide
        refine Or.inr (Or.inl ⟨rfl, ?_, ?_, ?_⟩)
        · rw [fwB_f ef, eg]
          exact hQ.flt
        · rw [fwB_f ef]; exact ef
        · rw [fwB_f ef, eg, cC_flt]
          exact hc
      · refine Or.inr (Or.inr ⟨rfl, Stop.at9 hQ hcm (by omega) ?_⟩)
        exact (goB_ok hC).2.trans (fwB_ok t (goB_ok hC).1).2
theorem hd_eq : ∀ k, k < 1999 → ∀ h, h < 4 → fJ9_floorMod_7cf53 (E0 0) (nI h + (nI k - 999)) 4 = some (hdB (nI h) (nI k - 999)) := by decide +kernel
theorem c_turn {X : Mem} {t : Nat} {v : Int32} (hk : mK X t = some (8, 0)) (h3 : mI X 802 t = 0 ∨ mI X 802 t = 1 ∨ mI X 802 t = 2 ∨ mI X 802 t = 3) (h1 : -999 ≤ v) (h2 : v ≤ 999) : fX8_turnBy X t v = some (wI X 802 t (hdB (mI X 802 t) v)) := by
  unfold fX8_turnBy
  obtain ⟨k, hk9, rfl⟩ := val_of h1 h2
  obtain ⟨j, hj, e⟩ := hd_of (v := 0) h3
  rw [if_pos hk, e, show fJ9_floorMod_7cf53 X (nI j + (nI k - 999)) 4 = fJ9_floorMod_7cf53 (E0 0) (nI j + (nI k - 999)) 4 from rfl, hd_eq k hk9 j hj, bi_some]
theorem c_putName {X : Mem} {j : Nat} {v : Int32} (hG : RG g K T V N n cl ws X) (hj : j < 4) : fX7_putName X (g 0) (nI j) v = some (if -999 ≤ v ∧ v ≤ 999 then (1, sI X (g 2) j v) else (0, wI X 708 (g 0) 3)) := by
  unfold fX7_putName fX7_putName_L14
  by_cases h1 : 999 < v
  · rw [if_pos h1, if_pos hG.k0, if_neg (fun q => Int32.lt_irrefl (Int32.lt_of_lt_of_le h1 q.2))]
  · rw [if_neg h1]
    by_cases h2 : -999 ≤ v
    · rw [if_pos h2, if_neg (nI_pos (by omega)), if_pos hG.k0, hG.r701, bi_some, alen_of hG.k2 (by decide), bi_some, if_neg (fun q => by have := (nI_leI (by omega) (by omega)).mp q; omega), bi_some, if_pos (inb_of (t := 0) hG.k2 hj (by omega)), nI_clamp (by omega), if_pos ⟨h2, Int32.not_lt.mp h1⟩]
    · rw [if_neg h2, if_pos hG.k0, if_neg (fun q => h2 q.1)]
end CFW
