/-! a step ahead, the way ahead, turning, the pen, names -/
theorem Box.mono {c c' : Nat} {R U : Nat → Int32} {st lx ly gx gy : Int32} (h : Box c R U st lx ly gx gy) (hc : c ≤ c') : Box c' R U st lx ly gx gy := by
  obtain ⟨k, h1, h2⟩ := h
  exact ⟨k, Nat.le_trans h1 hc, h2⟩
theorem Str.cg {R U R1 U1 : Nat → Int32} (h1 : ∀ j, j < 16 → R1 j = R j) (h2 : ∀ j, j < 16 → U1 j = U j) {e x y : Nat} : Str R1 U1 e x y ↔ Str R U e x y := by
  unfold Str
  constructor
  · rintro ⟨a, b, c⟩
    rw [h1 y b, h2 y b] at c
    exact ⟨a, b, c⟩
  · rintro ⟨a, b, c⟩
    rw [← h1 y b, ← h2 y b] at c
    exact ⟨a, b, c⟩
theorem c_min {X : Mem} {a b : Int32} : fJ9_min_7cf53 X a b = some (minB a b) := by
  unfold fJ9_min_7cf53 minB
  split <;> rfl
/-- what the core's steps leave -/
def FG (g : Nat → Nat) (X X1 : Mem) : Prop := FR g X X1 ∧ aI X1 (g 3) = aI X (g 3) ∧ aI X1 (g 4) = aI X (g 4) ∧ mI X1 705 (g 0) = mI X 705 (g 0)
theorem FG.rfl9 {g : Nat → Nat} {X : Mem} : FG g X X := ⟨FR.rfl9, rfl, rfl, rfl⟩
theorem FG.trans {g : Nat → Nat} {X X1 X2 : Mem} (h : FG g X X1) (k : FG g X1 X2) : FG g X X2 := ⟨h.1.trans k.1, k.2.1.trans h.2.1, k.2.2.1.trans h.2.2.1, k.2.2.2.trans h.2.2.2⟩
theorem FG.wI {g : Nat → Nat} {X : Mem} {k a : Nat} {v : Int32} (h : (202 ≤ k ∧ k ≤ 206 ∧ a = g 5) ∨ (706 ≤ k ∧ k ≤ 708) ∨ (800 ≤ k ∧ k ≤ 803)) : FG g X (wI X k a v) := ⟨FR.wI (by omega), funext fun _ => aI_wI, funext fun _ => aI_wI, by rw [mI_wI, if_neg (by omega)]⟩
theorem FG.sI {g : Nat → Nat} {K T V N : Nat → Int32} {n : Nat} {cl : Nat → Nat} {ws : Int32 → Option Nat} {X Y : Mem} {i a : Nat} {v : Int32} (hG : RG g K T V N n cl ws Y) (h : a = g 2 ∨ a = g 6 ∨ a = g 7) : FG g X (sI X a i v) := by
  have n3 : g 3 ≠ a := by
    rcases h with h | h | h <;> rw [h]
    · exact hG.ne 3 2 (by decide) (by decide) (by decide)
    · exact hG.ne 3 6 (by decide) (by decide) (by decide)
    · exact hG.ne 3 7 (by decide) (by decide) (by decide)
  have n4 : g 4 ≠ a := by
    rcases h with h | h | h <;> rw [h]
    · exact hG.ne 4 2 (by decide) (by decide) (by decide)
    · exact hG.ne 4 6 (by decide) (by decide) (by decide)
    · exact hG.ne 4 7 (by decide) (by decide) (by decide)
  exact ⟨FR.sI (by rcases h with h | h | h <;> simp [h]), funext fun _ => if_neg (fun q => n3 q.1), funext fun _ => if_neg (fun q => n4 q.1), rfl⟩
section CGO
variable {g : Nat → Nat} {K T V N : Nat → Int32} {n ms : Nat} {cl : Nat → Nat} {ws : Int32 → Option Nat} {X : Mem}
theorem c_go {a b e2 e3 c : Nat} {h d f : Int32} {nm R U sa : Nat → Int32} (hG : RG g K T V N n cl ws X) (hQ : CQ g ms X (nI a, nI b, h, d, f, c, nm, R, U, sa)) (ha : a < 16) (hb : b < 16) (h2 : e2 < 16) (h3 : e3 < 16) (hc : c < 600) (k2 : nI a + ahX h = nI e2) (k3 : nI b + ahY h = nI e3) :
    ∃ X', fX8_go (wI X 707 (g 0) (nI c + 1)) (g 1) (some (g 5)) = some X' ∧ CQ g ms X' (mvB (nI a) (nI b) h d f (c + 1) nm R U (up1 sa (c + 1) (sa c)) (nI e2) (nI e3)) ∧ FG g X X' := by
  obtain ⟨q1, q2, q3, q4, q5, q6, q7, q8, q9, q10, q11, q12⟩ := hQ
  have fr0 : FG g X (wI X 707 (g 0) (nI c + 1)) := FG.wI (by omega)
  have hG1 := hG.fr fr0.1
  obtain ⟨lx, hlx, elx⟩ := minB_n ha h2
  obtain ⟨ly, hly, ely⟩ := minB_n hb h3
  have m : ∀ j, j ≠ 707 → mI (wI X 707 (g 0) (nI c + 1)) j = mI X j := fun j hj => funext fun z => if_neg (fun q => hj q.1)
  have sa1 : up1 sa (c + 1) (sa c) (c + 1) = sa c := if_pos rfl
  have fin : ∀ X1 : Mem, (∀ k, 800 ≤ k → mI X1 k = mI X k) → mI X1 708 (g 0) = f → mI X1 707 (g 0) = nI (c + 1) → mI X1 706 (g 0) = nI ms → ∀ (R1 U1 sa1 : Nat → Int32), (∀ j, j < 4 → aI X1 (g 2) j = nm j) → (∀ j, j < 16 → aI X1 (g 6) j = R1 j) → (∀ j, j < 16 → aI X1 (g 7) j = U1 j) → mI X1 202 (g 5) = sa1 (c + 1) → Box (c + 1) R1 U1 (sa1 (c + 1)) (mI X1 203 (g 5)) (mI X1 204 (g 5)) (mI X1 205 (g 5)) (mI X1 206 (g 5)) → CQ g ms (wI (wI X1 800 (g 1) (nI e2)) 801 (g 1) (nI e3)) (nI e2, nI e3, h, d, f, c + 1, nm, R1, U1, sa1) := by
    intro X1 w0 w1 w2 w3 R1 U1 sa1 w4 w5 w6 w7 w8
    refine ⟨?_, ?_, ?_, ?_, w1, w2, w3, w4, w5, w6, w7, w8⟩
    · rw [mI_wI, if_neg (by omega), mI_wI, if_pos ⟨rfl, rfl⟩]
    · rw [mI_wI, if_pos ⟨rfl, rfl⟩]
    · rw [mI_wI, if_neg (by omega), mI_wI, if_neg (by omega), w0 802 (by omega), q3]
    · rw [mI_wI, if_neg (by omega), mI_wI, if_neg (by omega), w0 803 (by omega), q4]
  unfold fX8_go
  rw [if_pos hG1.k1, c_aheadX hG1.k1, bi_some, c_aheadY hG1.k1, bi_some, m 803 (by omega), q4, m 802 (by omega), q3, m 800 (by omega), q1, m 801 (by omega), q2, k2, k3]
  unfold mvB
  by_cases ed : d = 0
  · rw [if_pos ed, if_pos ed]
    unfold fX8_go_L60
    rw [if_pos hG1.k1]
    refine ⟨_, rfl, fin _ (fun k hk => m k (by omega)) (by rw [m 708 (by omega)]; exact q5) (by rw [mI_wI, if_pos ⟨rfl, rfl⟩, nI_1]) (by rw [m 706 (by omega)]; exact q7) R U _ q8 q9 q10 (by rw [m 202 (by omega), sa1]; exact q11) (by rw [m 203 (by omega), m 204 (by omega), m 205 (by omega), m 206 (by omega), sa1]; exact q12.mono (by omega)), fr0.trans ((FG.wI (by omega)).trans (FG.wI (by omega)))⟩
  · rw [if_neg ed, if_neg ed, c_min, bi_some, c_min, bi_some, elx, ely, nI_clamp (show ly < 2 ^ 31 by omega)]
    have st : ∀ (r : Nat) (u : Int32) (e0 : Nat), mK X (g r) = some (20, 16) → ((u = 0 ∧ r = 6 ∧ e0 = 0) ∨ (u = 1 ∧ r = 7 ∧ e0 = 1)) → ∃ X', fX8_go_L57 (wI X 707 (g 0) (nI c + 1)) (g 1) (nI e2) (nI e3) (some (g 5)) (nI lx) (nI ly) u = some X' ∧ (if bit1 (aI X (g r) ly) (nI lx) = 0 then CQ g ms X' (nI e2, nI e3, h, d, f, c + 1, nm, (if r = 6 then up1 R ly (R ly ||| ((1 : Int32) <<< (nI lx &&& 31))) else R), (if r = 6 then U else up1 U ly (U ly ||| ((1 : Int32) <<< (nI lx &&& 31)))), up1 (up1 sa (c + 1) (sa c)) (c + 1) (up1 sa (c + 1) (sa c) (c + 1) + 1)) else CQ g ms X' (nI e2, nI e3, h, d, f, c + 1, nm, R, U, up1 sa (c + 1) (sa c))) ∧ FG g X X' := by
      intro r u e0 hkr hr
      unfold fX8_go_L57
      have hru : (u = 0 ∧ mR (wI X 707 (g 0) (nI c + 1)) 200 (g 5) = some (g r)) ∨ (u = 1 ∧ mR (wI X 707 (g 0) (nI c + 1)) 201 (g 5) = some (g r)) := by
        rcases hr with ⟨a1, a2, a3⟩ | ⟨a1, a2, a3⟩
        · subst a2; exact Or.inl ⟨a1, hG1.r200⟩
        · subst a2; exact Or.inr ⟨a1, hG1.r201⟩
      rw [bi_some, if_pos hG1.k5, c_draw (r := g r) hG1.k5 hkr hlx hly hru, bi_some, show aI (wI X 707 (g 0) (nI c + 1)) (g r) = aI X (g r) from rfl]
      by_cases eb : bit1 (aI X (g r) ly) (nI lx) = 0
      · simp only [if_pos eb]
        have e60 : ∀ X1 x y, mK X1 (g 1) = some (8, 0) → fX8_go_L60 X1 (g 1) x y = some (wI (wI X1 800 (g 1) x) 801 (g 1) y) := fun X1 x y h => if_pos h
        have hgr : g r = g 2 ∨ g r = g 6 ∨ g r = g 7 := by
          rcases hr with ⟨-, a2, -⟩ | ⟨-, a2, -⟩ <;> subst a2 <;> simp
        refine ⟨_, e60 _ _ _ (by simp only [mK_wI, mK_sI]; exact hG.k1), fin _ (fun k hk => funext fun z => ?_) ?_ ?_ ?_ _ _ _ (fun j hj => ?_) (fun j hj => ?_) (fun j hj => ?_) ?_ ?_, fr0.trans ?_⟩
        · simp only [mI_wI, mI_sI]
          rw [if_neg (by omega), if_neg (by omega), if_neg (by omega), if_neg (by omega), if_neg (by omega), if_neg (by omega)]
        · simp only [mI_wI, mI_sI]
          simp [q5]
        · simp only [mI_wI, mI_sI]
          simp [nI_1]
        · simp only [mI_wI, mI_sI]
          simp [q7]
        · simp only [aI_wI]
          have : g 2 ≠ g r := by
            rcases hr with ⟨-, a2, -⟩ | ⟨-, a2, -⟩ <;> subst a2
            · exact hG.ne 2 6 (by decide) (by decide) (by decide)
            · exact hG.ne 2 7 (by decide) (by decide) (by decide)
          rw [aI_sI, if_neg (fun q => this q.1), aI_wI]
          exact q8 j hj
        · simp only [aI_wI]
          rw [aI_sI]
          rcases hr with ⟨-, a2, -⟩ | ⟨-, a2, -⟩ <;> subst a2
          · rw [if_pos rfl]
            unfold up1
            by_cases e : j = ly
            · rw [if_pos ⟨rfl, e⟩, if_pos e, q9 ly hly]
            · rw [if_neg (fun q => e q.2), if_neg e, aI_wI]
              exact q9 j hj
          · rw [if_neg (fun q => hG.ne 6 7 (by decide) (by decide) (by decide) q.1), if_neg (show ¬ (7 : Nat) = 6 by decide), aI_wI]
            exact q9 j hj
        · simp only [aI_wI]
          rw [aI_sI]
          rcases hr with ⟨-, a2, -⟩ | ⟨-, a2, -⟩ <;> subst a2
          · rw [if_neg (fun q => hG.ne 7 6 (by decide) (by decide) (by decide) q.1), if_pos rfl, aI_wI]
            exact q10 j hj
          · rw [if_neg (show ¬ (7 : Nat) = 6 by decide)]
            unfold up1
            by_cases e : j = ly
            · rw [if_pos ⟨rfl, e⟩, if_pos e, q10 ly hly]
            · rw [if_neg (fun q => e q.2), if_neg e, aI_wI]
              exact q10 j hj
        · simp only [mI_wI, mI_sI]
          simp [q11, up1]
        · have hB := Box.add (X := lx) (Y := ly) (e0 := e0) (R1 := if r = 6 then up1 R ly (R ly ||| ((1 : Int32) <<< (nI lx &&& 31))) else R) (U1 := if r = 6 then U else up1 U ly (U ly ||| ((1 : Int32) <<< (nI lx &&& 31)))) hc q12 hlx hly (by rcases hr with ⟨-, -, a3⟩ | ⟨-, -, a3⟩ <;> omega) (fun e x y => by
            rcases hr with ⟨-, a2, a3⟩ | ⟨-, a2, a3⟩ <;> subst a2 <;> subst a3
            · rw [if_pos rfl, if_pos rfl]; exact Str_R hlx hly
            · rw [if_neg (by decide), if_neg (by decide)]; exact Str_U hlx hly)
          have e1 : up1 (up1 sa (c + 1) (sa c)) (c + 1) (up1 sa (c + 1) (sa c) (c + 1) + 1) (c + 1) = sa c + 1 := by simp [up1]
          rw [e1]
          simp only [mI_wI, mI_sI]
          simp only [show (203 : Nat) = 202 ↔ False from by decide, show (203 : Nat) = 206 ↔ False from by decide, show (203 : Nat) = 205 ↔ False from by decide, show (203 : Nat) = 204 ↔ False from by decide, show (204 : Nat) = 202 ↔ False from by decide, show (204 : Nat) = 206 ↔ False from by decide, show (204 : Nat) = 205 ↔ False from by decide, show (205 : Nat) = 202 ↔ False from by decide, show (205 : Nat) = 206 ↔ False from by decide, show (206 : Nat) = 202 ↔ False from by decide, show (203 : Nat) = 707 ↔ False from by decide, show (204 : Nat) = 707 ↔ False from by decide, show (205 : Nat) = 707 ↔ False from by decide, show (206 : Nat) = 707 ↔ False from by decide, show (202 : Nat) = 707 ↔ False from by decide, false_and, if_false, and_self, if_true, q11]
          have ex : (if u = 0 then nI (lx + 1) else nI lx) = nI (lx + (1 - e0)) := by
            rcases hr with ⟨a1, a2, a3⟩ | ⟨a1, a2, a3⟩
            · rw [if_pos a1, a3]
            · rw [if_neg (by rw [a1]; decide), a3]
              rfl
          have ey : (if u = 0 then nI ly else nI (ly + 1)) = nI (ly + e0) := by
            rcases hr with ⟨a1, a2, a3⟩ | ⟨a1, a2, a3⟩
            · rw [if_pos a1, a3]
              rfl
            · rw [if_neg (by rw [a1]; decide), a3]
          rw [ex, ey]
          exact hB
        · refine (((((((FG.sI hG hgr).trans (FG.wI ?_)).trans (FG.wI ?_)).trans (FG.wI ?_)).trans (FG.wI ?_)).trans (FG.wI ?_)).trans (FG.wI ?_)).trans (FG.wI ?_) <;> first | (exact Or.inl ⟨by decide, by decide, rfl⟩) | (exact Or.inr (Or.inr ⟨by decide, by decide⟩))
      · simp only [if_neg eb]
        unfold fX8_go_L60
        rw [if_pos hG1.k1]
        refine ⟨_, rfl, fin _ (fun k hk => m k (by omega)) (by rw [m 708 (by omega)]; exact q5) (by rw [mI_wI, if_pos ⟨rfl, rfl⟩, nI_1]) (by rw [m 706 (by omega)]; exact q7) R U _ q8 q9 q10 (by rw [m 202 (by omega), sa1]; exact q11) (by rw [m 203 (by omega), m 204 (by omega), m 205 (by omega), m 206 (by omega), sa1]; exact q12.mono (by omega)), fr0.trans ((FG.wI (by omega)).trans (FG.wI (by omega)))⟩
    by_cases ex : nI e2 = nI a
    · rw [if_pos ex.symm, if_pos ex]
      obtain ⟨X', w1, w2, w3⟩ := st 7 1 1 hG.k7 (Or.inr ⟨rfl, rfl, rfl⟩)
      refine ⟨X', w1, ?_, w3⟩
      rw [q10 ly hly] at w2
      by_cases eb : bit1 (U ly) (nI lx) = 0
      · rw [if_pos eb] at w2 ⊢
        exact w2
      · rw [if_neg eb] at w2 ⊢
        exact w2
    · rw [if_neg (fun q => ex q.symm), if_neg ex]
      obtain ⟨X', w1, w2, w3⟩ := st 6 0 0 hG.k6 (Or.inl ⟨rfl, rfl, rfl⟩)
      refine ⟨X', w1, ?_, w3⟩
      rw [q9 ly hly] at w2
      by_cases eb : bit1 (R ly) (nI lx) = 0
      · rw [if_pos eb] at w2 ⊢
        exact w2
      · rw [if_neg eb] at w2 ⊢
        exact w2
end CGO
