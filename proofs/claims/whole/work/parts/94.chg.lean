/-! setWall, allow, clear -/
theorem rng40 {v : Int32} (h1 : 1 ≤ v) (h2 : v ≤ 40) : ∃ j, 0 < j ∧ j ≤ 40 ∧ v = nI j := by
  obtain ⟨j, hj, rfl⟩ := nI_of2 (M := 40) (n := 40) rfl (fun q => Int32.lt_irrefl (Int32.lt_of_lt_of_le q (Int32.le_trans (by decide) h1))) h2
  refine ⟨j, Nat.pos_of_ne_zero (fun z => ?_), hj, rfl⟩
  rw [z] at h1
  exact absurd h1 (by decide)
theorem x_setBad {fu x : Nat} {X : Mem} {u v : Int32} (h : ¬ ((1 ≤ u ∧ u ≤ 40) ∧ (1 ≤ v ∧ v ≤ 40))) : fX11_setWall fu X x u v = some (.inl "java/lang/IllegalArgumentException") := by
  unfold fX11_setWall
  by_cases a : u < 1
  · rw [if_pos a]
  rw [if_neg a]
  by_cases b : 40 < u
  · rw [if_pos b]
  rw [if_neg b]
  by_cases c : v < 1
  · rw [if_pos c]
  rw [if_neg c]
  by_cases d : v ≤ 40
  · exact absurd ⟨⟨Int32.not_lt.mp a, Int32.not_lt.mp b⟩, Int32.not_lt.mp c, d⟩ h
  · rw [if_neg d]
theorem t_setWall {fu : Nat} (hfu : 5000 ≤ fu) : sem_setWall Rel fu := by
  intro x X S q0 q1 hR hF
  have hR0 := hR
  obtain ⟨A, ro, pa, ea, wa, K, T, V, N, n, np, G, ne, ew, eo, es, nw, wp, we, wc, wo, W, H, rfl, ⟨B, D, P, E, Wk, Wl, Hg⟩, ⟨sD, sP, sE, sW, sL, s18⟩, ⟨pD, pP, pE, pW, pL⟩⟩ := hR
  have hnw := pW.1
  have hx := B.k 0 11 0 (by decide)
  by_cases hok : (1 ≤ q0 ∧ q0 ≤ 40) ∧ (1 ≤ q1 ∧ q1 ≤ 40)
  · obtain ⟨W', hw1, hw2, rfl⟩ := rng40 hok.1.1 hok.1.2
    obtain ⟨H', hh1, hh2, rfl⟩ := rng40 hok.2.1 hok.2.2
    have pL' : WalP W' H' := ⟨hw1, hw2, hh1, hh2⟩
    have h5 := B.k 5 9 0 (by decide)
    -- the class
    have fm : Fm (fun b => b = A 5) X (wI (wI X 901 (A 5) (nI W')) 902 (A 5) (nI H')) := Fm.trans (P := fun b => b = A 5) (Fm.wI (Or.inl rfl)) (Fm.wI (Or.inl rfl))
    have f1 : FreshM (wI (wI X 901 (A 5) (nI W')) 902 (A 5) (nI H')) := hF.cg rfl rfl
    have rk : RfK X (wI (wI X 901 (A 5) (nI W')) 902 (A 5) (nI H')) := RfK.of rfl
    have Wl1 : WalX A W' H' (wI (wI X 901 (A 5) (nI W')) 902 (A 5) (nI H')) := ⟨by rw [mI_wI, if_neg (by omega), mI_wI, if_pos ⟨rfl, rfl⟩], by rw [mI_wI, if_pos ⟨rfl, rfl⟩]⟩
    have m1 : fX9_measure X (A 5) (nI W') (nI H') = some (wI (wI X 901 (A 5) (nI W')) 902 (A 5) (nI H')) := if_pos h5
    have hz : mZ (wI (wI X 901 (A 5) (nI W')) 902 (A 5) (nI H')) = mZ X := rfl
    have hk : mK (wI (wI X 901 (A 5) (nI W')) 902 (A 5) (nI H')) = mK X := rfl
    generalize wI (wI X 901 (A 5) (nI W')) 902 (A 5) (nI H') = X1 at fm f1 rk Wl1 m1 hz hk
    have hP : ∀ (L : List Nat), 5 ∉ L → ∀ a, ro a ∈ L → ¬ (a = A 5) := by
      intro L h1 a ha z
      rw [z, B.o 5 9 0 (by decide)] at ha
      exact h1 ha
    have id9 : ∀ a, a < mZ X → ro a = ro a := fun _ _ => rfl
    have B1 : BaseX A ro X1 := B.fm hF fm rk id9 (B.2.2.fm hF (B.k 4 0 0 (by decide)) fm id9 (hP [4] (by decide) _ (by rw [B.o 4 0 0 (by decide)]; decide)))
    obtain ⟨X', z1, k, R'⟩ := x_layR (fu := fu) (K := K) (T := T) (V := V) (N := N) (n := n) (by omega) f1 B1 (D.fm B hF fm id9 (hP _ (by decide))) (P.fm B hF fm id9 (hP _ (by decide))) (E.fm B hF fm id9 (hP _ (by decide))) (Wk.fm B hF fm id9 (hP _ (by decide))) Wl1 pP pE pW pL'
    have c1 := x_count4 (fu := fu) R'.1 R'.2.2.2.2.1 R'.2.2.2.2.2.2 pW nw 0 (fu - nw - 1) (by omega)
    rw [show fu - nw - 1 + nw + 1 = fu by omega] at c1
    have c1 : fX11_countHanging fu X' (A 0) = _ := c1
    -- the reference
    have sP1 : PrsS np G (uc (uc (uc S 0 0) 45 (nI W')) 46 (nI H')) := sP
    have sE1 : ExsS ne ew eo es (uc (uc (uc S 0 0) 45 (nI W')) 46 (nI H')) := sE
    have sW1 : WksS nw wp we wc (uc (uc (uc S 0 0) 45 (nI W')) 46 (nI H')) := sW
    have sD1 : DrfS K T V N n (uc (uc (uc S 0 0) 45 (nI W')) 46 (nI H')) := sD
    have sL1 : WalS W' H' (uc (uc (uc S 0 0) 45 (nI W')) 46 (nI H')) := ⟨rfl, rfl⟩
    have s181 : ar (uc (uc (uc S 0 0) 45 (nI W')) 46 (nI H')) 18 0 = 0 := s18
    have st : sc (uc (uc (uc S 0 0) 45 (nI W')) 46 (nI H')) 0 = 0 := rfl
    obtain ⟨S2, k1, k2, k3⟩ := s_hangs (fu := fu) hfu sP1 sE1 sW1 sL1 pP pE pW pL'
    have hs : sc S2 0 = 0 := by rw [k2.1]; exact st
    have lo := (lay_oG (ew := ew) (eo := eo) (es := es) pP pW pL').1
    have c2 := s_count53 (fu := fu) (sW1.sk k2.sk) pW k3 (fun w k hk => by have := lo w k hk; omega) nw 0 (fu - nw - 1) (by omega)
    rw [show fu - nw - 1 + nw + 1 = fu by omega] at c2
    have c2 : fX12_setWall_L53 fu fu S2 0 0 = _ := c2
    have hRel : Rel (A 0) X' S2 := ⟨A, ro, pa, ea, wa, K, T, V, N, n, np, G, ne, ew, eo, es, nw, wp, we, wc, wo, W', H', rfl, R', RelS.sk ⟨sD1, sP1, sE1, sW1, sL1, s181⟩ k2.sk, ⟨pD, pP, pE, pW, pL'⟩⟩
    have hx' : mK X' (A 0) = some (11, 0) := R'.1.k 0 11 0 (by decide)
    unfold fX11_setWall fX12_setWall fX12_setWall_L26
    rw [if_neg (Int32.not_lt.mpr hok.1.1), if_neg (Int32.not_lt.mpr hok.1.2), if_neg (Int32.not_lt.mpr hok.2.1), if_pos hok.2.2, if_pos hx, B.r 1104 0 5 (by decide), bi_some, if_pos h5, m1, bi_some, if_pos (B1.k 0 11 0 (by decide)), z1, bi_some, if_pos hx', c1, bi_some, q_isIn, q_isIn, if_pos hok.1, if_pos hok.2, bi_some, bi_some, if_neg n10, if_neg n10, s_hold0, bW_some, if_neg n10, k1, bi_some, c2]
    exact ⟨_, _, _, rfl, rfl, hs, rfl, hRel, by rw [k.2.2.2.2.1, hz]; exact Nat.le_refl _, fun a _ => by rw [k.1, hk]⟩
  · rw [x_setBad hok]
    have bad : fX12_setWall_L26 fu S q0 q1 1 = some (0, uc S 0 1) := by
      unfold fX12_setWall_L26
      rw [s_holdN (by decide), bW_some, if_pos rfl]
    refine ⟨_, 0, uc S 0 1, rfl, ?_, sem_ex (i := 0) (by decide) (by decide) rfl (hR0.sk SK.t)⟩
    unfold fX12_setWall fX12_setWall_L25
    rw [q_isIn, q_isIn, bi_some, bi_some, bad]
    by_cases e1 : 1 ≤ q0 ∧ q0 ≤ 40
    · rw [if_pos e1, if_neg n10, if_neg (fun z => hok ⟨e1, z⟩), if_pos rfl]
    · rw [if_neg e1, if_pos rfl]
theorem x_limits {X : Mem} {u v : Int32} : (((1 ≤ u ∧ u ≤ 30) ∧ (0 ≤ v ∧ v ≤ 600)) ∧ fX11_checkAllowance X u v = some (.inr ())) ∨ (¬ ((1 ≤ u ∧ u ≤ 30) ∧ (0 ≤ v ∧ v ≤ 600)) ∧ fX11_checkAllowance X u v = some (.inl "java/lang/IllegalArgumentException")) := by
  unfold fX11_checkAllowance
  by_cases a : u < 1
  · rw [if_pos a]
    exact Or.inr ⟨fun z => Int32.not_lt.mpr z.1.1 a, rfl⟩
  rw [if_neg a]
  by_cases b : 30 < u
  · rw [if_pos b]
    exact Or.inr ⟨fun z => Int32.not_lt.mpr z.1.2 b, rfl⟩
  rw [if_neg b]
  by_cases c : v < 0
  · rw [if_pos c]
    exact Or.inr ⟨fun z => Int32.not_lt.mpr z.2.1 c, rfl⟩
  rw [if_neg c]
  by_cases d : v ≤ 600
  · rw [if_pos d]
    exact Or.inl ⟨⟨⟨Int32.not_lt.mp a, Int32.not_lt.mp b⟩, Int32.not_lt.mp c, d⟩, rfl⟩
  · rw [if_neg d]
    exact Or.inr ⟨fun z => d z.2.2, rfl⟩
theorem s_limits {S : SM} {u v : Int32} : ∃ r, fX12_areLimits S u v = some r ∧ TF r ((1 ≤ u ∧ u ≤ 30) ∧ (0 ≤ v ∧ v ≤ 600)) := by
  unfold fX12_areLimits
  rw [q_isIn, q_isIn, bi_some, bi_some]
  by_cases e1 : 1 ≤ u ∧ u ≤ 30
  · rw [if_pos e1, if_neg n10]
    by_cases e2 : 0 ≤ v ∧ v ≤ 600
    · rw [if_pos e2, if_neg n10]
      exact ⟨1, rfl, Or.inl ⟨rfl, e1, e2⟩⟩
    · rw [if_neg e2, if_pos rfl]
      exact ⟨0, rfl, Or.inr ⟨rfl, fun z => e2 z.2⟩⟩
  · rw [if_neg e1, if_pos rfl]
    exact ⟨0, rfl, Or.inr ⟨rfl, fun z => e1 z.1⟩⟩
def upN {α : Type} (f : Nat → α) (i : Nat) (v : α) : Nat → α := fun j => if j = i then v else f j
theorem upN_s {α : Type} {f : Nat → α} {i : Nat} {v : α} : upN f i v i = v := if_pos rfl
theorem upN_o {α : Type} {f : Nat → α} {i j : Nat} {v : α} (h : j ≠ i) : upN f i v j = f j := if_neg h
theorem t_allow {fu : Nat} (hfu : 5000 ≤ fu) : sem_allow Rel fu := by
  intro x X S q0 q1 q2 hR hF
  have hR0 := hR
  obtain ⟨A, ro, pa, ea, wa, K, T, V, N, n, np, G, ne, ew, eo, es, nw, wp, we, wc, wo, W, H, rfl, ⟨B, D, P, E, Wk, Wl, Hg⟩, ⟨sD, sP, sE, sW, sL, s18⟩, ⟨pD, pP, pE, pW, pL⟩⟩ := hR
  have hnw := pW.1
  have hne := pE.1
  have hx := B.k 0 11 0 (by decide)
  obtain ⟨r, e1, e2⟩ := s_exer (v := q0) sE.1 hne
  obtain ⟨r', f1, f2⟩ := s_limits (S := S) (u := q1) (v := q2)
  have badr : ∀ v : Int32, ¬ v = 0 → fX12_allow_L26 fu S q0 q1 q2 v = some (0, uc S 0 v) := by
    intro v hv
    unfold fX12_allow_L26
    rw [s_holdN hv, bW_some, if_pos rfl]
  unfold fX11_allow fX12_allow
  rw [if_pos hx, e1, bi_some, f1, bi_some, badr 1 (by decide), badr 2 (by decide)]
  rcases x_exer B E hne q0 with ⟨e, he, rfl, ee⟩ | ⟨hn, ee⟩
  · have er : r = 1 := TF_un e2 (Or.inl ⟨rfl, e, he, rfl⟩)
    rw [ee, bE_r, er, if_neg n10]
    rcases x_limits (X := X) (u := q1) (v := q2) with ⟨hl, hc⟩ | ⟨hl, hc⟩
    · have er' : r' = 1 := TF_un f2 (Or.inl ⟨rfl, hl⟩)
      obtain ⟨a1, a2, a3, a4, a5, a6⟩ := E.2.2 e he
      have fm : Fm (fun b => b = ea e) X (wI (wI X 301 (ea e) q1) 302 (ea e) q2) := Fm.trans (P := fun b => b = ea e) (Fm.wI (Or.inl rfl)) (Fm.wI (Or.inl rfl))
      have g1 : FreshM (wI (wI X 301 (ea e) q1) 302 (ea e) q2) := hF.cg rfl rfl
      have rk : RfK X (wI (wI X 301 (ea e) q1) 302 (ea e) q2) := RfK.of rfl
      have m1 : fX3_allowAtMost X (ea e) q1 q2 = some (wI (wI X 301 (ea e) q1) 302 (ea e) q2) := if_pos a2
      have hz : mZ (wI (wI X 301 (ea e) q1) 302 (ea e) q2) = mZ X := rfl
      have hk : mK (wI (wI X 301 (ea e) q1) 302 (ea e) q2) = mK X := rfl
      have E1 : ExsX A ro pa ea ne ew (upN eo e q1) (upN es e q2) (wI (wI X 301 (ea e) q1) 302 (ea e) q2) := by
        refine ⟨?_, E.2.1, fun i hi => ?_⟩
        · rw [mI_wI, if_neg (by omega), mI_wI, if_neg (by omega)]
          exact E.1
        · obtain ⟨b1, b2, b3, b4, b5, b6⟩ := E.2.2 i hi
          refine ⟨b1, b2, b3, b4, ?_, ?_⟩
          · rw [mI_wI, if_neg (by omega), mI_wI]
            by_cases ei : i = e
            · rw [if_pos ⟨rfl, by rw [ei]⟩, ei, upN_s]
            · rw [if_neg (fun z => ei (E.2.1 _ _ hi he z.2)), upN_o ei, b5]
          · rw [mI_wI]
            by_cases ei : i = e
            · rw [if_pos ⟨rfl, by rw [ei]⟩, ei, upN_s]
            · rw [if_neg (fun z => ei (E.2.1 _ _ hi he z.2)), upN_o ei, mI_wI, if_neg (by omega), b6]
      generalize wI (wI X 301 (ea e) q1) 302 (ea e) q2 = X1 at fm g1 rk m1 hz hk E1
      have hP : ∀ (L : List Nat), 21 ∉ L → ∀ a, ro a ∈ L → ¬ (a = ea e) := by
        intro L h1 a ha z
        rw [z, a3] at ha
        exact h1 ha
      have id9 : ∀ a, a < mZ X → ro a = ro a := fun _ _ => rfl
      have B1 : BaseX A ro X1 := B.fm hF fm rk id9 (B.2.2.fm hF (B.k 4 0 0 (by decide)) fm id9 (hP [4] (by decide) _ (by rw [B.o 4 0 0 (by decide)]; decide)))
      obtain ⟨X', z1, k, R'⟩ := x_layR (fu := fu) (K := K) (T := T) (V := V) (N := N) (n := n) (by omega) g1 B1 (D.fm B hF fm id9 (hP _ (by decide))) (P.fm B hF fm id9 (hP _ (by decide))) E1 (Wk.fm B hF fm id9 (hP _ (by decide))) (Wl.fm B hF fm (hP _ (by decide))) pP pE pW pL
      have c1 := x_meet4 (fu := fu) (by omega) he R'.1 R'.2.2.1 R'.2.2.2.1 R'.2.2.2.2.1 pP pE pW nw 0 (fu - nw - 1) (by omega)
      rw [show fu - nw - 1 + nw + 1 = fu by omega] at c1
      have c1 : fX11_countMeeting fu X' (A 0) (some (ea e)) = _ := c1
      -- the reference
      have sP1 : PrsS np G (ua (ua (uc S 0 0) 24 e q1) 25 e q2) := sP
      have sW1 : WksS nw wp we wc (ua (ua (uc S 0 0) 24 e q1) 25 e q2) := sW
      have sD1 : DrfS K T V N n (ua (ua (uc S 0 0) 24 e q1) 25 e q2) := sD
      have sL1 : WalS W H (ua (ua (uc S 0 0) 24 e q1) 25 e q2) := sL
      have s181 : ar (ua (ua (uc S 0 0) 24 e q1) 25 e q2) 18 0 = 0 := s18
      have st : sc (ua (ua (uc S 0 0) 24 e q1) 25 e q2) 0 = 0 := rfl
      have sE1 : ExsS ne ew (upN eo e q1) (upN es e q2) (ua (ua (uc S 0 0) 24 e q1) 25 e q2) := by
        refine ⟨sE.1, fun i hi => ?_⟩
        obtain ⟨b1, b2, b3⟩ := sE.2 i hi
        refine ⟨?_, ?_, ?_⟩
        · rw [ar_ua, if_neg (by omega), ar_ua, if_neg (by omega), ar_uc]
          exact b1
        · rw [ar_ua, if_neg (by omega), ar_ua]
          by_cases ei : i = e
          · rw [if_pos ⟨rfl, ei⟩, ei, upN_s]
          · rw [if_neg (fun z => ei z.2), upN_o ei, ar_uc, b2]
        · rw [ar_ua]
          by_cases ei : i = e
          · rw [if_pos ⟨rfl, ei⟩, ei, upN_s]
          · rw [if_neg (fun z => ei z.2), upN_o ei, ar_ua, if_neg (by omega), ar_uc, b3]
      have c2 := s_meet54 (fu := fu) (by omega) he sP1 sE1 sW1 pP pE pW nw 0 (fu - nw - 1) (by omega)
      rw [show fu - nw - 1 + nw + 1 = fu by omega] at c2
      have c2 : fX12_allow_L54 fu fu (ua (ua (uc S 0 0) 24 e q1) 25 e q2) (nI e) 0 0 = _ := c2
      have hRel : Rel (A 0) X' (ua (ua (uc S 0 0) 24 e q1) 25 e q2) := ⟨A, ro, pa, ea, wa, K, T, V, N, n, np, G, ne, ew, upN eo e q1, upN es e q2, nw, wp, we, wc, wo, W, H, rfl, R', ⟨sD1, sP1, sE1, sW1, sL1, s181⟩, ⟨pD, pP, pE, pW, pL⟩⟩
      have hx' : mK X' (A 0) = some (11, 0) := R'.1.k 0 11 0 (by decide)
      unfold fX12_allow_L26
      rw [hc, bE_r, bi_some, if_pos a2, m1, bi_some, if_pos (B1.k 0 11 0 (by decide)), z1, bi_some, if_pos hx', c1, bi_some, er', if_neg n10, s_hold0, bW_some, if_neg n10, if_pos (inS_ok (by decide) rfl (by show e < 6; omega) (by decide)), if_pos (inS_ok (by decide) rfl (by show e < 6; omega) (by decide)), nI_clamp (by omega), c2]
      exact ⟨_, _, _, rfl, rfl, st, rfl, hRel, by rw [k.2.2.2.2.1, hz]; exact Nat.le_refl _, fun a _ => by rw [k.1, hk]⟩
    · have er' : r' = 0 := TF_un f2 (Or.inr ⟨rfl, hl⟩)
      rw [hc, bE_l, er', if_pos rfl]
      exact ⟨_, _, _, rfl, rfl, sem_ex (i := 1) (by decide) (by decide) rfl (hR0.sk SK.t)⟩
  · have er : r = 0 := TF_un e2 (Or.inr ⟨rfl, hn⟩)
    rw [ee, bE_l, er, if_pos rfl]
    exact ⟨_, _, _, rfl, rfl, sem_ex (i := 0) (by decide) (by decide) rfl (hR0.sk SK.t)⟩
theorem t_clear {fu : Nat} (hfu : 5000 ≤ fu) : sem_clear Rel fu := by
  intro x X S q0 q1 hq hR hF
  have hR0 := hR
  obtain ⟨A, ro, pa, ea, wa, K, T, V, N, n, np, G, ne, ew, eo, es, nw, wp, we, wc, wo, W, H, rfl, ⟨B, D, P, E, Wk, Wl, Hg⟩, ⟨sD, sP, sE, sW, sL, s18⟩, ⟨pD, pP, pE, pW, pL⟩⟩ := hR
  have hnw := pW.1
  have hx := B.k 0 11 0 (by decide)
  obtain ⟨r, e1, e2⟩ := s_work (v := q0) sW.1 hnw
  unfold fX11_clear fX12_clear fX12_clear_L14
  rw [if_pos hx, e1, bi_some]
  rcases x_work B Wk hnw q0 with ⟨w, hw, rfl, ee⟩ | ⟨hn, ee⟩
  · have er : r = 1 := TF_un e2 (Or.inl ⟨rfl, w, hw, rfl⟩)
    obtain ⟨w1, w2, w3, w4, w5, w6, w7⟩ := Wk.2.2 w hw
    have hwc := pW.2.2.1 w (by omega)
    have fm : Fm (fun b => b = wa w) X (wI X 1003 (wa w) q1) := Fm.wI (Or.inl rfl)
    have g1 : FreshM (wI X 1003 (wa w) q1) := hF.cg rfl rfl
    have rk : RfK X (wI X 1003 (wa w) q1) := RfK.of rfl
    have hz : mZ (wI X 1003 (wa w) q1) = mZ X := rfl
    have hk : mK (wI X 1003 (wa w) q1) = mK X := rfl
    have Wk1 : WksX A ro pa ea wa nw wp we (upN wc w q1) wo (wI X 1003 (wa w) q1) := by
      refine ⟨?_, Wk.2.1, fun i hi => ?_⟩
      · rw [mI_wI, if_neg (by omega)]
        exact Wk.1
      · obtain ⟨b1, b2, b3, b4, b5, b6, b7⟩ := Wk.2.2 i hi
        refine ⟨b1, b2, b3, b4, b5, ?_, ?_⟩
        · rw [mI_wI, if_neg (by omega)]
          exact b6
        · rw [mI_wI]
          by_cases ei : i = w
          · rw [if_pos ⟨rfl, by rw [ei]⟩, ei, upN_s]
          · rw [if_neg (fun z => ei (Wk.2.1 _ _ hi hw z.2)), upN_o ei, b7]
    generalize hX1 : wI X 1003 (wa w) q1 = X1 at fm g1 rk hz hk Wk1
    have hP : ∀ (L : List Nat), 20 ∉ L → ∀ a, ro a ∈ L → ¬ (a = wa w) := by
      intro L h1 a ha z
      rw [z, w3] at ha
      exact h1 ha
    have id9 : ∀ a, a < mZ X → ro a = ro a := fun _ _ => rfl
    have B1 : BaseX A ro X1 := B.fm hF fm rk id9 (B.2.2.fm hF (B.k 4 0 0 (by decide)) fm id9 (hP [4] (by decide) _ (by rw [B.o 4 0 0 (by decide)]; decide)))
    have pW' : WksP np ne nw G wp we (upN wc w q1) wo := by
      refine ⟨pW.1, pW.2.1, fun i hi => ?_, fun i h1 h2 => ?_⟩
      · by_cases ei : i = w
        · rw [ei, upN_s]; exact hq
        · rw [upN_o ei]; exact pW.2.2.1 i hi
      · rw [upN_o (by omega)]; exact pW.2.2.2 i h1 h2
    obtain ⟨X', z1, k, R'⟩ := x_layR (fu := fu) (K := K) (T := T) (V := V) (N := N) (n := n) (by omega) g1 B1 (D.fm B hF fm id9 (hP _ (by decide))) (P.fm B hF fm id9 (hP _ (by decide))) (E.fm B hF fm id9 (hP _ (by decide))) Wk1 (Wl.fm B hF fm (hP _ (by decide))) pP pE pW' pL
    have sP1 : PrsS np G (ua (uc S 0 0) 28 w q1) := sP
    have sE1 : ExsS ne ew eo es (ua (uc S 0 0) 28 w q1) := sE
    have sD1 : DrfS K T V N n (ua (uc S 0 0) 28 w q1) := sD
    have sL1 : WalS W H (ua (uc S 0 0) 28 w q1) := sL
    have s181 : ar (ua (uc S 0 0) 28 w q1) 18 0 = 0 := s18
    have st : sc (ua (uc S 0 0) 28 w q1) 0 = 0 := rfl
    have sW1 : WksS nw wp we (upN wc w q1) (ua (uc S 0 0) 28 w q1) := by
      refine ⟨sW.1, fun i hi => ?_, fun i hi => ?_⟩
      · rw [ar_ua, if_neg (by omega), ar_ua, if_neg (by omega), ar_uc, ar_uc]
        exact sW.2.1 i hi
      · rw [ar_ua]
        by_cases ei : i = w
        · rw [if_pos ⟨rfl, ei⟩, ei, upN_s]
        · rw [if_neg (fun z => ei z.2), upN_o ei, ar_uc]
          exact sW.2.2 i hi
    have hRel : Rel (A 0) X' (ua (uc S 0 0) 28 w q1) := ⟨A, ro, pa, ea, wa, K, T, V, N, n, np, G, ne, ew, eo, es, nw, wp, we, upN wc w q1, wo, W, H, rfl, R', ⟨sD1, sP1, sE1, sW1, sL1, s181⟩, ⟨pD, pP, pE, pW', pL⟩⟩
    have i28 : inS 1 28 (nI w) = true := inS_ok (by decide) rfl (by show w < 24; omega) (by decide)
    rw [ee, bE_r, bi_some, if_pos w2, if_pos hq, hX1, z1, bi_some, w7, if_pos hwc, er, if_neg n10, s_hold0, bW_some, if_neg n10, if_pos i28, if_pos i28, if_pos hq, nI_clamp (by omega), ar_uc, sW.2.2 w (by omega), if_pos hwc]
    exact ⟨_, _, _, rfl, rfl, st, rfl, hRel, by rw [k.2.2.2.2.1, hz]; exact Nat.le_refl _, fun a _ => by rw [k.1, hk]⟩
  · have er : r = 0 := TF_un e2 (Or.inr ⟨rfl, hn⟩)
    rw [ee, bE_l, er, if_pos rfl, s_holdN (by decide), bW_some, if_pos rfl]
    exact ⟨_, _, _, rfl, rfl, sem_ex (i := 0) (by decide) (by decide) rfl (hR0.sk SK.t)⟩
