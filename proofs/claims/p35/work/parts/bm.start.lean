/-! WHAT THE LAW's ENTRY KNOWS, as the walk wants it -/
theorem inst_ok : ∀ c, c < 12 → Cond.instantiable (clC c) (fN c) ∈ gd := by decide +kernel
theorem ar_pr : ∀ t, t < 3 → Cond.arrayClass (arT t) ∈ gd := by decide +kernel
theorem ar_ob : ∀ t, 3 ≤ t → t < 7 → ∃ C, arT t = .object C ∧ Cond.arrayOver (.object C) ∈ lw_tbl := by
  intro t h1 h2
  match t, h1, h2 with
  | 3, _, _ => exact ⟨_, rfl, by decide +kernel⟩
  | 4, _, _ => exact ⟨_, rfl, by decide +kernel⟩
  | 5, _, _ => exact ⟨_, rfl, by decide +kernel⟩
  | 6, _, _ => exact ⟨_, rfl, by decide +kernel⟩
theorem nest_in : ∀ w ∈ nestW, w ∈ lw_tbl := by decide +kernel
theorem nestW_t : ∀ w ∈ nestW, w.onTables = true := by decide +kernel
theorem cast_in : ∀ w ∈ castW, w ∈ lw_tbl := by decide +kernel
theorem decl_in : ∀ w ∈ declW, w ∈ lw_tbl := by decide +kernel
theorem str_in : ∀ q ∈ strW, Cond.stringRef RX11 q.1 q.2 ∈ lw_tbl := by decide +kernel
theorem str_ex : ∀ q ∈ strW, Cond.exactly (.string RX11 q.1) "java/lang/String" ∈ flatC (Jvm.Cond.and given_1 narrow_1) := by decide +kernel
theorem start_AK {s : State} {b : Nat} (hts : ∀ w ∈ lw_tbl, w.before #[Value.ref b] s = true) (hg : (Jvm.Cond.and given_1 narrow_1).before #[Value.ref b] s = true) : ∃ D : DD, AK D s := by
  have hs := flat_of_before _ hg
  have hgd : ∀ w ∈ gd, w.before #[Value.ref b] s = true := fun w hw => hts w (List.mem_filter.mp hw).1
  have hC : ∀ c, ∃ (cC : ClassId) (iS : Nat → Nat), c < 12 → u_Kn s (clC c) (clT c) (fN c) cC iS := by
    intro c
    by_cases hc : c < 12
    · obtain ⟨cC, iS, h⟩ := u_known (C := clC c) (T := clT c) (N := fN c) (n := fN c) hgd (clsOK c hc).2.1 (hgd _ (inst_ok c hc))
      exact ⟨cC, iS, fun _ => h⟩
    · exact ⟨0, fun _ => 0, fun h => absurd h hc⟩
  have hA : ∀ t, ∃ cA : ClassId, t < 7 → ArrOfT s cA (arT t) ∧ va_RA s cA (arT t) := by
    intro t
    by_cases ht : t < 3
    · obtain ⟨c, k, comp, h1, h2, h3⟩ := Cond.arrayClass_spec (hgd _ (ar_pr t ht))
      refine ⟨c, fun _ => ⟨fun n z => ⟨fun k h => (by cases h), k, h2, comp, h3⟩, ?_⟩⟩
      match t, ht with
      | 0, _ => exact h1
      | 1, _ => exact h1
      | 2, _ => exact h1
    · by_cases ht7 : t < 7
      · obtain ⟨C, e, h⟩ := ar_ob t (by omega) ht7
        obtain ⟨comp, c, k, h1, h2, h3, h4, h5⟩ := Cond.arrayOver_spec (hts _ h)
        rw [e]
        exact ⟨c, fun _ => ⟨fun n z => ⟨fun k h => (by cases h), k, h3, comp, h4⟩, k, comp, h3, h4, h1, h5⟩⟩
      · exact ⟨0, fun h => absurd h ht7⟩
  refine ⟨(fun c => Classical.choose (hC c), fun c => Classical.choose (Classical.choose_spec (hC c)), fun t => Classical.choose (hA t)), ⟨fun c q hq => ?_, fun k q hq => ?_⟩, fun w hw a => ?_, fun w hw => ?_, fun q hq => ?_, fun w hw => ?_, fun w hw => ?_, fun t h1 h2 => ?_⟩
  · have hc : c < 12 := (List.getElem?_eq_some_iff.mp hq).1
    have e := (clsOK c hc).1
    rw [hq] at e
    cases e
    exact Classical.choose_spec (Classical.choose_spec (hC c)) hc
  · unfold tysOf at hq
    rw [List.getElem?_map] at hq
    by_cases hk : k < 7
    · rw [List.getElem?_range hk] at hq
      cases hq
      exact Classical.choose_spec (hA k) hk
    · rw [List.getElem?_eq_none (by rw [List.length_range]; omega)] at hq
      cases hq
  · exact word_at (State.WarmedH.refl s) (good_of_word (List.mem_filter.mp hw).2) (hgd w hw)
  · exact va_Nw.of (nestW_t w hw) (hts w (nest_in w hw))
  · obtain ⟨a, c, cell, k, h1, -⟩ := Cond.exactly_spec (hs _ (str_ex q hq))
    refine ⟨a, vk_R.of (A := #[Value.ref b]) (hts _ (str_in q hq)) h1⟩
  · exact va_Nw.of (castW_t w hw) (hts w (cast_in w hw))
  · exact va_Nw.of (declW_t w hw) (hts w (decl_in w hw))
  · obtain ⟨C, e, h⟩ := ar_ob t h1 h2
    exact ⟨C, e, va_AO.of (hts _ h)⟩
theorem start_zU {s : State} {b : Nat} {A : Nat → Prop} (hts : ∀ w ∈ lw_tbl, w.before #[Value.ref b] s = true) (hg : (Jvm.Cond.and given_1 narrow_1).before #[Value.ref b] s = true) (hA : ∀ a : Nat, a < s.heap.size → ¬ A a) : zU A s s.heap := by
  have hs := flat_of_before _ hg
  exact ⟨vx_Zqof (hts _ (by decide +kernel)) (hts _ (by decide +kernel)) (hs _ (by decide +kernel)) hA, vx_Zqof (hts _ (by decide +kernel)) (hts _ (by decide +kernel)) (hs _ (by decide +kernel)) hA⟩
theorem flags_off {l : Launch} (h : l.flags = flags0) : l.stackTraces = false := by
  unfold Launch.stackTraces
  rw [h]
  decide +kernel
/-- the walk from the entry -/
theorem whole_start {p : Program} {e : Env} {s : State} {m : MethodId} {below : List Frame} {meth : Method} {c : Code} (l : Launch) (hflags : l.flags = flags0) {b L : Nat} {xs : Nat → Int32} (hL : L ≤ 260) (C0 : lw_At p s m meth c b L xs) (hnm : meth.name = "law") : W p l e room_1 s m #[Value.ref b] below meth c s.heap [] 0 0 (lw_Z below #[Value.ref b] s) (entryFrame m ([Value.ref b] : List Value).toArray 10) := by
  obtain ⟨hx, hb, hr, hml, hown, hts, hX, hbl, hlocks, hgv⟩ := id C0
  obtain ⟨D, hAK⟩ := start_AK hts hgv
  have hs := flat_of_before _ hgv
  have hst := flags_off hflags
  have hz : zU (fun q : Nat => s.heap.size ≤ q) s s.heap := start_zU hts hgv (fun a h q => Nat.not_le.mpr h q)
  have B : Amb D (A0L (p, l, e, room_1, s, m, #[Value.ref b], below, meth, c)) (p, l, e, room_1, s, m, #[Value.ref b], below, meth, c) RL "law" cL_law 10 (some .boolean) room_1 := ⟨hx, hb, hml, hown, hAK, hlocks, hr, rfl, fun q h => h, hst, hz, hnm⟩
  have hend : ∀ X cs sl L, cs ≤ 600104 → sl ≤ 7301314 → Gd D (A0L (p, l, e, room_1, s, m, #[Value.ref b], below, meth, c)) (p, l, e, room_1, s, m, #[Value.ref b], below, meth, c) (lw_Z below #[Value.ref b] s) X cs sl 282 L [vI 1] := by
    intro X cs sl L h1 h2 H locs ls hR hA hS hl
    refine W.widen h1 h2 ?_
    intro T hT X9
    exact lw_ret (p := p) (l := l) (e := e) (s := s) (m := m) (below := below) (meth := meth) (c := c) (b := b) (H := H) (ls := ls) hx hb hr hlocks dL_law_282 T hT ⟨X9.admits, X9.cas, X9.clock, X9.frames, X9.room, X9.hears, X9.method, X9.code, X9.here, X9.tail, X9.warmed, X9.limits, X9.bytes, State.sameButNew.drop_fresh (L := []) (J := locs) X9.same (fun x hx => hS.2.2 x hx)⟩
  have k := law_entry (z := s.heap.size) B ⟨hX, hbl⟩ hL hend
  have hl := lv_entry (tS [vA (some b)]) (n := 10) (Nat.le_of_ble_eq_true rfl)
  rw [← tA_args] at hl
  have hRE : RepM D (E0 s.heap.size) s.heap := ⟨fun a c n h => (nomatch (show none = some (c, n) from h)), rfl⟩
  have k9 := k s.heap [] _ hRE (fun a h => absurd rfl h) va_S.rf (by rw [hml]; exact hl)
  rw [lg_entry_eq]
  exact k9
