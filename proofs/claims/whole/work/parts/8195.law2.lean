
set_option maxHeartbeats 4000000 in
set_option maxRecDepth 100000 in
/-- THE LAW, out of what the small machine says of its loop -/
theorem law_open (HT : ∀ (L : Nat) (xs : Nat → Int32), L ≤ 3072 → qT 40 330 18 [qa 91 0 0, qo 11 0, qo 12 0, qi 0] [] (h0 L xs) (fun v _ => v = some (qi 1))) {p : Program} {e : Env} {s : State} {m : MethodId} {below : List Frame} {meth : Method} {c : Code} (l : Launch) {b L : Nat} {xs : Nat → Int32} (hL : L ≤ 3072) (C0 : lw_At p s m meth c b L xs) : W p l e room_1 s m #[Value.ref b] below meth c s.heap [] 0 0 (lw_Z below #[Value.ref b] s) (entryFrame m ([Value.ref b] : List Value).toArray 4) := by
  obtain ⟨hx, hb, hr, hml, hown, hts, hX, hbl, hlocks, hgv⟩ := C0
  have htg : ∀ w ∈ lw_good, w.before #[Value.ref b] s = true := fun w hw => hts w (List.mem_filter.mp hw).1
  have hcl : ∀ k : Nat, ∃ (cC : ClassId) (iS : Nat → Nat), ∀ q : vw_C, vwCl[k]? = some q → u_Kn s q.1 q.2.1 q.2.2 cC iS := by
    intro k
    cases hq : vwCl[k]? with
    | none => exact ⟨0, fun _ => 0, fun q h => by cases h⟩
    | some q =>
      obtain ⟨C, T, N⟩ := q
      obtain ⟨cC, iS, h⟩ := u_known (C := C) (T := T) (N := N) (n := N) htg (qC_cls hq).1 (htg _ (inst_all hq))
      exact ⟨cC, iS, fun q h' => by cases h'; exact h⟩
  obtain ⟨dC, dI, hKc⟩ : ∃ (dC : Nat → ClassId) (dI : Nat → Nat → Nat), ∀ (k : Nat) (q : vw_C), vwCl[k]? = some q → u_Kn s q.1 q.2.1 q.2.2 (dC k) (dI k) := ⟨fun k => (hcl k).choose, fun k => (hcl k).choose_spec.choose, fun k => (hcl k).choose_spec.choose_spec⟩
  obtain ⟨a0, k0, p0, f0, g0, e0⟩ := Cond.arrayClass_spec (htg _ lkarr_i)
  obtain ⟨a1, k1, p1, f1, g1, e1⟩ := Cond.arrayClass_spec (htg _ lkarr_l)
  obtain ⟨a2, k2, p2, f2, g2, e2⟩ := Cond.arrayClass_spec (htg _ lkarr_b)
  obtain ⟨p3, a3, k3, f3, i3, g3, e3, n3⟩ := Cond.arrayOver_spec (hts _ ao10)
  obtain ⟨p4, a4, k4, f4, i4, g4, e4, n4⟩ := Cond.arrayOver_spec (hts _ ao7)
  obtain ⟨p5, a5, k5, f5, i5, g5, e5, n5⟩ := Cond.arrayOver_spec (hts _ ao1)
  obtain ⟨dA, d0, d1, d2, d3, d4, d5⟩ : ∃ dA : Nat → ClassId, dA 0 = a0 ∧ dA 1 = a1 ∧ dA 2 = a2 ∧ dA 3 = a3 ∧ dA 4 = a4 ∧ dA 5 = a5 := ⟨fun t => match t with | 0 => a0 | 1 => a1 | 2 => a2 | 3 => a3 | 4 => a4 | _ => a5, rfl, rfl, rfl, rfl, rfl, rfl⟩
  have hK : va_K (dC, dI) vwCl (qtys dA) s := by
    refine ⟨hKc, fun k q hq => ?_⟩
    match k, hq with
    | 0, hq => cases hq; exact ⟨fun n z => ⟨fun k h => (by cases h), k0, (by show s.vm.classes[dA 0]? = _; rw [d0]; exact g0), p0, e0⟩, (by show s.vm.findClass _ = some (dA 0); rw [d0]; exact f0)⟩
    | 1, hq => cases hq; exact ⟨fun n z => ⟨fun k h => (by cases h), k1, (by show s.vm.classes[dA 1]? = _; rw [d1]; exact g1), p1, e1⟩, (by show s.vm.findClass _ = some (dA 1); rw [d1]; exact f1)⟩
    | 2, hq => cases hq; exact ⟨fun n z => ⟨fun k h => (by cases h), k2, (by show s.vm.classes[dA 2]? = _; rw [d2]; exact g2), p2, e2⟩, (by show s.vm.findClass _ = some (dA 2); rw [d2]; exact f2)⟩
    | 3, hq => cases hq; exact ⟨fun n z => ⟨fun k h => (by cases h), k3, (by show s.vm.classes[dA 3]? = _; rw [d3]; exact g3), p3, e3⟩, k3, p3, (by rw [d3]; exact g3), e3, f3, (by rw [d3]; exact n3)⟩
    | 4, hq => cases hq; exact ⟨fun n z => ⟨fun k h => (by cases h), k4, (by show s.vm.classes[dA 4]? = _; rw [d4]; exact g4), p4, e4⟩, k4, p4, (by rw [d4]; exact g4), e4, f4, (by rw [d4]; exact n4)⟩
    | 5, hq => cases hq; exact ⟨fun n z => ⟨fun k h => (by cases h), k5, (by show s.vm.classes[dA 5]? = _; rw [d5]; exact g5), p5, e5⟩, k5, p5, (by rw [d5]; exact g5), e5, f5, (by rw [d5]; exact n5)⟩
    | n + 6, hq => simp [qtys] at hq
  have hN : cN s := ⟨fun w hw => by
    have h1 := hts _ (cnest_in _ hw)
    obtain ⟨a, i, x, ho, rfl⟩ := cnest_is w hw
    exact va_Nw.of rfl h1, va_AO.of (hts _ ao10), va_AO.of (hts _ ao7), va_AO.of (hts _ ao1)⟩
  have hs := flat_of_before _ hgv
  have harr : (Cond.arrayOf (Term.static "QuarrelKeys" "WORDS" "[J") .long).before #[Value.ref b] s = true := hs _ (by decide +kernel)
  have hlen : (Cond.eq (.length (Term.static "QuarrelKeys" "WORDS" "[J")) (.int 19)).before #[Value.ref b] s = true := hs _ (by decide +kernel)
  have hel : ∀ j : Nat, j < 19 → (Term.elem (Term.static "QuarrelKeys" "WORDS" "[J") (.int (Int32.ofNat j))).eval #[Value.ref b] s none [] s = some ((fun j => Value.long (Int64.ofInt (qWORDS j))) j) := by
    intro j hj
    match j, hj with
    | 0, _ =>
      have h1 := va_eqtl (hs (Cond.eq (.elem (Term.static "QuarrelKeys" "WORDS" "[J") (.int 0)) (.long 1868850291)) (by decide +kernel))
      exact h1.trans (congrArg (fun z => some (Value.long z)) (by decide : (1868850291 : Int64) = Int64.ofInt (qWORDS 0)))
    | 1, _ =>
      have h1 := va_eqtl (hs (Cond.eq (.elem (Term.static "QuarrelKeys" "WORDS" "[J") (.int 1)) (.long 1668247404)) (by decide +kernel))
      exact h1.trans (congrArg (fun z => some (Value.long z)) (by decide : (1668247404 : Int64) = Int64.ofInt (qWORDS 1)))
    | 2, _ =>
      have h1 := va_eqtl (hs (Cond.eq (.elem (Term.static "QuarrelKeys" "WORDS" "[J") (.int 2)) (.long 123581014175598)) (by decide +kernel))
      exact h1.trans (congrArg (fun z => some (Value.long z)) (by decide : (123581014175598 : Int64) = Int64.ofInt (qWORDS 2)))
    | 3, _ =>
      have h1 := va_eqtl (hs (Cond.eq (.elem (Term.static "QuarrelKeys" "WORDS" "[J") (.int 3)) (.long 127978976601458)) (by decide +kernel))
      exact h1.trans (congrArg (fun z => some (Value.long z)) (by decide : (127978976601458 : Int64) = Int64.ofInt (qWORDS 3)))
    | 4, _ =>
      have h1 := va_eqtl (hs (Cond.eq (.elem (Term.static "QuarrelKeys" "WORDS" "[J") (.int 4)) (.long 495873780082)) (by decide +kernel))
      exact h1.trans (congrArg (fun z => some (Value.long z)) (by decide : (495873780082 : Int64) = Int64.ofInt (qWORDS 4)))
    | 5, _ =>
      have h1 := va_eqtl (hs (Cond.eq (.elem (Term.static "QuarrelKeys" "WORDS" "[J") (.int 5)) (.long 113741293447013)) (by decide +kernel))
      exact h1.trans (congrArg (fun z => some (Value.long z)) (by decide : (113741293447013 : Int64) = Int64.ofInt (qWORDS 5)))
    | 6, _ =>
      have h1 := va_eqtl (hs (Cond.eq (.elem (Term.static "QuarrelKeys" "WORDS" "[J") (.int 6)) (.long 1818848101)) (by decide +kernel))
      exact h1.trans (congrArg (fun z => some (Value.long z)) (by decide : (1818848101 : Int64) = Int64.ofInt (qWORDS 6)))
    | 7, _ =>
      have h1 := va_eqtl (hs (Cond.eq (.elem (Term.static "QuarrelKeys" "WORDS" "[J") (.int 7)) (.long 1937203568)) (by decide +kernel))
      exact h1.trans (congrArg (fun z => some (Value.long z)) (by decide : (1937203568 : Int64) = Int64.ofInt (qWORDS 7)))
    | 8, _ =>
      have h1 := va_eqtl (hs (Cond.eq (.elem (Term.static "QuarrelKeys" "WORDS" "[J") (.int 8)) (.long 31935733760681324)) (by decide +kernel))
      exact h1.trans (congrArg (fun z => some (Value.long z)) (by decide : (31935733760681324 : Int64) = Int64.ofInt (qWORDS 8)))
    | 9, _ =>
      have h1 := va_eqtl (hs (Cond.eq (.elem (Term.static "QuarrelKeys" "WORDS" "[J") (.int 9)) (.long 1835101029)) (by decide +kernel))
      exact h1.trans (congrArg (fun z => some (Value.long z)) (by decide : (1835101029 : Int64) = Int64.ofInt (qWORDS 9)))
    | 10, _ =>
      have h1 := va_eqtl (hs (Cond.eq (.elem (Term.static "QuarrelKeys" "WORDS" "[J") (.int 10)) (.long 474214787188)) (by decide +kernel))
      exact h1.trans (congrArg (fun z => some (Value.long z)) (by decide : (474214787188 : Int64) = Int64.ofInt (qWORDS 10)))
    | 11, _ =>
      have h1 := va_eqtl (hs (Cond.eq (.elem (Term.static "QuarrelKeys" "WORDS" "[J") (.int 11)) (.long 1667329133)) (by decide +kernel))
      exact h1.trans (congrArg (fun z => some (Value.long z)) (by decide : (1667329133 : Int64) = Int64.ofInt (qWORDS 11)))
    | 12, _ =>
      have h1 := va_eqtl (hs (Cond.eq (.elem (Term.static "QuarrelKeys" "WORDS" "[J") (.int 12)) (.long 6385273)) (by decide +kernel))
      exact h1.trans (congrArg (fun z => some (Value.long z)) (by decide : (6385273 : Int64) = Int64.ofInt (qWORDS 12)))
    | 13, _ =>
      have h1 := va_eqtl (hs (Cond.eq (.elem (Term.static "QuarrelKeys" "WORDS" "[J") (.int 13)) (.long 2003330414)) (by decide +kernel))
      exact h1.trans (congrArg (fun z => some (Value.long z)) (by decide : (2003330414 : Int64) = Int64.ofInt (qWORDS 13)))
    | 14, _ =>
      have h1 := va_eqtl (hs (Cond.eq (.elem (Term.static "QuarrelKeys" "WORDS" "[J") (.int 14)) (.long 1752132965)) (by decide +kernel))
      exact h1.trans (congrArg (fun z => some (Value.long z)) (by decide : (1752132965 : Int64) = Int64.ofInt (qWORDS 14)))
    | 15, _ =>
      have h1 := va_eqtl (hs (Cond.eq (.elem (Term.static "QuarrelKeys" "WORDS" "[J") (.int 15)) (.long 465625834867)) (by decide +kernel))
      exact h1.trans (congrArg (fun z => some (Value.long z)) (by decide : (465625834867 : Int64) = Int64.ofInt (qWORDS 15)))
    | 16, _ =>
      have h1 := va_eqtl (hs (Cond.eq (.elem (Term.static "QuarrelKeys" "WORDS" "[J") (.int 16)) (.long 1819242352)) (by decide +kernel))
      exact h1.trans (congrArg (fun z => some (Value.long z)) (by decide : (1819242352 : Int64) = Int64.ofInt (qWORDS 16)))
    | 17, _ =>
      have h1 := va_eqtl (hs (Cond.eq (.elem (Term.static "QuarrelKeys" "WORDS" "[J") (.int 17)) (.long 6647396)) (by decide +kernel))
      exact h1.trans (congrArg (fun z => some (Value.long z)) (by decide : (6647396 : Int64) = Int64.ofInt (qWORDS 17)))
    | 18, _ =>
      have h1 := va_eqtl (hs (Cond.eq (.elem (Term.static "QuarrelKeys" "WORDS" "[J") (.int 18)) (.long 1937010544)) (by decide +kernel))
      exact h1.trans (congrArg (fun z => some (Value.long z)) (by decide : (1937010544 : Int64) = Int64.ofInt (qWORDS 18)))
    | n + 19, hj => exact absurd hj (by omega)
  obtain ⟨aW, hev, hT⟩ := va_Tof (N := 19) (f := fun j => Value.long (Int64.ofInt (qWORDS j))) (A := fun q => s.heap.size ≤ q) (by decide) harr (va_eqt hlen) hel (fun a ha => Nat.not_le.mpr ha)
  have hZ : va_Z "QuarrelKeys" "WORDS" "[J" (.ref aW) (fun q => s.heap.size ≤ q) s s.heap := va_Zref (hts _ lkws) (htg _ lkqi) hev (fun a ha => Nat.not_le.mpr ha)
  have hO : qRO (adrL s.heap.size aW b) (fun q => s.heap.size ≤ q) L xs s s.heap := by
    obtain ⟨cell, t1, t2, t3, t4, t5, t6, t7⟩ := hT
    exact ⟨hX, hbl, Nat.not_le.mpr hbl, hZ, ⟨cell, t1, t2, t3, ⟨t4, t5⟩, t6⟩, t7, va_Nw.of rfl (hts _ lkwn), by omega⟩
  have hl := lv_entry ([.ref b]) (n := 4) (Nat.le_of_ble_eq_true rfl)
  rw [lg_entry_eq]
  have F : cFr dA (dC, dI) p s m #[Value.ref b] meth c 14 room_1 := ⟨hx, hb, hml, hown, htg, hK, hN, fun h => absurd h (by decide), by decide, by decide⟩
  have K : cZ s.heap.size dA (dC, dI) p l e room_1 s m #[Value.ref b] below meth c (lw_Z below #[Value.ref b] s) 14 0 0 [(0, Value.ref b)] (0, [cn, cn, cn, cn], [], []) := by
    refine (cgo_sound (xl := [(0, Value.ref b)]) (fun q hq => by rw [List.mem_singleton.mp hq]; exact ⟨rfl, fun h => by cases h⟩) khall F (d := 4) ⟨by decide, by decide⟩ (c_met l khall 4) (stop := 18) 100 (0, [cn, cn, cn, cn], [], []) ⟨Nat.zero_le _, Nat.zero_le _⟩).1 (18, [cn, cr 0, cr 111, ci 0], [], cw4) cres_is ⟨cw4_room.1, cw4_room.2⟩ ?_
    intro lsr H locs _ _ hsz hl2 hP hS
    dsimp only at hsz hl2 hP
    have FM : qFr (adrL s.heap.size aW b) dA (fun q => s.heap.size ≤ q) (dC, dI) L xs p s m #[Value.ref b] c 330 room_1 := ⟨hx, hb, hml, hown, htg, hK, hO, law_D, by decide, by decide⟩
    refine z_T (k0 := cw4.length) (n0 := cslots cw4) (qhall 330) FM (d := 39) cw4_room ⟨by decide, by decide⟩ (q_met l law_D qhall 39) ?_ (HT L xs hL) lsr H locs (h0_ok hL) h0_ro (fun v hv => by cases hv) ?_ rfl (hl2.mono ?_) (law_P hP) hS
    · refine ⟨?_, ?_, ?_⟩
      · intro x h1 H1 locs1 pc lsr1 hR _ _ _ _ hS1 hd _
        have hx1 : x = 1 := by
          have := Option.some.inj hR
          injection this
        subst hx1
        refine va_forget (fun q hq => hS1.2.2 q hq) ?_
        refine W.widen (k := 600000) (n := 7302250) cw4_room.1 cw4_room.2 ?_
        exact lw_ret hx hb hr hlocks hd
      · intro x h1 H1 locs1 pc lsr1 hR
        have := Option.some.inj hR
        cases this
      · intro h1 H1 locs1 pc lsr1 hR
        cases hR
    · intro v hv
      simp only [List.mem_cons, List.not_mem_nil, or_false] at hv
      rcases hv with rfl | rfl | rfl | rfl
      · exact Or.inr (Or.inr (Or.inr rfl))
      · exact Or.inr (show (11, 0, 0) ∈ qids from List.elem_iff.mp (by decide +kernel))
      · exact Or.inr (show (12, 0, 0) ∈ qids from List.elem_iff.mp (by decide +kernel))
      · exact Or.inr (show qR 0 by unfold qR; decide)
    · rintro ⟨k, u⟩ hq
      obtain ⟨v, h1, h2, rfl⟩ := qlv_mem.mp hq
      match k, h1 with
      | 0, h1 => cases h1; exact List.mem_cons_self
      | 1, h1 => cases h1; exact List.mem_cons_of_mem _ (clv_mem.mpr (Or.inr ⟨0, rfl, rfl⟩))
      | 2, h1 => cases h1; exact List.mem_cons_of_mem _ (clv_mem.mpr (Or.inr ⟨111, rfl, rfl⟩))
      | 3, h1 => cases h1; exact List.mem_cons_of_mem _ (clv_mem.mpr (Or.inl ⟨0, rfl, rfl⟩))
      | n + 4, h1 => simp at h1
  exact K _ s.heap [] (Nat.zero_le _) (Nat.zero_le _) rfl (hl.mono (by
    intro q hq
    rcases List.mem_append.mp hq with h | h
    · exact h
    · exfalso
      obtain ⟨k, u⟩ := q
      rcases clv_mem.mp h with ⟨x, h1, _⟩ | ⟨x, h1, _⟩
      · match k, h1 with
        | 0, h1 => cases h1
        | 1, h1 => cases h1
        | 2, h1 => cases h1
        | 3, h1 => cases h1
        | n + 4, h1 => simp at h1
      · match k, h1 with
        | 0, h1 => cases h1
        | 1, h1 => cases h1
        | 2, h1 => cases h1
        | 3, h1 => cases h1
        | n + 4, h1 => simp at h1)) (fun k q h => by simp [cws] at h) va_S.rf
