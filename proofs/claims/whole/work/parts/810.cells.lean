/-! cells under a change of the small heap -/
theorem qup_ne {h : qH} {c i j k : Nat} {x : Int} {c' i' j' k' : Nat} (hn : ¬ (j' = j ∧ c' = c ∧ k' = k ∧ i' = i)) : qup h c i j k x c' i' j' k' = h c' i' j' k' := if_neg hn
theorem qup_eq {h : qH} {c i j k : Nat} {x : Int} : qup h c i j k x c i j k = x := if_pos ⟨rfl, rfl, rfl, rfl⟩
theorem qfv_congr {adr : qA} {h h' : qH} {c i j : Nat} (e : qfk c j ≠ 2 → h' c i j 0 = h c i j 0) : qfv adr h' c i j = qfv adr h c i j := by
  unfold qfv
  split
  · rename_i hk; rw [e (by rw [hk]; decide)]
  · rfl
  · rfl
  · rename_i h1 h2 h3
    rw [e h2]
theorem qct_congr {adr : qA} {h h' : qH} {c i j : Nat} (e : ∀ k, h' c i j k = h c i j k) : qct adr h' c i j = qct adr h c i j := by
  have : (fun k => h' c i j k) = fun k => h c i j k := funext e
  unfold qct
  simp only [e]
theorem qce_congr {adr : qA} {dA : Nat → ClassId} {h h' : qH} {id : Nat × Nat × Nat} (h0 : id.2.2 = 0 → ∀ j, qfk id.1 j ≠ 2 → h' id.1 id.2.1 j 0 = h id.1 id.2.1 j 0) (h1 : ∀ j, id.2.2 = j + 1 → ∀ k, h' id.1 id.2.1 j k = h id.1 id.2.1 j k) : qce adr dA h' id = qce adr dA h id := by
  obtain ⟨c, i, n⟩ := id
  cases n with
  | zero =>
    show Sum.inr (c, (List.range (qnf c)).map (qfv adr h' c i)) = Sum.inr (c, (List.range (qnf c)).map (qfv adr h c i))
    congr 2
    apply List.map_congr_left
    intro j _
    exact qfv_congr (h0 rfl j)
  | succ j =>
    show Sum.inl (dA (qat c j), qct adr h' c i j) = Sum.inl (dA (qat c j), qct adr h c i j)
    rw [qct_congr (h1 j rfl)]
theorem qids_2 {c i j : Nat} (h : (c, i, j + 1) ∈ qids) : c < 13 ∧ qfk c j = 2 ∧ (qal c j).1 < 4 ∧ 0 ≤ (qal c j).2 ∧ (qal c j).2 < 10000 := (qids_ok _ h).2 (by simp)
theorem qids_0 {c i : Nat} (h : (c, i, 0) ∈ qids) : c < 13 := (qids_ok _ h).1 rfl
/-- a scalar field is put -/
theorem qws_put {adr : qA} {dA : Nat → ClassId} {h : qH} {c i j : Nat} {x : Int} {q0 : Nat} (hq : qids[q0]? = some (c, i, 0)) (hk : qfk c j ≠ 2) (hj : j < qnf c) {v : Value} (hv : qfv adr (qup h c i j 0 x) c i j = v) : (qws adr dA h).set q0 (adr (c, i, 0), .inr (c, ((List.range (qnf c)).map (qfv adr h c i)).set j v)) = qws adr dA (qup h c i j 0 x) := by
  refine qws_set hq ?_ ?_
  · show Sum.inr (c, (List.range (qnf c)).map (qfv adr (qup h c i j 0 x) c i)) = _
    congr 2
    apply List.ext_getElem?
    intro n
    rw [List.getElem?_set]
    by_cases hn : j = n
    · subst hn
      rw [if_pos rfl, if_pos (by simpa using hj), List.getElem?_map, List.getElem?_range hj]
      simp [hv]
    · rw [if_neg hn, List.getElem?_map, List.getElem?_map]
      cases heq : (List.range (qnf c))[n]? with
      | none => rfl
      | some n' =>
        simp only [Option.map_some]
        congr 1
        obtain ⟨hl, he⟩ := List.getElem?_eq_some_iff.mp heq
        rw [List.getElem_range] at he
        subst he
        exact qfv_congr (fun _ => qup_ne (fun q => hn q.1.symm))
  · rintro ⟨c', i', n⟩ hm hne
    refine qce_congr (fun e j' hj' => ?_) (fun j' e k => ?_)
    · dsimp only at e hj' ⊢
      subst e
      refine qup_ne (fun q => hne ?_)
      rw [q.2.1, q.2.2.2]
    · dsimp only at e ⊢
      subst e
      refine qup_ne (fun q => hk ?_)
      rw [← q.1, ← q.2.1]
      exact (qids_2 hm).2.1
/-- a place of an array is put -/
theorem qws_ast {adr : qA} {dA : Nat → ClassId} {h h' : qH} {c i j : Nat} {q0 : Nat} (hq : qids[q0]? = some (c, i, j + 1)) (ho : ∀ c' i' j' k', ¬ (c' = c ∧ i' = i ∧ j' = j) → h' c' i' j' k' = h c' i' j' k') {e : va_E} (he : qce adr dA h' (c, i, j + 1) = e) : (qws adr dA h).set q0 (adr (c, i, j + 1), e) = qws adr dA h' := by
  have hm : (c, i, j + 1) ∈ qids := List.mem_of_getElem? hq
  refine qws_set hq he ?_
  rintro ⟨c', i', n⟩ hm' hne
  refine qce_congr (fun e' j' hj' => ?_) (fun j' e' k => ?_)
  · dsimp only at e' hj' ⊢
    refine ho _ _ _ _ (fun q => hj' ?_)
    rw [q.1, q.2.2]
    exact (qids_2 hm).2.1
  · dsimp only at e' ⊢
    subst e'
    refine ho _ _ _ _ (fun q => hne ?_)
    rw [q.1, q.2.1, q.2.2]
theorem qce_0 {adr : qA} {dA : Nat → ClassId} {h : qH} {c i j : Nat} (hk : (qal c j).1 = 0) : qce adr dA h (c, i, j + 1) = .inl (dA 0, (qal c j).2.toNat, .inl (fun k => Int32.ofInt (h c i j k))) := by
  show Sum.inl (dA (qat c j), qct adr h c i j) = _
  unfold qat qct
  rw [hk] <;> rfl
theorem qce_1 {adr : qA} {dA : Nat → ClassId} {h : qH} {c i j : Nat} (hk : (qal c j).1 = 1) : qce adr dA h (c, i, j + 1) = .inl (dA 1, (qal c j).2.toNat, .inr (.inl (fun k => Int64.ofInt (h c i j k)))) := by
  show Sum.inl (dA (qat c j), qct adr h c i j) = _
  unfold qat qct
  rw [hk] <;> rfl
theorem qce_2 {adr : qA} {dA : Nat → ClassId} {h : qH} {c i j : Nat} (hk : (qal c j).1 = 2) : qce adr dA h (c, i, j + 1) = .inl (dA 2, (qal c j).2.toNat, .inl (fun k => Int32.ofInt (h c i j k))) := by
  show Sum.inl (dA (qat c j), qct adr h c i j) = _
  unfold qat qct
  rw [hk] <;> rfl
theorem qce_3 {adr : qA} {dA : Nat → ClassId} {h : qH} {c i j : Nat} (hk : (qal c j).1 = 3) : qce adr dA h (c, i, j + 1) = .inl (dA (qat c j), (qal c j).2.toNat, .inr (.inr (.inr (.inr (fun k => some (adr ((qra c j).1, (qra c j).2 + k, 0))))))) := by
  show Sum.inl (dA (qat c j), qct adr h c i j) = _
  unfold qct
  rw [hk] <;> rfl
theorem qlen_in {h : qH} {c i j : Nat} (hm : (c, i, j + 1) ∈ qids) : qlen h c j = (qal c j).2 := by
  have hc := (qids_2 hm).1
  unfold qlen
  rw [show Nat.beq c 91 = false from by
    cases hb : Nat.beq c 91 with
    | false => rfl
    | true => have := Nat.eq_of_beq_eq_true hb; omega]
  rfl
theorem qsk_0 {c j : Nat} (hk : (qal c j).1 = 0) : qsk c j = 0 := by unfold qsk; rw [hk] <;> rfl
theorem qsk_1 {c j : Nat} (hk : (qal c j).1 = 1) : qsk c j = 1 := by unfold qsk; rw [hk] <;> rfl
theorem qsk_2 {c j : Nat} (hk : (qal c j).1 = 2) : qsk c j = 2 := by unfold qsk; rw [hk] <;> rfl
theorem qhok_up {h : qH} (hh : qhok h) {c i j k : Nat} {x : Int} (hx : qrg (qsk c j) x) : qhok (qup h c i j k x) := by
  intro c' i' j' k'
  unfold qup
  split
  · rename_i q
    rw [q.1, q.2.1]
    exact hx
  · exact hh _ _ _ _
theorem qhok_cp {h : qH} (hh : qhok h) {c0 i0 j0 sp c i j dp n : Nat} (hx : qsk c0 j0 = qsk c j) : qhok (qcp h c0 i0 j0 sp c i j dp n) := by
  intro c' i' j' k'
  unfold qcp
  split
  · rename_i q
    rw [q.1, q.2.1, ← hx]
    exact hh _ _ _ _
  · exact hh _ _ _ _
theorem qrg_i {x : Int} (h : qrg 0 x) : qR x := h
theorem qrg_R {t : Nat} {x : Int} (ht : t ≠ 1) (h : qrg t x) : qR x := by
  unfold qrg at h
  split at h
  · exact absurd rfl ht
  · exact ⟨by omega, by omega⟩
  · exact h
/-- what lies in the heap and is never written: the script, the words -/
def qWORDS (k : Nat) : Int := match k with
  | 0 => 1868850291
  | 1 => 1668247404
  | 2 => 123581014175598
  | 3 => 127978976601458
  | 4 => 495873780082
  | 5 => 113741293447013
  | 6 => 1818848101
  | 7 => 1937203568
  | 8 => 31935733760681324
  | 9 => 1835101029
  | 10 => 474214787188
  | 11 => 1667329133
  | 12 => 6385273
  | 13 => 2003330414
  | 14 => 1752132965
  | 15 => 465625834867
  | 16 => 1819242352
  | 17 => 6647396
  | 18 => 1937010544
  | _ => 0
def qro (L : Nat) (xs : Nat → Int32) (h : qH) : Prop := (∀ k, k < 19 → h 90 0 0 k = qWORDS k) ∧ (∀ k, k < L → h 91 0 0 k = (xs k).toInt) ∧ h 91 0 1 0 = L
theorem qro_up {L : Nat} {xs : Nat → Int32} {h h' : qH} (ho : qro L xs h) (e : ∀ c i j k, 90 ≤ c → h' c i j k = h c i j k) : qro L xs h' := ⟨fun k hk => by rw [e _ _ _ _ (by omega)]; exact ho.1 k hk, fun k hk => by rw [e _ _ _ _ (by omega)]; exact ho.2.1 k hk, by rw [e _ _ _ _ (by omega)]; exact ho.2.2⟩
def qRO (adr : qA) (A : Nat → Prop) (L : Nat) (xs : Nat → Int32) (U : State) (H : Heap) : Prop :=
  va_X (adr (91, 0, 1)) L xs U H ∧ adr (91, 0, 1) < H.size ∧ ¬ A (adr (91, 0, 1)) ∧ va_Z "QuarrelKeys" "WORDS" "[J" (.ref (adr (90, 0, 1))) A U H ∧ (∃ cell : Cell, H[adr (90, 0, 1)]? = some cell ∧ U.isArrayOf cell .long ∧ cell.vm ≠ .unknown ∧ (19 ≤ cell.slots.size ∧ cell.slots.size.toInt32 = 19) ∧ ∀ j, j < 19 → cell.slots[j]? = some (.long (Int64.ofInt (qWORDS j)))) ∧ ¬ A (adr (90, 0, 1)) ∧ va_Nw (.fieldLinkNest "QuarrelKeys$Tape" 70 "QuarrelKeys" "WORDS" "[J" "QuarrelKeys") U ∧ L < 2147483648
theorem qRO.moved {adr : qA} {A : Nat → Prop} {L : Nat} {xs : Nat → Int32} {u U : State} {H H1 : Heap} (h : qRO adr A L xs u H) (hW : u.WarmedH U.vm) (hq : ∀ a : Nat, a < H.size → ¬ A a → H1[a]? = H[a]?) (hs : H.size ≤ H1.size) : qRO adr A L xs U H1 := by
  obtain ⟨h1, h2, h3, h4, ⟨cell, g1, g2, g3, g4, g5⟩, h6, h7, h8⟩ := h
  exact ⟨(h1.kept (hq _ h2 h3)).moved hW.alike, by omega, h3, (h4.kept hq).moved hW.alike, ⟨cell, by rw [hq _ (Array.getElem?_eq_some_iff.mp g1).1 h6]; exact g1, State.isArrayOf_alike hW.alike g2, g3, g4, g5⟩, h6, va_Nw.warmF hW h7, h8⟩
/-- what a frame of the method y stands on -/
def qFr (adr : qA) (dA : Nat → ClassId) (A : Nat → Prop) (D : va_G) (L : Nat) (xs : Nat → Int32) (p : Program) (s : State) (m : MethodId) (args : Array Value) (c : Code) (y : Nat) (Rm : Room) : Prop :=
  p.tables.exec = Jvm.exec ∧ c.code = qby y ∧ c.maxLocals = qml y ∧ s.vm.findClass (qown y) = some m.cls ∧ (∀ w ∈ lw_good, w.before args s = true) ∧ va_K D vwCl (qtys dA) s ∧ qRO adr A L xs s s.heap ∧ (∀ h, va_D A (qws adr dA h)) ∧ 1 ≤ Rm.frames ∧ 64 ≤ Rm.locals
/-- a state of the small machine stands for one of the machine from which it comes to Q -/
def qZ (adr : qA) (dA : Nat → ClassId) (A : Nat → Prop) (D : va_G) (L : Nat) (xs : Nat → Int32) (p : Program) (l : Launch) (e : Env) (Rm : Room) (s : State) (m : MethodId) (args : Array Value) (below : List Frame) (meth : Method) (c : Code) (Q : State → Prop) (y k0 n0 : Nat) : Nat → List qV → List qV → qH → Prop := fun pc ls st h =>
  ∀ (lsr : Array Slot) (H : Heap) (locs : List Loc), qhok h → qro L xs h → (∀ v ∈ st, qvok v) → (∀ v ∈ ls, qlok v) → ls.length = qml y → lv_has lsr (qml y) (qlv adr ls) → va_P D vwCl (qws adr dA h) H → va_S A s.heap H locs → W p l e Rm s m args below meth c H locs k0 n0 Q (F0 m pc lsr (st.map (qtr adr)))
