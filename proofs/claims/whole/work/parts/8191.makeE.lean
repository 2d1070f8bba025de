section MK4
variable {b : Nat} {dA : Nat → ClassId} {D : va_G} {p : Program} {l : Launch} {e : Env} {Rm : Room} {s : State} {m : MethodId} {args : Array Value} {below : List Frame} {meth : Method} {c : Code} {Q : State → Prop} {y c0 s0 : Nat} {xl : List (Nat × Value)}
theorem cstep_ret {call : Nat → List cV → List cE → Option (List cE)} {r : qrow} {ls st : List cV} {w w' : List cE} (h : cstep call r ls st w = some (.inr w')) : r.1 = .return_ ∧ st = [] ∧ w' = w := by
  obtain ⟨ins, nx, a, bb, k, z, cs⟩ := r
  cases ins
  case return_ =>
    unfold cstep at h
    dsimp only at h
    split at h
    · cases h; exact ⟨rfl, rfl, rfl⟩
    · cases h
  case if_icmp op off =>
    cases op
    all_goals (unfold cstep at h; dsimp only at h)
    all_goals (try (cases h; done))
    all_goals (try simp only [cond_eq_ite] at h)
    all_goals (repeat' (first | (cases h; done) | split at h))
  all_goals (unfold cstep at h; dsimp only at h)
  all_goals (try (cases h; done))
  all_goals (try simp only [cond_eq_ite] at h)
  all_goals (repeat' (first | (cases h; done) | split at h))
theorem cstep_mono {call : Nat → List cV → List cE → Option (List cE)} (hM : ∀ a as w w', call a as w = some w' → cMono w w') {r : qrow} {ls st : List cV} {w : List cE} {σ' : cS} (h : cstep call r ls st w = some (.inl σ')) : cMono w σ'.2.2.2 := by
  obtain ⟨ins, nx, a, bb, k, z, cs⟩ := r
  cases ins
  all_goals (unfold cstep at h; dsimp only at h)
  all_goals (try (cases h; done))
  all_goals (try simp only [cond_eq_ite] at h)
  all_goals (repeat' (first | (cases h; done) | (cases h; first | exact cMono.rf | exact cMono.app | exact cMono.set (by assumption) (by simp [csl]) | exact hM _ _ _ _ (by assumption)) | split at h))
theorem cgo_mono {call : Nat → List cV → List cE → Option (List cE)} (hM : ∀ a as w w', call a as w = some w' → cMono w w') {P : Nat → qrow} {stop : Nat} : ∀ (n : Nat) (σ : cS), (∀ σ', cgo call P stop n σ = some (.inl σ') → cMono σ.2.2.2 σ'.2.2.2) ∧ (∀ w', cgo call P stop n σ = some (.inr w') → cMono σ.2.2.2 w') := by
  intro n
  induction n with
  | zero => exact fun σ => ⟨fun σ' h => (by cases h), fun w' h => (by cases h)⟩
  | succ n ih =>
    rintro ⟨pc, ls, st, w⟩
    have key : ∀ (x : cS ⊕ List cE), cgo call P stop (n + 1) (pc, ls, st, w) = some x → x = .inl (pc, ls, st, w) ∨ (∃ σ1, cstep call (P pc) ls st w = some (.inl σ1) ∧ cgo call P stop n σ1 = some x) ∨ (∃ w1, cstep call (P pc) ls st w = some (.inr w1) ∧ x = .inr w1) := by
      intro x h
      unfold cgo at h
      cases hb : Nat.beq pc stop with
      | true => rw [hb] at h; exact Or.inl (Option.some.inj h).symm
      | false =>
        rw [hb, cond_false] at h
        split at h
        · rename_i s1 hs; exact Or.inr (Or.inl ⟨s1, hs, h⟩)
        · rename_i w1 hs; exact Or.inr (Or.inr ⟨w1, hs, (Option.some.inj h).symm⟩)
        · cases h
    refine ⟨fun σ' h => ?_, fun w' h => ?_⟩
    · rcases key _ h with e1 | ⟨σ1, h1, h2⟩ | ⟨w1, h1, h2⟩
      · cases e1; exact cMono.rf
      · exact (cstep_mono hM h1).tr ((ih σ1).1 _ h2)
      · cases h2
    · rcases key _ h with e1 | ⟨σ1, h1, h2⟩ | ⟨w1, h1, h2⟩
      · cases e1
      · exact (cstep_mono hM h1).tr ((ih σ1).2 _ h2)
      · cases h2
        obtain ⟨-, -, e3⟩ := cstep_ret h1
        rw [e3]
        exact cMono.rf
theorem crun_mono : ∀ d a as w w', crun d a as w = some w' → cMono w w' := by
  intro d
  induction d with
  | zero => intro a as w w' h; cases h
  | succ d ih =>
    intro a as w w' h
    unfold crun at h
    split at h
    · rename_i w1 hg
      cases h
      exact (cgo_mono ih 20000 (0, cpad (cml a) as, [], w)).2 _ hg
    · cases h
/-- a run of the making machine is sound -/
theorem cgo_sound (hx0 : ∀ q ∈ xl, q.1 = 0 ∧ ¬ q.2.category = 2) (hall : ∀ y pc, kok y pc (cpg y pc)) (F : cFr dA D p s m args meth c y Rm) {d : Nat} (hroomD : d + 1 ≤ Rm.frames ∧ 64 * (d + 1) ≤ Rm.locals) (hC : ∀ a as w w', crun d a as w = some w' → kmok a → as.length ≤ cml a → (∀ v ∈ as, ∀ x, v ≠ cl x) → kMet l b dA D d a as w w') {stop : Nat} : ∀ (n : Nat) (σ : cS), c0 ≤ σ.2.2.2.length ∧ s0 ≤ cslots σ.2.2.2 →
    (∀ σ', cgo (crun d) (cpg y) stop n σ = some (.inl σ') → σ'.2.2.2.length - c0 ≤ Rm.cells ∧ cslots σ'.2.2.2 - s0 ≤ Rm.slots → cZ b dA D p l e Rm s m args below meth c Q y c0 s0 xl σ' → cZ b dA D p l e Rm s m args below meth c Q y c0 s0 xl σ) ∧
    (∀ w', cgo (crun d) (cpg y) stop n σ = some (.inr w') → w'.length - c0 ≤ Rm.cells ∧ cslots w' - s0 ≤ Rm.slots → (∀ (H : Heap) (locs : List Loc) (pc : Nat) (lsr : Array Slot), H.size = b + w'.length → va_P D vwCl (cws b dA w') H → va_S (fun q => b ≤ q) s.heap H locs → decode (cby y) pc = .ok (.return_, 1) → W p l e Rm s m args below meth c H locs (w'.length - c0) (cslots w' - s0) Q (F0 m pc lsr [])) → cZ b dA D p l e Rm s m args below meth c Q y c0 s0 xl σ) := by
  intro n
  induction n with
  | zero => exact fun σ _ => ⟨fun σ' h => (by cases h), fun w' h => (by cases h)⟩
  | succ n ih =>
    rintro ⟨pc, ls, st, w⟩ hc
    dsimp only at hc
    have key : ∀ (x : cS ⊕ List cE), cgo (crun d) (cpg y) stop (n + 1) (pc, ls, st, w) = some x → x = .inl (pc, ls, st, w) ∨ (∃ σ1, cstep (crun d) (cpg y pc) ls st w = some (.inl σ1) ∧ cgo (crun d) (cpg y) stop n σ1 = some x) ∨ (∃ w1, cstep (crun d) (cpg y pc) ls st w = some (.inr w1) ∧ x = .inr w1) := by
      intro x h
      unfold cgo at h
      cases hb : Nat.beq pc stop with
      | true => rw [hb] at h; exact Or.inl (Option.some.inj h).symm
      | false =>
        rw [hb, cond_false] at h
        split at h
        · rename_i s1 hs; exact Or.inr (Or.inl ⟨s1, hs, h⟩)
        · rename_i w1 hs; exact Or.inr (Or.inr ⟨w1, hs, (Option.some.inj h).symm⟩)
        · cases h
    refine ⟨fun σ' h hr Hz => ?_, fun w' h hr Hret => ?_⟩
    · rcases key _ h with e1 | ⟨σ1, h1, h2⟩ | ⟨w1, h1, h2⟩
      · cases e1; exact Hz
      · obtain ⟨m1, go⟩ := c_step (b := b) (l := l) (e := e) (below := below) (Q := Q) (c0 := c0) (s0 := s0) hx0 F hroomD hC (crun_mono d) (hall y pc) h1
        have m2 := (cgo_mono (crun_mono d) n σ1).1 _ h2
        have m3 := m1.tr m2
        refine go hc ⟨by have := m2.1; omega, by have := m2.2; omega⟩ ((ih σ1 ⟨by have := m1.1; omega, by have := m1.2; omega⟩).1 _ h2 hr Hz)
      · cases h2
    · rcases key _ h with e1 | ⟨σ1, h1, h2⟩ | ⟨w1, h1, h2⟩
      · cases e1
      · obtain ⟨m1, go⟩ := c_step (b := b) (l := l) (e := e) (below := below) (Q := Q) (c0 := c0) (s0 := s0) hx0 F hroomD hC (crun_mono d) (hall y pc) h1
        have m2 := (cgo_mono (crun_mono d) n σ1).2 _ h2
        refine go hc ⟨by have := m2.1; omega, by have := m2.2; omega⟩ ((ih σ1 ⟨by have := m1.1; omega, by have := m1.2; omega⟩).2 _ h2 hr Hret)
      · cases h2
        obtain ⟨q1, q2, q3⟩ := cstep_ret h1
        subst q2; subst q3
        intro lsr H locs g1 g2 g3 hl hP hS
        refine Hret H locs pc lsr g3 hP hS ?_
        rcases hall y pc with hn | ⟨hd, -, -⟩
        · rw [q1] at hn; cases hn
        · rw [q1] at hd; exact hd
theorem cpad_at (n : Nat) (l : List cV) {k : Nat} {v : cV} (h : (cpad n l)[k]? = some v) : v = cn ∨ l[k]? = some v := by
  induction n generalizing l k with
  | zero => simp [cpad] at h
  | succ n ih =>
    cases l with
    | nil =>
      cases k with
      | zero => exact Or.inl (by have h : some cn = some v := h; injection h with h; exact h.symm)
      | succ k =>
        have h : (cpad n [])[k]? = some v := h
        rcases ih [] h with e | e
        · exact Or.inl e
        · simp at e
    | cons w r =>
      cases k with
      | zero => exact Or.inr h
      | succ k =>
        have h : (cpad n r)[k]? = some v := h
        rcases ih r h with e | e
        · exact Or.inl e
        · exact Or.inr e
theorem clv_args (as : List cV) (hs : ∀ v ∈ as, ∀ x, v ≠ cl x) : ∀ (i k : Nat) (v : cV), as[k]? = some v → (i + k, ctr b v) ∈ lv_args i (as.map (ctr b)) := by
  induction as with
  | nil => intro i k v h; simp at h
  | cons u r ih =>
    intro i k v h
    have hc : ¬ (ctr b u).category = 2 := by
      rcases u with x | x | _ | j
      · exact fun q => by cases q
      · exact absurd rfl (hs _ List.mem_cons_self x)
      · exact fun q => by cases q
      · exact fun q => by cases q
    show _ ∈ (i, ctr b u) :: lv_args (if (ctr b u).category = 2 then i + 2 else i + 1) (r.map (ctr b))
    rw [if_neg hc]
    cases k with
    | zero =>
      have h : some u = some v := h
      injection h with h
      subst h
      exact List.mem_cons_self
    | succ k =>
      have h : r[k]? = some v := h
      have := ih (fun v hv => hs v (List.mem_cons_of_mem _ hv)) (i + 1) k v h
      rw [show i + (k + 1) = i + 1 + k by omega]
      exact List.mem_cons_of_mem _ this
theorem ccs (as : List cV) (hnl : ∀ v ∈ as, ∀ x, v ≠ cl x) : ((as.map (ctr b)).map fun v => v.category).sum = as.length := by
  induction as with
  | nil => rfl
  | cons u r ih2 =>
    rw [List.map_cons, List.map_cons, List.sum_cons, List.length_cons, ih2 (fun v hv => hnl v (List.mem_cons_of_mem _ hv))]
    rcases u with x | x | _ | j
    · exact Nat.add_comm _ _
    · exact absurd rfl (hnl _ List.mem_cons_self x)
    · exact Nat.add_comm _ _
    · exact Nat.add_comm _ _
/-- what the making machine makes, the machine makes -/
theorem c_met (l : Launch) (hall : ∀ y pc, kok y pc (cpg y pc)) : ∀ (d a : Nat) (as : List cV) (w w' : List cE), crun d a as w = some w' → kmok a → as.length ≤ cml a → (∀ v ∈ as, ∀ x, v ≠ cl x) → kMet l b dA D d a as w w' := by
  intro d
  induction d with
  | zero => intro a as w w' h; cases h
  | succ d ih =>
    intro a as w w' h hm hlen hnl
    have hmono := crun_mono _ _ _ _ _ h
    refine Met.ofW (cc := cby a) (maxL := cml a) (ret := none) hm.2.2.1 rfl ?_
    intro p e s m args below meth c s₁ B hml hv
    obtain ⟨rfl, hsz, hP, hK, hN⟩ := hv
    have hx := B.exec
    have hb := B.bytes
    have hr := B.returns
    have hts := atoms_spec (ws := Cond.code (cnm a) (cby a) (cml a) none :: lw_good) B.pre
    have hown : s.vm.findClass (cnm a).cls = some m.cls := findClass_of_methodNamed B.named
    have hlocks := B.notSynchronized
    have hin : a < 13 → meth.name = "<init>" := fun ha => (name_of_methodNamed B.named B.method).1.trans (hm.2.2.2.2.2.2 ha)
    have hcs := ccs (b := b) as hnl
    have hl := lv_entry (as.map (ctr b)) (n := cml a) (by rw [lg_sl_len, hcs]; exact hlen)
    rw [lg_entry_eq]
    unfold crun at h
    split at h
    · rename_i w1 hg
      cases h
      have K := (cgo_sound (b := b) (dA := dA) (D := D) (l := l) (e := e) (below := below) (c0 := w.length) (s0 := cslots w) (Q := MQ below (fun _ st oc t => (oc = .returned none ∧ t.heap.size = b + w'.length ∧ va_P D vwCl (cws b dA w') t.heap) ∧ va_F (fun q => b ≤ q) st t) (as.map (ctr b)).toArray s (w'.length - w.length) (cslots w' - cslots w) (fun q => b ≤ q)) (xl := []) (fun q hq => by cases hq) hall (y := a) (Rm := (headSpec (Cond.code (cnm a) (cby a) (cml a) none :: lw_good) { frames := d + 1, cells := w'.length - w.length, slots := cslots w' - cslots w, locals := 64 * (d + 1) }).room) (s := s) (m := m) (args := (as.map (ctr b)).toArray) (meth := meth) (c := c) (p := p) ⟨hx, hb, hml, hown, fun w hw => hts w (List.mem_cons_of_mem _ hw), hK, hN, hin, Nat.le_add_left 1 d, by show 64 ≤ 64 * (d + 1); omega⟩ (d := d) ⟨Nat.le_refl _, Nat.le_refl _⟩ ih 20000 (0, cpad (cml a) as, [], w) ⟨Nat.le_refl _, Nat.le_refl _⟩).2 w' hg ⟨Nat.le_refl _, Nat.le_refl _⟩ (fun H locs pc lsr g1 g2 g3 hd => W.vret hx hb hr (fun t ht _ => ⟨⟨rfl, by rw [ht]; exact g1, by rw [ht]; exact g2⟩, g3.F ht⟩) g3.2.2 hd hlocks)
      have K2 := K _ s.heap [] (Nat.le_refl _) (Nat.le_refl _) hsz (hl.mono ?_) hP va_S.rf
      · dsimp only at K2
        rw [Nat.sub_self, Nat.sub_self] at K2
        exact K2
      · rintro ⟨k, u⟩ hq
        rcases clv_mem.mp hq with ⟨x, h1, rfl⟩ | ⟨i, h1, rfl⟩
        · rcases cpad_at _ _ h1 with e1 | e1
          · cases e1
          · have := clv_args (b := b) as hnl 0 k _ e1
            rw [Nat.zero_add] at this
            exact this
        · rcases cpad_at _ _ h1 with e1 | e1
          · cases e1
          · have := clv_args (b := b) as hnl 0 k _ e1
            rw [Nat.zero_add] at this
            exact this
    · cases h
end MK4
