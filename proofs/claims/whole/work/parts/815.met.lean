theorem qpad_len (n : Nat) (l : List qV) : (qpad n l).length = n := by
  induction n generalizing l with
  | zero => rfl
  | succ n ih =>
    cases l with
    | nil => show (qpad n []).length + 1 = n + 1; rw [ih]
    | cons v r => show (qpad n r).length + 1 = n + 1; rw [ih]
theorem qpad_at (n : Nat) (l : List qV) {k : Nat} {v : qV} (h : (qpad n l)[k]? = some v) : v = qu ∨ l[k]? = some v := by
  induction n generalizing l k with
  | zero => simp [qpad] at h
  | succ n ih =>
    cases l with
    | nil =>
      cases k with
      | zero => exact Or.inl (by have h : some qu = some v := h; injection h with h; exact h.symm)
      | succ k =>
        have h : (qpad n [])[k]? = some v := h
        rcases ih [] h with e | e
        · exact Or.inl e
        · simp at e
    | cons w r =>
      cases k with
      | zero => exact Or.inr h
      | succ k =>
        have h : (qpad n r)[k]? = some v := h
        rcases ih r h with e | e
        · exact Or.inl e
        · exact Or.inr e
theorem qflat_in (as : List qV) {v : qV} (h : v ∈ qflat as) : v = qu ∨ v ∈ as := by
  induction as with
  | nil => simp [qflat] at h
  | cons w r ih =>
    rcases w with x | x | x | x | x
    · have h : v ∈ (qi x) :: qflat r := h
      rcases List.mem_cons.mp h with e | e
      · exact Or.inr (by rw [e]; exact List.mem_cons_self)
      · exact (ih e).imp id (List.mem_cons_of_mem _)
    · have h : v ∈ ql x :: qu :: qflat r := h
      rcases List.mem_cons.mp h with e | e
      · exact Or.inr (by rw [e]; exact List.mem_cons_self)
      · rcases List.mem_cons.mp e with e | e
        · exact Or.inl e
        · exact (ih e).imp id (List.mem_cons_of_mem _)
    · have h : v ∈ (Sum.inr (Sum.inr (Sum.inl x))) :: qflat r := h
      rcases List.mem_cons.mp h with e | e
      · exact Or.inr (by rw [e]; exact List.mem_cons_self)
      · exact (ih e).imp id (List.mem_cons_of_mem _)
    · have h : v ∈ (Sum.inr (Sum.inr (Sum.inr (Sum.inl x)))) :: qflat r := h
      rcases List.mem_cons.mp h with e | e
      · exact Or.inr (by rw [e]; exact List.mem_cons_self)
      · exact (ih e).imp id (List.mem_cons_of_mem _)
    · have h : v ∈ (Sum.inr (Sum.inr (Sum.inr (Sum.inr x)))) :: qflat r := h
      rcases List.mem_cons.mp h with e | e
      · exact Or.inl e
      · exact (ih e).imp id (List.mem_cons_of_mem _)
theorem qflat_at {adr : qA} (as : List qV) (i : Nat) {k : Nat} {v : qV} (h : (qflat as)[k]? = some v) (hv : v ≠ qu) : (i + k, qtr adr v) ∈ lv_args i (as.map (qtr adr)) := by
  induction as generalizing i k with
  | nil => simp [qflat] at h
  | cons w r ih =>
    have one : (∀ x, w ≠ ql x) → (w :: qflat r)[k]? = some v → (qtr adr w).category ≠ 2 → (i + k, qtr adr v) ∈ lv_args i ((w :: r).map (qtr adr)) := by
      intro _ h hc
      show _ ∈ (i, qtr adr w) :: lv_args (if (qtr adr w).category = 2 then i + 2 else i + 1) (r.map (qtr adr))
      rw [if_neg hc]
      cases k with
      | zero =>
        have h : some w = some v := h
        injection h with h
        subst h
        exact List.mem_cons_self
      | succ k =>
        have h : (qflat r)[k]? = some v := h
        have := ih (i + 1) h
        rw [show i + (k + 1) = i + 1 + k by omega]
        exact List.mem_cons_of_mem _ this
    rcases w with x | x | x | x | x
    · exact one (fun _ q => by cases q) h (fun q => by cases q)
    · show _ ∈ (i, qtr adr (ql x)) :: lv_args (if (qtr adr (ql x)).category = 2 then i + 2 else i + 1) (r.map (qtr adr))
      rw [if_pos (show (qtr adr (ql x)).category = 2 from rfl)]
      match k, h with
      | 0, h =>
        have h : some (ql x) = some v := h
        injection h with h
        subst h
        exact List.mem_cons_self
      | 1, h =>
        have h : some qu = some v := h
        injection h with h
        exact absurd h.symm hv
      | k + 2, h =>
        have h : (qflat r)[k]? = some v := h
        have := ih (i + 2) h
        rw [show i + (k + 2) = i + 2 + k by omega]
        exact List.mem_cons_of_mem _ this
    · exact one (fun _ q => by cases q) h (fun q => by cases q)
    · exact one (fun _ q => by cases q) h (fun q => by cases q)
    · exact one (fun _ q => by cases q) h (fun q => by cases q)
theorem lg_sl_len (vs : List Value) : (lg_sl vs).length = (vs.map fun v => v.category).sum := by
  induction vs with
  | nil => rfl
  | cons v r ih =>
    rw [List.map_cons, List.sum_cons, ← ih]
    unfold lg_sl
    rw [List.flatMap_cons, List.length_append]
    rcases lv_cat v with hc | hc
    · rw [hc]; simp
    · rw [hc]; simp
/-- what the small machine says of a method, the machine does -/
theorem q_met (l : Launch) {adr : qA} {dA : Nat → ClassId} {A : Nat → Prop} {D : va_G} {L : Nat} {xs : Nat → Int32} (hD : ∀ h, va_D A (qws adr dA h)) (hall : ∀ y pc, qok y pc (qpg y pc)) : ∀ (d a : Nat) (as : List qV) (h : qH) (R' : Option qV → qH → Prop), qT d a 0 (qpad (qml a) (qflat as)) [] h R' → (∀ v ∈ as, qvok v) → qmok a → qcat as ≤ qml a → qMet l adr dA A D L xs d a as h R' := by
  intro d
  induction d with
  | zero => intro a as h R' H; exact H.elim
  | succ d ih =>
    intro a as h R' H has hm hcat
    refine Met.ofW (cc := qby a) (maxL := qml a) (ret := qrt a) hm.2.2.1 rfl ?_
    intro p e s m args below meth c s₁ B hml hv
    obtain ⟨rfl, hh, ho, hP, hK, hO⟩ := hv
    have hx := B.exec
    have hb := B.bytes
    have hr := B.returns
    have hts := atoms_spec (ws := Cond.code (qnm a) (qby a) (qml a) (qrt a) :: lw_good) B.pre
    have hown : s.vm.findClass (qnm a).cls = some m.cls := findClass_of_methodNamed B.named
    have hlocks := B.notSynchronized
    have hlen : (lg_sl (as.map (qtr adr))).length ≤ qml a := by rw [lg_sl_len, qcat_eq]; exact hcat
    have hl := lv_entry (as.map (qtr adr)) (n := qml a) hlen
    rw [lg_entry_eq]
    refine z_T (adr := adr) (dA := dA) (A := A) (D := D) (L := L) (xs := xs) (y := a) (hall a) ⟨hx, hb, hml, hown, fun w hw => hts w (List.mem_cons_of_mem _ hw), hK, hO, hD, Nat.le_add_left 1 d, by show 64 ≤ 64 * (d + 1); omega⟩ (d := d) ⟨Nat.le_refl 0, Nat.le_refl 0⟩ ⟨Nat.le_refl _, Nat.le_refl _⟩ ih ?_ H _ s.heap [] hh ho (fun v hv => by cases hv) ?_ (qpad_len _ _) (hl.mono ?_) hP va_S.rf
    · refine ⟨?_, ?_, ?_⟩
      · intro x h1 H1 locs pc lsr hR hx1 hh1 ho1 hP1 hS1 hd hty
        have hq : ∀ t : State, t.heap = H1 → s.WarmedH t.vm → (∃ v h', Outcome.returned (some (Value.int (Int32.ofInt x))) = .returned (v.map (qtr adr)) ∧ R' v h' ∧ (∀ w, v = some w → qvok w) ∧ qhok h' ∧ qro L xs h' ∧ va_P D vwCl (qws adr dA h') t.heap) ∧ va_F A s t := fun t ht _ => ⟨⟨some (qi x), h1, rfl, hR, fun w hw => (by cases hw; exact hx1), hh1, ho1, by rw [ht]; exact hP1⟩, hS1.F ht⟩
        rcases hty with hty | ⟨hty, h01⟩
        · rw [hty] at hr
          exact W.iret hx hb hr hq hS1.2.2 hd hlocks
        · rw [hty] at hr
          refine W.zret (ty := .boolean) hx hb hr ?_ hq hS1.2.2 hd hlocks
          rcases h01 with rfl | rfl
          · decide
          · decide
      · intro x h1 H1 locs pc lsr hR hx1 hh1 ho1 hP1 hS1 hd hty
        rw [hty] at hr
        exact W.lret hx hb hr (fun t ht _ => ⟨⟨some (ql x), h1, rfl, hR, fun w hw => (by cases hw; exact hx1), hh1, ho1, by rw [ht]; exact hP1⟩, hS1.F ht⟩) hS1.2.2 hd hlocks
      · intro h1 H1 locs pc lsr hR hh1 ho1 hP1 hS1 hd hty
        rw [hty] at hr
        exact W.vret hx hb hr (fun t ht _ => ⟨⟨none, h1, rfl, hR, fun w hw => (by cases hw), hh1, ho1, by rw [ht]; exact hP1⟩, hS1.F ht⟩) hS1.2.2 hd hlocks
    · intro v hv
      obtain ⟨k, hk⟩ := List.getElem?_of_mem hv
      rcases qpad_at _ _ hk with e | e
      · exact Or.inl e
      · rcases qflat_in as (List.mem_of_getElem? e) with e | e
        · exact Or.inl e
        · exact Or.inr (has v e)
    · rintro ⟨k, w⟩ hq
      obtain ⟨v, hv, hn, rfl⟩ := qlv_mem.mp hq
      rcases qpad_at _ _ hv with e | e
      · exact absurd e hn
      · have := qflat_at (adr := adr) as 0 e hn
        rw [Nat.zero_add] at this
        exact this
