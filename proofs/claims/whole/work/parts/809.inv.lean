/-! inversions -/
theorem q1_of {st : List qV} {f : Int → List qV → Prop} (H : q1 st f) : ∃ x r, st = qi x :: r ∧ f x r := by
  unfold q1 at H
  split at H
  · exact ⟨_, _, rfl, H⟩
  · exact H.elim
theorem q2_of {st : List qV} {f : Int → Int → List qV → Prop} (H : q2 st f) : ∃ x y r, st = qi y :: qi x :: r ∧ f x y r := by
  unfold q2 at H
  split at H
  · exact ⟨_, _, _, rfl, H⟩
  · exact H.elim
theorem qL1_of {st : List qV} {f : Int → List qV → Prop} (H : qL1 st f) : ∃ x r, st = ql x :: r ∧ f x r := by
  unfold qL1 at H
  split at H
  · exact ⟨_, _, rfl, H⟩
  · exact H.elim
theorem qL2_of {st : List qV} {f : Int → Int → List qV → Prop} (H : qL2 st f) : ∃ x y r, st = ql y :: ql x :: r ∧ f x y r := by
  unfold qL2 at H
  split at H
  · exact ⟨_, _, _, rfl, H⟩
  · exact H.elim
theorem qIL_of {st : List qV} {f : Int → Int → List qV → Prop} (H : qIL st f) : ∃ x y r, st = qi y :: ql x :: r ∧ f x y r := by
  unfold qIL at H
  split at H
  · exact ⟨_, _, _, rfl, H⟩
  · exact H.elim
theorem qA1_of {st : List qV} {f : Nat → Nat → Nat → List qV → Prop} (H : qA1 st f) : ∃ c i j r, st = qa c i j :: r ∧ f c i j r := by
  unfold qA1 at H
  split at H
  · exact ⟨_, _, _, _, rfl, H⟩
  · exact H.elim
theorem qri_of {v : Option qV} {f : Int → Prop} (H : qri v f) : ∃ x, v = some (qi x) ∧ f x := by
  unfold qri at H
  split at H
  · exact ⟨_, rfl, H⟩
  · exact H.elim
theorem qrl_of {v : Option qV} {f : Int → Prop} (H : qrl v f) : ∃ x, v = some (ql x) ∧ f x := by
  unfold qrl at H
  split at H
  · exact ⟨_, rfl, H⟩
  · exact H.elim
theorem qrv_of {v : Option qV} {f : Prop} (H : qrv v f) : v = none ∧ f := by
  unfold qrv at H
  split at H
  · exact ⟨rfl, H⟩
  · exact H.elim
theorem qb_of {b : Bool} {P : Prop} (H : bif b then P else False) : b = true ∧ P := by
  cases b with
  | true => exact ⟨rfl, H⟩
  | false => exact H.elim
theorem qidx_of {h : qH} {t : Nat} {st : List qV} {f : Nat → Nat → Nat → Int → List qV → Prop} (H : qidx h t st f) : ∃ c i j k r, st = qi k :: qa c i j :: r ∧ (qal c j).1 = t ∧ (0 ≤ k ∧ k < qlen h c j) ∧ f c i j k r := by
  unfold qidx at H
  split at H
  · obtain ⟨h1, h2, h3⟩ := qb_of H
    exact ⟨_, _, _, _, _, rfl, Nat.eq_of_beq_eq_true h1, h2, h3⟩
  · exact H.elim
theorem qld0_of {v : Option qV} {f : qV → Prop} (H : qld v 0 f) : ∃ x, v = some (qi x) ∧ f (qi x) := by
  match v, H with
  | none, H => exact False.elim H
  | some (.inl x), H => exact ⟨x, rfl, H⟩
  | some (.inr _), H => exact False.elim H
theorem qld1_of {v : Option qV} {f : qV → Prop} (H : qld v 1 f) : ∃ x, v = some (ql x) ∧ f (ql x) := by
  match v, H with
  | none, H => exact False.elim H
  | some (.inl x), H => exact False.elim H
  | some (.inr (.inl x)), H => exact ⟨x, rfl, H⟩
  | some (.inr (.inr _)), H => exact False.elim H
theorem qld2_of {v : Option qV} {f : qV → Prop} (H : qld v 2 f) : ∃ w, v = some w ∧ f w ∧ ((∃ c i, w = qo c i) ∨ ∃ c i j, w = qa c i j) := by
  match v, H with
  | none, H => exact False.elim H
  | some (.inl x), H => exact False.elim H
  | some (.inr (.inl x)), H => exact False.elim H
  | some (.inr (.inr (.inl (c, i)))), H => exact ⟨_, rfl, H, Or.inl ⟨_, _, rfl⟩⟩
  | some (.inr (.inr (.inr (.inl (c, i, j))))), H => exact ⟨_, rfl, H, Or.inr ⟨_, _, _, rfl⟩⟩
  | some (.inr (.inr (.inr (.inr _)))), H => exact False.elim H
theorem qdup_of {st : List qV} {f : List qV → Prop} (H : qdup st f) : ∃ v r, st = v :: r ∧ v ≠ qu ∧ (∀ x, v ≠ ql x) ∧ f (v :: v :: r) := by
  match st, H with
  | [], H => exact H.elim
  | .inr (.inl _) :: _, H => exact H.elim
  | .inr (.inr (.inr (.inr _))) :: _, H => exact H.elim
  | .inl x :: r, H => exact ⟨_, _, rfl, fun h => (by cases h), fun _ h => (by cases h), H⟩
  | .inr (.inr (.inl x)) :: r, H => exact ⟨_, _, rfl, fun h => (by cases h), fun _ h => (by cases h), H⟩
  | .inr (.inr (.inr (.inl x))) :: r, H => exact ⟨_, _, rfl, fun h => (by cases h), fun _ h => (by cases h), H⟩
theorem qdup2_of {st : List qV} {f : List qV → Prop} (H : qdup2 st f) : (∃ k c i j r, st = qi k :: qa c i j :: r ∧ f (qi k :: qa c i j :: qi k :: qa c i j :: r)) ∨ ∃ x r, st = ql x :: r ∧ f (ql x :: ql x :: r) := by
  unfold qdup2 at H
  split at H
  · exact Or.inl ⟨_, _, _, _, _, rfl, H⟩
  · exact Or.inr ⟨_, _, rfl, H⟩
  · exact H.elim
theorem qeI_of {st : List qV} {k : Nat} {f : Int → Prop} (H : qeI st k f) : ∃ x, st = [qi x] ∧ f x ∧ (k ≠ 0 → x = 0 ∨ x = 1) := by
  unfold qeI at H
  split at H
  · rcases k with _ | k
    · exact ⟨_, rfl, H, fun h => absurd rfl h⟩
    · exact ⟨_, rfl, H.2, fun _ => H.1⟩
  · exact H.elim
theorem qeL_of {st : List qV} {f : Int → Prop} (H : qeL st f) : ∃ x, st = [ql x] ∧ f x := by
  unfold qeL at H
  split at H
  · exact ⟨_, rfl, H⟩
  · exact H.elim
theorem qe0_of {st : List qV} {f : Prop} (H : qe0 st f) : st = [] ∧ f := by
  unfold qe0 at H
  split at H
  · exact ⟨rfl, H⟩
  · exact H.elim
theorem qget_of {rw : qrow} {ls st : List qV} {h : qH} {K : Nat → List qV → List qV → qH → Prop} (H : qget rw ls st h K) : ∃ c i r, st = qo c i :: r ∧ c = rw.2.2.1 ∧
    ((rw.2.2.2.2.1 = 1 ∧ K rw.2.1 ls (ql (h c i rw.2.2.2.1 0) :: r) h) ∨ (rw.2.2.2.2.1 = 2 ∧ K rw.2.1 ls (qa c i rw.2.2.2.1 :: r) h) ∨ (rw.2.2.2.2.1 = 3 ∧ ∃ c' i' w, rw.2.2.2.2.2.2 = (c', i') :: w ∧ K rw.2.1 ls (qo c'.toNat i' :: r) h) ∨ (rw.2.2.2.2.1 ≠ 1 ∧ rw.2.2.2.2.1 ≠ 2 ∧ rw.2.2.2.2.1 ≠ 3 ∧ K rw.2.1 ls (qi (h c i rw.2.2.2.1 0) :: r) h)) := by
  obtain ⟨ins, nx, a, b, k, z, cs⟩ := rw
  unfold qget at H
  split at H
  · obtain ⟨h1, H⟩ := qb_of H
    refine ⟨_, _, _, rfl, Nat.eq_of_beq_eq_true h1, ?_⟩
    dsimp only at H ⊢
    rcases k with _ | _ | _ | _ | k
    · exact Or.inr (Or.inr (Or.inr ⟨by omega, by omega, by omega, H⟩))
    · exact Or.inl ⟨rfl, H⟩
    · exact Or.inr (Or.inl ⟨rfl, H⟩)
    · rcases cs with _ | ⟨⟨c', i'⟩, w⟩
      · exact H.elim
      · exact Or.inr (Or.inr (Or.inl ⟨rfl, _, _, _, rfl, H⟩))
    · exact Or.inr (Or.inr (Or.inr ⟨by omega, by omega, by omega, H⟩))
  · exact H.elim
theorem qput_of {rw : qrow} {ls st : List qV} {h : qH} {K : Nat → List qV → List qV → qH → Prop} (H : qput rw ls st h K) : ∃ c i r, c = rw.2.2.1 ∧
    ((∃ x, st = qi x :: qo c i :: r ∧ (rw.2.2.2.2.1 = 0 ∨ (rw.2.2.2.2.1 = 4 ∧ (x = 0 ∨ x = 1))) ∧ K rw.2.1 ls r (qup h c i rw.2.2.2.1 0 x)) ∨ (∃ x, st = ql x :: qo c i :: r ∧ rw.2.2.2.2.1 = 1 ∧ K rw.2.1 ls r (qup h c i rw.2.2.2.1 0 x))) := by
  obtain ⟨ins, nx, a, b, k, z, cs⟩ := rw
  unfold qput at H
  split at H
  · obtain ⟨h1, H⟩ := qb_of H
    refine ⟨_, _, _, Nat.eq_of_beq_eq_true h1, Or.inl ⟨_, rfl, ?_⟩⟩
    dsimp only at H ⊢
    rcases k with _ | _ | _ | _ | _ | k
    · exact ⟨Or.inl rfl, H⟩
    · exact H.elim
    · exact H.elim
    · exact H.elim
    · exact ⟨Or.inr ⟨rfl, H.1⟩, H.2⟩
    · exact H.elim
  · obtain ⟨h1, H⟩ := qb_of H
    refine ⟨_, _, _, Nat.eq_of_beq_eq_true h1, Or.inr ⟨_, rfl, ?_⟩⟩
    dsimp only at H ⊢
    rcases k with _ | _ | k
    · exact H.elim
    · exact ⟨rfl, H⟩
    · exact H.elim
  · exact H.elim
theorem qcopy_of {st : List qV} {h : qH} {K : List qV → qH → Prop} (H : qcopy st h K) : ∃ n dp c i j sp c0 i0 j0 r, st = qi n :: qi dp :: qa c i j :: qi sp :: qa c0 i0 j0 :: r ∧ (qal c j).1 = (qal c0 j0).1 ∧ c < 90 ∧ c0 < 90 ∧ (qal c j).1 < 2 ∧ (0 ≤ sp ∧ 0 ≤ dp ∧ 0 ≤ n ∧ sp + n ≤ qlen h c0 j0 ∧ dp + n ≤ qlen h c j) ∧ K r (qcp h c0 i0 j0 sp.toNat c i j dp.toNat n.toNat) := by
  unfold qcopy at H
  split at H
  · obtain ⟨h1, H1, H2⟩ := qb_of H
    simp only [Bool.and_eq_true] at h1
    obtain ⟨⟨⟨a1, a2⟩, a3⟩, a4⟩ := h1
    exact ⟨_, _, _, _, _, _, _, _, _, _, rfl, Nat.eq_of_beq_eq_true a1, Nat.blt_eq.mp a2, Nat.blt_eq.mp a3, Nat.blt_eq.mp a4, H1, H2⟩
  · exact H.elim
