theorem q1_mono {st : List qV} {f g : Int → List qV → Prop} (hf : ∀ x r, f x r → g x r) (H : q1 st f) : q1 st g := by
  unfold q1 at H ⊢
  split at H
  · exact hf _ _ H
  · exact H.elim
theorem q2_mono {st : List qV} {f g : Int → Int → List qV → Prop} (hf : ∀ x y r, f x y r → g x y r) (H : q2 st f) : q2 st g := by
  unfold q2 at H ⊢
  split at H
  · exact hf _ _ _ H
  · exact H.elim
theorem qL1_mono {st : List qV} {f g : Int → List qV → Prop} (hf : ∀ x r, f x r → g x r) (H : qL1 st f) : qL1 st g := by
  unfold qL1 at H ⊢
  split at H
  · exact hf _ _ H
  · exact H.elim
theorem qL2_mono {st : List qV} {f g : Int → Int → List qV → Prop} (hf : ∀ x y r, f x y r → g x y r) (H : qL2 st f) : qL2 st g := by
  unfold qL2 at H ⊢
  split at H
  · exact hf _ _ _ H
  · exact H.elim
theorem qsw_mono {x : Int} {cs : List (Int × Nat)} {d : Nat} {K K' : Nat → Prop} (hK : ∀ t, K t → K' t) : qsw x cs d K → qsw x cs d K' := by
  induction cs with
  | nil => exact hK d
  | cons a r ih => exact fun H => ⟨fun e => hK _ (H.1 e), fun e => ih (H.2 e)⟩
theorem qld_mono {v : Option qV} {t : Nat} {f g : qV → Prop} (hf : ∀ v, f v → g v) (H : qld v t f) : qld v t g := by
  unfold qld at H ⊢
  split at H <;> split at H <;> first | exact hf _ H | exact H.elim
theorem qidx_mono {h : qH} {t : Nat} {st : List qV} {f g : Nat → Nat → Nat → Int → List qV → Prop} (hf : ∀ c i j k r, f c i j k r → g c i j k r) (H : qidx h t st f) : qidx h t st g := by
  unfold qidx at H ⊢
  split at H
  · cases hb : Nat.beq (qal _ _).1 t with
    | true => rw [hb] at H; exact ⟨H.1, hf _ _ _ _ _ H.2⟩
    | false => rw [hb] at H; exact H.elim
  · exact H.elim
theorem qdup_mono {st : List qV} {f g : List qV → Prop} (hf : ∀ r, f r → g r) (H : qdup st f) : qdup st g := by
  unfold qdup at H ⊢
  split at H
  · exact H.elim
  · exact H.elim
  · split
    · exact hf _ H
    · exact hf _ H
    · exact hf _ H
    · exact hf _ H
  · exact H.elim
theorem qdup2_mono {st : List qV} {f g : List qV → Prop} (hf : ∀ r, f r → g r) (H : qdup2 st f) : qdup2 st g := by
  unfold qdup2 at H ⊢
  split at H
  · exact hf _ H
  · exact hf _ H
  · exact H.elim
theorem qret_mono {z : Nat} {v : Option qV} {h : qH} {r : List qV} {K K' : List qV → qH → Prop} (hK : ∀ s h, K s h → K' s h) (H : qret z v h r K) : qret z v h r K' := by
  unfold qret at H ⊢
  split at H
  · unfold qri at H ⊢
    split at H
    · exact hK _ _ H
    · exact H.elim
  · unfold qrl at H ⊢
    split at H
    · exact hK _ _ H
    · exact H.elim
  · unfold qrv at H ⊢
    split at H
    · exact hK _ _ H
    · exact H.elim
def qCm (C : Nat → List qV → qH → (Option qV → qH → Prop) → Prop) : Prop := ∀ y as h (R R' : Option qV → qH → Prop), (∀ v h, R v h → R' v h) → C y as h R → C y as h R'
theorem qstep_mono {C : Nat → List qV → qH → (Option qV → qH → Prop) → Prop} (hC : qCm C) {R R' : Option qV → qH → Prop} (hR : ∀ v h, R v h → R' v h) {rw : qrow} {ls st : List qV} {h : qH} {K K' : Nat → List qV → List qV → qH → Prop} (hK : ∀ a b c d, K a b c d → K' a b c d) (H : qstep C R rw ls st h K) : qstep C R' rw ls st h K' := by
  obtain ⟨ins, nx, a, b, k, z, cs⟩ := rw
  cases ins
  case iinc k n =>
    show (match ls[k]? with
    | some (.inl x) => qR (x + n) ∧ K' nx (qst ls k (qi (x + n))) st h
    | _ => False)
    have H : (match ls[k]? with
    | some (.inl x) => qR (x + n) ∧ K nx (qst ls k (qi (x + n))) st h
    | _ => False) := H
    split at H
    · exact ⟨H.1, hK _ _ _ _ H.2⟩
    · exact H.elim
  case lshl =>
    show (match st with
    | .inl y :: .inr (.inl x) :: r => K' nx ls (ql (qlshl x y) :: r) h
    | _ => False)
    have H : (match st with
    | .inl y :: .inr (.inl x) :: r => K nx ls (ql (qlshl x y) :: r) h
    | _ => False) := H
    split at H
    · exact hK _ _ _ _ H
    · exact H.elim
  case getfield idx =>
    have H : qget (.getfield idx, nx, a, b, k, z, cs) ls st h K := H
    show qget (.getfield idx, nx, a, b, k, z, cs) ls st h K'
    unfold qget at H ⊢
    split at H
    · rename_i c i r
      cases hb : Nat.beq c a with
      | false => simp only [hb] at H; exact H.elim
      | true =>
        simp only [hb] at H ⊢
        revert H
        dsimp only [cond]
        split
        · exact hK _ _ _ _
        · exact hK _ _ _ _
        · split
          · exact hK _ _ _ _
          · exact fun h => h
        · exact hK _ _ _ _
    · exact H.elim
  case putfield idx =>
    have H : qput (.putfield idx, nx, a, b, k, z, cs) ls st h K := H
    show qput (.putfield idx, nx, a, b, k, z, cs) ls st h K'
    unfold qput at H ⊢
    split at H
    · rename_i x c i r
      cases hb : Nat.beq c a with
      | false => simp only [hb] at H; exact H.elim
      | true =>
        simp only [hb] at H ⊢
        revert H
        dsimp only [cond]
        split
        · exact hK _ _ _ _
        · exact fun H => ⟨H.1, hK _ _ _ _ H.2⟩
        · exact fun h => h
    · rename_i x c i r
      cases hb : Nat.beq c a with
      | false => simp only [hb] at H; exact H.elim
      | true =>
        simp only [hb] at H ⊢
        revert H
        dsimp only [cond]
        split
        · exact hK _ _ _ _
        · exact fun h => h
    · exact H.elim
  case iastore =>
    refine q1_mono (fun x r H => qidx_mono (fun c i j k r H => ?_) H) H
    cases hb : Nat.blt c 90 with
    | true => simp only [hb] at H ⊢; exact hK _ _ _ _ H
    | false => simp only [hb] at H; exact H.elim
  case lastore =>
    refine qL1_mono (fun x r H => qidx_mono (fun c i j k r H => ?_) H) H
    cases hb : Nat.blt c 90 with
    | true => simp only [hb] at H ⊢; exact hK _ _ _ _ H
    | false => simp only [hb] at H; exact H.elim
  case bastore =>
    refine q1_mono (fun x r H => qidx_mono (fun c i j k r H => ?_) H) H
    cases hb : Nat.blt c 90 with
    | true => simp only [hb] at H ⊢; exact ⟨H.1, hK _ _ _ _ H.2⟩
    | false => simp only [hb] at H; exact H.elim
  case arraylength =>
    show (match st with
    | .inr (.inr (.inr (.inl (c, _, j)))) :: r => bif Nat.blt 89 c then K' nx ls (qi (qlen h c j) :: r) h else False
    | _ => False)
    have H : (match st with
    | .inr (.inr (.inr (.inl (c, _, j)))) :: r => bif Nat.blt 89 c then K nx ls (qi (qlen h c j) :: r) h else False
    | _ => False) := H
    split at H
    · rename_i c _ j r
      cases hb : Nat.blt 89 c with
      | true => simp only [hb] at H ⊢; exact hK _ _ _ _ H
      | false => simp only [hb] at H; exact H.elim
    · exact H.elim
  case invokevirtual idx =>
    have H : (bif qrecv (qcn a) b st && Nat.blt a 1000 then qcall C (.invokevirtual idx, nx, a, b, k, z, cs) (b + 1) ls st h K else False) := H
    show (bif qrecv (qcn a) b st && Nat.blt a 1000 then qcall C (.invokevirtual idx, nx, a, b, k, z, cs) (b + 1) ls st h K' else False)
    cases hb : (qrecv (qcn a) b st && Nat.blt a 1000) with
    | false => simp only [hb] at H; exact H.elim
    | true =>
      simp only [hb] at H ⊢
      unfold qcall at H ⊢
      revert H
      dsimp only [cond]
      split
      · exact fun H => hC _ _ _ _ _ (fun v h' q => qret_mono (fun s h'' q => hK _ _ _ _ q) q) H
      · exact fun h => h
  case invokestatic idx =>
    have H : (bif Nat.blt a 1000 then qcall C (.invokestatic idx, nx, a, b, k, z, cs) b ls st h K else qprim (.invokestatic idx, nx, a, b, k, z, cs) ls st h K) := H
    show (bif Nat.blt a 1000 then qcall C (.invokestatic idx, nx, a, b, k, z, cs) b ls st h K' else qprim (.invokestatic idx, nx, a, b, k, z, cs) ls st h K')
    cases hb : Nat.blt a 1000 with
    | false =>
      simp only [hb] at H ⊢
      revert H
      dsimp only [cond]
      unfold qprim
      dsimp only
      split
      · exact q2_mono (fun _ _ _ H => hK _ _ _ _ H)
      · exact q2_mono (fun _ _ _ H => hK _ _ _ _ H)
      · exact qL1_mono (fun _ _ H => ⟨H.1, hK _ _ _ _ H.2⟩)
      · unfold qcopy
        split
        · rename_i n dp c i j sp c0 i0 j0 r
          cases (Nat.beq (qal c j).1 (qal c0 j0).1 && Nat.blt c 90 && Nat.blt c0 90 && Nat.blt (qal c j).1 2) with
          | true => exact fun H => ⟨H.1, hK _ _ _ _ H.2⟩
          | false => exact fun h => h
        · exact fun h => h
    | true =>
      simp only [hb] at H ⊢
      unfold qcall at H ⊢
      revert H
      dsimp only [cond]
      split
      · exact fun H => hC _ _ _ _ _ (fun v h' q => qret_mono (fun s h'' q => hK _ _ _ _ q) q) H
      · exact fun h => h
  case ireturn =>
    show (match st with
    | [.inl x] => (match k with
      | 0 => R' (some (qi x)) h
      | _ => (x = 0 ∨ x = 1) ∧ R' (some (qi x)) h)
    | _ => False)
    have H : (match st with
    | [.inl x] => (match k with
      | 0 => R (some (qi x)) h
      | _ => (x = 0 ∨ x = 1) ∧ R (some (qi x)) h)
    | _ => False) := H
    split at H
    · revert H
      split
      · exact hR _ _
      · exact fun H => ⟨H.1, hR _ _ H.2⟩
    · exact H.elim
  case lreturn =>
    show (match st with
    | [.inr (.inl x)] => R' (some (ql x)) h
    | _ => False)
    have H : (match st with
    | [.inr (.inl x)] => R (some (ql x)) h
    | _ => False) := H
    split at H
    · exact hR _ _ H
    · exact H.elim
  case return_ =>
    show (match st with
    | [] => R' none h
    | _ => False)
    have H : (match st with
    | [] => R none h
    | _ => False) := H
    split at H
    · exact hR _ _ H
    · exact H.elim
  case tableswitch => exact q1_mono (fun _ _ H => qsw_mono (fun _ H => hK _ _ _ _ H) H) H
  case lookupswitch => exact q1_mono (fun _ _ H => qsw_mono (fun _ H => hK _ _ _ _ H) H) H
  all_goals first
    | exact hK _ _ _ _ H
    | exact False.elim H
    | exact q1_mono (fun _ _ H => hK _ _ _ _ H) H
    | exact q2_mono (fun _ _ _ H => hK _ _ _ _ H) H
    | exact q2_mono (fun _ _ _ H => ⟨H.1, hK _ _ _ _ H.2⟩) H
    | exact q1_mono (fun _ _ H => ⟨fun c => hK _ _ _ _ (H.1 c), fun c => hK _ _ _ _ (H.2 c)⟩) H
    | exact q2_mono (fun _ _ _ H => ⟨fun c => hK _ _ _ _ (H.1 c), fun c => hK _ _ _ _ (H.2 c)⟩) H
    | exact qL1_mono (fun _ _ H => hK _ _ _ _ H) H
    | exact qL2_mono (fun _ _ _ H => hK _ _ _ _ H) H
    | exact qL2_mono (fun _ _ _ H => ⟨H.1, hK _ _ _ _ H.2⟩) H
    | exact qld_mono (fun _ H => hK _ _ _ _ H) H
    | exact qidx_mono (fun _ _ _ _ _ H => hK _ _ _ _ H) H
    | exact qdup_mono (fun _ H => hK _ _ _ _ H) H
    | exact qdup2_mono (fun _ H => hK _ _ _ _ H) H
theorem qT_mono : ∀ (d y pc : Nat) (ls st : List qV) (h : qH) (R R' : Option qV → qH → Prop), (∀ v h, R v h → R' v h) → qT d y pc ls st h R → qT d y pc ls st h R' := by
  intro d
  induction d with
  | zero => exact fun _ _ _ _ _ _ _ _ H => H.elim
  | succ d ih =>
    intro y pc ls st h R R' hR H Z hZ
    exact H Z (fun pc ls st h q => hZ pc ls st h (qstep_mono (fun y as h R R' hR H => ih _ _ _ _ _ _ _ hR H) hR (fun _ _ _ _ q => q) q))
theorem qC_mono (d : Nat) : qCm (qC d) := fun _ _ _ _ _ hR H => qT_mono d _ _ _ _ _ _ _ hR H
/-- n steps at most, then from the cuts on -/
theorem qT_run {d y : Nat} {R : Option qV → qH → Prop} (n : Nat) (cuts : List Nat) {pc : Nat} {ls st : List qV} {h : qH} (H : qwp (qC d) (qpg y) cuts R (fun pc ls st h => qT (d + 1) y pc ls st h R) n pc ls st h) : qT (d + 1) y pc ls st h R := by
  intro Z hZ
  induction n generalizing pc ls st h with
  | zero => exact H Z hZ
  | succ n ih =>
    refine hZ pc ls st h (qstep_mono (qC_mono d) (fun _ _ q => q) (fun a b c e q => ?_) (show qstep (qC d) R (qpg y pc) ls st h (fun pc' ls' st' h' => bif cuts.elem pc' then qT (d + 1) y pc' ls' st' h' R else qwp (qC d) (qpg y) cuts R (fun pc ls st h => qT (d + 1) y pc ls st h R) n pc' ls' st' h') from H))
    cases hb : cuts.elem a with
    | true => simp only [hb] at q; exact q Z hZ
    | false => simp only [hb] at q; exact ih q
