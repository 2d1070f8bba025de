theorem qb_mono {b : Bool} {A B : Prop} (h : A → B) (H : bif b then A else False) : bif b then B else False := by
  cases b with
  | true => exact h H
  | false => exact H
theorem q1_mono {st : List qV} {f g : Int → List qV → Prop} (hf : ∀ x r, f x r → g x r) (H : q1 st f) : q1 st g := by
  unfold q1 at H ⊢
  split at H
  · exact hf _ _ H
  · exact H.elim
theorem q2_mono {st : List qV} {f g : Int → Int → List qV → Prop} (hf : ∀ x y r, f x y r → g x y r) (H : q2 st f) : q2 st g := by
  unfold q2 at H ⊢
  split at H
  · exact hf _ _ _ H
  · exact H.elim
theorem qL1_mono {st : List qV} {f g : Int → List qV → Prop} (hf : ∀ x r, f x r → g x r) (H : qL1 st f) : qL1 st g := by
  unfold qL1 at H ⊢
  split at H
  · exact hf _ _ H
  · exact H.elim
theorem qL2_mono {st : List qV} {f g : Int → Int → List qV → Prop} (hf : ∀ x y r, f x y r → g x y r) (H : qL2 st f) : qL2 st g := by
  unfold qL2 at H ⊢
  split at H
  · exact hf _ _ _ H
  · exact H.elim
theorem qsw_mono {x : Int} {cs : List (Int × Nat)} {d : Nat} {K K' : Nat → Prop} (hK : ∀ t, K t → K' t) : qsw x cs d K → qsw x cs d K' := by
  induction cs with
  | nil => exact hK d
  | cons a r ih => exact fun H => ⟨fun e => hK _ (H.1 e), fun e => ih (H.2 e)⟩
theorem qld_mono {v : Option qV} {t : Nat} {f g : qV → Prop} (hf : ∀ v, f v → g v) (H : qld v t f) : qld v t g := by
  unfold qld at H ⊢
  split at H <;> split at H <;> first | exact hf _ H | exact H.elim
theorem qidx_mono {h : qH} {t : Nat} {st : List qV} {f g : Nat → Nat → Nat → Int → List qV → Prop} (hf : ∀ c i j k r, f c i j k r → g c i j k r) (H : qidx h t st f) : qidx h t st g := by
  unfold qidx at H ⊢
  split at H
  · exact qb_mono (fun H => ⟨H.1, hf _ _ _ _ _ H.2⟩) H
  · exact H.elim
theorem qdup_mono {st : List qV} {f g : List qV → Prop} (hf : ∀ r, f r → g r) (H : qdup st f) : qdup st g := by
  match st, H with
  | [], H => exact H.elim
  | .inr (.inl _) :: _, H => exact H.elim
  | .inr (.inr (.inr (.inr _))) :: _, H => exact H.elim
  | .inl x :: r, H => exact hf _ H
  | .inr (.inr (.inl x)) :: r, H => exact hf _ H
  | .inr (.inr (.inr (.inl x))) :: r, H => exact hf _ H
theorem qdup2_mono {st : List qV} {f g : List qV → Prop} (hf : ∀ r, f r → g r) (H : qdup2 st f) : qdup2 st g := by
  unfold qdup2 at H ⊢
  split at H
  · exact hf _ H
  · exact hf _ H
  · exact H.elim
theorem qri_mono {v : Option qV} {f g : Int → Prop} (hf : ∀ x, f x → g x) (H : qri v f) : qri v g := by
  unfold qri at H ⊢
  split at H
  · exact hf _ H
  · exact H.elim
theorem qrl_mono {v : Option qV} {f g : Int → Prop} (hf : ∀ x, f x → g x) (H : qrl v f) : qrl v g := by
  unfold qrl at H ⊢
  split at H
  · exact hf _ H
  · exact H.elim
theorem qrv_mono {v : Option qV} {f g : Prop} (hf : f → g) (H : qrv v f) : qrv v g := by
  unfold qrv at H ⊢
  split at H
  · exact hf H
  · exact H.elim
theorem qret_mono {z : Nat} {v : Option qV} {h : qH} {r : List qV} {K K' : List qV → qH → Prop} (hK : ∀ s h, K s h → K' s h) (H : qret z v h r K) : qret z v h r K' := by
  rcases z with _ | _ | z
  · exact qri_mono (fun x q => hK _ _ q) H
  · exact qrl_mono (fun x q => hK _ _ q) H
  · exact qrv_mono (fun q => hK _ _ q) H
theorem qIL_mono {st : List qV} {f g : Int → Int → List qV → Prop} (hf : ∀ x y r, f x y r → g x y r) (H : qIL st f) : qIL st g := by
  unfold qIL at H ⊢
  split at H
  · exact hf _ _ _ H
  · exact H.elim
theorem qA1_mono {st : List qV} {f g : Nat → Nat → Nat → List qV → Prop} (hf : ∀ c i j r, f c i j r → g c i j r) (H : qA1 st f) : qA1 st g := by
  unfold qA1 at H ⊢
  split at H
  · exact hf _ _ _ _ H
  · exact H.elim
theorem qeI_mono {st : List qV} {k : Nat} {f g : Int → Prop} (hf : ∀ x, f x → g x) (H : qeI st k f) : qeI st k g := by
  unfold qeI at H ⊢
  split at H
  · rcases k with _ | k
    · exact hf _ H
    · exact ⟨H.1, hf _ H.2⟩
  · exact H.elim
theorem qeL_mono {st : List qV} {f g : Int → Prop} (hf : ∀ x, f x → g x) (H : qeL st f) : qeL st g := by
  unfold qeL at H ⊢
  split at H
  · exact hf _ H
  · exact H.elim
theorem qe0_mono {st : List qV} {f g : Prop} (hf : f → g) (H : qe0 st f) : qe0 st g := by
  unfold qe0 at H ⊢
  split at H
  · exact hf H
  · exact H.elim
def qCm (C : Nat → List qV → qH → (Option qV → qH → Prop) → Prop) : Prop := ∀ y as h (R R' : Option qV → qH → Prop), (∀ v h, R v h → R' v h) → C y as h R → C y as h R'
set_option maxRecDepth 100000 in
theorem qstep_mono {C : Nat → List qV → qH → (Option qV → qH → Prop) → Prop} (hC : qCm C) {R R' : Option qV → qH → Prop} (hR : ∀ v h, R v h → R' v h) {rw : qrow} {ls st : List qV} {h : qH} {K K' : Nat → List qV → List qV → qH → Prop} (hK : ∀ a b c d, K a b c d → K' a b c d) (H : qstep C R rw ls st h K) : qstep C R' rw ls st h K' := by
  obtain ⟨ins, nx, a, b, k, z, cs⟩ := rw
  cases ins
  case iinc k n => exact qri_mono (fun _ H => ⟨H.1, hK _ _ _ _ H.2⟩) H
  case lshl => exact qIL_mono (fun _ _ _ H => hK _ _ _ _ H) H
  case getfield idx =>
    have H : qget (.getfield idx, nx, a, b, k, z, cs) ls st h K := H
    show qget (.getfield idx, nx, a, b, k, z, cs) ls st h K'
    unfold qget at H ⊢
    split at H
    · refine qb_mono (fun H => ?_) H
      dsimp only at H ⊢
      rcases k with _ | _ | _ | _ | k
      · exact hK _ _ _ _ H
      · exact hK _ _ _ _ H
      · exact hK _ _ _ _ H
      · rcases cs with _ | ⟨⟨c', i'⟩, r⟩
        · exact H
        · exact hK _ _ _ _ H
      · exact hK _ _ _ _ H
    · exact H.elim
  case putfield idx =>
    have H : qput (.putfield idx, nx, a, b, k, z, cs) ls st h K := H
    show qput (.putfield idx, nx, a, b, k, z, cs) ls st h K'
    unfold qput at H ⊢
    split at H
    · refine qb_mono (fun H => ?_) H
      dsimp only at H ⊢
      rcases k with _ | _ | _ | _ | _ | k
      · exact hK _ _ _ _ H
      · exact H
      · exact H
      · exact H
      · exact ⟨H.1, hK _ _ _ _ H.2⟩
      · exact H
    · refine qb_mono (fun H => ?_) H
      dsimp only at H ⊢
      rcases k with _ | _ | k
      · exact H
      · exact hK _ _ _ _ H
      · exact H
    · exact H.elim
  case iastore => exact q1_mono (fun x r H => qidx_mono (fun c i j k r H => qb_mono (fun H => hK _ _ _ _ H) H) H) H
  case lastore => exact qL1_mono (fun x r H => qidx_mono (fun c i j k r H => qb_mono (fun H => hK _ _ _ _ H) H) H) H
  case bastore => exact q1_mono (fun x r H => qidx_mono (fun c i j k r H => qb_mono (fun H => ⟨H.1, hK _ _ _ _ H.2⟩) H) H) H
  case arraylength => exact qA1_mono (fun _ _ _ _ H => qb_mono (fun H => hK _ _ _ _ H) H) H
  case invokevirtual idx =>
    have H : (bif qrecv (qcn a) b st && Nat.blt a 1000 then qcall C (.invokevirtual idx, nx, a, b, k, z, cs) (b + 1) ls st h K else False) := H
    show (bif qrecv (qcn a) b st && Nat.blt a 1000 then qcall C (.invokevirtual idx, nx, a, b, k, z, cs) (b + 1) ls st h K' else False)
    refine qb_mono (fun H => ?_) H
    unfold qcall at H ⊢
    exact qb_mono (fun H => hC _ _ _ _ _ (fun v h' q => qret_mono (fun s h'' q => hK _ _ _ _ q) q) H) H
  case invokestatic idx =>
    have H : (bif Nat.blt a 1000 then qcall C (.invokestatic idx, nx, a, b, k, z, cs) b ls st h K else (bif Nat.ble (qcat st) 20 then qprim (.invokestatic idx, nx, a, b, k, z, cs) ls st h K else False)) := H
    show (bif Nat.blt a 1000 then qcall C (.invokestatic idx, nx, a, b, k, z, cs) b ls st h K' else (bif Nat.ble (qcat st) 20 then qprim (.invokestatic idx, nx, a, b, k, z, cs) ls st h K' else False))
    cases hb : Nat.blt a 1000 with
    | true =>
      rw [hb, cond_true] at H
      rw [cond_true]
      have H : qcall C (.invokestatic idx, nx, a, b, k, z, cs) b ls st h K := H
      show qcall C (.invokestatic idx, nx, a, b, k, z, cs) b ls st h K'
      unfold qcall at H ⊢
      exact qb_mono (fun H => hC _ _ _ _ _ (fun v h' q => qret_mono (fun s h'' q => hK _ _ _ _ q) q) H) H
    | false =>
      rw [hb, cond_false] at H
      rw [cond_false]
      refine qb_mono (fun H => ?_) H
      unfold qprim at H ⊢
      dsimp only at H ⊢
      generalize a - 1000 = w at H ⊢
      rcases w with _ | _ | _ | w
      · exact q2_mono (fun _ _ _ H => hK _ _ _ _ H) H
      · exact q2_mono (fun _ _ _ H => hK _ _ _ _ H) H
      · exact qL1_mono (fun _ _ H => ⟨H.1, hK _ _ _ _ H.2⟩) H
      · have H : qcopy st h fun r h' => K nx ls r h' := H
        show qcopy st h fun r h' => K' nx ls r h'
        unfold qcopy at H ⊢
        split at H
        · exact qb_mono (fun H => ⟨H.1, hK _ _ _ _ H.2⟩) H
        · exact H.elim
  case ireturn => exact qeI_mono (fun _ H => hR _ _ H) H
  case lreturn => exact qeL_mono (fun _ H => hR _ _ H) H
  case return_ => exact qe0_mono (fun H => hR _ _ H) H
  case tableswitch => exact q1_mono (fun _ _ H => qsw_mono (fun _ H => hK _ _ _ _ H) H) H
  case lookupswitch => exact q1_mono (fun _ _ H => qsw_mono (fun _ H => hK _ _ _ _ H) H) H
  case iload_n n => exact qld_mono (v := ls[n.val]?) (t := 0) (f := fun v => K nx ls (v :: st) h) (g := fun v => K' nx ls (v :: st) h) (fun _ H => hK _ _ _ _ H) H
  case iload n => exact qld_mono (v := ls[n]?) (t := 0) (f := fun v => K nx ls (v :: st) h) (g := fun v => K' nx ls (v :: st) h) (fun _ H => hK _ _ _ _ H) H
  case lload_n n => exact qld_mono (v := ls[n.val]?) (t := 1) (f := fun v => K nx ls (v :: st) h) (g := fun v => K' nx ls (v :: st) h) (fun _ H => hK _ _ _ _ H) H
  case lload n => exact qld_mono (v := ls[n]?) (t := 1) (f := fun v => K nx ls (v :: st) h) (g := fun v => K' nx ls (v :: st) h) (fun _ H => hK _ _ _ _ H) H
  case aload_n n => exact qld_mono (v := ls[n.val]?) (t := 2) (f := fun v => K nx ls (v :: st) h) (g := fun v => K' nx ls (v :: st) h) (fun _ H => hK _ _ _ _ H) H
  case aload n => exact qld_mono (v := ls[n]?) (t := 2) (f := fun v => K nx ls (v :: st) h) (g := fun v => K' nx ls (v :: st) h) (fun _ H => hK _ _ _ _ H) H
  case dup => exact qdup_mono (f := fun st' => K nx ls st' h) (g := fun st' => K' nx ls st' h) (fun _ H => hK _ _ _ _ H) H
  case dup2 => exact qdup2_mono (f := fun st' => K nx ls st' h) (g := fun st' => K' nx ls st' h) (fun _ H => hK _ _ _ _ H) H
  all_goals first
    | exact hK _ _ _ _ H
    | exact False.elim H
    | exact q1_mono (fun _ _ H => hK _ _ _ _ H) H
    | exact q2_mono (fun _ _ _ H => hK _ _ _ _ H) H
    | exact q2_mono (fun _ _ _ H => ⟨H.1, hK _ _ _ _ H.2⟩) H
    | exact q1_mono (fun _ _ H => ⟨fun c => hK _ _ _ _ (H.1 c), fun c => hK _ _ _ _ (H.2 c)⟩) H
    | exact q2_mono (fun _ _ _ H => ⟨fun c => hK _ _ _ _ (H.1 c), fun c => hK _ _ _ _ (H.2 c)⟩) H
    | exact qL1_mono (fun _ _ H => hK _ _ _ _ H) H
    | exact qL2_mono (fun _ _ _ H => hK _ _ _ _ H) H
    | exact qL2_mono (fun _ _ _ H => ⟨H.1, hK _ _ _ _ H.2⟩) H
    | exact qidx_mono (fun _ _ _ _ _ H => hK _ _ _ _ H) H
theorem qT_mono : ∀ (d y pc : Nat) (ls st : List qV) (h : qH) (R R' : Option qV → qH → Prop), (∀ v h, R v h → R' v h) → qT d y pc ls st h R → qT d y pc ls st h R' := by
  intro d
  induction d with
  | zero => exact fun _ _ _ _ _ _ _ _ H => H.elim
  | succ d ih =>
    intro y pc ls st h R R' hR H Z hZ
    exact H Z (fun pc ls st h q => hZ pc ls st h (qstep_mono (C := fun y' as h' R' => qT d y' 0 (qpad (qml y') (qflat as)) [] h' R') (fun y as h R R' hR H => ih y 0 _ [] h R R' hR H) hR (fun _ _ _ _ q => q) q))
theorem qC_mono (d : Nat) : qCm (qC d) := fun _ _ _ _ _ hR H => qT_mono d _ _ _ _ _ _ _ hR H
/-- n steps at most, then from the cuts on -/
theorem qT_run {d y : Nat} {R : Option qV → qH → Prop} (n : Nat) (cuts : List Nat) {pc : Nat} {ls st : List qV} {h : qH} (H : qwp (qC d) (qpg y) cuts R (fun pc ls st h => qT (d + 1) y pc ls st h R) n pc ls st h) : qT (d + 1) y pc ls st h R := by
  intro Z hZ
  induction n generalizing pc ls st h with
  | zero => exact H Z hZ
  | succ n ih =>
    refine hZ pc ls st h (qstep_mono (qC_mono d) (fun _ _ q => q) (fun a b c e q => ?_) (show qstep (qC d) R (qpg y pc) ls st h (fun pc' ls' st' h' => bif cuts.elem pc' then qT (d + 1) y pc' ls' st' h' R else qwp (qC d) (qpg y) cuts R (fun pc ls st h => qT (d + 1) y pc ls st h R) n pc' ls' st' h') from H))
    cases hb : cuts.elem a with
    | true => simp only [hb] at q; exact q Z hZ
    | false => simp only [hb] at q; exact ih q
