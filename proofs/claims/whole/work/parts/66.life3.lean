/-! the class lives DECADES -/
def lvX (i q : Nat) (g : qH) (σ : lvS) : Prop := qQX g q σ.1 ∧ g 5 i 3 0 = σ.2.1 ∧ g 5 i 4 0 = σ.2.2.1 ∧ g 5 i 5 0 = σ.2.2.2.1 ∧ g 5 i 2 0 = σ.2.2.2.2.2
abbrev PLx (i q : Nat) : Nat → Nat → Nat → Prop := fun c' i' j => (c' = 5 ∧ i' = i ∧ (j = 0 ∨ j = 2 ∨ j = 3 ∨ j = 4 ∨ j = 5)) ∨ (c' = 7 ∧ i' = q ∧ 1 ≤ j)
section Lg
variable {d : Nat} {R : Option qV → qH → Prop} {h0 : qH} {B n m seed lines : Int} {i q : Nat} {D : Int → Int → Int} {C : Nat → Int → Int}
theorem x_seg (hB : B + 300 < 2000000000) (hC : ∀ j l, C j l = h0 1 0 j (Int.toNat l)) (hl : h0 1 0 7 0 = lines) (hl6 : lines ≤ 60) : ∀ (k dd : Nat) (f t l e : Int) (σ : lvS) (g : qH) (mv : Int), dSeg n m D C k dd f t l e → 0 ≤ l → e ≤ lines → lvOk B n m σ → σ.2.2.2.2.1 = 0 → lvX i q g σ → fr (PLx i q) h0 g → 0 ≤ mv → mv + 3 * (300 - σ.2.2.1) ≤ 999000 →
    (∀ g' mv', lvX i q g' (lvAll D k f t σ) → fr (PLx i q) h0 g' → (∀ j, 0 ≤ j → (j < l ∨ e ≤ j) → g' 5 i 0 (Int.toNat j) = g 5 i 0 (Int.toNat j)) → (lvAll D k f t σ).2.2.2.2.1 = 0 → 0 ≤ mv' → mv' + (if f < t then 1 else 0) ≤ mv + 3 * ((lvAll D k f t σ).2.2.1 - σ.2.2.1) → qT (d + 7) 29 55 [qo 5 i, qo 7 q, qo 1 0, qi seed, qi e, qi mv'] [] g' R) →
    (∀ g' x mv', lvX i q g' (lvAll D k f t σ) → fr (PLx i q) h0 g' → (lvAll D k f t σ).2.2.2.2.1 = 1 → qT (d + 7) 29 151 [qo 5 i, qo 7 q, qo 1 0, qi seed, qi x, qi mv'] [] g' R) →
    qT (d + 7) 29 55 [qo 5 i, qo 7 q, qo 1 0, qi seed, qi l, qi mv] [] g R := by
  intro k
  induction k with
  | zero =>
    intro dd f t l e σ g mv hd l0 he hok ho hX hf mv0 mv1 HK _
    have hd : f = t ∧ l = e := hd
    have := HK g mv hX hf (fun _ _ _ => rfl) ho mv0 (by show mv + (if f < t then 1 else 0) ≤ mv + 3 * (σ.2.2.1 - σ.2.2.1); rw [if_neg (by omega)]; omega)
    rw [← hd.2] at this
    exact this
  | succ k ih =>
    intro dd f t l e σ g mv hd l0 he hok ho hX hf mv0 mv1 HK HO
    have dle := dSeg_le _ _ hd
    rcases hd with hd | ⟨h1, hS, hd⟩
    · have e1 : lvAll D (k + 1) f t σ = σ := lvAll_no (by omega)
      rw [e1] at HK
      have := HK g mv hX hf (fun _ _ _ => rfl) ho mv0 (by rw [if_neg (by omega)]; omega)
      rw [← hd.2] at this
      exact this
    · have eA : lvAll D (k + 1) f t σ = lvAll D k (D f 8) t (lvOne D (lvAll D k) f σ) := lvAll_go h1 ho
      rw [eA] at HK HO
      rw [if_pos h1] at HK
      obtain ⟨q1, q2, q4, q5, q6, q7, q8, q9⟩ := hok
      have hok : lvOk B n m σ := ⟨q1, q2, q4, q5, q6, q7, q8, q9⟩
      obtain ⟨x1, x2, x3, x4, x5⟩ := hX
      have gC : ∀ g', fr (PLx i q) h0 g' → ∀ j l, C j l = g' 1 0 j (Int.toNat l) := fun g' hf' j l => by rw [hf' 1 0 j (by omega)]; exact hC j l
      have gl : ∀ g', fr (PLx i q) h0 g' → g' 1 0 7 0 = lines := fun g' hf' => by rw [hf' 1 0 7 (by omega)]; exact hl
      have kind : C 0 l ≠ 17 := by
        obtain ⟨b0, s0, s1, s2, s3, s4, s5, s6, s7⟩ := hS
        have hkk : D f 0 = 0 ∨ D f 0 = 1 ∨ D f 0 = 2 ∨ D f 0 = 3 ∨ D f 0 = 4 ∨ D f 0 = 5 ∨ D f 0 = 6 ∨ D f 0 = 7 := by omega
        rcases hkk with c | c | c | c | c | c | c | c
        · rw [(s0 c).1]; decide
        · rw [(s1 c).1]; decide
        · rw [(s2 c).1]; decide
        · rw [(s3 c).1]; decide
        · rw [s4 c]; decide
        · obtain ⟨tb, t0, t1, t2, t3⟩ := s5 c
          have : D f 5 = 0 ∨ D f 5 = 1 ∨ D f 5 = 2 ∨ D f 5 = 3 := by omega
          rcases this with c2 | c2 | c2 | c2
          · rw [(t0 c2).1]; decide
          · rw [(t1 c2).1]; decide
          · rw [(t2 c2).1]; decide
          · rw [(t3 c2).1]; decide
        · rw [(s6 c).1]; decide
        · rw [s7 c]; decide
      have l1 : l < lines := Int.lt_of_lt_of_le (dle.2.2.mp h1) he
      have lL := q8 ho
      refine tX5_run_55 ⟨fun c => absurd c (by omega), fun _ => ⟨fun c => absurd c (by omega), fun _ => ?_⟩⟩
      rw [gl g hf, x5, lL, ← gC g hf, x3]
      refine ⟨fun c => absurd c (by omega), fun _ => ⟨fun c => absurd rfl c, fun _ => ⟨by omega, fun _ => ⟨fun c3 => ⟨qR_of (by omega) (by omega), ?_⟩, fun c3 => ⟨by omega, qR_of (by omega) (by omega), ?_⟩⟩, fun c => absurd kind c⟩⟩⟩
      · -- a step is done
        have h3 : σ.2.2.1 ≠ 300 := by omega
        have f0 : fr (PLx i q) h0 (qup g 5 i 4 0 (σ.2.2.1 + 1)) := fr_trans hf (fr_up (Or.inl ⟨rfl, rfl, by omega⟩))
        have X0 : qQX (qup g 5 i 4 0 (σ.2.2.1 + 1)) q σ.1 := qx_fr x1 (by funext j; exact up_j (by omega))
        have k3 : (qup g 5 i 4 0 (σ.2.2.1 + 1)) 5 i 3 0 = σ.2.1 := by rw [up_j (by omega)]; exact x2
        have k5 : (qup g 5 i 4 0 (σ.2.2.1 + 1)) 5 i 5 0 = σ.2.2.2.1 := by rw [up_j (by omega)]; exact x4
        -- the state with one more done, on a heap where missed stands again
        have XI : lvX i q (qup (qup g 5 i 4 0 (σ.2.2.1 + 1)) 5 i 5 0 σ.2.2.2.1) (lvI σ) := ⟨qx_fr X0 (by funext j; exact up_j (by omega)), by rw [up_j (by omega)]; exact k3, by rw [up_j (by omega)]; exact up_at, up_at, by rw [up_j (by omega), up_j (by omega)]; exact x5⟩
        have fI : fr (PLx i q) h0 (qup (qup g 5 i 4 0 (σ.2.2.1 + 1)) 5 i 5 0 σ.2.2.2.1) := fr_trans f0 (fr_up (Or.inl ⟨rfl, rfl, by omega⟩))
        have okI := lvOk_I hok h3
        have eI : (lvI σ).2.2.1 = σ.2.2.1 + 1 := rfl
        have oI : (lvI σ).2.2.2.2.1 = 0 := ho
        have T0 : ∀ j, (qup (qup g 5 i 4 0 (σ.2.2.1 + 1)) 5 i 5 0 σ.2.2.2.1) 5 i 0 j = g 5 i 0 j := fun j => by rw [up_j (by omega), up_j (by omega)]
        rcases hd with ⟨hk, h8, hd⟩ | ⟨hk, hdd, E, hE1, hE2, hE3, hd1, hd2⟩
        · have dl := dSeg_le _ _ hd
          rcases hk with hk | hk
          · -- a plain one
            have G := lvD_g q1 (stepOK_V hS q2.1 q2.2) q4.1 q4.2
            refine x_stepSimple (ms := σ.2.2.2.1) X0 q1 (by omega) (fun j => gC _ f0 j l) hS q2.1 q2.2 hk l0 (by omega) k3 q4.1 q4.2 k5 q6.1 (by omega) (fun g1 y1 y2 y3 yf => ⟨qR_of (by omega) (by omega), ?_⟩)
            have e1 := lvOne_s (rc := lvAll D k) h3 hk
            have ok1 : lvOk B n m (lvOne D (lvAll D k) f σ) := by
              have := lvAll_ok (B := B) (D := D) (C := C) (n := n) (m := m) (k + 1) 0 (f := f) (t := f + 1) (l := l) (e := l + 1) (σ := σ) (Or.inr ⟨by omega, hS, Or.inl ⟨Or.inl hk, h8, by cases k with | zero => exact ⟨rfl, rfl⟩ | succ k => exact Or.inl ⟨rfl, rfl⟩⟩⟩) hok
              rw [lvAll_go (by omega) ho, h8, lvAll_no (by omega)] at this
              exact this.1
            rw [h8] at HK HO
            have n1 : (lvOne D (lvAll D k) f σ).2.2.1 = σ.2.2.1 + 1 := by rw [e1]
            refine ih dd (f + 1) t (l + 1) e (lvOne D (lvAll D k) f σ) g1 (mv + 1) hd (by omega) he ok1 (by rw [e1]; exact ho) ?_ (fr_trans f0 (fr_mono yf (fun c i' j hP => ?_))) (by omega) (by omega) (fun g' mv' X' f' T' o' m0' m1' => ?_) (fun g' x mv' X' f' o' => HO g' x mv' X' f' o')
            · rw [e1]
              refine ⟨y1, y2, ?_, y3, ?_⟩
              · rw [yf 5 i 4 (by omega)]; exact up_at
              · rw [yf 5 i 2 (by omega), up_j (by omega)]; exact x5
            · rcases hP with hP | hP
              · exact Or.inl ⟨hP.1, hP.2.1, by omega⟩
              · exact Or.inr hP
            · refine HK g' mv' X' f' (fun j j0 j1 => ?_) o' m0' ?_
              · rw [T' j j0 (by omega), yf 5 i 0 (by omega), up_j (by omega)]
              · have : (if f + 1 < t then (1 : Int) else 0) ≥ 0 := by split <;> omega
                omega
          · -- the end of all
            have e1 := lvOne_t (rc := lvAll D k) h3 hk
            have e2 : lvAll D k (D f 8) t (lvOne D (lvAll D k) f σ) = lvOne D (lvAll D k) f σ := lvAll_no (by rw [e1]; show ¬ (D f 8 < t ∧ (1 : Int) = 0); omega)
            rw [e2] at HO
            refine x_stepStop (ms := σ.2.2.2.1) (fun j => gC _ f0 j l) hS hk l0 (by omega) k5 q6.1 (by omega) ⟨qR_of (by omega) (by omega), ?_⟩
            rw [gl _ f0]
            refine tX5_run_55 ⟨fun c => absurd c (by omega), fun _ => ⟨fun c => absurd c (by omega), fun _ => ?_⟩⟩
            rw [gl _ fI]
            refine ⟨fun _ => HO _ _ _ ?_ fI (by rw [e1]), fun c => absurd (Int.le_refl _) c⟩
            rw [e1]
            exact XI
        · have d1 := dSeg_le _ _ hd1
          have d2 := dSeg_le _ _ hd2
          -- behind the block
          have rest : ∀ (τ : lvS) g1 mv1, lvOne D (lvAll D k) f σ = τ → lvOk B n m τ → τ.2.2.2.2.1 = 0 → lvX i q g1 τ → fr (PLx i q) h0 g1 → 0 ≤ mv1 → (∀ j, 0 ≤ j → (j < l ∨ e ≤ j) → g1 5 i 0 (Int.toNat j) = g 5 i 0 (Int.toNat j)) → mv1 + 1 ≤ mv + 3 * (τ.2.2.1 - σ.2.2.1) → qT (d + 7) 29 55 [qo 5 i, qo 7 q, qo 1 0, qi seed, qi (E + 1), qi mv1] [] g1 R := by
            intro τ g1 mv1 eτ okτ oτ Xτ fτ m0 T1 mle
            rw [eτ] at HK HO
            refine ih dd (D f 8) t (E + 1) e τ g1 mv1 hd2 (by omega) he okτ oτ Xτ fτ m0 (by omega) (fun g' mv' X' f' T' o' m0' m1' => ?_) (fun g' x mv' X' f' o' => HO g' x mv' X' f' o')
            refine HK g' mv' X' f' (fun j j0 j1 => ?_) o' m0' ?_
            · rw [T' j j0 (by omega)]; exact T1 j j0 j1
            · have : (if D f 8 < t then (1 : Int) else 0) ≥ 0 := by split <;> omega
              omega
          -- over within the block
          have over : ∀ (τ : lvS) g1 x mv1, lvOne D (lvAll D k) f σ = τ → τ.2.2.2.2.1 = 1 → lvX i q g1 τ → fr (PLx i q) h0 g1 → qT (d + 7) 29 151 [qo 5 i, qo 7 q, qo 1 0, qi seed, qi x, qi mv1] [] g1 R := by
            intro τ g1 x mv1 eτ oτ Xτ fτ
            rw [eτ, lvAll_no (by omega)] at HO
            exact HO g1 x mv1 Xτ fτ oτ
          -- an end line
          have atEnd : ∀ g1 mv1, fr (PLx i q) h0 g1 → g1 5 i 2 0 = 0 → 0 ≤ mv1 → mv1 ≤ 999000 → (C 0 l ≠ 16 ∨ g1 5 i 0 (Int.toNat l) ≤ 0 → qT (d + 7) 29 55 [qo 5 i, qo 7 q, qo 1 0, qi seed, qi (E + 1), qi (mv1 + 1)] [] g1 R) → (C 0 l = 16 → 0 < g1 5 i 0 (Int.toNat l) → g1 5 i 0 (Int.toNat l) < 1000 ∧ qT (d + 7) 29 55 [qo 5 i, qo 7 q, qo 1 0, qi seed, qi (l + 1), qi (mv1 + 1)] [] (qup g1 5 i 0 (Int.toNat l) (g1 5 i 0 (Int.toNat l) - 1)) R) → qT (d + 7) 29 55 [qo 5 i, qo 7 q, qo 1 0, qi seed, qi E, qi mv1] [] g1 R := by
            intro g1 mv1 f1 o1 m0 m1 H1 H2
            refine tX5_run_55 ⟨fun c => absurd c (by omega), fun _ => ⟨fun c => absurd c (by omega), fun _ => ?_⟩⟩
            rw [gl g1 f1, o1, ← gC g1 f1 0 E, hE3]
            refine ⟨fun c => absurd c (by omega), fun _ => ⟨fun c => absurd rfl c, fun _ => ⟨by omega, fun c => absurd rfl c, fun _ => sX5_behindEnd_0 ?_⟩⟩⟩
            rw [← gC g1 f1 4 E, hE2, gl g1 f1, ← gC g1 f1 0 l]
            refine ⟨by omega, fun c => absurd c (by omega), fun _ => ⟨fun c => absurd c (by omega), fun _ => ⟨by omega, fun c => ⟨qR_of (by omega) (by omega), qR_of (by omega) (by omega), H1 (Or.inl c)⟩, fun c => ⟨by omega, fun c2 => ⟨qR_of (by omega) (by omega), qR_of (by omega) (by omega), H1 (Or.inr c2)⟩, fun c2 => ?_⟩⟩⟩⟩
            have := H2 (by omega) (by omega)
            exact ⟨by omega, qR_of (by omega) (by omega), by omega, qR_of (by omega) (by omega), qR_of (by omega) (by omega), this.2⟩
          rcases hk with hk | hk
          · -- when
            have nl : C 0 l ≠ 16 := by
              obtain ⟨tb, t0, t1, t2, t3⟩ := hS.2.2.2.2.2.2.1 hk
              have : D f 5 = 0 ∨ D f 5 = 1 ∨ D f 5 = 2 ∨ D f 5 = 3 := by omega
              rcases this with c2 | c2 | c2 | c2
              · rw [(t0 c2).1]; decide
              · rw [(t1 c2).1]; decide
              · rw [(t2 c2).1]; decide
              · rw [(t3 c2).1]; decide
            refine x_stepWhen (ms := σ.2.2.2.1) X0 q1 (fun j => gC _ f0 j l) hS q2.1 q2.2 hk l0 (by omega) k5 q6.1 (by omega) (by omega) (by omega) (fun hh => ⟨qR_of (by omega) (by omega), ?_⟩) (fun hh => ⟨qR_of (by omega) (by omega), ?_⟩)
            · have e1 := lvOne_wt (rc := lvAll D k) h3 hk hh
              refine ih (dd - 1) (f + 1) (D f 8) (l + 1) E (lvI σ) _ (mv + 1) hd1 (by omega) (by omega) okI oI XI fI (by omega) (by omega) (fun g' mv' X' f' T' o' m0' m1' => ?_) (fun g' x mv' X' f' o' => over _ g' x mv' e1 o' X' f')
              have okb := lvAll_ok (B := B) k _ hd1 okI
              have b5 := okb.1.2.2.2.1
              have : (if f + 1 < D f 8 then (1 : Int) else 0) ≥ 0 := by split <;> omega
              refine atEnd g' mv' f' (by rw [X'.2.2.2.2]; exact okb.1.2.2.2.2.2.2.1 o') m0' (by omega) (fun _ => rest _ g' (mv' + 1) e1 okb.1 o' X' f' (by omega) (fun j j0 j1 => ?_) (by omega)) (fun c => absurd c nl)
              rw [T' j j0 (by omega)]; exact T0 _
            · have e1 := lvOne_wf (rc := lvAll D k) h3 hk hh
              rw [hE1]
              exact rest _ _ (mv + 1) e1 okI oI XI fI (by omega) (fun j _ _ => T0 _) (by omega)
          · -- loop
            obtain ⟨c0, c1, c2, c3⟩ := hS.2.2.2.2.2.2.2.1 hk
            have e1 := lvOne_l (rc := lvAll D k) h3 hk
            refine x_stepLoop (ms := σ.2.2.2.1) (fun j => gC _ f0 j l) hS hk l0 (by omega) k5 q6.1 (by omega) ⟨qR_of (by omega) (by omega), ?_⟩
            have XL : lvX i q (qup (qup (qup g 5 i 4 0 (σ.2.2.1 + 1)) 5 i 0 (Int.toNat l) (D f 1 - 1)) 5 i 5 0 σ.2.2.2.1) (lvI σ) := ⟨qx_fr X0 (by funext j; rw [up_j (by omega), up_j (by omega)]), by rw [up_j (by omega), up_j (by omega)]; exact k3, by rw [up_j (by omega), up_j (by omega)]; exact up_at, up_at, by rw [up_j (by omega), up_j (by omega), up_j (by omega)]; exact x5⟩
            have fL : fr (PLx i q) h0 (qup (qup (qup g 5 i 4 0 (σ.2.2.1 + 1)) 5 i 0 (Int.toNat l) (D f 1 - 1)) 5 i 5 0 σ.2.2.2.1) := fr_trans f0 (fr_trans (fr_up (Or.inl ⟨rfl, rfl, by omega⟩)) (fr_up (Or.inl ⟨rfl, rfl, by omega⟩)))
            have TL : ∀ j, 0 ≤ j → (qup (qup (qup g 5 i 4 0 (σ.2.2.1 + 1)) 5 i 0 (Int.toNat l) (D f 1 - 1)) 5 i 5 0 σ.2.2.2.1) 5 i 0 (Int.toNat j) = if j = l then D f 1 - 1 else g 5 i 0 (Int.toNat j) := fun j j0 => by rw [up_j (by omega), up_I j0 l0, up_j (by omega)]
            generalize (qup (qup (qup g 5 i 4 0 (σ.2.2.1 + 1)) 5 i 0 (Int.toNat l) (D f 1 - 1)) 5 i 5 0 σ.2.2.2.1) = gL at XL fL TL
            by_cases hem : E = l + 1
            · rw [hE1, if_pos hem]
              have fix : lvAll D k (f + 1) (D f 8) (lvI σ) = lvI σ := lvAll_no (by omega)
              rw [qfold_fix fix _ (by omega)] at e1
              have := rest _ gL (mv + 1) e1 okI oI XL fL (by omega) (fun j j0 j1 => by rw [TL j j0, if_neg (by omega)]) (by omega)
              rw [show E + 1 = l + 2 by omega] at this
              exact this
            · rw [hE1, if_neg hem]
              have nonem : f + 1 < D f 8 := by omega
              -- c rounds are left
              have rounds : ∀ (c : Nat) (τ : lvS) g1 mv1, lvOne D (lvAll D k) f σ = qfold (fun _ r => lvAll D k (f + 1) (D f 8) r) τ ((c : Int) + 1) → lvOk B n m τ → τ.2.2.2.2.1 = 0 → lvX i q g1 τ → fr (PLx i q) h0 g1 → 0 ≤ mv1 → (c : Int) ≤ 99 → g1 5 i 0 (Int.toNat l) = c → (∀ j, 0 ≤ j → (j < l ∨ e ≤ j) → g1 5 i 0 (Int.toNat j) = g 5 i 0 (Int.toNat j)) → mv1 + 2 ≤ mv + 3 * (τ.2.2.1 - σ.2.2.1) → qT (d + 7) 29 55 [qo 5 i, qo 7 q, qo 1 0, qi seed, qi (l + 1), qi mv1] [] g1 R := by
                intro c
                induction c with
                | zero =>
                  intro τ g1 mv1 eτ okτ oτ Xτ fτ m0 _ hc T1 mle
                  rw [show ((0 : Nat) : Int) + 1 = (0 : Int) + 1 from rfl, qfold_front 0 (by omega)] at eτ
                  have eτ : lvOne D (lvAll D k) f σ = lvAll D k (f + 1) (D f 8) τ := eτ
                  have okb := lvAll_ok (B := B) k _ hd1 okτ
                  have b5 := okb.1.2.2.2.1
                  refine ih (dd - 1) (f + 1) (D f 8) (l + 1) E τ g1 mv1 hd1 (by omega) (by omega) okτ oτ Xτ fτ m0 (by omega) (fun g' mv' X' f' T' o' m0' m1' => ?_) (fun g' x mv' X' f' o' => over _ g' x mv' eτ o' X' f')
                  rw [if_pos nonem] at m1'
                  have tl : g' 5 i 0 (Int.toNat l) = 0 := by rw [T' l l0 (by omega)]; exact hc
                  refine atEnd g' mv' f' (by rw [X'.2.2.2.2]; exact okb.1.2.2.2.2.2.2.1 o') m0' (by omega) (fun _ => rest _ g' (mv' + 1) eτ okb.1 o' X' f' (by omega) (fun j j0 j1 => ?_) (by omega)) (fun _ c => absurd c (by omega))
                  rw [T' j j0 (by omega)]; exact T1 j j0 j1
                | succ c ihc =>
                  intro τ g1 mv1 eτ okτ oτ Xτ fτ m0 hc9 hc T1 mle
                  rw [qfold_front ((c + 1 : Nat) : Int) (by omega)] at eτ
                  have okb := lvAll_ok (B := B) k _ hd1 okτ
                  have b5 := okb.1.2.2.2.1
                  refine ih (dd - 1) (f + 1) (D f 8) (l + 1) E τ g1 mv1 hd1 (by omega) (by omega) okτ oτ Xτ fτ m0 (by omega) (fun g' mv' X' f' T' o' m0' m1' => ?_) (fun g' x mv' X' f' o' => ?_)
                  · rw [if_pos nonem] at m1'
                    have tl : g' 5 i 0 (Int.toNat l) = ((c + 1 : Nat) : Int) := by rw [T' l l0 (by omega)]; exact hc
                    refine atEnd g' mv' f' (by rw [X'.2.2.2.2]; exact okb.1.2.2.2.2.2.2.1 o') m0' (by omega) (fun c4 => ?_) (fun _ _ => ⟨by omega, ?_⟩)
                    · rcases c4 with c4 | c4
                      · exact absurd c0 c4
                      · omega
                    · rw [tl]
                      refine ihc _ _ (mv' + 1) ?_ okb.1 o' ⟨qx_fr X'.1 (by funext j; exact up_j (by omega)), by rw [up_j (by omega)]; exact X'.2.1, by rw [up_j (by omega)]; exact X'.2.2.1, by rw [up_j (by omega)]; exact X'.2.2.2.1, by rw [up_j (by omega)]; exact X'.2.2.2.2⟩ (fr_trans f' (fr_up (Or.inl ⟨rfl, rfl, by omega⟩))) (by omega) (by omega) (by rw [up_at]; omega) (fun j j0 j1 => ?_) (by omega)
                      · rw [show (c : Int) + 1 = ((c + 1 : Nat) : Int) by omega]
                        exact eτ
                      · rw [up_I j0 l0, if_neg (by omega), T' j j0 (by omega)]; exact T1 j j0 j1
                  · refine over _ g' x mv' (eτ.trans (qfold_fix (lvAll_no (by omega)) _ (by omega))) o' X' f'
              refine rounds (D f 1 - 1).toNat (lvI σ) gL (mv + 1) ?_ okI oI XL fL (by omega) (by omega) (by rw [TL l l0, if_pos rfl]; omega) (fun j j0 j1 => by rw [TL j j0, if_neg (by omega)]) (by omega)
              rw [e1, show (((D f 1 - 1).toNat : Nat) : Int) + 1 = D f 1 by omega]
      · -- three hundred are done
        have h3 : σ.2.2.1 = 300 := by omega
        have e1 := lvOne_300 (D := D) (rc := lvAll D k) (f := f) h3
        have e2 : lvAll D k (D f 8) t (lvOne D (lvAll D k) f σ) = lvOne D (lvAll D k) f σ := lvAll_no (by rw [e1]; show ¬ (D f 8 < t ∧ (1 : Int) = 0); omega)
        rw [e2, e1] at HO
        have f1 : fr (PLx i q) h0 (qup g 5 i 2 0 1) := fr_trans hf (fr_up (Or.inl ⟨rfl, rfl, by omega⟩))
        refine tX5_run_55 ⟨fun c => absurd c (by omega), fun _ => ⟨fun c => absurd c (by omega), fun _ => ?_⟩⟩
        rw [gl _ f1, up_at]
        refine ⟨fun c => absurd c (by omega), fun _ => ⟨fun _ => HO _ _ _ ⟨qx_fr x1 (by funext j; exact up_j (by omega)), by rw [up_j (by omega)]; exact x2, by rw [up_j (by omega)]; exact x3, by rw [up_j (by omega)]; exact x4, up_at⟩ f1 rfl, fun c => absurd (by decide) c⟩⟩
end Lg
