/-! whom to ask -/
def kM (T : Int → Int) (p n : Int) : Int := qfold (fun q r => max r (T (7 * p + q))) 0 n
def kA (T : Int → Int) (n f p : Int) : Int × Int := qfold (fun p s => if kM T p n < s.2 then (p, kM T p n) else s) (-1, f) p
section Ka
variable {d : Nat} {R : Option qV → qH → Prop} {h : qH} {T : Int → Int} {n f : Int}
theorem kM_s {p q : Int} (q0 : 0 ≤ q) : kM T p (q + 1) = max (kM T p q) (T (7 * p + q)) := by unfold kM; rw [qfold_s q0]
theorem kA_s {p : Int} (p0 : 0 ≤ p) : kA T n f (p + 1) = if kM T p n < (kA T n f p).2 then (p, kM T p n) else kA T n f p := by unfold kA; rw [qfold_s p0]
theorem kA_b : ∀ p, 0 ≤ p → (kA T n f p).1 = -1 ∨ 0 ≤ (kA T n f p).1 := by
  apply q_ind
  · exact Or.inl rfl
  · intro p p0 ih
    rw [kA_s p0]
    by_cases c : kM T p n < (kA T n f p).2
    · rw [if_pos c]; exact Or.inr p0
    · rw [if_neg c]; exact ih
theorem x_bestParting (n0 : 0 ≤ n) (n7 : n ≤ 7) (h8 : h 3 0 8 0 = f) (hT : ∀ x, 0 ≤ x → x < 49 → h 3 0 2 (Int.toNat x) = T x) (hR : R (some (qi (kA T n f n).1)) h) : qT (d + 1) 27 0 [qo 3 0, qi n, qu, qu, qu, qu, qu] [] h R := by
  refine sX3_bestParting_0 ?_
  rw [h8]
  refine q_up (n := n) (C := fun p => p ≤ n → ∀ z5 z6, qT (d + 1) 27 10 [qo 3 0, qi n, qi (kA T n f p).1, qi (kA T n f p).2, qi p, z5, z6] [] h R) ?_ 0 (by omega) n0 qu qu
  intro p p0 ih pn z5 z6
  refine sX3_bestParting_10 ⟨fun c => by rw [show p = n by omega]; exact hR, fun c => ?_⟩
  refine q_up (n := n) (C := fun q => q ≤ n → qT (d + 1) 27 22 [qo 3 0, qi n, qi (kA T n f p).1, qi (kA T n f p).2, qi p, qi (kM T p q), qi q] [] h R) ?_ 0 (by omega) n0
  intro q q0 ihq qn
  refine sX3_bestParting_22 ⟨fun c2 => ?_, fun c2 => ⟨qR_of (by omega) (by omega), qR_of (by omega) (by omega), by omega, qR_of (by omega) (by omega), ?_⟩⟩
  · have eq : q = n := by omega
    subst eq
    refine ⟨fun le => ⟨qR_of (by omega) (by omega), ?_⟩, fun nle => ⟨qR_of (by omega) (by omega), ?_⟩⟩
    · have I := ih (by omega) (by omega) (qi (kM T p q)) (qi q)
      rw [kA_s p0, if_neg (by omega)] at I
      exact I
    · have I := ih (by omega) (by omega) (qi (kM T p q)) (qi q)
      rw [kA_s p0, if_pos (by omega)] at I
      exact I
  · rw [hT _ (by omega) (by omega), show p * 7 + q = 7 * p + q by omega, ← kM_s q0]
    exact ihq (by omega) (by omega)
theorem m_askLoop {a : qB} {t nn k : Int} (hM : qM h 0 a) (en : a 0 = n) (n0 : 0 ≤ n) (n7 : n ≤ 7) (hT : ∀ x, 0 ≤ x → x < 49 → h 12 0 33 (Int.toNat x) = T x) (h1 : 0 ≤ (kA T n f n).1 → R (some (qi (kA T n f n).1)) h) (h0 : (kA T n f n).1 = -1 → R (some (qi (-1))) (qup h 12 0 0 0 8)) : qT (d + 3) 297 44 [qo 12 0, qi t, qi nn, qi k, qi (-1), qi f, qi 0, qu, qu] [] h R := by
  have e0 : h 12 0 20 (Int.toNat 0) = n := by rw [m_0 hM (by omega) (by omega)]; exact en
  refine q_up (n := n) (C := fun p => p ≤ n → ∀ z5 z6, qT (d + 3) 297 44 [qo 12 0, qi t, qi nn, qi k, qi (kA T n f p).1, qi (kA T n f p).2, qi p, z5, z6] [] h R) ?_ 0 (by omega) n0 qu qu
  intro p p0 ih pn z5 z6
  refine sX12_ask_44 ?_
  rw [e0]
  refine ⟨by omega, fun c => ?_, fun c => ?_⟩
  · rw [show p = n by omega]
    refine sX12_answer_0 ⟨fun c2 => h1 c2, fun c2 => m_refuse (h0 ?_)⟩
    have := kA_b (T := T) (n := n) (f := f) n n0
    omega
  refine q_up (n := n) (C := fun q => q ≤ n → qT (d + 3) 297 61 [qo 12 0, qi t, qi nn, qi k, qi (kA T n f p).1, qi (kA T n f p).2, qi p, qi (kM T p q), qi q] [] h R) ?_ 0 (by omega) n0
  intro q q0 ihq qn
  refine sX12_ask_61 ?_
  rw [e0]
  refine ⟨by omega, fun c2 => ?_, fun c2 => ⟨qR_of (by omega) (by omega), qR_of (by omega) (by omega), by omega, qR_of (by omega) (by omega), ?_⟩⟩
  · have eq : q = n := by omega
    subst eq
    refine ⟨fun lt => ⟨qR_of (by omega) (by omega), ?_⟩, fun nlt => ⟨qR_of (by omega) (by omega), ?_⟩⟩
    · have I := ih (by omega) (by omega) (qi (kM T p q)) (qi q)
      rw [kA_s p0, if_pos lt] at I
      exact I
    · have I := ih (by omega) (by omega) (qi (kM T p q)) (qi q)
      rw [kA_s p0, if_neg nlt] at I
      exact I
  · rw [hT _ (by omega) (by omega), ← kM_s q0]
    exact ihq (by omega) (by omega)
end Ka
theorem p_ask {t nn k : Int} (nr : qR nn) : Pair 142 297 [qi t, qi nn, qi k, qu] [qi t, qi nn, qi k, qu, qu, qu, qu, qu] := by
  intro d B h a K X S hi b0 b1 hK hS
  have hQ := hi.1.1
  have hW := hi.1.2.2.1
  have w0 := wf_n hW
  obtain ⟨num, hnum⟩ : ∃ num : Int → Int, ∀ p, num p = h 12 0 6 (Int.toNat (60 * t + p)) := ⟨fun p => h 12 0 6 (Int.toNat (60 * t + p)), fun _ => rfl⟩
  have tp := trS_p hi.2.2.1 t (2 * nn)
  obtain ⟨A, hA⟩ : ∃ A, (kA (fun x => fT (fun i => num (2 * i)) (fun i => num (2 * i + 1)) nn x k.toNat a) (a 0) (fN (fun i => num (2 * i)) (fun i => num (2 * i + 1)) nn k.toNat a) (a 0)).1 = A := ⟨_, rfl⟩
  have A0 := kA_b (T := fun x => fT (fun i => num (2 * i)) (fun i => num (2 * i + 1)) nn x k.toNat a) (n := a 0) (f := fN (fun i => num (2 * i)) (fun i => num (2 * i + 1)) nn k.toNat a) (a 0) w0.1
  rw [hA] at A0
  have fin : ∀ g r u, fr PJc h g → qQX g 0 a → g 11 0 17 0 = u → ((trS h t (2 * nn) ≠ 0 ∧ u = trS h t (2 * nn) ∧ r = -1) ∨ (trS h t (2 * nn) = 0 ∧ ¬ fOk num nn k (a 0) ∧ u = 5 ∧ r = -1) ∨ (trS h t (2 * nn) = 0 ∧ fOk num nn k (a 0) ∧ ((A = -1 ∧ u = 8 ∧ r = -1) ∨ (0 ≤ A ∧ u = 0 ∧ r = A)))) → qT (d + 39) 297 0 [qo 12 0, qi t, qi nn, qi k, qu, qu, qu, qu, qu] [] g (fun w' g' => qri w' fun r' => (r = r' → K g') ∧ (¬ r = r' → X g')) := by
    intro g r u fg qg e17 hc
    have n12 : ∀ j, j ≠ 1 → (qup g 12 0 1 0 0) 12 0 j = h 12 0 j := fun j hj => by rw [up_j (by omega), PJc_12 fg]
    refine sX12_ask_0 (m_whyNoFits hi nr (m_fr (iM0 hi) (n12 20 (by omega))) (n12 5 (by omega)) (n12 6 (by omega)) hnum (fun ns => ⟨fun c => absurd c (by rw [up_at]; omega), fun _ => okR (k7 hi hK fg qg (fr_trans PFt_1 PFt_up) ?_) ?_⟩) (fun e0 ng => ⟨fun c => absurd c (by rw [up_at]; omega), fun _ => okR (k7 hi hK fg qg (fr_trans PFt_1 PFt_up) ?_) ?_⟩) (fun e0 ok => ⟨fun _ => ?_, fun c => absurd (by rw [up_at]; omega) c⟩))
    · rw [up_at, e17]; rcases hc with c | c | c <;> omega
    · rcases hc with c | c | c <;> omega
    · rw [up_at, e17]; rcases hc with c | c | c
      · omega
      · omega
      · exact absurd c.2.1 ng
    · rcases hc with c | c | c
      · omega
      · omega
      · exact absurd c.2.1 ng
    · rcases hc with c | c | ⟨_, _, hc⟩
      · omega
      · exact absurd ok c.2.1
      · have T := trS_0 hi.2.2.1 e0
        have o1 := ok.2.1
        refine m_laysFits (k := k.toNat) (by omega) (by omega) (m_fr (iM0 hi) (by rw [up_j (by omega), n12 20 (by omega)])) hW (fW_of T.1 ok (fun p => by rw [up_j (by omega), n12 6 (by omega), hnum])) (fun g3 f3 e30 e33 _ => ?_)
        have ff : fr PFt g g3 := fr_trans PFt_1 (fr_trans PFt_up (PFt_F f3))
        have s0 : g3 12 0 0 0 = 0 := by rw [f3 12 0 0 (by omega), up_at]
        dsimp only [qrv]
        rw [e30]
        refine m_askLoop (a := a) (n := a 0) (m_fr (iM0 hi) (by rw [f3 12 0 20 (by omega), up_j (by omega), n12 20 (by omega)])) rfl w0.1 w0.2 e33 (fun c => ?_) (fun c => ?_)
        · rw [hA] at c ⊢
          exact okR (k7 hi hK fg qg ff (by rw [s0, e17]; omega)) (by omega)
        · rw [hA] at c
          exact okR (k7 hi hK fg qg (fr_trans ff PFt_up) (by rw [up_at, e17]; omega)) (by omega)
  refine sX11_ask_0 (x_stFits hi nr hnum (fun ns => x_agreeN ns ⟨fun c => absurd rfl c, fun _ => ?_⟩) (fun e0 ng g f => x_agreeN (by decide) ⟨fun c => absurd rfl c, fun _ => ?_⟩) (fun e0 ok g f e1 e2 => x_agree0 ⟨fun _ => ?_, fun c => absurd (by decide) c⟩))
  · exact hS _ _ s_91 (fin _ _ _ PJc_s (qQ_s hQ) up_at (Or.inl ⟨ns, rfl, rfl⟩))
  · have fg := fr_trans (PJc_W f) (PJc_s (v := 5))
    exact hS _ _ (PJc_91 fg) (fin _ _ _ fg (qx_fr hQ (by funext j; rw [up_j (by omega), f 7 0 j (by omega)])) up_at (Or.inr (Or.inl ⟨e0, ng, rfl, rfl⟩)))
  · have o1 := ok.2.1
    have n3 : ∀ j, (qup g 11 0 17 0 0) 3 0 j = g 3 0 j := fun j => up_j (by omega)
    refine x_seek (fo := 0) (k := k.toNat) (wn := fun p => g 3 0 0 (Int.toNat p)) (per := fun i => num (2 * i)) (hou := fun i => num (2 * i + 1)) (nn := nn) (by omega) (by omega) (Or.inl rfl) (qx_fr hQ (by funext j; rw [up_j (by omega), f 7 0 j (by omega)])) hW (fun p _ _ => by rw [n3]) (by rw [n3]; exact seekE ok e1) (by rw [n3]; exact seekC ok e2) (fun g2 hQ2 f2 t2 _ _ => ?_)
    have fg := fr_trans (PJc_W f) (fr_trans (PJc_s (v := 0)) (PJc_S f2))
    have e17 : g2 11 0 17 0 = 0 := by rw [f2 11 0 17 (by omega)]; exact up_at
    dsimp only [qrv]
    rw [qx_n hQ2]
    refine x_bestParting w0.1 w0.2 (t2 rfl).1 (t2 rfl).2 ?_
    dsimp only [qri]
    rw [hA]
    refine ⟨fun na => hS _ _ (PJc_91 fg) (fin _ _ _ fg hQ2 e17 (Or.inr (Or.inr ⟨e0, ok, Or.inr ⟨A0.resolve_left na, rfl, rfl⟩⟩))), fun na => ?_⟩
    have fg2 := fr_trans fg (PJc_s (v := 8))
    exact sX11_answer_0 (hS _ _ (PJc_91 fg2) (fin _ _ _ fg2 (qQ_s hQ2) up_at (Or.inr (Or.inr ⟨e0, ok, Or.inl ⟨Decidable.not_not.mp na, rfl, rfl⟩⟩))))
