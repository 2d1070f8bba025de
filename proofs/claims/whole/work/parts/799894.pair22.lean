/-! ROWS to a goal that a TRAY tells -/
theorem trS_p {h : qH} (ht : tRel h) (t n : Int) : trS h t n = 0 ∨ 0 < trS h t n := by
  rcases trS_b ht t n with ⟨_, e⟩ | ⟨_, ⟨_, e⟩ | ⟨_, ⟨_, e⟩ | ⟨_, e⟩⟩⟩ <;> omega
section Tw2
variable {d : Nat} {R : Option qV → qH → Prop} {B : Int} {h g : qH} {a : qB} {num : Int → Int} {t : Int}
theorem x_stToward (hi : Inv B h a) (hnum : ∀ p, num p = h 12 0 6 (Int.toNat (60 * t + p))) (hs : trS h t (a 0) ≠ 0 → R (some (qi (trS h t (a 0)))) h) (h5 : trS h t (a 0) = 0 → ¬ gOK num (a 0) → ∀ g, fr (fun c _ _ => c = 6) h g → tB g → R (some (qi 5)) g) (h8 : trS h t (a 0) = 0 → gOK num (a 0) → ∀ g G, fr (fun c _ _ => c = 6) h g → tB g → rL B a num G → G a < 0 → R (some (qi 8)) g) (h0 : trS h t (a 0) = 0 → gOK num (a 0) → ∀ g G, fr (fun c _ _ => c = 6) h g → tB g → rL B a num G → 0 ≤ G a → g 6 0 8 0 = G a → G a ≤ 21 → pR a G (fun i => g 6 0 5 (Int.toNat i)) (G a).toNat a 0 → R (some (qi 0)) g) : qT (d + 7) 167 0 [qo 11 0, qi t, qu] [] h R := by
  have hQ := hi.1.1
  have hW := hi.1.2.2.1
  have w0 := wf_n hW
  have ht := hi.2.2.1
  refine sX11_statusOfToward_0 ?_
  rw [qx_n hQ]
  refine x_tray ?_
  dsimp only [qri]
  refine ⟨fun e0 => ?_, fun n0 => hs n0⟩
  obtain ⟨t4, nm, nl, el, l60, ek⟩ := trS_0 ht e0
  rw [qx_n hQ, show 0 + Int.toNat t = t.toNat by omega]
  refine ⟨t4, x_aimAt (num := num) w0.1 w0.2 (fun p p0 p1 => by rw [ek p p0 (by omega), hnum]) (fun gk g1 f1 e1 => ⟨fun _ => ?_, fun c => absurd (by decide) c⟩) (fun ng g1 f1 => ⟨fun c => absurd rfl c, fun _ => h5 e0 ng g1 (fr_mono f1 (fun c i j p => p.1)) (tB_g hi.2.2.2.2.2 f1)⟩)⟩
  obtain ⟨gr1, gr2, gr3⟩ := gOK_row hW gk
  obtain ⟨inv, gi⟩ := gI_ex gr1 gr2 gr3
  refine x_find (gl := num) (inv := inv) (qx_fr hQ (by funext j; exact f1 7 0 j (by omega))) hW (tB_g hi.2.2.2.2.2 f1) gi (fun p p0 p1 => e1 p p0 p1) (fun g2 G f2 tb2 hG => ⟨fun c => ⟨fun _ => ?_, fun c => absurd rfl c⟩, fun c e8 le21 hp => ⟨fun c => absurd c (by decide), fun _ => ?_⟩⟩)
  · exact h8 e0 gk g2 G (fr_trans (fr_mono f1 (fun c i j p => p.1)) (fr_mono f2 (fun c i j p => p.1))) tb2 hG c
  · exact h0 e0 gk g2 G (fr_trans (fr_mono f1 (fun c i j p => p.1)) (fr_mono f2 (fun c i j p => p.1))) tb2 hG c e8 le21 hp
theorem m_whyNoGoal (hi : Inv B h a) (hM : qM g 0 a) (e5 : g 12 0 5 = h 12 0 5) (e6 : g 12 0 6 = h 12 0 6) (hnum : ∀ p, num p = h 12 0 6 (Int.toNat (60 * t + p))) (hs : trS h t (a 0) ≠ 0 → R (some (qi (trS h t (a 0)))) g) (h5 : trS h t (a 0) = 0 → ¬ gOK num (a 0) → ∀ g', fr (fun c _ j => c = 12 ∧ j = 29) g g' → R (some (qi 5)) g') (h0 : trS h t (a 0) = 0 → gOK num (a 0) → ∀ g', fr (fun c _ j => c = 12 ∧ j = 29) g g' → (∀ p, 0 ≤ p → p < a 0 → g' 12 0 29 (Int.toNat p) = num p) → R (some (qi 0)) g') : qT (d + 3) 287 0 [qo 12 0, qi t, qu, qu, qu, qu] [] g R := by
  have hW := hi.1.2.2.1
  have tb := trS_b hi.2.2.1 t (a 0)
  refine sX12_whyNoGoal_0 (m_isTray (fun c1 c2 => ⟨fun _ => ?_, fun c => absurd (by decide) c⟩) (fun nt => ⟨fun c => absurd rfl c, fun _ => ?_⟩))
  · rw [m_0 hM (by omega) (by omega), e5]
    refine ⟨⟨c1, c2⟩, fun c3 => ⟨⟨c1, c2⟩, by omega, fun c4 => ?_, fun c4 => ?_⟩, fun c3 => ?_⟩
    · have e0 : trS h t (a 0) = 0 := by omega
      exact m_goalLoop (d := d + 1) c1 c2 hM hW (fun p p0 p1 => by rw [e6, hnum]) (fun gk g' f e => h0 e0 gk g' f e) (fun ng g' f => h5 e0 ng g' f)
    · have e : trS h t (a 0) = 4 := by omega
      rw [e] at hs; exact hs (by decide)
    · have e : trS h t (a 0) = 3 := by omega
      rw [e] at hs; exact hs (by decide)
  · have e : trS h t (a 0) = 1 := by omega
    rw [e] at hs; exact hs (by decide)
end Tw2
theorem PG_1 {g g2 : qH} {s : Int} (f2 : fr (fun c _ j => c = 12 ∧ j = 29) (qup g 12 0 1 0 0) g2) : fr PG0 g (qup g2 12 0 0 0 s) := fr_trans (fr_up (by unfold PG0; omega)) (fr_trans (fr_mono f2 (fun c i j p => by unfold PG0; omega)) (fr_up (by unfold PG0; omega)))
theorem PG_V {g g3 : qH} (f : fr PV g g3) : fr PG0 g g3 := fr_mono f (fun c i j p => by unfold PG0; omega)
theorem PN6_6 {h g : qH} (f : fr (fun c _ _ => c = 6) h g) : fr PN6 h g := fr_mono f (fun c i j p => Or.inr p)
theorem p_toward {t : Int} : Pair 137 288 [qi t] [qi t] := by
  intro d B h a K X S hi b0 b1 hK hS
  have hW := hi.1.2.2.1
  obtain ⟨num, hnum⟩ : ∃ num : Int → Int, ∀ p, num p = h 12 0 6 (Int.toNat (60 * t + p)) := ⟨fun p => h 12 0 6 (Int.toNat (60 * t + p)), fun _ => rfl⟩
  have tp := trS_p hi.2.2.1 t (a 0)
  have fin : ∀ g r u, fr PN6 h g → tB g → g 11 0 17 0 = u → ((trS h t (a 0) ≠ 0 ∧ u = trS h t (a 0) ∧ r = -1) ∨ (trS h t (a 0) = 0 ∧ ¬ gOK num (a 0) ∧ u = 5 ∧ r = -1) ∨ (trS h t (a 0) = 0 ∧ gOK num (a 0) ∧ ∃ G, rL B a num G ∧ ((G a < 0 ∧ u = 8 ∧ r = -1) ∨ (0 ≤ G a ∧ u = 0 ∧ r = G a)))) → qT (d + 39) 288 0 [qo 12 0, qi t] [] g (fun w' g' => qri w' fun r' => (r = r' → K g') ∧ (¬ r = r' → X g')) := by
    intro g r u fg tg e17 hc
    have n12 : ∀ j, (j = 5 ∨ j = 6 ∨ j = 20) → (qup g 12 0 1 0 0) 12 0 j = h 12 0 j := fun j hj => by rw [up_j (by omega), fg 12 0 j (by unfold PN6 PN0 Scr; omega)]
    refine sX12_toward_0 (m_whyNoGoal hi (m_fr (iM0 hi) (n12 20 (by omega))) (n12 5 (by omega)) (n12 6 (by omega)) hnum (fun ns => ⟨fun c => absurd c (by rw [up_at]; omega), fun _ => okR (k6 hi hK fg tg (PG_1 fr_rfl) ?_) ?_⟩) (fun e0 ng g2 f2 => ⟨fun c => absurd c (by rw [up_at]; omega), fun _ => okR (k6 hi hK fg tg (PG_1 f2) ?_) ?_⟩) (fun e0 gk g2 f2 e2 => ⟨fun _ => ?_, fun c => absurd (by rw [up_at]; omega) c⟩))
    · rw [up_at, e17]; rcases hc with c | c | c <;> omega
    · rcases hc with c | c | c <;> omega
    · rw [up_at, e17]; rcases hc with c | c | c
      · omega
      · omega
      · exact absurd c.2.1 ng
    · rcases hc with c | c | c
      · omega
      · omega
      · exact absurd c.2.1 ng
    · rcases hc with c | c | ⟨_, _, G, hG, hr⟩
      · omega
      · exact absurd gk c.2.1
      · have hM2 : qM (qup g2 12 0 0 0 0) 0 a := m_fr (iM0 hi) (by rw [up_j (by omega), f2 12 0 20 (by omega), n12 20 (by omega)])
        refine m_farA (d := d + 33) (B := B) (gl := num) (G := G) (K := K) (X := X) (r := r) hM2 hW (fun p p0 p1 => by rw [up_j (by omega)]; exact e2 p p0 p1) gk hG (fun c => ⟨by omega, fun g' f3 => ?_⟩) (fun c => ⟨by omega, fun g' f3 => ?_⟩)
        · exact k6 hi hK fg tg (fr_trans (PG_1 f2) (PG_V f3)) (by rw [f3 12 0 0 (by omega), up_at, e17]; omega)
        · exact k6 hi hK fg tg (fr_trans (PG_1 f2) (fr_trans (PG_V f3) (fr_up (by unfold PG0; omega)))) (by rw [up_at, e17]; omega)
  refine sX11_toward_0 (x_stToward hi hnum (fun ns => x_agreeN ns ⟨fun _ => ?_, fun c => absurd rfl c⟩) (fun e0 ng g f tb => x_agreeN (by decide) ⟨fun _ => ?_, fun c => absurd rfl c⟩) (fun e0 gk g G f tb hG c => x_agreeN (by decide) ⟨fun _ => ?_, fun c => absurd rfl c⟩) (fun e0 gk g G f tb hG c e8 le21 hp => x_agree0 ⟨fun c => absurd c (by decide), fun _ => ?_⟩))
  · exact hS _ _ s_91 (fin _ _ _ PN6_s (tB_s hi.2.2.2.2.2) up_at (Or.inl ⟨ns, rfl, rfl⟩))
  · have fg := fr_trans (PN6_6 f) (PN6_s (v := 5))
    exact hS _ _ (fr_916 fg) (fin _ _ _ fg (tB_s tb) up_at (Or.inr (Or.inl ⟨e0, ng, rfl, rfl⟩)))
  · have fg := fr_trans (PN6_6 f) (PN6_s (v := 8))
    exact hS _ _ (fr_916 fg) (fin _ _ _ fg (tB_s tb) up_at (Or.inr (Or.inr ⟨e0, gk, G, hG, Or.inl ⟨c, rfl, rfl⟩⟩)))
  · have fg := fr_trans (PN6_6 f) (PN6_s (v := 0))
    rw [show (qup g 11 0 17 0 0) 6 0 8 0 = G a by rw [up_j (by omega)]; exact e8]
    exact hS _ _ (fr_916 fg) (fin _ _ _ fg (tB_s tb) up_at (Or.inr (Or.inr ⟨e0, gk, G, hG, Or.inr ⟨c, rfl, rfl⟩⟩)))
theorem p_towardAt {t k : Int} : Pair 138 289 [qi t, qi k] [qi t, qi k] := by
  intro d B h a K X S hi b0 b1 hK hS
  have hW := hi.1.2.2.1
  obtain ⟨num, hnum⟩ : ∃ num : Int → Int, ∀ p, num p = h 12 0 6 (Int.toNat (60 * t + p)) := ⟨fun p => h 12 0 6 (Int.toNat (60 * t + p)), fun _ => rfl⟩
  have tp := trS_p hi.2.2.1 t (a 0)
  have fin : ∀ g r u, fr PN6 h g → tB g → g 11 0 17 0 = u → ((trS h t (a 0) ≠ 0 ∧ u = trS h t (a 0) ∧ r = -1) ∨ (trS h t (a 0) = 0 ∧ ¬ gOK num (a 0) ∧ u = 5 ∧ r = -1) ∨ (trS h t (a 0) = 0 ∧ gOK num (a 0) ∧ ∃ G row, rL B a num G ∧ G a ≤ 21 ∧ (0 ≤ G a → pR a G row (G a).toNat a 0) ∧ ((¬ (0 ≤ k ∧ k < G a) ∧ u = 8 ∧ r = -1) ∨ ((0 ≤ k ∧ k < G a) ∧ u = 0 ∧ r = row k)))) → qT (d + 39) 289 0 [qo 12 0, qi t, qi k] [] g (fun w' g' => qri w' fun r' => (r = r' → K g') ∧ (¬ r = r' → X g')) := by
    intro g r u fg tg e17 hc
    have n12 : ∀ j, (j = 5 ∨ j = 6 ∨ j = 20) → (qup g 12 0 1 0 0) 12 0 j = h 12 0 j := fun j hj => by rw [up_j (by omega), fg 12 0 j (by unfold PN6 PN0 Scr; omega)]
    refine sX12_towardAt_0 (m_whyNoGoal hi (m_fr (iM0 hi) (n12 20 (by omega))) (n12 5 (by omega)) (n12 6 (by omega)) hnum (fun ns => ⟨fun c => absurd c (by rw [up_at]; omega), fun _ => okR (k6 hi hK fg tg (PG_1 fr_rfl) ?_) ?_⟩) (fun e0 ng g2 f2 => ⟨fun c => absurd c (by rw [up_at]; omega), fun _ => okR (k6 hi hK fg tg (PG_1 f2) ?_) ?_⟩) (fun e0 gk g2 f2 e2 => ⟨fun _ => ?_, fun c => absurd (by rw [up_at]; omega) c⟩))
    · rw [up_at, e17]; rcases hc with c | c | c <;> omega
    · rcases hc with c | c | c <;> omega
    · rw [up_at, e17]; rcases hc with c | c | c
      · omega
      · omega
      · exact absurd c.2.1 ng
    · rcases hc with c | c | c
      · omega
      · omega
      · exact absurd c.2.1 ng
    · rcases hc with c | c | ⟨_, _, G, row, hG, hG1, hrow, hr⟩
      · omega
      · exact absurd gk c.2.1
      · have hM2 : qM (qup g2 12 0 0 0 0) 0 a := m_fr (iM0 hi) (by rw [up_j (by omega), f2 12 0 20 (by omega), n12 20 (by omega)])
        refine m_stairA (d := d + 33) (B := B) (gl := num) (G := G) (K := K) (X := X) (r := r) hM2 hW (fun p p0 p1 => by rw [up_j (by omega)]; exact e2 p p0 p1) gk hG hG1 hrow (fun c0 c1 => ⟨by omega, fun g' f3 => ?_⟩) (fun c => ⟨by omega, fun g' f3 => ?_⟩)
        · exact k6 hi hK fg tg (fr_trans (PG_1 f2) (PG_V f3)) (by rw [f3 12 0 0 (by omega), up_at, e17]; omega)
        · exact k6 hi hK fg tg (fr_trans (PG_1 f2) (fr_trans (PG_V f3) (fr_up (by unfold PG0; omega)))) (by rw [up_at, e17]; omega)
  refine sX11_towardAt_0 (x_stToward hi hnum (fun ns => sX11_rowAt_0 (x_agreeN ns ⟨fun c => absurd rfl c, fun _ => ?_⟩)) (fun e0 ng g f tb => sX11_rowAt_0 (x_agreeN (by decide) ⟨fun c => absurd rfl c, fun _ => ?_⟩)) (fun e0 gk g G f tb hG c => sX11_rowAt_0 (x_agreeN (by decide) ⟨fun c => absurd rfl c, fun _ => ?_⟩)) (fun e0 gk g G f tb hG c e8 le21 hp => sX11_rowAt_0 (x_agree0 ⟨fun _ => ⟨fun c2 => ?_, fun c2 => ?_⟩, fun c => absurd (by decide) c⟩)))
  · exact hS _ _ s_91 (fin _ _ _ PN6_s (tB_s hi.2.2.2.2.2) up_at (Or.inl ⟨ns, rfl, rfl⟩))
  · have fg := fr_trans (PN6_6 f) (PN6_s (v := 5))
    exact hS _ _ (fr_916 fg) (fin _ _ _ fg (tB_s tb) up_at (Or.inr (Or.inl ⟨e0, ng, rfl, rfl⟩)))
  · have fg := fr_trans (PN6_6 f) (PN6_s (v := 8))
    exact hS _ _ (fr_916 fg) (fin _ _ _ fg (tB_s tb) up_at (Or.inr (Or.inr ⟨e0, gk, G, fun _ => 0, hG, by omega, fun c2 => absurd c (by omega), Or.inl ⟨by omega, rfl, rfl⟩⟩)))
  · have fg := fr_trans (PN6_6 f) (fr_trans (PN6_s (v := 0)) (PN6_s (v := 8)))
    exact sX11_answer_0 (hS _ _ (fr_916 fg) (fin _ _ _ fg (tB_s (tB_s tb)) up_at (Or.inr (Or.inr ⟨e0, gk, G, _, hG, le21, fun _ => hp, Or.inl ⟨by omega, rfl, rfl⟩⟩))))
  · rw [show (qup g 11 0 17 0 0) 6 0 8 0 = G a by rw [up_j (by omega)]; exact e8]
    refine ⟨fun c3 => ⟨by omega, ?_⟩, fun c3 => ?_⟩
    · have fg := fr_trans (PN6_6 f) (PN6_s (v := 0))
      exact hS _ _ (fr_916 fg) (fin _ _ _ fg (tB_s tb) up_at (Or.inr (Or.inr ⟨e0, gk, G, _, hG, le21, fun _ => hp, Or.inr ⟨by omega, rfl, by rw [up_j (by omega)]⟩⟩)))
    · have fg := fr_trans (PN6_6 f) (fr_trans (PN6_s (v := 0)) (PN6_s (v := 8)))
      exact sX11_answer_0 (hS _ _ (fr_916 fg) (fin _ _ _ fg (tB_s (tB_s tb)) up_at (Or.inr (Or.inr ⟨e0, gk, G, _, hG, le21, fun _ => hp, Or.inl ⟨by omega, rfl, rfl⟩⟩))))
