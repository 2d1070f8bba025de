/-! where KEYS drift -/
theorem pow_c {M : Nat} {i : Int} (i0 : 0 ≤ i) : ((M ^ i.toNat : Nat) : Int) * (M : Int) = ((M ^ (i + 1).toNat : Nat) : Int) := by
  rw [show (i + 1).toNat = i.toNat + 1 by omega, Nat.pow_succ]
  first | exact (Int.natCast_mul _ _).symm | norm_cast | simp
theorem pow_5 {M : Nat} (h : M ≤ 10) (i : Nat) (hi : i ≤ 5) : M ^ i ≤ 100000 := by
  have h1 : M ^ i ≤ 10 ^ i := Nat.pow_le_pow_left h i
  have h2 : 10 ^ i ≤ 10 ^ 5 := Nat.pow_le_pow_right (by decide) hi
  have h3 : (10 : Nat) ^ 5 = 100000 := by decide
  omega
theorem oRel_l {h h' : qH} (ho : oRel h) (e1 : h' 5 0 = h 5 0) (e2 : h' 12 0 39 = h 12 0 39) (e3 : h' 12 0 40 = h 12 0 40) : (h' 5 0 1 0 = h' 12 0 40 0) ∧ (h' 5 0 1 0 ≠ 0 → h' 5 0 5 0 = h' 12 0 39 0 ∧ h' 5 0 6 0 = h' 12 0 39 1 ∧ h' 5 0 7 0 = h' 12 0 39 2 ∧ h' 5 0 8 0 = h' 12 0 39 3 ∧ (if h' 5 0 2 0 = 0 then 0 else 1) = h' 12 0 39 4) := by
  rw [e1, e2, e3]
  exact ⟨ho.2.2.2.2.2.2.1, ho.2.2.2.2.2.2.2⟩
theorem p_drift {x y z : Int} : Pair 151 313 [qi x, qi y, qi z, qu, qu, qu] [qi x, qi y, qi z, qu, qu, qu] := by
  intro d B h a K X S hi b0 b1 hK hS
  have hQ := hi.1.1
  have hW := hi.1.2.2.1
  have w0 := wf_n hW
  have w1 := wf_m hW
  have no : ∀ (g : qH) (s : Int), fr PN0 h g → g 12 = h 12 → g 11 0 17 0 = s → ((¬ ((0 ≤ x ∧ x < a 0) ∧ (0 ≤ y ∧ y < a 0)) ∧ s = 2) ∨ (((0 ≤ x ∧ x < a 0) ∧ (0 ≤ y ∧ y < a 0)) ∧ ((¬ (0 ≤ z ∧ z ≤ 5) ∧ s = 5) ∨ ((0 ≤ z ∧ z ≤ 5) ∧ a 1 = 0 ∧ 0 < z ∧ s = 8)))) → qT (d + 39) 313 0 [qo 12 0, qi x, qi y, qi z, qu, qu, qu] [] g (fun w' g' => qri w' fun r' => ((0 : Int) = r' → K g') ∧ (¬ (0 : Int) = r' → X g')) := by
    intro g s fg e12 es hs
    have hM1 : qM (qup (qup g 12 0 1 0 0) 12 0 0 0 0) 0 a := m0_M (m_fr (iM0 hi) (by rw [e12]))
    have ks : K (qup (qup (qup g 12 0 1 0 0) 12 0 0 0 0) 12 0 0 0 s) := by
      have ii := iStay hi fg e12 es
      exact hK _ a ii.1 ii.2
    refine sX12_drift_0 (m_isPersonAt hM1 hW (fun x0 x1 => ⟨fun c => absurd c (by decide), fun _ => m_isPersonAt hM1 hW (fun y0 y1 => ⟨fun _ => m_isIn (fun z0 z5 => ⟨fun _ => ⟨by omega, fun c => ?_, fun c => ⟨fun c2 => ?_, fun c2 => ?_⟩⟩, fun c => absurd (by decide) c⟩) (fun nz => ⟨fun c => absurd rfl c, fun _ => ?_⟩), fun c => absurd (by decide) c⟩) (fun ny => ⟨fun c => absurd rfl c, fun _ => ?_⟩)⟩) (fun nx => ⟨fun _ => ?_, fun c => absurd rfl c⟩))
    · rw [m_0 hM1 (by omega) (by omega)] at c
      exfalso; omega
    · exfalso; omega
    · rw [show s = 8 by omega] at ks
      exact m_no ⟨by omega, okR ks rfl⟩
    · rw [show s = 5 by omega] at ks
      exact m_no ⟨by omega, okR ks rfl⟩
    · rw [show s = 2 by omega] at ks
      exact m_no ⟨by omega, okR ks rfl⟩
    · rw [show s = 2 by omega] at ks
      exact m_no ⟨by omega, okR ks rfl⟩
  have n12 : ∀ v : Int, (qup h 11 0 17 0 v) 12 = h 12 := fun v => by funext i j; exact up_j (by omega)
  have n12b : ∀ v u : Int, (qup (qup h 11 0 17 0 v) 11 0 17 0 u) 12 = h 12 := fun v u => by funext i j; rw [up_j (by omega), up_j (by omega)]
  have ok : (0 ≤ x ∧ x < a 0) → (0 ≤ y ∧ y < a 0) → (0 ≤ z ∧ z ≤ 5) → (a 1 ≠ 0 ∨ z = 0) → qT (d + 39) 151 57 [qo 11 0, qi x, qi y, qi z, ql 1, qu, qi 0] [] (qup h 11 0 17 0 0) S := by
    intro hx hy hz hm
    have hQ1 : qQX (qup h 11 0 17 0 0) 0 a := qQ_s hQ
    have em : (qup h 11 0 17 0 0) 7 0 8 0 = a 1 := qx_m hQ1
    obtain ⟨M, hM⟩ : ∃ M : Nat, a 1 = M := ⟨(a 1).toNat, by omega⟩
    have M10 : M ≤ 10 := by omega
    have bp : 0 < M ^ z.toNat := by
      rcases hm with hm | hm
      · exact Nat.pow_pos (by omega)
      · rw [hm]; exact Nat.one_pos
    obtain ⟨w, w0', w1', w2⟩ := aLive_ex hW hy.1 hy.2
    obtain ⟨t, ht⟩ : ∃ t : Nat, dV a (dE w) z.toNat x = t := ⟨(dV a (dE w) z.toNat x).toNat, by have := (dV_b w1.1 w z.toNat x).1; omega⟩
    have mod : ∀ g, fr (fun c i j => c = 0) (qup h 11 0 17 0 0) g → qT (d + 39) 313 0 [qo 12 0, qi x, qi y, qi z, qu, qu, qu] [] (qup (qup g 4 0 0 0 (fTop t (M ^ z.toNat))) 4 0 1 0 (fBot t (M ^ z.toNat))) (fun w' g' => qri w' fun r' => ((1 : Int) = r' → K g') ∧ (¬ (1 : Int) = r' → X g')) := by
      intro g fg
      obtain ⟨g3, hg3⟩ : ∃ g3, qup (qup g 4 0 0 0 (fTop t (M ^ z.toNat))) 4 0 1 0 (fBot t (M ^ z.toNat)) = g3 := ⟨_, rfl⟩
      rw [hg3]
      have fA : fr POl h g3 := by
        rw [← hg3]
        exact fr_trans (h' := qup h 11 0 17 0 0) (fr_up (PO_up (by decide))) (fr_trans (fr_mono fg (fun c i j p => PO_0 p)) (fr_trans (fr_up (PO_up (by decide))) (fr_up (PO_up (by decide)))))
      have n3 : ∀ c i j, c ≠ 0 → c ≠ 4 → c ≠ 11 → g3 c i j = h c i j := fun c i j c0 c4 c11 => by rw [← hg3, up_j (by omega), up_j (by omega), fg c i j c0, up_j (by omega)]
      have hM1 : qM (qup (qup g3 12 0 1 0 0) 12 0 0 0 0) 0 a := m0_M (m_fr (iM0 hi) (n3 12 0 20 (by omega) (by omega) (by omega)))
      have loop : qT (d + 39) 313 76 [qo 12 0, qi x, qi y, qi z, ql ((M ^ (0 : Int).toNat : Nat) : Int), qu, qi 0] [] (qup (qup g3 12 0 1 0 0) 12 0 0 0 0) (fun w' g' => qri w' fun r' => ((1 : Int) = r' → K g') ∧ (¬ (1 : Int) = r' → X g')) := by
        refine q_up (n := z) (C := fun i => i ≤ z → qT (d + 39) 313 76 [qo 12 0, qi x, qi y, qi z, ql ((M ^ i.toNat : Nat) : Int), qu, qi i] [] (qup (qup g3 12 0 1 0 0) 12 0 0 0 0) (fun w' g' => qri w' fun r' => ((1 : Int) = r' → K g') ∧ (¬ (1 : Int) = r' → X g'))) ?_ 0 (by omega) hz.1
        intro i i0 ih iz
        refine sX12_drift_76 ⟨fun c => ?_, fun c => ?_⟩
        · have ei : i = z := by omega
          subst ei
          refine m_drifts hM1 hW hx.1 hx.2 hz.1 hz.2 (fun g4 f4 e4 => m_whoIn (m_fr hM1 (f4 12 0 20 (by omega))) hW (fun r hr => ?_))
          have er : r = w := by
            rcases hr with ⟨r0, r1, r2, _⟩ | ⟨_, hn⟩
            · exact wf_inj hW r0 r1 w0' w1' (by rw [r2, w2])
            · exact absurd w2 (hn w w0' w1')
          subst er
          dsimp only [qri]
          rw [e4 r w0' (by omega), dV_sym w1.1, ht]
          refine ⟨by omega, m_fraction bp ⟨by omega, ?_⟩⟩
          have fB : fr POl g3 (qup (qup g4 12 0 2 0 (fTop t (M ^ i.toNat))) 12 0 3 0 (fBot t (M ^ i.toNat))) := fr_trans (h' := qup g3 12 0 1 0 0) (fr_up (PO_up (by decide))) (fr_trans (fr_up (PO_up (by decide))) (fr_trans (fr_mono f4 (fun c i j p => PO_PD p)) (fr_trans (fr_up (PO_up (by decide))) (fr_up (PO_up (by decide))))))
          have fC := fr_trans fA fB
          have q : ∀ c i2 j, c ≠ 12 → (qup (qup g4 12 0 2 0 (fTop t (M ^ i.toNat))) 12 0 3 0 (fBot t (M ^ i.toNat))) c i2 j = g3 c i2 j := fun c i2 j c12 => by rw [up_j (by omega), up_j (by omega), f4 c i2 j (by omega), up_j (by omega), up_j (by omega)]
          have q12 : ∀ j, 4 ≤ j → j ≠ 37 → j ≠ 38 → (qup (qup g4 12 0 2 0 (fTop t (M ^ i.toNat))) 12 0 3 0 (fBot t (M ^ i.toNat))) 12 0 j = h 12 0 j := fun j j4 j7 j8 => by rw [up_j (by omega), up_j (by omega), f4 12 0 j (by omega), up_j (by omega), up_j (by omega), n3 12 0 j (by omega) (by omega) (by omega)]
          have l := oRel_l (h' := qup (qup g4 12 0 2 0 (fTop t (M ^ i.toNat))) 12 0 3 0 (fBot t (M ^ i.toNat))) hi.2.2.2.2.1 (by funext j; rw [q 5 0 j (by omega), n3 5 0 j (by omega) (by omega) (by omega)]) (q12 39 (by omega) (by omega) (by omega)) (q12 40 (by omega) (by omega) (by omega))
          refine okR (hK _ a (Inv_o hi fC (fun y' _ _ => by rw [q12 20 (by omega) (by omega) (by omega)]) (qx_fr hQ (by funext j; rw [q 7 0 j (by omega), n3 7 0 j (by omega) (by omega) (by omega)])) (m_fr (iM0 hi) (q12 20 (by omega) (by omega) (by omega))) (wf_mono hW (by omega)) (by omega) rfl (by omega) ?_ ?_ ?_ l.1 l.2) (fr_91O fC)) rfl
          · rw [q 11 0 17 (by omega), ← hg3, up_j (by omega), up_j (by omega), fg 11 0 17 (by omega), up_at, up_j (by omega), up_j (by omega), f4 12 0 0 (by omega), up_at]
          · rw [q 4 0 0 (by omega), ← hg3, up_j (by omega), up_at, up_j (by omega), up_at]
          · rw [q 4 0 1 (by omega), ← hg3, up_at, up_at]
        · rw [m_0 hM1 (by omega) (by omega), hM, pow_c i0]
          have pb := pow_5 M10 (i + 1).toNat (by omega)
          exact ⟨by omega, qRL_of (by omega) (by omega), qR_of (by omega) (by omega), ih (by omega) (by omega)⟩
      refine sX12_drift_0 (m_isPersonAt hM1 hW (fun x0 x1 => ⟨fun c => absurd c (by decide), fun _ => m_isPersonAt hM1 hW (fun y0 y1 => ⟨fun _ => m_isIn (fun z0 z5 => ⟨fun _ => ⟨by omega, fun c => loop, fun c => ⟨fun c2 => loop, fun c2 => ?_⟩⟩, fun c => absurd (by decide) c⟩) (fun nz => absurd hz nz), fun c => absurd (by decide) c⟩) (fun ny => absurd hy ny)⟩) (fun nx => absurd hx nx))
      rw [m_0 hM1 (by omega) (by omega)] at c
      exfalso; omega
    refine q_up (n := z) (C := fun i => i ≤ z → qT (d + 39) 151 57 [qo 11 0, qi x, qi y, qi z, ql ((M ^ i.toNat : Nat) : Int), qu, qi i] [] (qup h 11 0 17 0 0) S) ?_ 0 (by omega) hz.1
    intro i i0 ih iz
    refine sX11_drift_57 ⟨fun c => ?_, fun c => ?_⟩
    · have ei : i = z := by omega
      subst ei
      refine x_countDrift hQ1 hW hx.1 hx.2 w0' w1' w2 hz.1 hz.2 (fun g1 f1 => ?_)
      dsimp only [qrl]
      rw [ht]
      refine x_fsetB bp (pow_5 M10 _ (by omega)) ⟨by omega, hS _ _ ?_ (mod g1 f1)⟩
      funext i' j
      rw [up_j (by omega), up_j (by omega), f1 91 i' j (by omega), up_j (by omega)]
    · rw [em, hM, pow_c i0]
      have pb := pow_5 M10 (i + 1).toNat (by omega)
      exact ⟨qRL_of (by omega) (by omega), qR_of (by omega) (by omega), ih (by omega) (by omega)⟩
  refine sX11_drift_0 (x_two hQ (fun hx hy => x_agree0 ⟨fun _ => ⟨fun c => x_agreeN (by decide) ⟨by omega, hS _ _ (fr_91 (fr_trans PN_s PN_s)) (no _ 5 (fr_trans PN_s PN_s) (n12b _ _) up_at (by omega))⟩, fun z0 => ⟨fun z5 => ?_, fun c => x_agreeN (by decide) ⟨by omega, hS _ _ (fr_91 (fr_trans PN_s PN_s)) (no _ 5 (fr_trans PN_s PN_s) (n12b _ _) up_at (by omega))⟩⟩⟩, fun c => absurd (by decide) c⟩) (fun nn => x_agreeN (by decide) ⟨fun c => absurd rfl c, fun _ => ⟨by omega, hS _ _ s_91 (no _ 2 PN_s (n12 _) up_at (Or.inl ⟨nn, rfl⟩))⟩⟩))
  rw [show (qup h 11 0 17 0 0) 7 0 8 0 = a 1 from qx_m (qQ_s hQ)]
  exact ⟨fun m0' => ok hx hy (by omega) (Or.inl m0'), fun m0' => ⟨fun c => ok hx hy (by omega) (Or.inr (by omega)), fun c => x_agreeN (by decide) ⟨by omega, hS _ _ (fr_91 (fr_trans PN_s PN_s)) (no _ 8 (fr_trans PN_s PN_s) (n12b _ _) up_at (by omega))⟩⟩⟩
