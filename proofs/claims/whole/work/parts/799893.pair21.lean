/-! a TRAY that must hold so many -/
def trS (h : qH) (t n : Int) : Int := if t < 0 ∨ 4 ≤ t then 1 else if h 10 t.toNat 1 0 = -1 then 3 else if h 10 t.toNat 2 0 < n then 4 else 0
section T2
variable {d : Nat} {R : Option qV → qH → Prop} {h : qH}
theorem x_tray {t n : Int} (hR : R (some (qi (trS h t n))) h) : qT (d + 2) 160 0 [qo 11 0, qi t, ql n, qu] [] h R := by
  unfold trS at hR
  refine sX11_statusOfTray_0 (sX11_hasTray_0 ⟨fun c => ⟨by omega, fun c2 => absurd rfl c2, fun _ => ?_⟩, fun c => ⟨fun c2 => ⟨by omega, fun c3 => absurd rfl c3, fun _ => ?_⟩, fun c2 => ⟨by omega, fun _ => ⟨by omega, ?_⟩, fun c3 => absurd (by decide) c3⟩⟩⟩)
  · rw [if_pos (by omega)] at hR; exact hR
  · rw [if_pos (by omega)] at hR; exact hR
  · rw [if_neg (by omega)] at hR
    rw [show 0 + Int.toNat t = t.toNat by omega]
    refine sX10_isMissing_0 ⟨fun nm => ⟨by omega, fun _ => ⟨by omega, fun le => ?_, fun nle => ?_⟩, fun c3 => absurd rfl c3⟩, fun m => ⟨by omega, fun c3 => absurd c3 (by decide), fun _ => ?_⟩⟩
    · rw [if_neg nm, if_neg (by have := qlcmp_le.mp le; omega)] at hR; exact hR
    · rw [if_neg nm, if_pos (by have := mt qlcmp_le.mpr nle; omega)] at hR; exact hR
    · rw [if_pos (Decidable.not_not.mp m)] at hR; exact hR
theorem m_isTray {t : Int} (h1 : 0 ≤ t → t < 4 → R (some (qi 1)) h) (h0 : ¬ (0 ≤ t ∧ t < 4) → R (some (qi 0)) h) : qT (d + 2) 187 0 [qo 12 0, qi t] [] h R :=
  sX12_isTray_0 (m_isIn (fun c1 c2 => ⟨by omega, h1 c1 (by omega)⟩) (fun n => ⟨by omega, h0 (by omega)⟩))
end T2
theorem trS_b {h : qH} (ht : tRel h) (t n : Int) : (¬ (0 ≤ t ∧ t < 4) ∧ trS h t n = 1) ∨ ((0 ≤ t ∧ t < 4) ∧ ((h 12 0 5 (Int.toNat t) < 0 ∧ trS h t n = 3) ∨ (0 ≤ h 12 0 5 (Int.toNat t) ∧ ((h 12 0 5 (Int.toNat t) < n ∧ trS h t n = 4) ∨ (n ≤ h 12 0 5 (Int.toNat t) ∧ trS h t n = 0))))) := by
  unfold trS
  by_cases c : t < 0 ∨ 4 ≤ t
  · rw [if_pos c]; exact Or.inl ⟨by omega, rfl⟩
  rw [if_neg c]
  have T := ht t.toNat (by omega)
  refine Or.inr ⟨by omega, ?_⟩
  by_cases c2 : h 10 t.toNat 1 0 = -1
  · rw [if_pos c2]; exact Or.inl ⟨T.2.2.1.mp c2, rfl⟩
  rw [if_neg c2]
  have T2 := T.2.2.2 c2
  have T3 : ¬ h 12 0 5 (Int.toNat t) < 0 := fun e => c2 (T.2.2.1.mpr e)
  refine Or.inr ⟨by omega, ?_⟩
  by_cases c3 : h 10 t.toNat 2 0 < n
  · rw [if_pos c3]; exact Or.inl ⟨by omega, rfl⟩
  · rw [if_neg c3]; exact Or.inr ⟨by omega, rfl⟩
theorem trS_0 {h : qH} (ht : tRel h) {t n : Int} (e : trS h t n = 0) : (0 ≤ t ∧ t < 4) ∧ h 10 t.toNat 1 0 ≠ -1 ∧ n ≤ h 10 t.toNat 2 0 ∧ h 10 t.toNat 2 0 = h 12 0 5 (Int.toNat t) ∧ (0 ≤ h 10 t.toNat 2 0 ∧ h 10 t.toNat 2 0 ≤ 60) ∧ ∀ k, 0 ≤ k → k < h 10 t.toNat 2 0 → h 10 t.toNat 0 (Int.toNat k) = h 12 0 6 (Int.toNat (60 * t + k)) := by
  rcases trS_b ht t n with ⟨_, e2⟩ | ⟨ht4, ⟨_, e2⟩ | ⟨l0, ⟨_, e2⟩ | ⟨l1, _⟩⟩⟩
  · omega
  · omega
  · omega
  · have T := ht t.toNat (by omega)
    have nm : h 10 t.toNat 1 0 ≠ -1 := fun c => by have := T.2.2.1.mp c; omega
    have T2 := T.2.2.2 nm
    refine ⟨ht4, nm, by omega, T2.1, by omega, fun k k0 k1 => ?_⟩
    rw [T2.2.2 k k0 k1, show 60 * ((t.toNat : Nat) : Int) + k = 60 * t + k by omega]
theorem p_copyLives {t : Int} : Pair 121 255 [qi t, qu] [qi t, qu] := by
  intro d B h a K X S hi b0 b1 hK hS
  have hQ := hi.1.1
  have hW := hi.1.2.2.1
  have w0 := wf_n hW
  have ht := hi.2.2.1
  refine sX11_copyLives_0 ?_
  rw [qx_n hQ]
  refine x_tray ?_
  dsimp only [qri]
  by_cases e0 : trS h t (a 0) = 0
  · rw [e0]
    refine x_agree0 ⟨fun _ => ?_, fun c => absurd (by decide) c⟩
    obtain ⟨t4, nm, nl, el, l60, ek⟩ := trS_0 ht e0
    obtain ⟨so, hso⟩ : ∃ so, h 10 t.toNat 1 0 = so := ⟨_, rfl⟩
    have T0 := ht t.toNat (by omega)
    -- the Model
    have mod : ∀ g, fr (fun c i j => (c = 10 ∧ i = t.toNat ∧ j = 0) ∨ (c = 11 ∧ j = 17)) h g → g 11 0 17 0 = 0 → (∀ k : Int, 0 ≤ k → g 10 t.toNat 0 (Int.toNat k) = if k < a 0 then cutV so (a (14 + k)) else h 10 t.toNat 0 (Int.toNat k)) → qT (d + 39) 255 0 [qo 12 0, qi t, qu] [] g (fun w' g' => qri w' fun r' => (a 0 = r' → K g') ∧ (¬ a 0 = r' → X g')) := by
      intro g fg g17 gk
      have hM1 : qM (qup (qup g 12 0 1 0 0) 12 0 0 0 0) 0 a := m0_M (m_fr (iM0 hi) (fg 12 0 20 (by omega)))
      have e5 : (qup (qup g 12 0 1 0 0) 12 0 0 0 0) 12 0 5 = h 12 0 5 := by rw [up_j (by omega), up_j (by omega), fg 12 0 5 (by omega)]
      refine sX12_copyLives_0 (m_isTray (fun _ _ => ⟨fun _ => ?_, fun c => absurd (by decide) c⟩) (fun c => absurd t4 c))
      rw [m_0 hM1 (by omega) (by omega), e5]
      refine ⟨t4, fun _ => ⟨t4, by omega, fun _ => ?_, fun c => absurd (by omega) c⟩, fun c => absurd (by omega) c⟩
      refine q_up (n := a 0) (C := fun i => i ≤ a 0 → ∀ g2, fr (fun c i j => c = 12 ∧ i = 0 ∧ (j = 0 ∨ j = 1 ∨ j = 6)) g g2 → g2 12 0 0 0 = 0 → (∀ y : Int, 0 ≤ y → g2 12 0 6 (Int.toNat y) = if 60 * t ≤ y ∧ y < 60 * t + i then cutV so (a (14 + (y - 60 * t))) else h 12 0 6 (Int.toNat y)) → qT (d + 39) 255 62 [qo 12 0, qi t, qi i] [] g2 (fun w' g' => qri w' fun r' => (a 0 = r' → K g') ∧ (¬ a 0 = r' → X g'))) ?_ 0 (by omega) w0.1 _ (fr_trans (fr_up ⟨rfl, rfl, by omega⟩) (fr_up ⟨rfl, rfl, by omega⟩)) up_at (fun y y0 => by rw [if_neg (by omega), up_j (by omega), up_j (by omega), fg 12 0 6 (by omega)])
      intro i i0 ih iN g2 f2 s2 k2
      have hM2 : qM g2 0 a := m_fr (iM0 hi) (by rw [f2 12 0 20 (by omega), fg 12 0 20 (by omega)])
      refine sX12_copyLives_62 ?_
      rw [m_0 hM2 (by omega) (by omega)]
      refine ⟨by omega, fun c => ⟨by omega, okR (hK g2 a ?_ ?_) rfl⟩, fun c => ⟨qR_of (by omega) (by omega), by omega, ?_⟩⟩
      · have fA : fr PTr h g2 := fr_trans (fr_mono fg (fun c i j p => by unfold PTr PN0 Scr; omega)) (fr_mono f2 (fun c i j p => by unfold PTr PN0 Scr; omega))
        refine Inv_t hi fA (by omega) (fun t' t4' => ?_) (by rw [f2 11 0 17 (by omega), g17, s2])
        have T := ht t' t4'
        have m4 : g2 12 0 4 = h 12 0 4 := by rw [f2 12 0 4 (by omega), fg 12 0 4 (by omega)]
        have m5 : g2 12 0 5 = h 12 0 5 := by rw [f2 12 0 5 (by omega), fg 12 0 5 (by omega)]
        have j1 : g2 10 t' 1 = h 10 t' 1 := by rw [f2 10 t' 1 (by omega), fg 10 t' 1 (by omega)]
        have j2 : g2 10 t' 2 = h 10 t' 2 := by rw [f2 10 t' 2 (by omega), fg 10 t' 2 (by omega)]
        rw [m4, m5, j1, j2, f2 10 t' 0 (by omega)]
        refine ⟨T.1, T.2.1, T.2.2.1, fun nm' => ?_⟩
        have T2 := T.2.2.2 nm'
        refine ⟨T2.1, T2.2.1, fun k k0 k1 => ?_⟩
        rw [k2 _ (by omega)]
        by_cases e : t' = t.toNat
        · subst e
          rw [gk k k0]
          by_cases c3 : k < a 0
          · rw [if_pos c3, if_pos (by omega), show 60 * ((t.toNat : Nat) : Int) + k - 60 * t = k by omega]
          · rw [if_neg c3, if_neg (by omega)]; exact T2.2.2 k k0 k1
        · rw [if_neg (by omega), fg 10 t' 0 (by omega)]
          exact T2.2.2 k k0 k1
      · funext i' j
        rw [f2 91 i' j (by omega), fg 91 i' j (by omega)]
      · have pl : plS h t i = 0 := by unfold plS; rw [if_neg (by omega), if_neg nm, if_neg (by omega)]
        refine sX12_write_0 (m_place ht (by rw [up_j (by omega), f2 12 0 5 (by omega), fg 12 0 5 (by omega)]) ?_)
        dsimp only [qri]
        rw [pl, up_at]
        refine ⟨fun _ => ⟨qR_of (by omega) (by omega), qR_of (by omega) (by omega), by omega, m_cut ?_⟩, fun c => absurd (by omega) c⟩
        dsimp only [qrl]
        rw [up_j (by omega), f2 12 0 4 (by omega), fg 12 0 4 (by omega), ← T0.1 nm, hso, m_0 hM2 (by omega) (by omega)]
        refine ⟨by omega, by omega, qR_of (by omega) (by omega), ih (by omega) (by omega) _ (fr_trans f2 (fr_trans (fr_up ⟨rfl, rfl, by omega⟩) (fr_trans (fr_up ⟨rfl, rfl, by omega⟩) (fr_up ⟨rfl, rfl, by omega⟩)))) (by rw [up_j (by omega), up_at]) (fun y y0 => ?_)⟩
        rw [up_I y0 (by omega), up_j (by omega), up_j (by omega), k2 y y0]
        by_cases e : y = 60 * t + i
        · rw [if_pos e, if_pos (by omega), show y - 60 * t = i by omega]
        · rw [if_neg e]
          by_cases c3 : 60 * t ≤ y ∧ y < 60 * t + i
          · rw [if_pos c3, if_pos (by omega)]
          · rw [if_neg c3, if_neg (by omega)]
    -- the class
    refine q_up (n := a 0) (C := fun i => i ≤ a 0 → ∀ g, fr (fun c i j => (c = 10 ∧ i = t.toNat ∧ j = 0) ∨ (c = 11 ∧ j = 17)) h g → g 11 0 17 0 = 0 → (∀ k : Int, 0 ≤ k → g 10 t.toNat 0 (Int.toNat k) = if k < i then cutV so (a (14 + k)) else h 10 t.toNat 0 (Int.toNat k)) → qT (d + 39) 121 24 [qo 11 0, qi t, qi i] [] g S) ?_ 0 (by omega) w0.1 _ (fr_up (Or.inr ⟨rfl, rfl⟩)) up_at (fun k k0 => by rw [if_neg (by omega), up_j (by omega)])
    intro i i0 ih iN g fg g17 gk
    have hQ1 : qQX g 0 a := qx_fr hQ (by funext j; exact fg 7 0 j (by omega))
    refine sX11_copyLives_24 ?_
    rw [qx_n hQ1]
    refine ⟨fun c => hS _ _ (by funext i' j; exact fg 91 i' j (by omega)) (mod g fg g17 (fun k k0 => by rw [gk k k0, show i = a 0 by omega])), fun c => ⟨t4, by omega, ?_⟩⟩
    rw [qx_live hQ1 hW i0 (by omega), show 0 + Int.toNat t = t.toNat by omega]
    have g2 : g 10 t.toNat 2 0 = h 10 t.toNat 2 0 := by rw [fg 10 t.toNat 2 (by omega)]
    have g1 : g 10 t.toNat 1 0 = so := by rw [fg 10 t.toNat 1 (by omega)]; exact hso
    refine x_put i0 (by omega) (by omega) ⟨qR_of (by omega) (by omega), ih (by omega) (by omega) _ (fr_trans fg (fr_up (Or.inl ⟨rfl, rfl, rfl⟩))) (by rw [up_j (by omega)]; exact g17) (fun k k0 => ?_)⟩
    rw [up_I k0 i0, gk k k0, g1]
    by_cases e : k = i
    · rw [if_pos e, if_pos (by omega), e]
    · rw [if_neg e]
      by_cases c3 : k < i
      · rw [if_pos c3, if_pos (by omega)]
      · rw [if_neg c3, if_neg (by omega)]
  · have hM1 : qM (qup (qup (qup h 11 0 17 0 (trS h t (a 0))) 12 0 1 0 0) 12 0 0 0 0) 0 a := hh_M (iM0 hi)
    have e5 : (qup (qup (qup h 11 0 17 0 (trS h t (a 0))) 12 0 1 0 0) 12 0 0 0 0) 12 0 5 = h 12 0 5 := by rw [up_j (by omega), up_j (by omega), up_j (by omega)]
    have ks := kS hi hK (trS h t (a 0))
    refine x_agreeN e0 ⟨fun c => absurd rfl c, fun _ => hS _ _ s_91 (sX12_copyLives_0 (m_isTray (fun c1 c2 => ⟨fun _ => ?_, fun c => absurd (by decide) c⟩) (fun nt => ⟨fun c => absurd rfl c, fun _ => m_refuse (okR ?_ rfl)⟩)))⟩
    · rw [m_0 hM1 (by omega) (by omega), e5]
      have tb := trS_b ht t (a 0)
      refine ⟨by omega, fun c3 => ⟨by omega, by omega, fun c4 => absurd (show trS h t (a 0) = 0 by omega) e0, fun c4 => m_refuse (okR ?_ rfl)⟩, fun c3 => m_refuse (okR ?_ rfl)⟩
      · have e : trS h t (a 0) = 4 := by omega
        rw [e] at ks ⊢; exact ks
      · have e : trS h t (a 0) = 3 := by omega
        rw [e] at ks ⊢; exact ks
    · have tb := trS_b ht t (a 0)
      have e : trS h t (a 0) = 1 := by omega
      rw [e] at ks ⊢; exact ks
