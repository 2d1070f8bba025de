/-! the GAME -/
section Gm
variable {d : Nat} {R : Option qV → qH → Prop} {h : qH} {a : qB} {B x y z lo : Int}
def gmOk (a : qB) (x y z lo : Int) : Prop := (0 ≤ x ∧ x < a 0) ∧ (0 ≤ y ∧ y < a 0) ∧ x ≠ y ∧ lo ≤ z ∧ z ≤ 4
theorem x_statusOfGame (hQ : qQX h 0 a) (h0 : gmOk a x y z lo → R (some (qi 0)) h) (h2 : ¬ ((0 ≤ x ∧ x < a 0) ∧ (0 ≤ y ∧ y < a 0)) → R (some (qi 2)) h) (h5 : ((0 ≤ x ∧ x < a 0) ∧ (0 ≤ y ∧ y < a 0)) → (x = y ∨ ¬ (lo ≤ z ∧ z ≤ 4)) → R (some (qi 5)) h) : qT (d + 4) 165 0 [qo 11 0, qi x, qi y, qi z, qi lo, qu] [] h R :=
  sX11_statusOfGame_0 (x_couple hQ (fun hx hy ne => ⟨fun c => absurd rfl c, fun _ => ⟨fun c => h5 ⟨hx, hy⟩ (Or.inr (by omega)), fun c => ⟨fun c2 => h0 ⟨hx, hy, ne, by omega, c2⟩, fun c2 => h5 ⟨hx, hy⟩ (Or.inr (by omega))⟩⟩⟩) (fun nn => ⟨fun _ => h2 nn, fun c => absurd (by decide) c⟩) (fun hx hy e => ⟨fun _ => h5 ⟨hx, hy⟩ (Or.inl e), fun c => absurd (by decide) c⟩))
theorem m_whyNoGame (hM : qM h 0 a) (hW : qwf B a) (h0 : gmOk a x y z lo → R (some (qi 0)) h) (h2 : ¬ ((0 ≤ x ∧ x < a 0) ∧ (0 ≤ y ∧ y < a 0)) → R (some (qi 2)) h) (h5 : ((0 ≤ x ∧ x < a 0) ∧ (0 ≤ y ∧ y < a 0)) → (x = y ∨ ¬ (lo ≤ z ∧ z ≤ 4)) → R (some (qi 5)) h) : qT (d + 3) 309 0 [qo 12 0, qi x, qi y, qi z, qi lo] [] h R :=
  sX12_whyNoGame_0 (m_isPersonAt hM hW (fun x0 x1 => ⟨fun c => absurd c (by decide), fun _ => m_isPersonAt hM hW (fun y0 y1 => ⟨fun _ => ⟨fun e => h5 ⟨⟨x0, x1⟩, ⟨y0, y1⟩⟩ (Or.inl e), fun ne => m_isIn (fun c1 c2 => ⟨fun c => absurd c (by decide), fun _ => h0 ⟨⟨x0, x1⟩, ⟨y0, y1⟩, ne, c1, c2⟩⟩) (fun nc => ⟨fun _ => h5 ⟨⟨x0, x1⟩, ⟨y0, y1⟩⟩ (Or.inr nc), fun c => absurd rfl c⟩)⟩, fun c => absurd (by decide) c⟩) (fun ny => ⟨fun c => absurd rfl c, fun _ => h2 (fun e => ny e.2)⟩)⟩) (fun nx => ⟨fun _ => h2 (fun e => nx e.1), fun c => absurd rfl c⟩))
end Gm
/-- the class told s, the Model tells it too and no more -/
theorem kT {B : Int} {h : qH} {a : qB} {K : qH → Prop} (hi : Inv B h a) (hK : ∀ g a', Inv (B + 300) g a' → g 91 = h 91 → K g) (s : Int) : K (qup (qup (qup h 11 0 17 0 s) 12 0 1 0 0) 12 0 0 0 s) := hK _ a (Inv_n hi (fr_trans PN_s (fr_trans PN_1 PN_0)) (by omega) (by rw [up_j (by omega), up_j (by omega), up_at, up_at])) (fr_91 (fr_trans PN_s (fr_trans PN_1 PN_0)))
theorem M1 {h : qH} {a : qB} {s : Int} (hM : qM h 0 a) : qM (qup (qup h 11 0 17 0 s) 12 0 1 0 0) 0 a := m_fr hM (by rw [up_j (by omega), up_j (by omega)])
theorem p_game {x y z : Int} : Pair 149 310 [qi x, qi y, qi z] [qi x, qi y, qi z] := by
  intro d B h a K X S hi b0 b1 hK hS
  have hQ := hi.1.1
  have hW := hi.1.2.2.1
  refine sX11_game_0 (x_statusOfGame hQ (fun ok => x_agree0 ⟨fun _ => ?_, fun c => absurd (by decide) c⟩) (fun nn => x_agreeN (by decide) ⟨fun c => absurd rfl c, fun _ => ?_⟩) (fun hxy bad => x_agreeN (by decide) ⟨fun c => absurd rfl c, fun _ => ?_⟩))
  · obtain ⟨hx, hy, ne, z0, z4⟩ := ok
    have P := x_playOut (B := B) hx.1 hy.1 z.toNat true (d := d + 35 - z.toNat) (h := qup h 11 0 17 0 0) (a := a) (i := 0) (R := fun w7 g8 => qri w7 fun r9 => S (some (qi r9)) g8) (by omega) (qQ_s hQ) hW hx.2 hy.2 (fun g1 hQ1 f1 => ?_)
    · rw [show d + 35 - z.toNat + z.toNat + 3 = d + 38 by omega, show ((z.toNat : Nat) : Int) = z by omega] at P
      exact P
    · have fc : fr PJc h g1 := fr_trans PJc_s (PJc_7 f1)
      have hM1 := m0_M (PJc_M fc (iM0 hi))
      have hM0 : qM (qup g1 12 0 1 0 0) 0 a := m_fr (PJc_M fc (iM0 hi)) (up_j (by omega))
      have g17 : g1 11 0 17 0 = 0 := by rw [f1.1 11 0 (by omega)]; exact up_at
      refine hS _ _ (PJc_91 fc) (sX12_game_0 (m_whyNoGame hM0 hW (fun _ => ⟨fun _ => ?_, fun c => absurd (by rw [up_at]; decide) c⟩) (fun c => absurd ⟨hx, hy⟩ c) (fun _ c => by omega)))
      have fin : ∀ h2, qM h2 0 a → qfM 0 (m0 g1) h2 → K h2 := fun h2 hM2 f2 => by
        have ic := iChange hi fc g17 hQ1 hM2 f2 (wf_mono hW (by omega)) rfl (by omega)
        exact hK _ _ ic.1 ic.2
      have Q := m_plays (B := B) (T := z) hx.1 hy.1 z.toNat (d := d + 35 - z.toNat) (h := m0 g1) (a := a) (R := fun w4 g5 => qri w4 fun r6 => qri (some (qi r6)) fun r' => (gV x y z.toNat true a = r' → K g5) ∧ (¬ gV x y z.toNat true a = r' → X g5)) 0 (by omega) (by omega) z4 hM1 hW hx.2 hy.2 (fun h2 _ hM2 f2 => okR (fin h2 hM2 f2) rfl) (fun h2 w _ _ _ hM2 f2 => okR ?_ rfl)
      · rw [show d + 35 - z.toNat + z.toNat + 3 = d + 38 by omega] at Q
        exact Q
      · have ic := iChange hi fc g17 hQ1 hM2 f2 (wf_mono hW (by omega)) rfl (by omega)
        have f3 : fr PN0 h2 (qup h2 12 0 36 0 w) := fr_up (by unfold PN0 Scr; omega)
        refine hK _ a (Inv_n ic.1 f3 (by omega) ?_) ((fr_91 f3).trans ic.2)
        rw [up_j (by omega), up_j (by omega)]
        exact iSt ic.1
  · refine hS _ _ s_91 (sX12_game_0 (m_whyNoGame (M1 (iM0 hi)) hW (fun ok => absurd ⟨ok.1, ok.2.1⟩ nn) (fun _ => ⟨fun c => absurd c (by rw [up_at]; decide), fun _ => okR (kT hi hK 2) rfl⟩) (fun hxy _ => absurd hxy nn)))
  · refine hS _ _ s_91 (sX12_game_0 (m_whyNoGame (M1 (iM0 hi)) hW (fun ok => by have := ok.2.2; omega) (fun nn => absurd hxy nn) (fun _ _ => ⟨fun c => absurd c (by rw [up_at]; decide), fun _ => okR (kT hi hK 5) rfl⟩)))
