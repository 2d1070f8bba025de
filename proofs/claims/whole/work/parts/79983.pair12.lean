/-! a TRAY laid out -/
section Ty
variable {d : Nat} {R : Option qV → qH → Prop} {h : qH}
theorem x_layOut {t : Nat} {s m : Int} (hR : ∀ h', fr (fun c i _ => c = 10 ∧ i = t) h h' → h' 10 t 1 0 = s → h' 10 t 2 0 = m → (∀ k, 0 ≤ k → k < 60 → h' 10 t 0 (Int.toNat k) = 0) → R none h') : qT (d + 1) 102 0 [qo 10 t, qi s, qi m, qu] [] h R := by
  refine sX10_layOut_0 ?_
  refine q_up (n := 60) (C := fun x => x ≤ 60 → ∀ g, fr (fun c i _ => c = 10 ∧ i = t) h g → g 10 t 1 0 = s → g 10 t 2 0 = m → (∀ k, 0 ≤ k → k < x → g 10 t 0 (Int.toNat k) = 0) → qT (d + 1) 102 12 [qo 10 t, qi s, qi m, qi x] [] g R) ?_ 0 (by omega) (by omega) _ (fr_trans (fr_up ⟨rfl, rfl⟩) (fr_up ⟨rfl, rfl⟩)) (by rw [up_j (by omega)]; exact up_at) up_at (fun k k0 k1 => by omega)
  intro x x0 ih x6 g hf g1 g2 g0
  refine sX10_layOut_12 ⟨fun c => hR g hf g1 g2 (fun k k0 k1 => g0 k k0 (by omega)), fun c => ⟨by omega, qR_of (by omega) (by omega), ih (by omega) (by omega) _ (fr_trans hf (fr_up ⟨rfl, rfl⟩)) (by rw [up_j (by omega)]; exact g1) (by rw [up_j (by omega)]; exact g2) (fun k k0 k1 => ?_)⟩⟩
  rw [up_I k0 x0]
  by_cases e : k = x
  · rw [if_pos e]
  · rw [if_neg e]; exact g0 k k0 (by omega)
theorem m_layTray {t s m : Int} (t0 : 0 ≤ t) (t4 : t < 4) (m0' : 0 ≤ m) (m6 : m ≤ 60) (hR : ∀ h', fr (fun c i j => c = 12 ∧ i = 0 ∧ j = 6) h h' → (∀ k, 0 ≤ k → k < m → h' 12 0 6 (Int.toNat (60 * t + k)) = 0) → (∀ y, 0 ≤ y → (y < 60 * t ∨ 60 * t + 60 ≤ y) → h' 12 0 6 (Int.toNat y) = h 12 0 6 (Int.toNat y)) → R (some (qi 1)) h') : qT (d + 1) 180 74 [qo 12 0, qi t, qi s, qi m, qi 0] [] h R := by
  refine q_up (n := m) (C := fun x => x ≤ m → ∀ g, fr (fun c i j => c = 12 ∧ i = 0 ∧ j = 6) h g → (∀ k, 0 ≤ k → k < x → g 12 0 6 (Int.toNat (60 * t + k)) = 0) → (∀ y, 0 ≤ y → (y < 60 * t ∨ 60 * t + 60 ≤ y) → g 12 0 6 (Int.toNat y) = h 12 0 6 (Int.toNat y)) → qT (d + 1) 180 74 [qo 12 0, qi t, qi s, qi m, qi x] [] g R) ?_ 0 (by omega) m0' h fr_rfl (fun k k0 k1 => by omega) (fun _ _ _ => rfl)
  intro x x0 ih xm g hf g0 gn
  refine sX12_tray_74 ⟨fun c => ⟨by omega, hR g hf (fun k k0 k1 => g0 k k0 (by omega)) gn⟩, fun c => ⟨qR_of (by omega) (by omega), qR_of (by omega) (by omega), by omega, qR_of (by omega) (by omega), ih (by omega) (by omega) _ (fr_trans hf (fr_up ⟨rfl, rfl, rfl⟩)) (fun k k0 k1 => ?_) (fun y y0 yn => by rw [up_I y0 (by omega), if_neg (by omega)]; exact gn y y0 yn)⟩⟩
  rw [up_I (by omega) (by omega)]
  by_cases e : 60 * t + k = 60 * t + x
  · rw [if_pos e]
  · rw [if_neg e]; exact g0 k k0 (by omega)
end Ty
theorem p_tray {t s m : Int} : Pair 109 180 [qi t, qi s, qi m] [qi t, qi s, qi m, qu] := by
  intro d B h a K X S hi b0 b1 hK hS
  have ht := hi.2.2.1
  have no : ∀ k, k ≠ 0 → ((k = 1 ∧ (t < 0 ∨ 4 ≤ t ∨ s < 0 ∨ 4 ≤ s)) ∨ ((0 ≤ t ∧ t < 4 ∧ 0 ≤ s ∧ s < 4) ∧ ((k = 5 ∧ 60 < m) ∨ (k = 6 ∧ m < 0)))) → qT (d + 38) 158 0 [qo 11 0, qi k] [] h (fun w g => qri w fun r => (r = 0 ∨ r = 1) ∧ S (some (qi r)) g) := by
    intro k k0 hk
    have kk := kS hi hK k
    refine x_agreeN k0 ⟨by omega, hS _ _ s_91 (sX12_tray_0 ⟨fun c => ?_, fun c => ⟨fun c2 => ?_, fun c2 => ⟨fun c3 => ?_, fun c3 => ⟨fun c4 => ⟨fun c5 => ⟨fun c6 => by omega, fun c6 => ?_⟩, fun c5 => ?_⟩, fun c4 => ?_⟩⟩⟩⟩)⟩
    · rw [show k = 1 by omega] at kk ⊢; exact m_no ⟨by omega, okR kk rfl⟩
    · rw [show k = 1 by omega] at kk ⊢; exact m_no ⟨by omega, okR kk rfl⟩
    · rw [show k = 1 by omega] at kk ⊢; exact m_no ⟨by omega, okR kk rfl⟩
    · rw [show k = 6 by omega] at kk ⊢; exact m_no ⟨by omega, okR kk rfl⟩
    · rw [show k = 5 by omega] at kk ⊢; exact m_no ⟨by omega, okR kk rfl⟩
    · rw [show k = 1 by omega] at kk ⊢; exact m_no ⟨by omega, okR kk rfl⟩
  refine sX11_tray_0 (sX11_hasTray_0 ⟨fun c => ⟨by omega, fun _ => no 1 (by decide) (by omega), fun c2 => absurd rfl c2⟩, fun c => ⟨fun c2 => ⟨by omega, fun _ => no 1 (by decide) (by omega), fun c3 => absurd rfl c3⟩, fun c2 => ⟨by omega, fun c3 => absurd c3 (by decide), fun _ => ⟨fun c3 => no 1 (by decide) (by omega), fun c3 => ⟨fun c4 => ⟨fun c5 => ⟨fun c6 => ⟨by omega, ?_⟩, fun c6 => no 6 (by decide) (by omega)⟩, fun c5 => no 5 (by decide) (by omega)⟩, fun c4 => no 1 (by decide) (by omega)⟩⟩⟩⟩⟩)
  rw [show 0 + Int.toNat t = t.toNat by omega]
  refine x_layOut (fun g1 f1 k1 k2 k3 => x_agree0 ⟨by omega, ?_⟩)
  have fA : fr PTr h (qup g1 11 0 17 0 0) := fr_trans (fr_mono f1 (fun c i j p => Or.inr (Or.inl p.1))) (fr_mono PN_s (fun c i j p => Or.inl p))
  refine hS _ _ (fr_91T fA) (sX12_tray_0 ⟨fun c => by omega, fun c => ⟨fun c2 => by omega, fun c2 => ⟨fun c3 => by omega, fun c3 => ⟨fun c4 => ⟨fun c5 => ⟨fun c6 => ⟨by omega, by omega, m_layTray (by omega) (by omega) c6 c5 (fun g2 f2 l1 l2 => ?_)⟩, fun c6 => by omega⟩, fun c5 => by omega⟩, fun c4 => by omega⟩⟩⟩⟩)
  have fB : fr PTr (qup g1 11 0 17 0 0) g2 := by
    refine fr_trans (fr_mono PN_1 (fun c i j p => Or.inl p)) (fr_trans (fr_mono PN_0 (fun c i j p => Or.inl p)) (fr_trans (fr_up (Or.inr (Or.inr ⟨rfl, by omega, by omega⟩))) (fr_trans (fr_up (Or.inr (Or.inr ⟨rfl, by omega, by omega⟩))) (fr_mono f2 (fun c i j p => Or.inr (Or.inr ⟨p.1, by omega, by omega⟩))))))
  have fC := fr_trans fA fB
  refine okR (hK _ a (Inv_t hi fC (by omega) ?_ ?_) (fr_91T fC)) rfl
  · intro t' t4'
    have T := ht t' t4'
    have e10 : g2 10 t' = g1 10 t' := by
      funext j
      rw [f2 10 t' j (by omega), up_j (by omega), up_j (by omega), up_j (by omega), up_j (by omega), up_j (by omega)]
    have m4 : ∀ k : Nat, g2 12 0 4 k = if k = t.toNat then s else h 12 0 4 k := fun k => by
      rw [f2 12 0 4 (by omega), up_j (by omega), up_if, up_j (by omega), up_j (by omega), up_j (by omega), f1 12 0 4 (by omega)]
    have m5 : ∀ k : Nat, g2 12 0 5 k = if k = t.toNat then m else h 12 0 5 k := fun k => by
      rw [f2 12 0 5 (by omega), up_if, up_j (by omega), up_j (by omega), up_j (by omega), up_j (by omega), f1 12 0 5 (by omega)]
    rw [e10, m4, m5]
    by_cases e : t' = t.toNat
    · subst e
      rw [if_pos rfl, if_pos rfl, k1, k2]
      refine ⟨fun _ => rfl, by omega, by omega, fun _ => ⟨rfl, by omega, fun k kk0 kk1 => ?_⟩⟩
      rw [k3 k kk0 (by omega), show 60 * ((t.toNat : Nat) : Int) + k = 60 * t + k by omega, l1 k kk0 kk1]
    · rw [if_neg e, if_neg e, show g1 10 t' = h 10 t' by funext j; exact f1 10 t' j (fun p => e p.2)]
      refine ⟨T.1, T.2.1, T.2.2.1, fun nm => ?_⟩
      have T2 := T.2.2.2 nm
      refine ⟨T2.1, T2.2.1, fun k kk0 kk1 => ?_⟩
      rw [l2 _ (by omega) (by omega), up_j (by omega), up_j (by omega), up_j (by omega), up_j (by omega), up_j (by omega), f1 12 0 6 (by omega)]
      exact T2.2.2 k kk0 kk1
  · rw [f2 11 0 17 (by omega), f2 12 0 0 (by omega), up_j (by omega), up_j (by omega), up_j (by omega), up_j (by omega), up_at, up_j (by omega), up_j (by omega), up_at]
