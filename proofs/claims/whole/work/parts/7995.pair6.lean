/-! more calls: trade, best, bestOf, night, lived, winner, envy -/
theorem PN_P0 {h h' : qH} (hf : fr P0 h h') : fr PN0 h h' := fr_mono hf (fun c i j p => Or.inl (Or.inl p))
theorem hh_of {B : Int} {h g g2 : qH} {a : qB} (hi : Inv B h a) (f1 : fr PN0 h g) (f2 : fr PN0 (hh g 0) g2) (s1 : g2 11 0 17 = (hh g 0) 11 0 17) (s2 : g2 12 0 0 = (hh g 0) 12 0 0) : Inv (B + 300) g2 a ∧ g2 91 = h 91 := by
  have f3 : fr PN0 h g2 := fr_trans f1 (fr_trans hh_fr f2)
  refine ⟨Inv_n hi f3 (by omega) ?_, fr_91 f3⟩
  rw [s1, s2]
  unfold hh
  rw [up_j (by omega), up_j (by omega), up_at, up_at]
theorem p_trade {x : Int} : Pair 143 300 [qi x] [qi x] := by
  intro d B h a K X S hi b0 b1 hK hS
  have hQ := hi.1.1
  have hM := fun s => hh_M (s := s) (iM0 hi)
  have hW := hi.1.2.2.1
  have w0 := wf_n hW
  refine sX11_trade_0 (x_hasPerson hQ (fun x0 x1 => ⟨fun _ => x_tradeAll hQ hW (fun g f1 hg => ⟨by omega, ?_⟩), fun c => absurd (by decide) c⟩) (fun nx => ⟨fun c => absurd rfl c, fun _ => ?_⟩))
  · have hM1 : qM (hh g 0) 0 a := hh_M (m_fr (iM0 hi) (f1 12 0 20 (by omega)))
    refine sX11_answer_0 (hS _ _ (fr_91 (fr_trans (PN_P0 f1) PN_s)) (sX12_trade_0 (m_isPersonAt hM1 hW (fun _ _ => ⟨fun _ => m_laysTrade hM1 hW (fun g2 f2 hg2 => ⟨by omega, ?_⟩), fun c => absurd (by decide) c⟩) (fun c => absurd ⟨x0, x1⟩ c))))
    have ii := hh_of hi (PN_P0 f1) (fr_mono f2 (fun c i j p => by unfold PN0 Scr; omega)) (f2 11 0 17 (by omega)) (f2 12 0 0 (by omega))
    exact okR (hK _ _ ii.1 ii.2) (tG_uniq w0.1 w0.2 x0 x1 (hg x x0 x1) (hg2 x x0 x1))
  · exact sX11_answer_0 (hS _ _ s_91 (sX12_trade_0 (m_isPersonAt (hM 2) hW (fun c1 c2 => absurd ⟨c1, c2⟩ nx) (fun _ => ⟨fun c => absurd rfl c, fun _ => m_refuse (okR (kS hi hK 2) rfl)⟩))))
theorem two_pow7 {n : Int} (h0 : 0 ≤ n) (h7 : n ≤ 7) : qshl 1 n - 1 = ((2 ^ n.toNat - 1 : Nat) : Int) ∧ 2 ^ n.toNat - 1 < 128 ∧ qR (qshl 1 n - 1) := by
  have h1 : 1 ≤ 2 ^ n.toNat := Nat.one_le_two_pow
  have h2 : 2 ^ n.toNat ≤ 2 ^ 7 := Nat.pow_le_pow_right (by decide) (by omega)
  rw [q_oneI h0 (by omega)]
  exact ⟨by omega, by omega, qR_of (by omega) (by omega)⟩
theorem p_best : Pair 144 302 [] [] := by
  intro d B h a K X S hi b0 b1 hK hS
  have hQ := hi.1.1
  have hW := hi.1.2.2.1
  have w0 := wf_n hW
  have tp := two_pow7 w0.1 w0.2
  refine sX11_best_0 (x_giveBest hQ hW (fun g f1 hg => ?_))
  have hM1 : qM (hh g 0) 0 a := hh_M (m_fr (iM0 hi) (f1 12 0 20 (by omega)))
  have ec : (qup g 11 0 17 0 0) 12 0 20 (Int.toNat 0) = a 0 := by rw [up_j (by omega), f1 12 0 20 (by omega)]; exact m_0 (iM0 hi) (by omega) (by omega)
  refine sX11_answer_0 (hS _ _ (fr_91 (fr_trans (PN_P0 f1) PN_s)) (sX12_best_0 ?_))
  rw [ec]
  refine ⟨by omega, tp.2.2, ?_⟩
  rw [tp.1]
  have ii := hh_of hi (PN_P0 f1) (fr_rfl) rfl rfl
  have m := m_mostFrom (B := B) hM1 hW (a 0).toNat (d := d + 36 - (a 0).toNat) (p := 0) (L := 2 ^ (a 0).toNat - 1) (R := fun w1 g2 => qri w1 fun r3 => qri (some (qi r3)) fun r' => (bMost a (a 0).toNat 0 (2 ^ (a 0).toNat - 1) = r' → K g2) ∧ (¬ bMost a (a 0).toNat 0 (2 ^ (a 0).toNat - 1) = r' → X g2)) (by omega) (by omega) tp.2.1 (okR (hK _ _ ii.1 ii.2) rfl)
  rw [show d + 36 - (a 0).toNat + (a 0).toNat + 2 = d + 38 by omega] at m
  exact m
theorem p_bestOf {x : Int} : Pair 145 303 [qi x] [qi x, qu, qu, qu, qu] := by
  intro d B h a K X S hi b0 b1 hK hS
  have hQ := hi.1.1
  have hM := fun s => hh_M (s := s) (iM0 hi)
  have hW := hi.1.2.2.1
  have w0 := wf_n hW
  have tp := two_pow7 w0.1 w0.2
  refine sX11_bestOf_0 (x_hasPerson hQ (fun x0 x1 => ⟨fun _ => x_giveBest hQ hW (fun g f1 hg => ⟨by omega, ?_⟩), fun c => absurd (by decide) c⟩) (fun nx => ⟨fun c => absurd rfl c, fun _ => ?_⟩))
  · have hM1 : qM (hh g 0) 0 a := hh_M (m_fr (iM0 hi) (f1 12 0 20 (by omega)))
    have ii := hh_of hi (PN_P0 f1) (fr_rfl) rfl rfl
    refine sX11_answer_0 (hS _ _ (fr_91 (fr_trans (PN_P0 f1) PN_s)) (sX12_bestOf_0 (m_isPersonAt hM1 hW (fun _ _ => ⟨fun _ => ⟨by omega, ?_⟩, fun c => absurd (by decide) c⟩) (fun c => absurd ⟨x0, x1⟩ c))))
    have ec : (hh g 0) 12 0 20 (Int.toNat 0) = a 0 := m_0 hM1 (by omega) (by omega)
    show qR (qshl 1 ((hh g 0) 12 0 20 (Int.toNat 0)) - 1) ∧ qT (d + 39) 303 40 [qo 12 0, qi x, qi (qshl 1 ((hh g 0) 12 0 20 (Int.toNat 0)) - 1), qi 0, qi 0, qu] [] (hh g 0) _
    rw [ec, tp.1]
    refine ⟨by rw [← tp.1]; exact tp.2.2, m_bestWalk hM1 hW x0 x1 (fun r hr => okR (hK _ _ ii.1 ii.2) (bG_uniq (hg x x0 x1) hr))⟩
  · exact sX11_answer_0 (hS _ _ s_91 (sX12_bestOf_0 (m_isPersonAt (hM 2) hW (fun c1 c2 => absurd ⟨c1, c2⟩ nx) (fun _ => ⟨fun c => absurd rfl c, fun _ => m_refuse (okR (kS hi hK 2) rfl)⟩))))
theorem p_lived {x : Int} : Pair 153 324 [qi x] [qi x] := by
  intro d B h a K X S hi b0 b1 hK hS
  have k0 : K (hh h 0) := hK _ a (hh_0 hi) (fr_91 hh_fr)
  have o := hi.2.2.2.2.1
  have no : ∀ s, (¬ (0 ≤ x ∧ x ≤ 4) ∧ s = 5) ∨ ((0 ≤ x ∧ x ≤ 4) ∧ h 5 0 1 0 = 0 ∧ s = 8) → qT (d + 38) 157 0 [qo 11 0, qi s, qi (-1)] [] h (fun w1 g2 => qri w1 fun r3 => S (some (qi r3)) g2) := by
    intro s hs
    rcases hs with ⟨nx, e⟩ | ⟨hx, h1, e⟩ <;> subst e
    · exact sX11_answer_0 (hS _ _ s_91 (sX12_lived_0 (m_isIn (fun c1 c2 => absurd ⟨c1, c2⟩ nx) (fun _ => ⟨fun c => absurd rfl c, fun _ => m_refuse (okR (kS hi hK 5) rfl)⟩))))
    · refine sX11_answer_0 (hS _ _ s_91 (sX12_lived_0 (m_isIn (fun c1 c2 => ⟨fun _ => ⟨fun _ => m_refuse (okR (kS hi hK 8) rfl), fun c => absurd ?_ c⟩, fun c => absurd (by decide) c⟩) (fun c => absurd hx c))))
      rw [up_j (by omega), up_j (by omega), up_j (by omega)]
      have := o.2.2.2.2.2.2.1
      omega
  refine sX11_lived_0 ⟨fun c => no 5 (Or.inl ⟨by omega, rfl⟩), fun x0 => ⟨fun x4 => ⟨fun h1 => ?_, fun h1 => no 8 (Or.inr ⟨by omega, Decidable.not_not.mp h1, rfl⟩)⟩, fun c => no 5 (Or.inl ⟨by omega, rfl⟩)⟩⟩
  have ol := o.2.2.2.2.2.2.2 h1
  have o1 := o.2.2.2.2.2.2.1
  have go : ∀ r, r = h 12 0 39 (Int.toNat x) → S (some (qi r)) (qup h 11 0 17 0 0) := by
    intro r er
    refine hS _ _ s_91 (sX12_lived_0 (m_isIn (fun c1 c2 => ⟨fun _ => ⟨fun c => absurd c ?_, fun _ => ⟨by omega, okR k0 ?_⟩⟩, fun c => absurd (by decide) c⟩) (fun c => absurd ⟨by omega, by omega⟩ c)))
    · rw [up_j (by omega), up_j (by omega), up_j (by omega)]; omega
    · rw [up_j (by omega), up_j (by omega), up_j (by omega)]; exact er
  refine ⟨fun e => go _ (by rw [e]; exact ol.1), fun n0 => ⟨fun e => go _ (by rw [e]; exact ol.2.1), fun n1 => ⟨fun e => go _ (by rw [e]; exact ol.2.2.1), fun n2 => ⟨fun e => go _ (by rw [e]; exact ol.2.2.2.1), fun n3 => ⟨fun e => go _ ?_, fun e => go _ ?_⟩⟩⟩⟩⟩
  · have e4 := ol.2.2.2.2
    rw [if_pos e] at e4
    rw [show x = 4 by omega]; exact e4
  · have e4 := ol.2.2.2.2
    rw [if_neg e] at e4
    rw [show x = 4 by omega]; exact e4
theorem p_night {x : Int} : Pair 124 262 [qi x] [qi x, qu] := by
  intro d B h a K X S hi b0 b1 hK hS
  have hQ := hi.1.1
  have hM := fun s => hh_M (s := s) (iM0 hi)
  have hW := hi.1.2.2.1
  have w0 := wf_n hW
  have wn := wf_night hW
  have no : ¬ (1 ≤ x ∧ x ≤ 99) → qT (d + 38) 157 0 [qo 11 0, qi 5, qi (-1)] [] h (fun w1 g2 => qri w1 fun r3 => S (some (qi r3)) g2) := fun nx => sX11_answer_0 (hS _ _ s_91 (sX12_night_0 (m_isIn (fun c1 c2 => absurd ⟨c1, c2⟩ nx) (fun _ => ⟨fun c => absurd rfl c, fun _ => m_refuse (okR (kS hi hK 5) rfl)⟩))))
  refine sX11_night_0 ⟨fun c => no (by omega), fun x0 => ⟨fun x9 => x_tryNights hQ hW (by omega) x9 (fun le g1 hQ1 f1 => ⟨fun _ => ?_, fun c => absurd (by decide) c⟩) (fun nle => ⟨fun c => absurd rfl c, fun _ => ?_⟩), fun c => no (by omega)⟩⟩
  · have hW1 := wf_nights hW (by omega) le
    have fc : fr PJc h (qup g1 11 0 17 0 0) := fr_trans (PJc_7 f1) PJc_s
    have hM1 := m0_M (PJc_M fc (iM0 hi))
    have e0 : ∀ k, aNights a k 0 = a 0 := fun k => by unfold aNights aNightsTo; rw [if_neg (by omega), if_neg (by omega)]
    have e1 : aNights a x 1 = a 1 := by unfold aNights aNightsTo; rw [if_neg (by omega), if_neg (by omega)]
    have loop : ∀ n : Nat, ∀ j : Int, 0 ≤ j → j + n = x → ∀ g, qM g 0 (aNights a j) → qfM 0 (m0 (qup g1 11 0 17 0 0)) g → qT (d + 39) 262 51 [qo 12 0, qi x, qi j] [] g (fun w' g' => qri w' fun r' => (aSum (aNights a x) 7 (aNights a x 0) = r' → K g') ∧ (¬ aSum (aNights a x) 7 (aNights a x 0) = r' → X g')) := by
      intro n
      induction n with
      | zero =>
        intro j j0 jx g hg fg
        have ej : j = x := by omega
        subst ej
        have ic := iChange hi fc up_at (qQ_s hQ1) hg fg (wf_mono hW1 (by omega)) (e0 j) (by omega)
        refine sX12_night_51 ⟨fun _ => ⟨by omega, ?_⟩, fun c => absurd (by omega) c⟩
        rw [m_0 hg (by omega) (by omega)]
        exact m_sum hg (by omega) (by rw [e0]; exact w0.1) (by rw [e0]; omega) (fun y y0 y1 => wf_temp hW1 y0 y1) (okR (hK _ _ ic.1 ic.2) rfl)
      | succ n ih =>
        intro j j0 jx g hg fg
        have hWj := wf_nights hW j0 (show a 4 + j ≤ 9999 by omega)
        refine sX12_night_51 ⟨fun c => absurd c (by omega), fun _ => m_passes hg hWj (fun g2 hg2 fg2 => ⟨qR_of (by omega) (by omega), ?_⟩)⟩
        rw [nights_s hW j0] at hg2
        exact ih (j + 1) (by omega) (by omega) g2 hg2 (qfM_trans fg fg2)
    refine x_allTempers hQ1 hW1 (sX11_answer_0 (hS _ _ (PJc_91 fc) (sX12_night_0 (m_isIn (fun _ _ => ⟨fun _ => ?_, fun c => absurd (by decide) c⟩) (fun c => absurd ⟨by omega, by omega⟩ c)))))
    have ec : (m0 (qup g1 11 0 17 0 0)) 12 0 20 (Int.toNat 4) = a 4 := m_0 hM1 (by omega) (by omega)
    show (0 ≤ (4 : Int) ∧ (4 : Int) < 1860) ∧ qR ((m0 (qup g1 11 0 17 0 0)) 12 0 20 (Int.toNat 4) + x) ∧ ((m0 (qup g1 11 0 17 0 0)) 12 0 20 (Int.toNat 4) + x ≤ 9999 → qT (d + 39) 262 51 [qo 12 0, qi x, qi 0] [] (m0 (qup g1 11 0 17 0 0)) _) ∧ _
    rw [ec]
    exact ⟨by omega, qR_of (by omega) (by omega), fun _ => loop x.toNat 0 (by omega) (by omega) _ (by rw [nights_0 hW]; exact hM1) qfM_rfl, fun c => absurd (show (m0 (qup g1 11 0 17 0 0)) 12 0 20 (Int.toNat 4) + x ≤ 9999 by rw [ec]; exact le) c⟩
  · refine sX11_answer_0 (hS _ _ s_91 (sX12_night_0 (m_isIn (fun _ _ => ⟨fun _ => ?_, fun c => absurd (by decide) c⟩) (fun c => absurd ⟨by omega, by omega⟩ c))))
    have ec : (hh h 7) 12 0 20 (Int.toNat 4) = a 4 := m_0 (hM 7) (by omega) (by omega)
    show (0 ≤ (4 : Int) ∧ (4 : Int) < 1860) ∧ qR ((hh h 7) 12 0 20 (Int.toNat 4) + x) ∧ ((hh h 7) 12 0 20 (Int.toNat 4) + x ≤ 9999 → _) ∧ (¬ (hh h 7) 12 0 20 (Int.toNat 4) + x ≤ 9999 → qT (d + 38) 175 0 [qo 12 0, qi 7] [] (hh h 7) _)
    rw [ec]
    exact ⟨by omega, qR_of (by omega) (by omega), fun c => absurd c nle, fun _ => m_refuse (okR (kS hi hK 7) rfl)⟩
