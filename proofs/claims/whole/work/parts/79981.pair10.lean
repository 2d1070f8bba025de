theorem gM_fst {a : qB} {p q w r : Int} {k : Nat} (hm : gM a p q k w) (hr : qfst (gP a p q k) (a 1) r) : (w = a 1 ∧ r = -1) ∨ (w ≠ a 1 ∧ r = w ∧ r ≠ -1) := by
  rcases hm with ⟨e, h1⟩ | ⟨w0, w1, w2, w3⟩
  · rcases hr with ⟨r0, r1, r2, _⟩ | ⟨r1, _⟩
    · exact absurd r2 (h1 r r0 r1)
    · exact Or.inl ⟨e, r1⟩
  · have : r = w := qfst_uniq hr (Or.inl ⟨w0, w1, w2, w3⟩)
    exact Or.inr ⟨by omega, this, by omega⟩
theorem p_moveOf {x y z : Int} : Pair 150 311 [qi x, qi y, qi z, qu, qu, qu, qu] [qi x, qi y, qi z] := by
  intro d B h a K X S hi b0 b1 hK hS
  have hQ := hi.1.1
  have hW := hi.1.2.2.1
  have w1 := wf_m hW
  refine sX11_moveOf_0 (x_statusOfGame hQ (fun ok => x_agree0 ⟨fun _ => ?_, fun c => absurd (by decide) c⟩) (fun nn => x_agreeN (by decide) ⟨fun c => absurd rfl c, fun _ => ?_⟩) (fun hxy bad => x_agreeN (by decide) ⟨fun c => absurd rfl c, fun _ => ?_⟩))
  · obtain ⟨hx, hy, ne, z0, z4⟩ := ok
    obtain ⟨k, hk⟩ : ∃ k : Nat, z = k + 1 := ⟨(z - 1).toNat, by omega⟩
    subst hk
    refine ⟨qR_of (by omega) (by omega), ?_⟩
    have P := x_playOut (B := B) hx.1 hy.1 k false (d := d + 35 - k) (h := qup h 11 0 17 0 0) (a := a) (i := 0) (R := fun w7 g8 => qri w7 fun r9 => qR ((g8 7 0 8 0) - 1) ∧ qT (d + 39) 150 46 [qo 11 0, qi x, qi y, qi ((k : Int) + 1), qi (-1), qi r9, qi ((g8 7 0 8 0) - 1), qu] [] g8 S) (by omega) (qQ_s hQ) hW hx.2 hy.2 (fun g1 hQ1 f1 => ?_)
    · rw [show d + 35 - k + k + 3 = d + 38 by omega] at P
      rw [show (k : Int) + 1 - 1 = k by omega]
      exact P
    · dsimp only [qri]
      rw [qx_m hQ1]
      refine ⟨qR_of (by omega) (by omega), x_moveLoop (d := d + 31) hQ1 hW (by omega) hx.1 hx.2 hy.1 hy.2 (fun r g2 hr hQ2 f2 => ?_)⟩
      have fc : fr PJc h g2 := fr_trans PJc_s (fr_trans (PJc_7 f1) (PJc_7 f2))
      have g17 : g2 11 0 17 0 = 0 := by rw [f2.1 11 0 (by omega), f1.1 11 0 (by omega)]; exact up_at
      have mod : ∀ g3 s, fr PJc h g3 → qQX g3 0 a → (r ≠ -1 → s = 0) → (r = -1 → s = 8) → g3 11 0 17 0 = s → qT (d + 39) 311 0 [qo 12 0, qi x, qi y, qi ((k : Int) + 1)] [] g3 (fun w' g' => qri w' fun r' => (r = r' → K g') ∧ (¬ r = r' → X g')) := by
        intro g3 s fc hQ3 hs0 hs8 e17
        have hM1 := m0_M (PJc_M fc (iM0 hi))
        have hM0 : qM (qup g3 12 0 1 0 0) 0 a := m_fr (PJc_M fc (iM0 hi)) (up_j (by omega))
        refine sX12_moveOf_0 (m_whyNoGame hM0 hW (fun _ => ⟨fun _ => ?_, fun c => absurd (by rw [up_at]; decide) c⟩) (fun c => absurd ⟨hx, hy⟩ c) (fun _ c => by omega))
        have Q := m_plays (B := B) (T := (k : Int) + 1) hx.1 hy.1 (k + 1) (d := d + 34 - k) (h := m0 g3) (a := a) (R := fun w4 g5 => qri w4 fun r6 => (0 ≤ (1 : Int) ∧ (1 : Int) < 1860) ∧ ((g5 12 0 36 0) ≠ (g5 12 0 20 (Int.toNat 1)) → qri (some (qi (g5 12 0 36 0))) fun r' => (r = r' → K g5) ∧ (¬ r = r' → X g5)) ∧ (¬ ((g5 12 0 36 0) ≠ (g5 12 0 20 (Int.toNat 1))) → qT (d + 38) 175 0 [qo 12 0, qi 8] [] g5 (fun w7 g8 => qri w7 fun r9 => qri (some (qi r9)) fun r' => (r = r' → K g8) ∧ (¬ r = r' → X g8)))) 0 (by omega) (by omega) (by omega) hM1 hW hx.2 hy.2 (fun h2 c _ _ => by omega) (fun h2 w _ _ hg hM2 f2 => ?_)
        · rw [show d + 34 - k + (k + 1) + 3 = d + 38 by omega] at Q
          exact Q
        · rw [show k + 1 - 1 = k by omega] at hg
          have gf := gM_fst hg hr
          dsimp only [qri]
          have ec : (qup h2 12 0 36 0 w) 12 0 20 (Int.toNat 1) = a 1 := by rw [up_j (by omega)]; exact m_0 hM2 (by omega) (by omega)
          rw [up_at, ec]
          -- all but the status
          have f5 : fr PJ h h2 := by
            have fm : fr PJ g3 (m0 g3) := fr_trans (h' := qup g3 12 0 1 0 0) (fr_up (by unfold PJ Scr; omega)) (fr_up (by unfold PJ Scr; omega))
            refine fr_trans (fr_mono fc (fun _ _ _ p => p.2)) (fr_trans fm (fun c i j n => ?_))
            unfold PJ Scr at n
            by_cases c12 : c = 12
            · subst c12
              have i0 : i = 0 := by omega
              subst i0
              exact f2.2.1 j (by omega)
            · exact congrFun (f2.1 c i c12) j
          have cel : ∀ v1 v2 : Int, ∀ yy : Int, 100 ≤ yy → yy < 1488 → h2 12 0 20 (Int.toNat yy) = h 12 0 20 (Int.toNat yy) := fun _ _ yy y0 y1 => by
            rw [f2.2.2 yy (by omega) (by omega)]
            unfold m0
            rw [up_j (by omega), up_j (by omega), fc 12 0 20 (fun p => p.1 rfl)]
          have q7 : h2 7 0 = g3 7 0 := by
            rw [f2.1 7 0 (by omega)]
            unfold m0
            funext j
            rw [up_j (by omega), up_j (by omega)]
          have s11 : h2 11 0 17 0 = s := by
            rw [f2.1 11 0 (by omega)]
            unfold m0
            rw [up_j (by omega), up_j (by omega)]; exact e17
          have s12 : h2 12 0 0 0 = 0 := by
            rw [f2.2.1 0 (by omega)]
            unfold m0
            exact up_at
          refine ⟨by omega, fun nw => ?_, fun ew => ?_⟩
          · rcases gf with ⟨c, _⟩ | ⟨_, e, e2⟩
            · exact absurd c nw
            · refine okR (hK _ a (Inv_q (h' := qup h2 12 0 36 0 w) hi (fr_trans f5 (fr_up (by unfold PJ Scr; omega))) (fun yy y0 y1 => by rw [up_j (by omega)]; exact cel 0 0 yy y0 y1) (qx_fr hQ3 (by funext j; rw [up_j (by omega), q7])) (m_fr hM2 (up_j (by omega))) (wf_mono hW (by omega)) (by omega) rfl (by omega) ?_) (fr_91J (fr_trans f5 (fr_up (by unfold PJ Scr; omega))))) e
              rw [up_j (by omega), up_j (by omega), s11, s12]; exact hs0 e2
          · rcases gf with ⟨_, e⟩ | ⟨c, _⟩
            · refine m_refuse (okR (hK _ a (Inv_q (h' := qup (qup h2 12 0 36 0 w) 12 0 0 0 8) hi (fr_trans f5 (fr_trans (h' := qup h2 12 0 36 0 w) (fr_up (by unfold PJ Scr; omega)) (fr_up (by unfold PJ Scr; omega)))) (fun yy y0 y1 => by rw [up_j (by omega), up_j (by omega)]; exact cel 0 0 yy y0 y1) (qx_fr hQ3 (by funext j; rw [up_j (by omega), up_j (by omega), q7])) (m_fr hM2 (by rw [up_j (by omega), up_j (by omega)])) (wf_mono hW (by omega)) (by omega) rfl (by omega) ?_) (fr_91J (fr_trans f5 (fr_trans (h' := qup h2 12 0 36 0 w) (fr_up (by unfold PJ Scr; omega)) (fr_up (by unfold PJ Scr; omega)))))) e)
              rw [up_j (by omega), up_j (by omega), up_at, s11]; exact hs8 e
            · exact absurd c ew
      refine ⟨fun nr => hS _ _ (PJc_91 fc) (mod g2 0 fc hQ2 (fun _ => rfl) (fun c => absurd c nr) g17), fun er => ?_⟩
      have fc2 : fr PJc h (qup g2 11 0 17 0 8) := fr_trans fc PJc_s
      have M := mod (qup g2 11 0 17 0 8) 8 fc2 (qQ_s hQ2) (fun c => absurd er c) (fun _ => rfl) up_at
      rw [er] at M
      exact hS _ _ (PJc_91 fc2) M
  · refine hS _ _ s_91 (sX12_moveOf_0 (m_whyNoGame (M1 (iM0 hi)) hW (fun ok => absurd ⟨ok.1, ok.2.1⟩ nn) (fun _ => ⟨fun c => absurd c (by rw [up_at]; decide), fun _ => okR (kT hi hK 2) rfl⟩) (fun hxy _ => absurd hxy nn)))
  · refine hS _ _ s_91 (sX12_moveOf_0 (m_whyNoGame (M1 (iM0 hi)) hW (fun ok => by have := ok.2.2; omega) (fun nn => absurd hxy nn) (fun _ _ => ⟨fun c => absurd c (by rw [up_at]; decide), fun _ => okR (kT hi hK 5) rfl⟩)))
