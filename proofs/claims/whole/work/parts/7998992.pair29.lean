/-- the tape's bytes, each -128 to 127 -/
theorem tape_b {h : qH} (hp : pRel h) : ∃ b : Int → Int, (∀ j, -128 ≤ b j ∧ b j ≤ 127) ∧ ∀ j, 0 ≤ j → j < h 9 0 1 0 → h 9 0 0 (Int.toNat j) = b j ∧ h 12 0 7 (Int.toNat j) = b j := by
  refine ⟨fun j => if 0 ≤ j ∧ j < h 9 0 1 0 then h 9 0 0 (Int.toNat j) else 0, fun j => ?_, fun j j0 j1 => ?_⟩
  · dsimp only
    by_cases c : 0 ≤ j ∧ j < h 9 0 1 0
    · rw [if_pos c]; exact (hp.2.2 j c.1 c.2).2
    · rw [if_neg c]; omega
  · dsimp only
    rw [if_pos ⟨j0, j1⟩]
    exact ⟨rfl, (hp.2.2 j j0 j1).1.symm⟩
theorem PB_Mq {c i j : Nat} (p : PMq c i j) : PBg c i j := by
  obtain ⟨e, p⟩ := p
  subst e
  unfold PBg Scr
  omega
theorem PB_Qr {c i j : Nat} (p : PQr c i j) : PBg c i j := by
  rcases p with p | p | p
  · exact PB_up (by omega)
  · exact PB_up (by omega)
  · exact Or.inl (Or.inr (Or.inr (Or.inr (Or.inl p))))
theorem p_quarter {n : Int} : Pair 114 234 [qi n, qu] [qi n] := by
  intro d B h a K X S hi b0 b1 hK hS
  have hp := hi.2.2.2.1
  obtain ⟨b, bb, hb⟩ := tape_b hp
  obtain ⟨L, hL⟩ : ∃ L, h 9 0 1 0 = L := ⟨_, rfl⟩
  have L9 := hp.2.1
  have e8 := hp.1
  rw [hL] at hb L9 e8
  have no : ¬ (0 ≤ n ∧ n ≤ L) → qT (d + 38) 157 0 [qo 11 0, qi 5, qi (-1)] [] h (fun w1 g2 => qri w1 fun r3 => S (some (qi r3)) g2) := fun nn => by
    refine sX11_answer_0 (hS _ _ s_91 (sX12_quarter_0 (sX12_starts_0 ?_)))
    rw [show (qup (qup (qup h 11 0 17 0 5) 12 0 1 0 0) 12 0 0 0 0) 12 0 8 0 = L by rw [up_j (by omega), up_j (by omega), up_j (by omega)]; exact e8.symm]
    have ks := kS hi hK 5
    exact ⟨fun c => m_no ⟨by omega, ⟨fun c2 => absurd rfl c2, fun _ => okR ks rfl⟩⟩, fun c => ⟨fun c2 => m_no ⟨by omega, ⟨fun c2 => absurd rfl c2, fun _ => okR ks rfl⟩⟩, fun c2 => ⟨fun c3 => absurd ⟨by omega, by omega⟩ nn, fun c3 => m_no ⟨by omega, ⟨fun c2 => absurd rfl c2, fun _ => okR ks rfl⟩⟩⟩⟩⟩
  refine sX11_quarter_0 ?_
  rw [hL]
  refine ⟨fun c => no (by omega), fun n0 => ⟨fun nL => sX9_open_0 ?_, fun c => no (by omega)⟩⟩
  dsimp only [qrv]
  rw [show min n 900 = n by omega]
  obtain ⟨h1, hh1⟩ : ∃ h1, qup (qup (qup (qup (qup h 9 0 2 0 n) 9 0 3 0 0) 9 0 4 0 0) 9 0 12 0 0) 9 0 13 0 (-1) = h1 := ⟨_, rfl⟩
  rw [hh1]
  have n1 : ∀ c i j, ¬ (c = 9 ∧ 2 ≤ j) → h1 c i j = h c i j := fun c i j nn => by rw [← hh1, up_j (by omega), up_j (by omega), up_j (by omega), up_j (by omega), up_j (by omega)]
  have v2 : h1 9 0 2 0 = n := by rw [← hh1, up_j (by omega), up_j (by omega), up_j (by omega), up_j (by omega), up_at]
  have v3 : h1 9 0 3 0 = 0 := by rw [← hh1, up_j (by omega), up_j (by omega), up_j (by omega), up_at]
  have tc : txC h1 b n := ⟨by omega, v2, fun j j0 j1 => by rw [n1 9 0 0 (by omega)]; exact (hb j j0 (by omega)).1, bb, fun w hw => by rw [n1 90 0 0 (by omega)]; exact hi.2.2.2.2.1.1 w hw⟩
  have f1 : fr PBg h h1 := fun c i j nP => n1 c i j (fun e => nP (PB_up (by omega)))
  refine x_readText tc v3 (fun e h2 g fg F => ?_) (fun a' X' Y' h2 g fg Q N => ?_)
  · -- a fault
    dsimp only [qri]
    refine sX11_closeText_0 ⟨fun _ => ⟨fun _ => ⟨fun c => absurd rfl c, fun _ => sX11_answer_0 ?_⟩, fun c => absurd rfl c⟩, fun c => absurd rfl c⟩
    rw [F.1, F.2]
    obtain ⟨g1, hg1⟩ : ∃ g1, qup (qup (qup (qup g 9 0 1 0 0) 11 0 18 0 e.1) 11 0 19 0 e.2) 11 0 17 0 10 = g1 := ⟨_, rfl⟩
    dsimp only [qri]
    rw [hg1]
    have m1 : ∀ c i j, ¬ (c = 9 ∨ (c = 11 ∧ 17 ≤ j) ∨ (c = 7 ∧ i = 1) ∨ c = 8) → g1 c i j = h c i j := fun c i j nn => by rw [← hg1, up_j (by omega), up_j (by omega), up_j (by omega), up_j (by omega), fg c i j (by omega), n1 c i j (by omega)]
    have fA : fr PBg h g1 := by
      rw [← hg1]
      exact fr_trans f1 (fr_trans (fr_mono fg (fun c i j p => PB_Qr p)) (fr_trans (fr_up (PB_up (by decide))) (fr_trans (fr_up (PB_up (by decide))) (fr_trans (fr_up (PB_up (by decide))) (fr_up (PB_up (by decide)))))))
    refine hS _ _ (fr_91B fA) (m_quarter (d := d + 29) (L := L) (b := b) (by omega) nL L9.2 (by rw [m1 12 0 8 (by omega)]; exact e8.symm) (fun j j0 j1 => by rw [m1 12 0 7 (by omega)]; exact (hb j j0 (by omega)).2) bb (fun e' h3 g2 f2 t10 t11 t8 t0 tc2 tn2 => ?_) (fun a2 X2 Y2 h3 => by rw [h2] at h3; cases h3))
    rw [h2] at h3
    have ee : e = e' := by cases h3; rfl
    subst ee
    have fB := fr_trans fA (fr_mono f2 (fun c i j p => PB_Mq p))
    refine okR (hK g2 a (Inv_g hi fB ?_ ?_ (pRel_0 ?_ t8) ?_ ?_ ?_) (fr_91B fB)) rfl
    · exact qRel_e2 (qRel_B hi.1 (by omega)) (by omega) (by funext j; rw [f2 7 0 j (by omega), m1 7 0 j (by omega)]) (by funext j; rw [f2 1 0 j (by omega), m1 1 0 j (by omega)]) (fun y y0 y1 => by rw [tc2 y (by omega) (by omega), m1 12 0 20 (by omega)]) (fun y y0 y1 => by rw [tn2 y (by omega) (by omega), m1 12 0 22 (by omega)])
    · exact mRel_e2 (mRel_B hi.2.1 (by omega)) (fun i i2 => by funext j; rw [f2 7 i j (by omega), m1 7 i j (by omega)]) (fun i i2 => by funext j; rw [f2 1 i j (by omega), m1 1 i j (by omega)]) (fun y y0 y1 => by rw [tc2 y (by omega) (by omega), m1 12 0 20 (by omega)]) (fun y y0 y1 => by rw [tn2 y (by omega) (by omega), m1 12 0 22 (by omega)]) (by rw [f2 11 0 16 (by omega), m1 11 0 16 (by omega)]) (by rw [f2 12 0 23 (by omega), m1 12 0 23 (by omega)])
    · rw [f2 9 0 1 (by omega), ← hg1, up_j (by omega), up_j (by omega), up_j (by omega), up_at]
    · rw [f2 11 0 17 (by omega), t0, ← hg1, up_at]
    · rw [f2 11 0 18 (by omega), t10, ← hg1, up_j (by omega), up_j (by omega), up_at]
    · rw [f2 11 0 19 (by omega), t11, ← hg1, up_j (by omega), up_at]
  · -- taken
    dsimp only [qri]
    have qi' := qtAll_i (B := B + 300) (by omega) (by omega) h2
    have wn := wf_n qi'.1
    refine sX11_closeText_0 ⟨fun c => absurd c (by decide), fun _ => ⟨fun c => absurd c (by decide), fun _ => ⟨fun _ => ?_, fun c => absurd (by decide) c⟩⟩⟩
    obtain ⟨g1, hg1⟩ : ∃ g1, qup (qup (qup g 9 0 1 0 0) 11 0 18 0 0) 11 0 19 0 (-1) = g1 := ⟨_, rfl⟩
    rw [hg1]
    have m1 : ∀ c i j, ¬ (c = 9 ∨ (c = 11 ∧ 18 ≤ j) ∨ (c = 7 ∧ i = 1) ∨ c = 8) → g1 c i j = h c i j := fun c i j nn => by rw [← hg1, up_j (by omega), up_j (by omega), up_j (by omega), fg c i j (by omega), n1 c i j (by omega)]
    have m17 : ∀ j, g1 7 1 j = g 7 1 j := fun j => by rw [← hg1, up_j (by omega), up_j (by omega), up_j (by omega)]
    refine x_takeOver (by decide) (qx_fr Q (by funext j; exact m17 j)) (fun g2 Q2 f2 k2 => sX1_clear_0 ⟨by omega, ?_⟩)
    dsimp only [qrv]
    have Q3 : qQX (qup (qup (qup g2 1 0 5 0 0) 1 0 6 0 0) 1 0 7 0 0) 0 a' := qx_fr Q2 (by funext j; rw [up_j (by omega), up_j (by omega), up_j (by omega)])
    rw [qx_n Q3]
    refine sX11_answer_0 ?_
    dsimp only [qri]
    obtain ⟨g3, hg3⟩ : ∃ g3, qup (qup (qup (qup g2 1 0 5 0 0) 1 0 6 0 0) 1 0 7 0 0) 11 0 17 0 0 = g3 := ⟨_, rfl⟩
    rw [hg3]
    have m3 : ∀ c i j, ¬ (c = 9 ∨ (c = 11 ∧ 17 ≤ j) ∨ (c = 7 ∧ i ≤ 1) ∨ c = 8 ∨ (c = 1 ∧ i = 0)) → g3 c i j = h c i j := fun c i j nn => by rw [← hg3, up_j (by omega), up_j (by omega), up_j (by omega), up_j (by omega), f2 c i (by omega), m1 c i j (by omega)]
    have fA : fr PBg h g3 := by
      intro c i j nP
      refine m3 c i j (fun e => nP ?_)
      rcases e with e | e | e | e | e
      · exact PB_up (by omega)
      · exact PB_up (by omega)
      · exact PB_up (by omega)
      · exact Or.inl (Or.inr (Or.inr (Or.inr (Or.inl e))))
      · exact PB_up (by omega)
    have t9 : g3 9 0 1 0 = 0 := by rw [← hg3, up_j (by omega), up_j (by omega), up_j (by omega), up_j (by omega), f2 9 0 (by omega), ← hg1, up_j (by omega), up_j (by omega), up_at]
    have t18 : g3 11 0 18 0 = 0 := by rw [← hg3, up_j (by omega), up_j (by omega), up_j (by omega), up_j (by omega), f2 11 0 (by omega), ← hg1, up_j (by omega), up_at]
    have t19 : g3 11 0 19 0 = -1 := by rw [← hg3, up_j (by omega), up_j (by omega), up_j (by omega), up_j (by omega), f2 11 0 (by omega), ← hg1, up_at]
    have t17 : g3 11 0 17 0 = 0 := by rw [← hg3, up_at]
    have g37 : ∀ j, g3 7 0 j = g2 7 0 j := fun j => by rw [← hg3, up_j (by omega), up_j (by omega), up_j (by omega), up_j (by omega)]
    have g35 : g3 1 0 5 0 = 0 := by rw [← hg3, up_j (by omega), up_j (by omega), up_j (by omega), up_at]
    have g36 : g3 1 0 6 0 = 0 := by rw [← hg3, up_j (by omega), up_j (by omega), up_at]
    refine hS _ _ (fr_91B fA) (m_quarter (d := d + 29) (L := L) (b := b) (by omega) nL L9.2 (by rw [m3 12 0 8 (by omega)]; exact e8.symm) (fun j j0 j1 => by rw [m3 12 0 7 (by omega)]; exact (hb j j0 (by omega)).2) bb (fun e' h3 => by rw [h2] at h3; cases h3) (fun a2 X2 Y2 h3 g4 f4 t10 t11 t8 t0 M4 c100 c101 tc2 tY tn2 => ?_))
    rw [h2] at h3
    have ee : a' = a2 ∧ Y' = Y2 := by cases h3; exact ⟨rfl, rfl⟩
    obtain ⟨ee1, ee2⟩ := ee
    subst ee1
    subst ee2
    have fB := fr_trans fA (fr_mono f4 (fun c i j p => PB_Mq p))
    refine okR (hK g4 a' (Inv_g hi fB ⟨?_, M4, qi'.1, fun j j0 j1 => ?_, ?_, ?_, ?_, ?_⟩ ?_ (pRel_0 ?_ t8) ?_ ?_ ?_) (fr_91B fB)) rfl
    · exact qx_fr Q2 (by funext j; rw [f4 7 0 j (by omega), g37])
    · rw [f4 7 0 0 (by omega), g37, k2 _ (by omega), m17, N j j0 j1, show 7 * 0 + j = j by omega, tY j j0 j1]
      exact qi'.2 j j0 j1
    · rw [f4 1 0 5 (by omega), g35]; exact c100.symm
    · rw [f4 1 0 6 (by omega), g36]; exact c101.symm
    · intro c
      rw [f4 1 0 5 (by omega), g35] at c
      exact absurd rfl c
    · rw [f4 1 0 5 (by omega), g35]; exact Or.inl rfl
    · exact mRel_e2 (mRel_B hi.2.1 (by omega)) (fun i i2 => by funext j; rw [f4 7 i j (by omega), m3 7 i j (by omega)]) (fun i i2 => by funext j; rw [f4 1 i j (by omega), m3 1 i j (by omega)]) (fun y y0 y1 => by rw [tc2 y (by omega) (by omega), m3 12 0 20 (by omega)]) (fun y y0 y1 => by rw [tn2 y (by omega) (by omega), m3 12 0 22 (by omega)]) (by rw [f4 11 0 16 (by omega), m3 11 0 16 (by omega)]) (by rw [f4 12 0 23 (by omega), m3 12 0 23 (by omega)])
    · rw [f4 9 0 1 (by omega)]; exact t9
    · rw [f4 11 0 17 (by omega), t0]; exact t17
    · rw [f4 11 0 18 (by omega), t10]; exact t18
    · rw [f4 11 0 19 (by omega), t11]; exact t19
