/-! more calls -/
theorem p_makeUp {x : Int} : Pair 123 260 [qi x] [qi x] := by
  intro d B h a K X S hi b0 b1 hK hS
  have hQ := hi.1.1
  have hM := fun s => hh_M (s := s) (iM0 hi)
  have hW := hi.1.2.2.1
  have w1 := wf_m hW
  refine sX11_makeUp_0 (x_hasStair hQ (fun x0 x1 => ⟨fun _ => x_tryMakeUp hQ hW (by omega) x0 x1 (fun may g1 hQ1 f1 => ⟨fun _ => ⟨by omega, ?_⟩, fun c => absurd (by decide) c⟩) (fun may => ⟨fun c => absurd rfl c, fun _ => ?_⟩), fun c => absurd (by decide) c⟩) (fun nx => ⟨fun c => absurd rfl c, fun _ => ?_⟩))
  · have hW1 : qwf (B + 1) (aMake a x) := wf_maked hW x0 x1 may
    have fc : fr PJc h (qup g1 11 0 17 0 0) := fr_trans (PJc_7 f1) PJc_s
    have hM1 : qM (m0 (qup g1 11 0 17 0 0)) 0 a := m0_M (PJc_M fc (iM0 hi))
    have e0 : aMake a x 0 = a 0 := by unfold aMake; have := wf_st hW x0 x1; rw [aSet_ne (by omega), aSet_ne (by omega), aSwap_ne (by omega) (by omega)]
    have e1 : aMake a x 1 = a 1 := by unfold aMake; have := wf_st hW x0 x1; rw [aSet_ne (by omega), aSet_ne (by omega), aSwap_ne (by omega) (by omega)]
    rw [qx_grud hQ1 hW1 x0 (by omega)]
    refine sX11_answer_0 (hS _ _ (PJc_91 fc) (sX12_makeUp_0 (m_isStairAt hM1 hW (fun _ _ => ⟨fun _ => m_makes hM1 hW (by omega) x0 x1 (fun _ h2 hM2 f2 => ⟨fun c => absurd c (by decide), fun _ => ⟨qR_of (by omega) (by omega), by omega, ?_⟩⟩) (fun c => absurd may c), fun c => absurd (by decide) c⟩) (fun c => absurd ⟨x0, x1⟩ c))))
    have ic := iChange hi fc up_at (qQ_s hQ1) hM2 f2 (wf_mono hW1 (by omega)) e0 (by omega)
    exact okR (hK _ _ ic.1 ic.2) (m_0 hM2 (by omega) (by omega)).symm
  · exact sX11_answer_0 (hS _ _ s_91 (sX12_makeUp_0 (m_isStairAt (hM 9) hW (fun _ _ => ⟨fun _ => m_makes (hM 9) hW (by omega) x0 x1 (fun m _ _ _ => absurd m may) (fun _ => ⟨fun _ => m_refuse (okR (kS hi hK 9) rfl), fun c => absurd rfl c⟩), fun c => absurd (by decide) c⟩) (fun c => absurd ⟨x0, x1⟩ c))))
  · exact sX11_answer_0 (hS _ _ s_91 (sX12_makeUp_0 (m_isStairAt (hM 2) hW (fun c1 c2 => absurd ⟨c1, c2⟩ nx) (fun _ => ⟨fun c => absurd rfl c, fun _ => m_refuse (okR (kS hi hK 2) rfl)⟩))))
theorem f7_up {h : qH} {j k : Nat} {v : Int} (hj : j ≠ 0) : qf7 0 h (qup h 7 0 j k v) := qf7_up hj
theorem p_calm {x t : Int} : Pair 125 263 [qi x, qi t, qu] [qi x, qi t, qu] := by
  intro d B h a K X S hi b0 b1 hK hS
  have hQ := hi.1.1
  have hM := fun s => hh_M (s := s) (iM0 hi)
  have hW := hi.1.2.2.1
  have w0 := wf_n hW
  have bad : ∀ s, (0 ≤ x ∧ x < a 0) → ¬ (0 ≤ t ∧ t ≤ 9) → s = 5 → qT (d + 38) 157 0 [qo 11 0, qi s, qi (-1)] [] h (fun w4 g5 => qri w4 fun r6 => S (some (qi r6)) g5) := fun s hx nt e => by
    subst e
    exact sX11_answer_0 (hS _ _ s_91 (sX12_calm_0 (m_isPersonAt (hM 5) hW (fun _ _ => ⟨fun _ => m_isIn (fun c1 c2 => absurd ⟨c1, c2⟩ nt) (fun _ => ⟨fun c => absurd rfl c, fun _ => m_refuse (okR (kS hi hK 5) rfl)⟩), fun c => absurd (by decide) c⟩) (fun c => absurd hx c))))
  refine sX11_calm_0 (x_hasPerson hQ (fun x0 x1 => ⟨fun _ => ⟨fun c => bad 5 ⟨x0, x1⟩ (by omega) rfl, fun t0 => ⟨fun t9 => ⟨by omega, by omega, ?_⟩, fun c => bad 5 ⟨x0, x1⟩ (by omega) rfl⟩⟩, fun c => absurd (by decide) c⟩) (fun nx => ⟨fun c => absurd rfl c, fun _ => ?_⟩))
  · have al := asl_temp (p := x) x0 (by omega)
    have hQ1 : qQX (qup h 7 0 1 (Int.toNat x) t) 0 (aSet a (7 + x) t) := qx_put' hQ (by omega) al.1 al.2
    have hW1 : qwf B (aSet a (7 + x) t) := wf_set hW (k := 7 + x) (v := t) (by omega) (by omega) (fun _ => by omega) (fun _ => by omega) (fun _ => by omega) (fun _ => by omega) (fun _ => by omega)
    have fc : fr PJc h (qup (qup h 7 0 1 (Int.toNat x) t) 11 0 17 0 0) := fr_trans (PJc_7 (f7_up (by omega))) PJc_s
    have hM1 : qM (m0 (qup (qup h 7 0 1 (Int.toNat x) t) 11 0 17 0 0)) 0 a := m0_M (PJc_M fc (iM0 hi))
    rw [qx_temp hQ hW x0 x1]
    refine sX11_answer_0 (hS _ _ (PJc_91 fc) (sX12_calm_0 (m_isPersonAt hM1 hW (fun _ _ => ⟨fun _ => m_isIn (fun _ _ => ⟨fun _ => ⟨qR_of (by omega) (by omega), by omega, qR_of (by omega) (by omega), by omega, ?_⟩, fun c => absurd (by decide) c⟩) (fun c => absurd ⟨by omega, by omega⟩ c), fun c => absurd (by decide) c⟩) (fun c => absurd ⟨x0, x1⟩ c))))
    have ic := iChange hi fc up_at (qQ_s hQ1) (m_put hM1 (by omega) (k := 7 + x) (y := 7 + x) (v := t) (by omega) (by omega) (by omega)) (qfM_up (by omega) (by omega) (by omega)) (wf_mono hW1 (by omega)) (aSet_ne (by omega)) (by rw [aSet_ne (by omega)]; omega)
    exact okR (hK _ _ ic.1 ic.2) (m_0 hM1 (by omega) (by omega)).symm
  · exact sX11_answer_0 (hS _ _ s_91 (sX12_calm_0 (m_isPersonAt (hM 2) hW (fun c1 c2 => absurd ⟨c1, c2⟩ nx) (fun _ => ⟨fun c => absurd rfl c, fun _ => m_refuse (okR (kS hi hK 2) rfl)⟩))))
theorem p_ringAt {x y : Int} : Pair 132 271 [qi x, qi y, qu, qu] [qi x, qi y, qu, qu] := by
  intro d B h a K X S hi b0 b1 hK hS
  have hQ := hi.1.1
  have hM := fun s => hh_M (s := s) (iM0 hi)
  have hW := hi.1.2.2.1
  have w0 := wf_n hW
  have k0 : K (hh h 0) := hK _ a (hh_0 hi) (fr_91 hh_fr)
  refine sX11_ringAt_0 (x_hasPerson hQ (fun x0 x1 => ⟨fun _ => ⟨fun c => ?_, fun c => ?_⟩, fun c => absurd (by decide) c⟩) (fun nx => ⟨fun c => absurd rfl c, fun _ => ?_⟩))
  · obtain ⟨k, hk, hka⟩ := aRing_ex hW x0 x1
    exact sX11_answer_0 (hS _ _ s_91 (sX12_ringAt_0 (m_isPersonAt (hM 8) hW (fun _ _ => ⟨fun _ => m_ringOf (hM 8) hW x0 x1 (fun k' hk' => ⟨by rw [aRing_uniq hk' hk]; exact qR_of (by omega) (by omega), m_isIn (fun c1 c2 => absurd c1 (by omega)) (fun _ => ⟨fun c => absurd rfl c, fun _ => m_refuse (okR (kS hi hK 8) rfl)⟩)⟩), fun c => absurd (by decide) c⟩) (fun c => absurd ⟨x0, x1⟩ c))))
  · refine x_ringLength hQ hW x0 x1 (fun k hk => ?_)
    obtain ⟨k1, hk1, hka⟩ := aRing_ex hW x0 x1
    have ek := aRing_uniq hk hk1
    subst ek
    refine ⟨fun yk => ?_, fun yk => ?_⟩
    · -- both walk y steps
      have mod : ∀ n : Nat, ∀ j : Int, 0 ≤ j → j + n = y → qT (d + 39) 271 53 [qo 12 0, qi x, qi y, qi (aIt a x j.toNat), qi j] [] (hh h 0) (fun w' g' => qri w' fun r' => (aIt a x y.toNat = r' → K g') ∧ (¬ aIt a x y.toNat = r' → X g')) := by
        intro n
        induction n with
        | zero =>
          intro j j0 jy
          refine sX12_ringAt_53 ⟨fun _ => okR k0 (by rw [show j = y by omega]), fun c => absurd (by omega) c⟩
        | succ n ih =>
          intro j j0 jy
          have it := aIt_in hW x0 x1 j.toNat
          refine sX12_ringAt_53 ⟨fun c => absurd c (by omega), fun _ => ⟨qR_of (by omega) (by omega), by omega, qR_of (by omega) (by omega), ?_⟩⟩
          rw [m_0 (hM 0) (by omega) (by omega)]
          have e : a (14 + aIt a x j.toNat) = aIt a x (j + 1).toNat := by rw [show (j + 1).toNat = j.toNat + 1 by omega]; rfl
          rw [e]
          exact ih (j + 1) (by omega) (by omega)
      have cls : ∀ n : Nat, ∀ j : Int, 0 ≤ j → j + n = y → qT (d + 39) 132 47 [qo 11 0, qi x, qi y, qi (aIt a x j.toNat), qi j] [] h S := by
        intro n
        induction n with
        | zero =>
          intro j j0 jy
          refine sX11_ringAt_47 ⟨fun _ => sX11_answer_0 (hS _ _ s_91 (sX12_ringAt_0 (m_isPersonAt (hM 0) hW (fun _ _ => ⟨fun _ => m_ringOf (hM 0) hW x0 x1 (fun k' hk' => ⟨by rw [aRing_uniq hk' hk]; exact qR_of (by omega) (by omega), by rw [aRing_uniq hk' hk]; exact m_isIn (fun _ _ => ⟨fun _ => (by rw [show j = y by omega]; exact mod y.toNat 0 (by omega) (by omega)), fun c => absurd (by decide) c⟩) (fun c => absurd ⟨by omega, by omega⟩ c)⟩), fun c => absurd (by decide) c⟩) (fun c => absurd ⟨x0, x1⟩ c)))), fun c => absurd (by omega) c⟩
        | succ n ih =>
          intro j j0 jy
          have it := aIt_in hW x0 x1 j.toNat
          refine sX11_ringAt_47 ⟨fun c => absurd c (by omega), fun _ => ⟨by omega, qR_of (by omega) (by omega), ?_⟩⟩
          rw [qx_live hQ hW it.1 it.2]
          have e : a (14 + aIt a x j.toNat) = aIt a x (j + 1).toNat := by rw [show (j + 1).toNat = j.toNat + 1 by omega]; rfl
          rw [e]
          exact ih (j + 1) (by omega) (by omega)
      exact cls y.toNat 0 (by omega) (by omega)
    · exact sX11_answer_0 (hS _ _ s_91 (sX12_ringAt_0 (m_isPersonAt (hM 8) hW (fun _ _ => ⟨fun _ => m_ringOf (hM 8) hW x0 x1 (fun k' hk' => ⟨by rw [aRing_uniq hk' hk]; exact qR_of (by omega) (by omega), by rw [aRing_uniq hk' hk]; exact m_isIn (fun c1 c2 => absurd c2 (by omega)) (fun _ => ⟨fun c => absurd rfl c, fun _ => m_refuse (okR (kS hi hK 8) rfl)⟩)⟩), fun c => absurd (by decide) c⟩) (fun c => absurd ⟨x0, x1⟩ c))))
  · exact sX11_answer_0 (hS _ _ s_91 (sX12_ringAt_0 (m_isPersonAt (hM 2) hW (fun c1 c2 => absurd ⟨c1, c2⟩ nx) (fun _ => ⟨fun c => absurd rfl c, fun _ => m_refuse (okR (kS hi hK 2) rfl)⟩))))
theorem p_person {x y : Int} : Pair 118 249 [qi x, qi y] [qi x, qi y] := by
  intro d B h a K X S hi b0 b1 hK hS
  have hQ := hi.1.1
  have hM := fun s => hh_M (s := s) (iM0 hi)
  have hW := hi.1.2.2.1
  have w0 := wf_n hW
  have k0 : K (hh h 0) := hK _ a (hh_0 hi) (fr_91 hh_fr)
  have go : ∀ r, (0 ≤ x ∧ x < a 0) → (0 ≤ y ∧ y ≤ 4) → ((y = 0 → r = a (7 + x)) ∧ (y = 1 → r = a (14 + x)) ∧ (y = 2 → qfst (fun z => a (14 + z) = x) (a 0) r) ∧ (y = 3 → r = aLike a x (a (14 + x))) ∧ (y = 4 → r = aStairs a x (a 1))) → S (some (qi r)) (qup h 11 0 17 0 0) := by
    intro r hx hy hr
    refine hS _ _ s_91 (sX12_person_0 (m_isPersonAt (hM 0) hW (fun _ _ => ⟨fun _ => m_isIn (fun _ _ => ⟨fun _ => ⟨fun n0 => ⟨fun n1 => ⟨fun n2 => ⟨fun n3 => ?_, fun e => ?_⟩, fun e => ?_⟩, fun e => ?_⟩, fun e => ?_⟩, fun c => absurd (by decide) c⟩) (fun c => absurd hy c), fun c => absurd (by decide) c⟩) (fun c => absurd hx c)))
    · exact m_stairsOf (hM 0) hW (okR k0 (hr.2.2.2.2 (by omega)))
    · exact m_likeNow (hM 0) hW hx.1 hx.2 (okR k0 (hr.2.2.2.1 (by omega)))
    · exact m_whoIn (hM 0) hW (fun r' hr' => okR k0 (qfst_uniq (hr.2.2.1 (by omega)) hr'))
    · exact ⟨qR_of (by omega) (by omega), by omega, okR k0 (by rw [hr.2.1 (by omega)]; exact (m_0 (hM 0) (by omega) (by omega)).symm)⟩
    · exact ⟨qR_of (by omega) (by omega), by omega, okR k0 (by rw [hr.1 (by omega)]; exact (m_0 (hM 0) (by omega) (by omega)).symm)⟩
  refine sX11_person_0 (x_hasPerson hQ (fun x0 x1 => ⟨fun _ => ⟨fun e => ⟨by omega, ?_⟩, fun n0 => ⟨fun e => ⟨by omega, ?_⟩, fun n1 => ⟨fun e => ?_, fun n2 => ⟨fun e => ⟨by omega, ?_⟩, fun n3 => ⟨fun e => ?_, fun n4 => ?_⟩⟩⟩⟩⟩, fun c => absurd (by decide) c⟩) (fun nx => ⟨fun c => absurd rfl c, fun _ => ?_⟩))
  · rw [qx_temp hQ hW x0 x1]
    exact go _ ⟨x0, x1⟩ (by omega) ⟨fun _ => rfl, fun c => by omega, fun c => by omega, fun c => by omega, fun c => by omega⟩
  · rw [qx_live hQ hW x0 x1]
    exact go _ ⟨x0, x1⟩ (by omega) ⟨fun c => by omega, fun _ => rfl, fun c => by omega, fun c => by omega, fun c => by omega⟩
  · exact x_dweller (qQ_s hQ) hW (fun r hr => go _ ⟨x0, x1⟩ (by omega) ⟨fun c => by omega, fun c => by omega, fun _ => hr, fun c => by omega, fun c => by omega⟩)
  · have wl := wf_live hW x0 x1
    rw [qx_live hQ hW x0 x1]
    exact x_liking (qQ_s hQ) hW x0 x1 wl.1 wl.2 (go _ ⟨x0, x1⟩ (by omega) ⟨fun c => by omega, fun c => by omega, fun c => by omega, fun _ => rfl, fun c => by omega⟩)
  · exact x_stairSet (qQ_s hQ) hW (go _ ⟨x0, x1⟩ (by omega) ⟨fun c => by omega, fun c => by omega, fun c => by omega, fun c => by omega, fun _ => rfl⟩)
  · have ks : K (qup (hh (qup h 11 0 17 0 0) 5) 12 0 0 0 5) := hK _ a (Inv_n hi (fr_trans PN_s (fr_trans hh_fr PN_0)) (by omega) (by unfold hh; rw [up_j (by omega), up_j (by omega), up_j (by omega), up_at, up_at])) (fr_91 (fr_trans PN_s (fr_trans hh_fr PN_0)))
    have hM5 : qM (hh (qup h 11 0 17 0 0) 5) 0 a := hh_M (m_fr (iM0 hi) (up_j (by omega)))
    exact sX11_answer_0 (hS _ _ (fr_91 (fr_trans PN_s PN_s)) (sX12_person_0 (m_isPersonAt hM5 hW (fun _ _ => ⟨fun _ => m_isIn (fun c1 c2 => by omega) (fun _ => ⟨fun c => absurd rfl c, fun _ => m_refuse (okR ks rfl)⟩), fun c => absurd (by decide) c⟩) (fun c => absurd ⟨x0, x1⟩ c))))
  · exact sX11_answer_0 (hS _ _ s_91 (sX12_person_0 (m_isPersonAt (hM 2) hW (fun c1 c2 => absurd ⟨c1, c2⟩ nx) (fun _ => ⟨fun c => absurd rfl c, fun _ => m_refuse (okR (kS hi hK 2) rfl)⟩))))
