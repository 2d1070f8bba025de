/-! more calls: stair, tell, rule, build, night, lived -/
theorem p_stair {x y : Int} : Pair 119 253 [qi x, qi y] [qi x, qi y] := by
  intro d B h a K X S hi b0 b1 hK hS
  have hQ := hi.1.1
  have hM := fun s => hh_M (s := s) (iM0 hi)
  have hW := hi.1.2.2.1
  have w1 := wf_m hW
  have k0 : K (hh h 0) := hK _ a (hh_0 hi) (fr_91 hh_fr)
  have go : ∀ r, (0 ≤ x ∧ x < a 1) → (0 ≤ y ∧ y ≤ 5) → ((y < 3 → r = a (70 + 10 * y + x)) ∧ (y = 3 → r = aHeat a x) ∧ (y = 4 → (aMayQ a x → r = 1) ∧ (¬ aMayQ a x → r = 0)) ∧ (y = 5 → (aMayM a x → r = 1) ∧ (¬ aMayM a x → r = 0))) → S (some (qi r)) (qup h 11 0 17 0 0) := by
    intro r hx hy hr
    refine hS _ _ s_91 (sX12_stair_0 (m_isStairAt (hM 0) hW (fun _ _ => ⟨fun _ => m_isIn (fun _ _ => ⟨fun _ => ⟨fun y3 => ⟨fun n3 => ⟨fun n4 => ?_, fun e => ?_⟩, fun e => ?_⟩, fun e => ?_⟩, fun c => absurd (by decide) c⟩) (fun c => absurd hy c), fun c => absurd (by decide) c⟩) (fun c => absurd hx c)))
    · have h5 := hr.2.2.2 (by omega)
      exact m_canMake (hM 0) hW hx.1 hx.2 (fun m => ⟨fun c => absurd c (by decide), fun _ => okR k0 (h5.1 m)⟩) (fun m => ⟨fun _ => okR k0 (h5.2 m), fun c => absurd rfl c⟩)
    · have h4 := hr.2.2.1 (by omega)
      exact m_canQuarrel (hM 0) hW hx.1 hx.2 (fun m => ⟨fun c => absurd c (by decide), fun _ => okR k0 (h4.1 m)⟩) (fun m => ⟨fun _ => okR k0 (h4.2 m), fun c => absurd rfl c⟩)
    · exact m_heat (hM 0) hW hx.1 hx.2 (okR k0 (hr.2.1 (by omega)))
    · exact ⟨qR_of (by omega) (by omega), qR_of (by omega) (by omega), qR_of (by omega) (by omega), by omega, okR k0 (by rw [hr.1 (by omega)]; exact (m_0 (hM 0) (by omega) (by omega)).symm)⟩
  refine sX11_stair_0 (x_hasStair hQ (fun x0 x1 => ⟨fun _ => ⟨fun e => ⟨by omega, ?_⟩, fun n0 => ⟨fun e => ⟨by omega, ?_⟩, fun n1 => ⟨fun e => ⟨by omega, ?_⟩, fun n2 => ⟨fun e => ?_, fun n3 => ⟨fun e => ?_, fun n4 => ⟨fun e => ?_, fun n5 => ?_⟩⟩⟩⟩⟩⟩, fun c => absurd (by decide) c⟩) (fun nx => ⟨fun c => absurd rfl c, fun _ => ?_⟩))
  · rw [qx_one hQ hW x0 x1]
    exact go _ ⟨x0, x1⟩ (by omega) ⟨fun _ => by rw [e]; congr 1, fun c => by omega, fun c => by omega, fun c => by omega⟩
  · rw [qx_two hQ hW x0 x1]
    exact go _ ⟨x0, x1⟩ (by omega) ⟨fun _ => by rw [e]; congr 1, fun c => by omega, fun c => by omega, fun c => by omega⟩
  · rw [qx_grud hQ hW x0 x1]
    exact go _ ⟨x0, x1⟩ (by omega) ⟨fun _ => by rw [e]; congr 1, fun c => by omega, fun c => by omega, fun c => by omega⟩
  · exact x_heat (qQ_s hQ) hW x0 x1 (go _ ⟨x0, x1⟩ (by omega) ⟨fun c => by omega, fun _ => rfl, fun c => by omega, fun c => by omega⟩)
  · exact x_mayQuarrel (qQ_s hQ) hW x0 x1 (fun m => ⟨fun c => absurd c (by decide), fun _ => go _ ⟨x0, x1⟩ (by omega) ⟨fun c => by omega, fun c => by omega, fun _ => ⟨fun _ => rfl, fun c => absurd m c⟩, fun c => by omega⟩⟩) (fun m => ⟨fun _ => go _ ⟨x0, x1⟩ (by omega) ⟨fun c => by omega, fun c => by omega, fun _ => ⟨fun c => absurd c m, fun _ => rfl⟩, fun c => by omega⟩, fun c => absurd rfl c⟩)
  · exact x_mayMakeUp (qQ_s hQ) hW x0 x1 (fun m => ⟨fun c => absurd c (by decide), fun _ => go _ ⟨x0, x1⟩ (by omega) ⟨fun c => by omega, fun c => by omega, fun c => by omega, fun _ => ⟨fun _ => rfl, fun c => absurd m c⟩⟩⟩) (fun m => ⟨fun _ => go _ ⟨x0, x1⟩ (by omega) ⟨fun c => by omega, fun c => by omega, fun c => by omega, fun _ => ⟨fun c => absurd c m, fun _ => rfl⟩⟩, fun c => absurd rfl c⟩)
  · have ks : K (qup (hh (qup h 11 0 17 0 0) 5) 12 0 0 0 5) := hK _ a (Inv_n hi (fr_trans PN_s (fr_trans hh_fr PN_0)) (by omega) (by unfold hh; rw [up_j (by omega), up_j (by omega), up_j (by omega), up_at, up_at])) (fr_91 (fr_trans PN_s (fr_trans hh_fr PN_0)))
    have hM5 : qM (hh (qup h 11 0 17 0 0) 5) 0 a := hh_M (m_fr (iM0 hi) (up_j (by omega)))
    exact sX11_answer_0 (hS _ _ (fr_91 (fr_trans PN_s PN_s)) (sX12_stair_0 (m_isStairAt hM5 hW (fun _ _ => ⟨fun _ => m_isIn (fun c1 c2 => by omega) (fun _ => ⟨fun c => absurd rfl c, fun _ => m_refuse (okR ks rfl)⟩), fun c => absurd (by decide) c⟩) (fun c => absurd ⟨x0, x1⟩ c))))
  · exact sX11_answer_0 (hS _ _ s_91 (sX12_stair_0 (m_isStairAt (hM 2) hW (fun c1 c2 => absurd ⟨c1, c2⟩ nx) (fun _ => ⟨fun c => absurd rfl c, fun _ => m_refuse (okR (kS hi hK 2) rfl)⟩))))
/-- the status told twice -/
theorem kS2 {B : Int} {h : qH} {a : qB} {K : qH → Prop} (hi : Inv B h a) (hK : ∀ g a', Inv (B + 300) g a' → g 91 = h 91 → K g) (t s : Int) : K (qup (hh (qup h 11 0 17 0 t) s) 12 0 0 0 s) := hK _ a (Inv_n hi (fr_trans PN_s (fr_trans hh_fr PN_0)) (by omega) (by unfold hh; rw [up_j (by omega), up_j (by omega), up_j (by omega), up_at, up_at])) (fr_91 (fr_trans PN_s (fr_trans hh_fr PN_0)))
theorem hh_M2 {B : Int} {h : qH} {a : qB} (hi : Inv B h a) (t s : Int) : qM (hh (qup h 11 0 17 0 t) s) 0 a := hh_M (m_fr (iM0 hi) (up_j (by omega)))
theorem s_912 {h : qH} {t s : Int} : (qup (qup h 11 0 17 0 t) 11 0 17 0 s) 91 = h 91 := fr_91 (fr_trans PN_s PN_s)
theorem p_tell {x y z : Int} : Pair 126 264 [qi x, qi y, qi z, qu] [qi x, qi y, qi z, qu] := by
  intro d B h a K X S hi b0 b1 hK hS
  have hQ := hi.1.1
  have hM := fun s => hh_M (s := s) (iM0 hi)
  have hW := hi.1.2.2.1
  have w0 := wf_n hW
  have bad : (0 ≤ x ∧ x < a 0) → (0 ≤ y ∧ y < a 0) → ¬ (0 ≤ z ∧ z ≤ 9) → qT (d + 38) 157 0 [qo 11 0, qi 5, qi (-1)] [] (qup h 11 0 17 0 0) (fun w4 g5 => qri w4 fun r6 => S (some (qi r6)) g5) := fun hx hy nz =>
    sX11_answer_0 (hS _ _ s_912 (sX12_tell_0 (m_isPersonAt (hh_M2 hi 0 5) hW (fun _ _ => ⟨fun c => absurd c (by decide), fun _ => m_isPersonAt (hh_M2 hi 0 5) hW (fun _ _ => ⟨fun _ => m_isIn (fun c1 c2 => absurd ⟨c1, c2⟩ nz) (fun _ => ⟨fun c => absurd rfl c, fun _ => m_refuse (okR (kS2 hi hK 0 5) rfl)⟩), fun c => absurd (by decide) c⟩) (fun c => absurd hy c)⟩) (fun c => absurd hx c))))
  refine sX11_tell_0 (x_two hQ (fun hx hy => x_agree0 ⟨fun _ => ⟨fun c => bad hx hy (by omega), fun z0 => ⟨fun z9 => ?_, fun c => bad hx hy (by omega)⟩⟩, fun c => absurd (by decide) c⟩) (fun nn => x_agreeN (by decide) ⟨fun c => absurd rfl c, fun _ => ?_⟩))
  · refine x_liking (qQ_s hQ) hW hx.1 hx.2 hy.1 hy.2 (sX7_setLiking_0 ⟨qR_of (by omega) (by omega), qR_of (by omega) (by omega), by omega, ?_⟩)
    have al := asl_like (p := x) (q := y) hx.1 (by omega) hy.1 (by omega)
    have hQ1 : qQX (qup (qup h 11 0 17 0 0) 7 0 3 (Int.toNat (x * 7 + y)) z) 0 (aSet a (21 + 7 * x + y) z) := qx_put' (qQ_s hQ) (by omega) al.1 al.2
    have hW1 : qwf B (aSet a (21 + 7 * x + y) z) := wf_set hW (k := 21 + 7 * x + y) (v := z) (by omega) (by omega) (fun _ => by omega) (fun _ => by omega) (fun _ => by omega) (fun _ => by omega) (fun _ => by omega)
    have fc : fr PJc h (qup (qup h 11 0 17 0 0) 7 0 3 (Int.toNat (x * 7 + y)) z) := fr_trans PJc_s (PJc_7 (f7_up (by omega)))
    have hM1 := m0_M (PJc_M fc (iM0 hi))
    refine hS _ _ (PJc_91 fc) (sX12_tell_0 (m_isPersonAt hM1 hW (fun _ _ => ⟨fun c => absurd c (by decide), fun _ => m_isPersonAt hM1 hW (fun _ _ => ⟨fun _ => m_isIn (fun _ _ => ⟨fun _ => m_likeOf hM1 hW hx.1 hx.2 hy.1 hy.2 ⟨qR_of (by omega) (by omega), qR_of (by omega) (by omega), qR_of (by omega) (by omega), by omega, ?_⟩, fun c => absurd (by decide) c⟩) (fun c => absurd ⟨by omega, by omega⟩ c), fun c => absurd (by decide) c⟩) (fun c => absurd hy c)⟩) (fun c => absurd hx c)))
    have ic := iChange hi fc (by rw [up_j (by omega)]; exact up_at) hQ1 (m_put hM1 (by omega) (k := 21 + 7 * x + y) (y := 21 + 7 * x + y) (v := z) (by omega) (by omega) (by omega)) (qfM_up (by omega) (by omega) (by omega)) (wf_mono hW1 (by omega)) (aSet_ne (by omega)) (by rw [aSet_ne (by omega)]; omega)
    exact okR (hK _ _ ic.1 ic.2) rfl
  · exact hS _ _ s_91 (sX12_tell_0 (m_isPersonAt (hM 2) hW (fun x0 x1 => ⟨fun c => absurd c (by decide), fun _ => m_isPersonAt (hM 2) hW (fun y0 y1 => absurd ⟨⟨x0, x1⟩, ⟨y0, y1⟩⟩ nn) (fun _ => ⟨fun c => absurd rfl c, fun _ => m_refuse (okR (kS hi hK 2) rfl)⟩)⟩) (fun _ => ⟨fun _ => m_refuse (okR (kS hi hK 2) rfl), fun c => absurd rfl c⟩)))
theorem p_rule {x y : Int} : Pair 130 268 [qi x, qi y] [qi x, qi y] := by
  intro d B h a K X S hi b0 b1 hK hS
  have hQ := hi.1.1
  have hM := fun s => hh_M (s := s) (iM0 hi)
  have hW := hi.1.2.2.1
  have no : ¬ ((x = 2 ∧ 0 ≤ y ∧ y ≤ 16) ∨ (x = 3 ∧ 0 ≤ y ∧ y ≤ 30)) → qT (d + 38) 158 0 [qo 11 0, qi 5] [] h (fun w1 g2 => qri w1 fun r3 => (r3 = 0 ∨ r3 = 1) ∧ S (some (qi r3)) g2) := fun nn => x_agreeN (by decide) ⟨by omega, hS _ _ s_91 (sX12_rule_0 ⟨fun e2 => ⟨fun c => absurd e2 c, fun _ => m_isIn (fun c1 c2 => absurd (Or.inl ⟨e2, c1, c2⟩) nn) (fun _ => ⟨fun c => absurd rfl c, fun _ => m_no ⟨by omega, okR (kS hi hK 5) rfl⟩⟩)⟩, fun n2 => ⟨fun n3 => m_no ⟨by omega, okR (kS hi hK 5) rfl⟩, fun e3 => ⟨fun _ => m_isIn (fun c1 c2 => absurd (Or.inr ⟨Decidable.not_not.mp e3, c1, c2⟩) nn) (fun _ => ⟨fun c => absurd rfl c, fun _ => m_no ⟨by omega, okR (kS hi hK 5) rfl⟩⟩), fun c => absurd n2 c⟩⟩⟩)⟩
  have yes : ∀ j : Nat, (x = 2 ∧ 0 ≤ y ∧ y ≤ 16 ∧ j = 9) ∨ (x = 3 ∧ 0 ≤ y ∧ y ≤ 30 ∧ j = 10) → qT (d + 38) 158 0 [qo 11 0, qi 0] [] (qup h 7 0 j 0 y) (fun w1 g2 => qri w1 fun r3 => (r3 = 0 ∨ r3 = 1) ∧ S (some (qi r3)) g2) := by
    intro j hj
    have fc : fr PJc h (qup (qup h 7 0 j 0 y) 11 0 17 0 0) := fr_trans (PJc_7 (f7_up (by omega))) PJc_s
    have hM1 := m0_M (PJc_M fc (iM0 hi))
    have hQ1 : qQX (qup h 7 0 j 0 y) 0 (aSet a x y) := by
      rcases hj with ⟨e, _, _, e2⟩ | ⟨e, _, _, e2⟩ <;> subst e <;> subst e2
      · exact qx_put' hQ (by omega) rfl rfl
      · exact qx_put' hQ (by omega) rfl rfl
    have hW1 : qwf B (aSet a x y) := wf_set hW (k := x) (v := y) (by omega) (by omega) (fun _ => by omega) (fun _ => by omega) (fun _ => by omega) (fun _ => by omega) (fun _ => by omega)
    have ic := iChange hi fc up_at (qQ_s hQ1) (m_put hM1 (by omega) (k := x) (y := x) (v := y) (by omega) (by omega) (by omega)) (qfM_up (by omega) (by omega) (by omega)) (wf_mono hW1 (by omega)) (aSet_ne (by omega)) (by rw [aSet_ne (by omega)]; omega)
    have kk := hK _ _ ic.1 ic.2
    refine x_agree0 ⟨by omega, hS _ _ (PJc_91 fc) (sX12_rule_0 ⟨fun e2 => ⟨fun c => absurd e2 c, fun _ => m_isIn (fun c1 c2 => ⟨fun _ => ⟨by omega, by omega, okR kk rfl⟩, fun c => absurd (by decide) c⟩) (fun c => absurd ⟨by omega, by omega⟩ c)⟩, fun n2 => ⟨fun n3 => by omega, fun e3 => ⟨fun _ => m_isIn (fun c1 c2 => ⟨fun _ => ⟨by omega, by omega, okR kk rfl⟩, fun c => absurd (by decide) c⟩) (fun c => absurd ⟨by omega, by omega⟩ c), fun c => absurd n2 c⟩⟩⟩)⟩
  exact sX11_rule_0 ⟨fun n2 => ⟨fun n3 => no (by omega), fun e3 => ⟨fun c => no (by omega), fun c => ⟨fun c2 => no (by omega), fun c2 => yes 10 (by omega)⟩⟩⟩, fun e2 => ⟨fun c => ⟨fun n3 => no (by omega), fun e3 => ⟨fun c2 => no (by omega), fun c2 => absurd c c2⟩⟩, fun c => ⟨fun c2 => ⟨fun n3 => no (by omega), fun e3 => by omega⟩, fun c2 => yes 9 (by omega)⟩⟩⟩
theorem p_build {x y : Int} : Pair 129 267 [qi x, qi y] [qi x, qi y] := by
  intro d B h a K X S hi b0 b1 hK hS
  have hQ := hi.1.1
  have hM := fun s => hh_M (s := s) (iM0 hi)
  have hW := hi.1.2.2.1
  have w0 := wf_n hW
  have w1 := wf_m hW
  refine sX11_build_0 (x_couple hQ (fun hx hy ne => x_agree0 ⟨fun _ => ?_, fun c => absurd (by decide) c⟩) (fun nn => x_agreeN (by decide) ⟨fun c => absurd rfl c, fun _ => ?_⟩) (fun hx hy e => x_agreeN (by decide) ⟨fun c => absurd rfl c, fun _ => ?_⟩))
  · rw [qx_m (qQ_s (s := 0) hQ)]
    refine ⟨fun c10 => x_hasStairBetween (qQ_s hQ) hW (fun hex => ⟨fun c => absurd c (by decide), fun _ => ?_⟩) (fun hex => ⟨fun _ => ?_, fun c => absurd rfl c⟩), fun c10 => ?_⟩
    · refine sX11_answer_0 (hS _ _ s_912 (sX12_build_0 (m_isPersonAt (hh_M2 hi 0 9) hW (fun _ _ => ⟨fun c => absurd c (by decide), fun _ => m_isPersonAt (hh_M2 hi 0 9) hW (fun _ _ => ⟨fun _ => ⟨fun _ => ⟨by omega, ?_⟩, fun c => absurd ne c⟩, fun c => absurd (by decide) c⟩) (fun c => absurd hy c)⟩) (fun c => absurd hx c))))
      have e1 : (hh (qup h 11 0 17 0 0) 9) 12 0 20 (Int.toNat 1) = a 1 := m_0 (hh_M2 hi 0 9) (by omega) (by omega)
      refine ⟨fun _ => m_stairOf (b := 0) (hh_M2 hi 0 9) (by omega) (by omega) w1.1 w1.2 (fun r hr => ⟨fun c => ?_, fun _ => m_refuse (okR (kS2 hi hK 0 9) rfl)⟩), fun c => absurd (fun e => by have : a 1 = 10 := e1.symm.trans e; omega) c⟩
      obtain ⟨s, s0, s1, s2, s3⟩ := hex
      rcases hr with ⟨q0, _⟩ | ⟨_, q2⟩
      · omega
      · exact absurd (by omega) (q2 s s0 s1)
    · refine x_addStair (qQ_s hQ) hW c10 (fun g1 hQ1 f1 => ?_)
      have hW1 : qwf B (aBuild a x y 0) := wf_build hW c10 hx.1 hx.2 hy.1 hy.2 ne (by omega) (by omega)
      have fc : fr PJc h (qup g1 11 0 17 0 0) := fr_trans PJc_s (fr_trans (PJc_7 f1) PJc_s)
      have hM1 := m0_M (PJc_M fc (iM0 hi))
      have e0 : aBuild a x y 0 0 = a 0 := by unfold aBuild; rw [aSet_ne (by omega), aSet_ne (by omega), aSet_ne (by omega), aSet_ne (by omega)]
      have e1 : aBuild a x y 0 1 = a 1 + 1 := by unfold aBuild; rw [aSet_eq rfl]
      refine sX11_answer_0 (hS _ _ (PJc_91 fc) (sX12_build_0 (m_isPersonAt hM1 hW (fun _ _ => ⟨fun c => absurd c (by decide), fun _ => m_isPersonAt hM1 hW (fun _ _ => ⟨fun _ => ⟨fun _ => ⟨by omega, ?_⟩, fun c => absurd ne c⟩, fun c => absurd (by decide) c⟩) (fun c => absurd hy c)⟩) (fun c => absurd hx c))))
      have ec : (m0 (qup g1 11 0 17 0 0)) 12 0 20 (Int.toNat 1) = a 1 := m_0 hM1 (by omega) (by omega)
      refine ⟨fun _ => m_stairOf (b := 0) hM1 (by omega) (by omega) w1.1 w1.2 (fun r hr => ⟨fun _ => m_builds (b := 0) hM1 (by omega) (by omega) w1.1 c10 (fun h2 hM2 f2 => ⟨by omega, ?_⟩), fun c => ?_⟩), fun c => absurd (fun e => by have : a 1 = 10 := ec.symm.trans e; omega) c⟩
      · have hM2' : qM h2 0 (aBuild a x y 0) := hM2
        rw [m_0 hM2' (by omega) (by omega), e1]
        have ic := iChange hi fc up_at (qQ_s hQ1) hM2' f2 (wf_mono hW1 (by omega)) e0 (by omega)
        exact ⟨qR_of (by omega) (by omega), okR (hK _ _ ic.1 ic.2) (by omega)⟩
      · rcases hr with ⟨q0, q1, q2, _⟩ | ⟨q1, _⟩
        · exact absurd ⟨r, q0, q1, by omega, by omega⟩ hex
        · omega
    · refine sX11_answer_0 (hS _ _ s_912 (sX12_build_0 (m_isPersonAt (hh_M2 hi 0 7) hW (fun _ _ => ⟨fun c => absurd c (by decide), fun _ => m_isPersonAt (hh_M2 hi 0 7) hW (fun _ _ => ⟨fun _ => ⟨fun _ => ⟨by omega, ?_⟩, fun c => absurd ne c⟩, fun c => absurd (by decide) c⟩) (fun c => absurd hy c)⟩) (fun c => absurd hx c))))
      have e1 : (hh (qup h 11 0 17 0 0) 7) 12 0 20 (Int.toNat 1) = a 1 := m_0 (hh_M2 hi 0 7) (by omega) (by omega)
      exact ⟨fun c => absurd (by show _ = (10 : Int); exact e1.trans (by omega)) c, fun _ => m_refuse (okR (kS2 hi hK 0 7) rfl)⟩
  · exact hS _ _ s_91 (sX12_build_0 (m_isPersonAt (hM 2) hW (fun x0 x1 => ⟨fun c => absurd c (by decide), fun _ => m_isPersonAt (hM 2) hW (fun y0 y1 => absurd ⟨⟨x0, x1⟩, ⟨y0, y1⟩⟩ nn) (fun _ => ⟨fun c => absurd rfl c, fun _ => m_refuse (okR (kS hi hK 2) rfl)⟩)⟩) (fun _ => ⟨fun _ => m_refuse (okR (kS hi hK 2) rfl), fun c => absurd rfl c⟩)))
  · exact hS _ _ s_91 (sX12_build_0 (m_isPersonAt (hM 5) hW (fun x0 x1 => ⟨fun c => absurd c (by decide), fun _ => m_isPersonAt (hM 5) hW (fun y0 y1 => ⟨fun _ => ⟨fun c => absurd e c, fun _ => m_refuse (okR (kS hi hK 5) rfl)⟩, fun c => absurd (by decide) c⟩) (fun c => absurd hy c)⟩) (fun c => absurd hx c)))
