/-! calls that change the QUARTER -/
def PJc (c i j : Nat) : Prop := c ≠ 12 ∧ PJ c i j
def m0 (h : qH) : qH := qup (qup h 12 0 1 0 0) 12 0 0 0 0
theorem m0_M {h : qH} {a : qB} (hM : qM h 0 a) : qM (m0 h) 0 a := m_fr hM (by unfold m0; rw [up_j (by omega), up_j (by omega)])
theorem PJc_s {h : qH} {v : Int} : fr PJc h (qup h 11 0 17 0 v) := fr_up ⟨by omega, Or.inr (Or.inl ⟨rfl, rfl⟩)⟩
theorem PJc_7 {h h' : qH} (hf : qf7 0 h h') : fr PJc h h' := fr_f7 hf (fun j j1 => ⟨by omega, Or.inr (Or.inr (Or.inr ⟨rfl, rfl, j1⟩))⟩)
theorem PJc_91 {h h' : qH} (hf : fr PJc h h') : h' 91 = h 91 := fr_91J (fr_mono hf (fun _ _ _ p => p.2))
theorem PJc_M {h h' : qH} {a : qB} (hf : fr PJc h h') (hM : qM h 0 a) : qM h' 0 a := m_fr hM (hf 12 0 20 (fun p => p.1 rfl))
section Pc
variable {B : Int} {h g1 h2 : qH} {a a' : qB}
theorem iChange (hi : Inv B h a) (f1 : fr PJc h g1) (s1 : g1 11 0 17 0 = 0) (hQ : qQX g1 0 a') (hM : qM h2 0 a') (f2 : qfM 0 (m0 g1) h2) (hW : qwf (B + 300) a') (h0 : a' 0 = a 0) (h1 : a 1 ≤ a' 1) : Inv (B + 300) h2 a' ∧ h2 91 = h 91 := by
  have f3 : fr PJ h h2 := by
    have fm : fr PJ g1 (m0 g1) := fr_trans (h' := qup g1 12 0 1 0 0) (fr_up (by unfold PJ Scr; omega)) (fr_up (by unfold PJ Scr; omega))
    refine fr_trans (fr_mono f1 (fun _ _ _ p => p.2)) (fr_trans fm (fun c i j n => ?_))
    · unfold PJ Scr at n
      by_cases c12 : c = 12
      · subst c12
        have i0 : i = 0 := by omega
        subst i0
        exact f2.2.1 j (by omega)
      · exact congrFun (f2.1 c i c12) j
  refine ⟨Inv_q hi f3 (fun y y0 y1 => ?_) (qx_fr hQ ?_) hM hW (by omega) h0 h1 ?_, fr_91J f3⟩
  · rw [f2.2.2 y (by omega) (by omega)]
    unfold m0
    rw [up_j (by omega), up_j (by omega), f1 12 0 20 (fun p => p.1 rfl)]
  · rw [f2.1 7 0 (by omega)]
    unfold m0
    funext j
    rw [up_j (by omega), up_j (by omega)]
  · rw [f2.2.1 0 (by omega), f2.1 11 0 (by omega)]
    unfold m0
    rw [up_j (by omega), up_j (by omega), up_at, s1]
theorem iStay (hi : Inv B h a) (f1 : fr PN0 h g1) (n12 : g1 12 = h 12) {s : Int} (s1 : g1 11 0 17 0 = s) : Inv (B + 300) (qup (m0 g1) 12 0 0 0 s) a ∧ (qup (m0 g1) 12 0 0 0 s) 91 = h 91 := by
  have f2 : fr PN0 h (qup (m0 g1) 12 0 0 0 s) := fr_trans f1 (fr_trans (fr_trans PN_1 PN_0) PN_0)
  refine ⟨Inv_n hi f2 (by omega) ?_, fr_91 f2⟩
  unfold m0
  rw [up_j (by omega), up_j (by omega), up_j (by omega), up_at, s1]
theorem x_two {d : Nat} {R : Option qV → qH → Prop} {x y : Int} (hQ : qQX h 0 a) (h0 : (0 ≤ x ∧ x < a 0) → (0 ≤ y ∧ y < a 0) → R (some (qi 0)) h) (h2 : ¬ ((0 ≤ x ∧ x < a 0) ∧ (0 ≤ y ∧ y < a 0)) → R (some (qi 2)) h) : qT (d + 2) 163 0 [qo 11 0, qi x, qi y] [] h R :=
  sX11_statusOfTwo_0 (x_hasPerson hQ (fun x0 x1 => ⟨fun c => absurd c (by decide), fun _ => x_hasPerson hQ (fun y0 y1 => ⟨fun c => absurd c (by decide), fun _ => h0 ⟨x0, x1⟩ ⟨y0, y1⟩⟩) (fun ny => ⟨fun _ => h2 (fun e => ny e.2), fun c => absurd rfl c⟩)⟩) (fun nx => ⟨fun _ => h2 (fun e => nx e.1), fun c => absurd rfl c⟩))
theorem x_couple {d : Nat} {R : Option qV → qH → Prop} {x y : Int} (hQ : qQX h 0 a) (h0 : (0 ≤ x ∧ x < a 0) → (0 ≤ y ∧ y < a 0) → x ≠ y → R (some (qi 0)) h) (h2 : ¬ ((0 ≤ x ∧ x < a 0) ∧ (0 ≤ y ∧ y < a 0)) → R (some (qi 2)) h) (h5 : (0 ≤ x ∧ x < a 0) → (0 ≤ y ∧ y < a 0) → x = y → R (some (qi 5)) h) : qT (d + 3) 164 0 [qo 11 0, qi x, qi y, qu] [] h R :=
  sX11_statusOfCouple_0 (x_two hQ (fun hx hy => ⟨fun c => absurd rfl c, fun _ => ⟨fun ne => h0 hx hy ne, fun e => h5 hx hy (Decidable.not_not.mp e)⟩⟩) (fun n => ⟨fun _ => h2 n, fun c => absurd (by decide) c⟩))
theorem x_agree0 {d : Nat} {R : Option qV → qH → Prop} (h0 : R (some (qi 1)) (qup h 11 0 17 0 0)) : qT (d + 1) 158 0 [qo 11 0, qi 0] [] h R := sX11_agree_0 ⟨fun c => absurd rfl c, fun _ => ⟨by omega, h0⟩⟩
theorem x_agreeN {d : Nat} {R : Option qV → qH → Prop} {s : Int} (hs : s ≠ 0) (h0 : R (some (qi 0)) (qup h 11 0 17 0 s)) : qT (d + 1) 158 0 [qo 11 0, qi s] [] h R := sX11_agree_0 ⟨fun _ => ⟨by omega, h0⟩, fun c => absurd hs c⟩
end Pc
theorem p_likes {x y : Int} : Pair 120 254 [qi x, qi y] [qi x, qi y] := by
  intro d B h a K X S hi b0 b1 hK hS
  have hQ := hi.1.1
  have hM := fun s => hh_M (s := s) (iM0 hi)
  have hW := hi.1.2.2.1
  have k0 : K (hh h 0) := hK _ a (hh_0 hi) (fr_91 hh_fr)
  refine sX11_likes_0 (x_two hQ (fun hx hy => x_agree0 ⟨fun _ => ?_, fun c => absurd (by decide) c⟩) (fun nn => x_agreeN (by decide) ⟨fun c => absurd rfl c, fun _ => ?_⟩))
  · exact x_liking (qQ_s hQ) hW hx.1 hx.2 hy.1 hy.2 (hS _ _ s_91 (sX12_likes_0 (m_isPersonAt (hM 0) hW (fun _ _ => ⟨fun c => absurd c (by decide), fun _ => m_isPersonAt (hM 0) hW (fun _ _ => ⟨fun c => absurd c (by decide), fun _ => m_likeOf (hM 0) hW hx.1 hx.2 hy.1 hy.2 (okR k0 rfl)⟩) (fun c => absurd hy c)⟩) (fun c => absurd hx c))))
  · exact hS _ _ s_91 (sX12_likes_0 (m_isPersonAt (hM 2) hW (fun x0 x1 => ⟨fun c => absurd c (by decide), fun _ => m_isPersonAt (hM 2) hW (fun y0 y1 => absurd ⟨⟨x0, x1⟩, ⟨y0, y1⟩⟩ nn) (fun _ => ⟨fun _ => m_refuse (okR (kS hi hK 2) rfl), fun c => absurd rfl c⟩)⟩) (fun _ => ⟨fun _ => m_refuse (okR (kS hi hK 2) rfl), fun c => absurd rfl c⟩)))
theorem p_vote {x y : Int} : Pair 147 306 [qi x, qi y] [qi x, qi y] := by
  intro d B h a K X S hi b0 b1 hK hS
  have hQ := hi.1.1
  have hM := fun s => hh_M (s := s) (iM0 hi)
  have hW := hi.1.2.2.1
  have k0 : K (hh h 0) := hK _ a (hh_0 hi) (fr_91 hh_fr)
  refine sX11_vote_0 (x_couple hQ (fun hx hy ne => x_agree0 ⟨fun c => absurd c (by decide), fun _ => ?_⟩) (fun nn => x_agreeN (by decide) ⟨fun _ => ?_, fun c => absurd rfl c⟩) (fun hx hy e => x_agreeN (by decide) ⟨fun _ => ?_, fun c => absurd rfl c⟩))
  · exact x_votes (qQ_s hQ) hW hx.1 hx.2 hy.1 hy.2 (hS _ _ s_91 (sX12_vote_0 (m_isPersonAt (hM 0) hW (fun _ _ => ⟨fun c => absurd c (by decide), fun _ => m_isPersonAt (hM 0) hW (fun _ _ => ⟨fun _ => ⟨fun _ => m_votes (hM 0) hW hx.1 hx.2 hy.1 hy.2 (okR k0 rfl), fun c => absurd ne c⟩, fun c => absurd (by decide) c⟩) (fun c => absurd hy c)⟩) (fun c => absurd hx c))))
  · exact hS _ _ s_91 (sX12_vote_0 (m_isPersonAt (hM 2) hW (fun x0 x1 => ⟨fun c => absurd c (by decide), fun _ => m_isPersonAt (hM 2) hW (fun y0 y1 => absurd ⟨⟨x0, x1⟩, ⟨y0, y1⟩⟩ nn) (fun _ => ⟨fun c => absurd rfl c, fun _ => m_refuse (okR (kS hi hK 2) rfl)⟩)⟩) (fun _ => ⟨fun _ => m_refuse (okR (kS hi hK 2) rfl), fun c => absurd rfl c⟩)))
  · exact hS _ _ s_91 (sX12_vote_0 (m_isPersonAt (hM 5) hW (fun x0 x1 => ⟨fun c => absurd c (by decide), fun _ => m_isPersonAt (hM 5) hW (fun y0 y1 => ⟨fun _ => ⟨fun c => absurd e c, fun _ => m_refuse (okR (kS hi hK 5) rfl)⟩, fun c => absurd (by decide) c⟩) (fun c => absurd hy c)⟩) (fun c => absurd hx c)))
theorem p_undo : Pair 134 274 [] [] := by
  intro d B h a K X S hi b0 b1 hK hS
  have k0 : K (hh h 0) := hK _ a (hh_0 hi) (fr_91 hh_fr)
  have hW := hi.1.2.2.1
  have w0 := wf_n hW
  have rb' : ∀ k : Int, 0 ≤ k → k ≤ a 0 → 0 ≤ aRings a k ∧ aRings a k ≤ k := by
    intro k k0 _
    revert k
    refine fun k k0 => ?_
    revert k
    intro k k0 hk
    have : ∀ k : Int, 0 ≤ k → 0 ≤ aRings a k ∧ aRings a k ≤ k := by
      apply q_ind
      · rw [aRings_0]; omega
      · intro k hk ih
        by_cases c : aMin a k
        · rw [aRings_t hk c]; omega
        · rw [aRings_f hk c]; omega
    exact this k k0
  have r0 := rb' (a 0) w0.1 (by omega)
  refine sX11_undo_0 (x_countRings hi.1.1 hW ?_)
  dsimp only [qri]
  rw [qx_n hi.1.1]
  refine ⟨qR_of (by omega) (by omega), sX11_answer_0 (hS _ _ s_91 (sX12_undo_0 ⟨by omega, m_ringMany (hh_M (s := 0) (iM0 hi)) hW ⟨?_, okR k0 ?_⟩⟩))⟩
  · rw [up_j (by omega), m_0 (iM0 hi) (by omega) (by omega)]; exact qR_of (by omega) (by omega)
  · rw [up_j (by omega), m_0 (iM0 hi) (by omega) (by omega)]
theorem p_swap {x y : Int} : Pair 127 265 [qi x, qi y] [qi x, qi y] := by
  intro d B h a K X S hi b0 b1 hK hS
  have hQ := hi.1.1
  have hM := fun s => hh_M (s := s) (iM0 hi)
  have hW := hi.1.2.2.1
  have w0 := wf_n hW
  refine sX11_swap_0 (x_couple hQ (fun hx hy ne => x_agree0 ⟨fun _ => ?_, fun c => absurd (by decide) c⟩) (fun nn => x_agreeN (by decide) ⟨fun c => absurd rfl c, fun _ => ?_⟩) (fun hx hy e => x_agreeN (by decide) ⟨fun c => absurd rfl c, fun _ => ?_⟩))
  · refine x_exchange (qQ_s hQ) hW hx.1 hx.2 hy.1 hy.2 (fun g1 hQ1 f1 => ?_)
    have hW1 : qwf B (aSwap a x y) := wf_swap hW hx.1 hx.2 hy.1 hy.2
    have fc : fr PJc h g1 := fr_trans PJc_s (PJc_7 f1)
    have hM1 : qM (m0 g1) 0 a := m0_M (PJc_M fc (iM0 hi))
    have e0 : aSwap a x y 0 = a 0 := aSwap_ne (by omega) (by omega)
    have e1 : aSwap a x y 1 = a 1 := aSwap_ne (by omega) (by omega)
    obtain ⟨S1, hS1, hS2⟩ := aHome_nat (a := aSwap a x y) (n := aSwap a x y 0) (by omega) (by omega)
    refine x_homeSet hQ1 hW1 ?_
    dsimp only [qri]
    rw [hS1]
    refine j_bitCount hS2 (hS _ _ (PJc_91 fc) (sX12_swap_0 (m_isPersonAt hM1 hW (fun _ _ => ⟨fun c => absurd c (by decide), fun _ => m_isPersonAt hM1 hW (fun _ _ => ⟨fun _ => ⟨fun _ => m_swaps hM1 (by omega) (by omega) hx.1 (by omega) hy.1 (by omega) (fun h2 hM2 f2 => m_home hM2 hW1 ?_), fun c => absurd ne c⟩, fun c => absurd (by decide) c⟩) (fun c => absurd hy c)⟩) (fun c => absurd hx c))))
    dsimp only [qri]
    rw [hS1]
    refine m_sizeOf (by omega) (okR ?_ rfl)
    have ic := iChange hi fc (by rw [f1.1 11 0 (by omega)]; exact up_at) hQ1 hM2 f2 (wf_mono hW1 (by omega)) e0 (by omega)
    exact hK _ _ ic.1 ic.2
  · exact hS _ _ s_91 (sX12_swap_0 (m_isPersonAt (hM 2) hW (fun x0 x1 => ⟨fun c => absurd c (by decide), fun _ => m_isPersonAt (hM 2) hW (fun y0 y1 => absurd ⟨⟨x0, x1⟩, ⟨y0, y1⟩⟩ nn) (fun _ => ⟨fun c => absurd rfl c, fun _ => m_refuse (okR (kS hi hK 2) rfl)⟩)⟩) (fun _ => ⟨fun _ => m_refuse (okR (kS hi hK 2) rfl), fun c => absurd rfl c⟩)))
  · exact hS _ _ s_91 (sX12_swap_0 (m_isPersonAt (hM 5) hW (fun x0 x1 => ⟨fun c => absurd c (by decide), fun _ => m_isPersonAt (hM 5) hW (fun y0 y1 => ⟨fun _ => ⟨fun c => absurd e c, fun _ => m_refuse (okR (kS hi hK 5) rfl)⟩, fun c => absurd (by decide) c⟩) (fun c => absurd hy c)⟩) (fun c => absurd hx c)))
theorem p_quarrel {x : Int} : Pair 122 258 [qi x] [qi x] := by
  intro d B h a K X S hi b0 b1 hK hS
  have hQ := hi.1.1
  have hM := fun s => hh_M (s := s) (iM0 hi)
  have hW := hi.1.2.2.1
  have w1 := wf_m hW
  refine sX11_quarrel_0 (x_hasStair hQ (fun x0 x1 => ⟨fun _ => x_tryQuarrel hQ hW (by omega) x0 x1 (fun may g1 hQ1 f1 => ⟨fun _ => ⟨by omega, ?_⟩, fun c => absurd (by decide) c⟩) (fun may => ⟨fun c => absurd rfl c, fun _ => ?_⟩), fun c => absurd (by decide) c⟩) (fun nx => ⟨fun c => absurd rfl c, fun _ => ?_⟩))
  · have hW1 : qwf (B + 1) (aQuar a x) := wf_quarr hW x0 x1 may
    have fc : fr PJc h (qup g1 11 0 17 0 0) := fr_trans (PJc_7 f1) PJc_s
    have hM1 : qM (m0 (qup g1 11 0 17 0 0)) 0 a := m0_M (PJc_M fc (iM0 hi))
    have e0 : aQuar a x 0 = a 0 := by unfold aQuar; have := wf_st hW x0 x1; rw [aSet_ne (by omega), aSet_ne (by omega), aSwap_ne (by omega) (by omega)]
    have e1 : aQuar a x 1 = a 1 := by unfold aQuar; have := wf_st hW x0 x1; rw [aSet_ne (by omega), aSet_ne (by omega), aSwap_ne (by omega) (by omega)]
    rw [qx_grud hQ1 hW1 x0 (by omega)]
    refine sX11_answer_0 (hS _ _ (PJc_91 fc) (sX12_quarrel_0 (m_isStairAt hM1 hW (fun _ _ => ⟨fun _ => m_quarrels hM1 hW (by omega) x0 x1 (fun _ h2 hM2 f2 => ⟨fun c => absurd c (by decide), fun _ => ⟨qR_of (by omega) (by omega), by omega, ?_⟩⟩) (fun c => absurd may c), fun c => absurd (by decide) c⟩) (fun c => absurd ⟨x0, x1⟩ c))))
    have ic := iChange hi fc up_at (qQ_s hQ1) hM2 f2 (wf_mono hW1 (by omega)) e0 (by omega)
    exact okR (hK _ _ ic.1 ic.2) (m_0 hM2 (by omega) (by omega)).symm
  · exact sX11_answer_0 (hS _ _ s_91 (sX12_quarrel_0 (m_isStairAt (hM 9) hW (fun _ _ => ⟨fun _ => m_quarrels (hM 9) hW (by omega) x0 x1 (fun m _ _ _ => absurd m may) (fun _ => ⟨fun _ => m_refuse (okR (kS hi hK 9) rfl), fun c => absurd rfl c⟩), fun c => absurd (by decide) c⟩) (fun c => absurd ⟨x0, x1⟩ c))))
  · exact sX11_answer_0 (hS _ _ s_91 (sX12_quarrel_0 (m_isStairAt (hM 2) hW (fun c1 c2 => absurd ⟨c1, c2⟩ nx) (fun _ => ⟨fun c => absurd rfl c, fun _ => m_refuse (okR (kS hi hK 2) rfl)⟩))))
