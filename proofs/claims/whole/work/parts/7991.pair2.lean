/-! calls that only look -/
theorem m_refuse {d : Nat} {R : Option qV → qH → Prop} {h : qH} {k : Int} (hR : R (some (qi (-1))) (qup h 12 0 0 0 k)) : qT (d + 1) 175 0 [qo 12 0, qi k] [] h R := sX12_refuse_0 hR
theorem m_no {d : Nat} {R : Option qV → qH → Prop} {h : qH} {k : Int} (hR : R (some (qi 0)) (qup h 12 0 0 0 k)) : qT (d + 1) 176 0 [qo 12 0, qi k] [] h R := sX12_no_0 ⟨by omega, hR⟩
theorem p_many {x : Int} : Pair 117 246 [qi x] [qi x] := by
  intro d B h a K X S hi b0 b1 hK hS
  have hQ := hi.1.1
  have hM := hh_M (s := 0) (iM0 hi)
  have hW := hi.1.2.2.1
  have k0 : K (hh h 0) := hK _ a (hh_0 hi) (fr_91 hh_fr)
  have w0 := wf_n hW
  have w1 := wf_m hW
  have small : ∀ r, 0 ≤ x → x < 7 → r = a x → S (some (qi r)) (qup h 11 0 17 0 0) := fun r x0 x7 e => hS _ _ s_91 (sX12_many_0 (m_isIn (fun _ _ => ⟨fun _ => ⟨fun c => absurd c (by omega), fun _ => ⟨by omega, okR k0 (by rw [e]; exact (m_0 hM x0 (by omega)).symm)⟩⟩, fun c => absurd (by decide) c⟩) (fun c => absurd ⟨by omega, by omega⟩ c)))
  have big : ∀ r, 7 ≤ x → x ≤ 9 → ((x = 7 → r = aHome a (a 0)) ∧ (x = 8 → r = aSum a 7 (a 0)) ∧ (x = 9 → r = aSum a 90 (a 1))) → S (some (qi r)) (qup h 11 0 17 0 0) := fun r x7 x9 e => hS _ _ s_91 (sX12_many_0 (m_isIn (fun _ _ => ⟨fun _ => ⟨fun _ => ⟨fun n7 => ⟨fun n8 => ⟨by omega, by
      show qT (d + 38) 245 0 [qo 12 0, qi 90, qi (hh h 0 12 0 20 (Int.toNat 1)), qu, qu] [] (hh h 0) _
      rw [m_0 hM (by omega) (by omega)]
      exact m_sum hM (by omega) w1.1 (by omega) (fun y y0 y1 => by have := wf_st hW y0 y1; omega) (okR k0 (e.2.2 (by omega)))⟩, fun e8 => ⟨by omega, by
      show qT (d + 38) 245 0 [qo 12 0, qi 7, qi (hh h 0 12 0 20 (Int.toNat 0)), qu, qu] [] (hh h 0) _
      rw [m_0 hM (by omega) (by omega)]
      exact m_sum hM (by omega) w0.1 (by omega) (fun y y0 y1 => wf_temp hW y0 y1) (okR k0 (e.2.1 (by omega)))⟩⟩, fun e7 => m_home hM hW (okR k0 (e.1 (by omega)))⟩, fun c => absurd x7 c⟩, fun c => absurd (by decide) c⟩) (fun c => absurd ⟨by omega, by omega⟩ c)))
  refine sX11_many_0 ⟨fun e => small _ (by omega) (by omega) (by rw [e]; exact qx_n hQ), fun n0 => ⟨fun e => small _ (by omega) (by omega) (by rw [e]; exact qx_m hQ), fun n1 => ⟨fun e => small _ (by omega) (by omega) (by rw [e]; exact qx_odds hQ), fun n2 => ⟨fun e => small _ (by omega) (by omega) (by rw [e]; exact qx_cool hQ), fun n3 => ⟨fun e => small _ (by omega) (by omega) (by rw [e]; exact qx_night hQ), fun n4 => ⟨fun e => small _ (by omega) (by omega) (by rw [e]; exact qx_quar hQ), fun n5 => ⟨fun e => small _ (by omega) (by omega) (by rw [e]; exact qx_made hQ), fun n6 => ⟨fun e => ?_, fun n7 => ⟨fun e => ?_, fun n8 => ⟨fun e => ?_, fun n9 => ?_⟩⟩⟩⟩⟩⟩⟩⟩⟩⟩
  · exact x_homeSet (qQ_s hQ) hW (big _ (by omega) (by omega) ⟨fun _ => rfl, fun c => by omega, fun c => by omega⟩)
  · exact x_allTempers (qQ_s hQ) hW (big _ (by omega) (by omega) ⟨fun c => by omega, fun _ => rfl, fun c => by omega⟩)
  · exact x_allGrudges (qQ_s hQ) hW (big _ (by omega) (by omega) ⟨fun c => by omega, fun c => by omega, fun _ => rfl⟩)
  · have ks : K (qup (hh (qup h 11 0 17 0 0) 5) 12 0 0 0 5) := hK _ a (Inv_n hi (fr_trans PN_s (fr_trans hh_fr PN_0)) (by omega) (by unfold hh; rw [up_j (by omega), up_j (by omega), up_j (by omega), up_at, up_at])) (fr_91 (fr_trans PN_s (fr_trans hh_fr PN_0)))
    exact sX11_answer_0 (hS _ _ (fr_91 (fr_trans PN_s PN_s)) (sX12_many_0 (m_isIn (fun c1 c2 => by omega) (fun _ => ⟨fun c => absurd rfl c, fun _ => m_refuse (okR ks rfl)⟩))))
/-- the status 2, 5, .. told by both -/
theorem kS {B : Int} {h : qH} {a : qB} {K : qH → Prop} (hi : Inv B h a) (hK : ∀ g a', Inv (B + 300) g a' → g 91 = h 91 → K g) (s : Int) : K (qup (hh h s) 12 0 0 0 s) := hK _ a (hh_s hi) (fr_91 (fr_trans hh_fr PN_0))
theorem p_ring {x : Int} : Pair 131 270 [qi x] [qi x] := by
  intro d B h a K X S hi b0 b1 hK hS
  have hQ := hi.1.1
  have hM := fun s => hh_M (s := s) (iM0 hi)
  have hW := hi.1.2.2.1
  have k0 : K (hh h 0) := hK _ a (hh_0 hi) (fr_91 hh_fr)
  refine sX11_ring_0 (x_hasPerson hQ (fun x0 x1 => ⟨fun _ => ?_, fun c => absurd (by decide) c⟩) (fun nx => ⟨fun c => absurd rfl c, fun _ => ?_⟩))
  · refine x_ringLength hQ hW x0 x1 (fun k hk => sX11_answer_0 (hS _ _ s_91 (sX12_ring_0 (m_isPersonAt (hM 0) hW (fun _ _ => ⟨fun c => absurd c (by decide), fun _ => m_ringOf (hM 0) hW x0 x1 (fun k' hk' => okR k0 ?_)⟩) (fun c => absurd ⟨x0, x1⟩ c)))))
    rw [aRing_uniq hk hk']
  · exact sX11_answer_0 (hS _ _ s_91 (sX12_ring_0 (m_isPersonAt (hM 2) hW (fun c1 c2 => absurd ⟨c1, c2⟩ nx) (fun _ => ⟨fun _ => m_refuse (okR (kS hi hK 2) rfl), fun c => absurd rfl c⟩))))
theorem p_rings : Pair 133 273 [] [] := by
  intro d B h a K X S hi b0 b1 hK hS
  have k0 : K (hh h 0) := hK _ a (hh_0 hi) (fr_91 hh_fr)
  exact sX11_rings_0 (x_countRings hi.1.1 hi.1.2.2.1 (sX11_answer_0 (hS _ _ s_91 (sX12_rings_0 (m_ringMany (hh_M (s := 0) (iM0 hi)) hi.1.2.2.1 (okR k0 rfl))))))
