/-! the ways -/
theorem p_ways : Pair 139 290 [] [qu] := by
  intro d B h a K X S hi b0 b1 hK hS
  have hQ := hi.1.1
  have hW := hi.1.2.2.1
  have w0 := wf_n hW
  obtain ⟨f, hf⟩ := wF_ex hW
  have hM := hh_M (s := 0) (iM0 hi)
  refine sX11_ways_0 (x_countWays hQ hW hf (sX11_answer_0 (hS _ _ s_91 (sX12_ways_0 ?_))))
  refine q_up (n := a 0) (C := fun x => x ≤ a 0 → ∀ g, fr (fun c i j => c = 12 ∧ i = 0 ∧ j = 29) (hh h 0) g → (∀ p, 0 ≤ p → p < x → g 12 0 29 (Int.toNat p) = a (14 + p)) → qT (d + 39) 290 12 [qo 12 0, qi x] [] g (fun w' g' => qri w' fun r' => (((wY f (a 0).toNat (a 0).toNat : Nat) : Int) = r' → K g') ∧ (¬ ((wY f (a 0).toNat (a 0).toNat : Nat) : Int) = r' → X g'))) ?_ 0 (by omega) w0.1 (hh h 0) fr_rfl (fun p p0 p1 => by omega)
  intro x x0 ih xn g fg gg
  have hMg : qM g 0 a := m_fr hM (fg 12 0 20 (by omega))
  refine sX12_ways_12 ?_
  rw [m_0 hMg (by omega) (by omega)]
  refine ⟨by omega, fun c => ?_, fun c => ⟨qR_of (by omega) (by omega), by omega, by omega, qR_of (by omega) (by omega), ih (by omega) (by omega) _ (fr_trans fg (fr_up ⟨rfl, rfl, rfl⟩)) (fun p p0 p1 => ?_)⟩⟩
  · refine m_laysFars (B := B) (gl := fun p => a (14 + p)) (g0 := a) hMg hW (fun p p0 p1 => gg p p0 (by omega)) hW ?_ (fun p _ _ => rfl) (fun h' q fl f2 hB => ?_)
    · first | exact bA_rfl | exact ⟨rfl, rfl, fun _ _ _ => rfl⟩ | exact fun _ _ => rfl
    · have e := ways_count hW hB hf.1
      have f3 : fr PN0 (hh h 0) h' := fr_trans (fr_mono fg (fun c i j p => by unfold PN0 Scr; omega)) (fr_mono f2 (fun c i j p => by unfold PN0 Scr; omega))
      have ii := hh_of hi fr_rfl f3 (by rw [f2 11 0 17 (by omega), fg 11 0 17 (by omega)]) (by rw [f2 12 0 0 (by omega), fg 12 0 0 (by omega)])
      exact okR (hK _ _ ii.1 ii.2) (by rw [e, hf.2.2.1])
  · rw [up_I p0 x0]
    by_cases e : p = x
    · rw [if_pos e, m_0 hMg (by omega) (by omega), e]
    · rw [if_neg e]; exact gg p p0 (by omega)
