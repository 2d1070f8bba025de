/-! the winner, the envy -/
section We
variable {d : Nat} {R : Option qV → qH → Prop} {h : qH} {a : qB} {B : Int}
theorem m_winner (hM : qM h 0 a) (hW : qwf B a) (hR : ∀ r, qfst (aBeats a) (a 0) r → (r ≠ -1 → R (some (qi r)) h) ∧ (r = -1 → R (some (qi (-1))) (qup h 12 0 0 0 8))) {z2 z3 : qV} : qT (d + 3) 307 12 [qo 12 0, qi 0, z2, z3] [] h R := by
  have w0 := wf_n hW
  have e0 : h 12 0 20 (Int.toNat 0) = a 0 := m_0 hM (by omega) (by omega)
  refine q_up (n := a 0) (C := fun x => x ≤ a 0 → (∀ y, 0 ≤ y → y < x → ¬ aBeats a y) → ∀ z2 z3, qT (d + 3) 307 12 [qo 12 0, qi x, z2, z3] [] h R) ?_ 0 (by omega) w0.1 (fun y y0 y1 => by omega) z2 z3
  intro x x0 ih xn hn z2 z3
  refine sX12_winner_12 ?_
  rw [e0]
  refine ⟨by omega, fun c => sX12_refuse_0 ((hR (-1) (Or.inr ⟨rfl, fun y y0 y1 => hn y y0 (by omega)⟩)).2 rfl), fun c => ?_⟩
  refine q_up (n := a 0) (C := fun y => y ≤ a 0 → ∀ f, (f = 0 ∨ f = 1) → (f = 1 ↔ ∀ v, 0 ≤ v → v < y → v ≠ x → aVotes a v x (a 0) < aVotes a x v (a 0)) → qT (d + 3) 307 26 [qo 12 0, qi x, qi f, qi y] [] h R) ?_ 0 (by omega) w0.1 1 (Or.inr rfl) ⟨fun _ v v0 v1 => by omega, fun _ => rfl⟩
  intro y y0 ih2 yn f hf hff
  refine sX12_winner_26 ?_
  rw [e0]
  refine ⟨by omega, fun cy => ⟨fun f0 => ⟨qR_of (by omega) (by omega), ih (by omega) (by omega) (fun v v0 v1 => ?_) _ _⟩, fun f0 => ?_⟩, fun cy => ⟨fun f0 => ⟨qR_of (by omega) (by omega), ih2 (by omega) (by omega) 0 (Or.inl rfl) ?_⟩, fun f0 => ⟨fun e => ⟨qR_of (by omega) (by omega), ih2 (by omega) (by omega) 1 (Or.inr rfl) ?_⟩, fun ne => m_votes hM hW x0 (by omega) y0 (by omega) (m_votes hM hW y0 (by omega) x0 (by omega) ⟨fun le => ⟨qR_of (by omega) (by omega), ih2 (by omega) (by omega) 0 (Or.inl rfl) ?_⟩, fun gt => ⟨qR_of (by omega) (by omega), ih2 (by omega) (by omega) 1 (Or.inr rfl) ?_⟩⟩)⟩⟩⟩
  · by_cases e : v = x
    · rw [e]
      intro hb
      have : f = 1 := hff.mpr (fun u u0 u1 un => hb u u0 (by omega) un)
      omega
    · exact hn v v0 (by omega)
  · have f1 : f = 1 := by omega
    have hb : aBeats a x := fun u u0 u1 un => hff.mp f1 u u0 (by omega) un
    exact (hR x (Or.inl ⟨x0, by omega, hb, hn⟩)).1 (by omega)
  · constructor
    · intro c; omega
    · intro hv
      have : f = 1 := hff.mpr (fun v v0 v1 vn => hv v v0 (by omega) vn)
      omega
  · have f1 : f = 1 := by omega
    refine ⟨fun _ v v0 v1 vn => ?_, fun _ => rfl⟩
    exact hff.mp f1 v v0 (by omega) vn
  · constructor
    · intro c; omega
    · intro hv
      have := hv y y0 (by omega) ne
      omega
  · have f1 : f = 1 := by omega
    refine ⟨fun _ v v0 v1 vn => ?_, fun _ => rfl⟩
    by_cases e : v = y
    · rw [e]; omega
    · exact hff.mp f1 v v0 (by omega) vn
theorem m_envy (hM : qM h 0 a) (hW : qwf B a) (hR : R (some (qi (aEnvy a (a 0)))) h) {z : qV} : qT (d + 3) 304 14 [qo 12 0, qi 0, qi 0, z] [] h R := by
  have w0 := wf_n hW
  have e0 : h 12 0 20 (Int.toNat 0) = a 0 := m_0 hM (by omega) (by omega)
  refine q_up (n := a 0) (C := fun x => x ≤ a 0 → 0 ≤ aEnvy a x → aEnvy a x ≤ 7 * x → ∀ z, qT (d + 3) 304 14 [qo 12 0, qi (aEnvy a x), qi x, z] [] h R) ?_ 0 (by omega) w0.1 (Int.le_refl _) (Int.le_refl _) z
  intro x x0 ih xn s0 s7 z
  refine sX12_envy_14 ?_
  rw [e0]
  refine ⟨by omega, fun c => by rw [show x = a 0 by omega]; exact hR, fun c => ?_⟩
  have es : aEnvy a (x + 1) = aEnvy1 a x (a 0) (aEnvy a x) := by unfold aEnvy; rw [qfold_s x0]
  refine q_up (n := a 0) (C := fun y => y ≤ a 0 → 0 ≤ aEnvy1 a x y (aEnvy a x) → aEnvy1 a x y (aEnvy a x) ≤ 7 * x + y → qT (d + 3) 304 26 [qo 12 0, qi (aEnvy1 a x y (aEnvy a x)), qi x, qi y] [] h R) ?_ 0 (by omega) w0.1 s0 (by have : aEnvy1 a x 0 (aEnvy a x) = aEnvy a x := rfl; omega)
  intro y y0 ih2 yn t0 t7
  refine sX12_envy_26 ?_
  rw [e0]
  refine ⟨by omega, fun cy => ⟨qR_of (by omega) (by omega), ?_⟩, fun cy => ⟨qR_of (by omega) (by omega), by omega, ?_⟩⟩
  · have ey : y = a 0 := by omega
    rw [ey] at t0 t7 ⊢
    rw [← es] at t0 t7 ⊢
    exact ih (by omega) (by omega) t0 (by omega) _
  · rw [m_0 hM (by omega) (by omega)]
    have wl := wf_live hW y0 (by omega)
    have e1 : aEnvy1 a x (y + 1) (aEnvy a x) = if aLike a x (a (14 + x)) < aLike a x (a (14 + y)) then aEnvy1 a x y (aEnvy a x) + 1 else aEnvy1 a x y (aEnvy a x) := by unfold aEnvy1; rw [qfold_s y0]
    refine m_likeOf hM hW x0 (by omega) wl.1 wl.2 (m_likeNow hM hW x0 (by omega) ⟨fun le => ⟨qR_of (by omega) (by omega), qR_of (by omega) (by omega), ?_⟩, fun gt => ⟨qR_of (by omega) (by omega), qR_of (by omega) (by omega), ?_⟩⟩)
    · rw [if_neg (by omega)] at e1
      rw [Int.add_zero, ← e1]
      exact ih2 (by omega) (by omega) (by omega) (by omega)
    · rw [if_pos (by omega)] at e1
      rw [← e1]
      exact ih2 (by omega) (by omega) (by omega) (by omega)
end We
theorem p_envy : Pair 146 304 [] [qu, qu, qu] := by
  intro d B h a K X S hi b0 b1 hK hS
  have k0 : K (hh h 0) := hK _ a (hh_0 hi) (fr_91 hh_fr)
  exact sX11_envy_0 (x_countEnvy hi.1.1 hi.1.2.2.1 (sX11_answer_0 (hS _ _ s_91 (sX12_envy_0 (m_envy (hh_M (s := 0) (iM0 hi)) hi.1.2.2.1 (okR k0 rfl))))))
theorem p_winner : Pair 148 307 [qu] [qu, qu, qu] := by
  intro d B h a K X S hi b0 b1 hK hS
  have k0 : K (hh h 0) := hK _ a (hh_0 hi) (fr_91 hh_fr)
  refine sX11_winner_0 (x_mostVoted hi.1.1 hi.1.2.2.1 (fun r hr => ⟨fun nr => sX11_answer_0 (hS _ _ s_91 (sX12_winner_0 (m_winner (hh_M (s := 0) (iM0 hi)) hi.1.2.2.1 (fun r' hr' => ?_)))), fun er => sX11_answer_0 (hS _ _ s_91 (sX12_winner_0 (m_winner (hh_M (s := 8) (iM0 hi)) hi.1.2.2.1 (fun r' hr' => ?_))))⟩))
  · have e := qfst_uniq hr hr'
    subst e
    exact ⟨fun _ => okR k0 rfl, fun c => absurd c nr⟩
  · have e := qfst_uniq hr hr'
    subst e
    have er := Decidable.not_not.mp er
    exact ⟨fun c => absurd er c, fun _ => okR (kS hi hK 8) rfl⟩
