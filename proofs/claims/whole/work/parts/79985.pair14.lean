def PFd (c i j : Nat) : Prop := PN0 c i j ∨ (c = 9 ∧ j ≤ 1) ∨ (c = 12 ∧ (j = 7 ∨ j = 8))
theorem Inv_p {B B' : Int} {h h' : qH} {a : qB} (hi : Inv B h a) (hf : fr PFd h h') (hB : B ≤ B') (hp : pRel h') (hs : h' 11 0 17 0 = h' 12 0 0 0) : Inv B' h' a := by
  have n : ∀ c i j, ¬ PFd c i j → h' c i j = h c i j := hf
  unfold PFd PN0 Scr at n
  obtain ⟨⟨q1, q2, q3, q4, q5⟩, i2, i3, i4, i5, i6⟩ := hi
  refine ⟨⟨qx_fr q1 (by funext j; exact n 7 0 j (by omega)), m_fr q2 (n 12 0 20 (by omega)), wf_mono q3 hB, nRel_e q4 (n 7 0 0 (by omega)) (n 12 0 22 (by omega)), dRel_e q5 (by funext j; exact n 1 0 j (by omega)) (fun y _ _ => by rw [n 12 0 20 (by omega)])⟩, ?_, ?_, hp, ?_, tB_e i6 (by funext i j; exact n 6 i j (by omega))⟩
  · exact mRel_e (mRel_B i2 hB) (fun i i2 => by funext j; exact n 7 i j (by omega)) (fun i i2 => by funext j; exact n 1 i j (by omega)) (fun y y0 y1 => by rw [n 12 0 20 (by omega)]) (n 12 0 22 (by omega)) (n 11 0 16 (by omega)) (n 12 0 23 (by omega))
  · exact tRel_e i3 (by funext i j; exact n 10 i j (by omega)) (n 12 0 4 (by omega)) (n 12 0 5 (by omega)) (n 12 0 6 (by omega))
  · unfold oRel at *
    rw [n 90 0 0 (by omega), hs, n 11 0 18 (by omega), n 11 0 19 (by omega), n 12 0 10 (by omega), n 12 0 11 (by omega), n 4 0 0 (by omega), n 4 0 1 (by omega), n 12 0 2 (by omega), n 12 0 3 (by omega), n 5 0 1 (by omega), n 12 0 40 (by omega), n 12 0 39 (by omega), n 5 0 5 (by omega), n 5 0 6 (by omega), n 5 0 7 (by omega), n 5 0 8 (by omega), n 5 0 2 (by omega)]
    exact ⟨i5.1, rfl, i5.2.2⟩
theorem fr_91F {h h' : qH} (hf : fr PFd h h') : h' 91 = h 91 := by
  funext i j
  refine hf 91 i j ?_
  unfold PFd PN0 Scr
  omega
theorem fd_step {L j v f g : Int} (H : ¬ (L ≤ j ∧ j < L + 4) → f = g ∧ -128 ≤ f ∧ f ≤ 127) : (if L ≤ j ∧ j < L + 4 then fdB v (j - L) else f) = (if L ≤ j ∧ j < L + 4 then fdB v (j - L) else g) ∧ -128 ≤ (if L ≤ j ∧ j < L + 4 then fdB v (j - L) else f) ∧ (if L ≤ j ∧ j < L + 4 then fdB v (j - L) else f) ≤ 127 := by
  by_cases c : L ≤ j ∧ j < L + 4
  · rw [if_pos c, if_pos c]; exact ⟨rfl, qi2b_b _⟩
  · rw [if_neg c, if_neg c]; exact H c
theorem fd_last {L j : Int} (j1 : j < L + 4 + 4 + 4 + 4 + 4) (n5 : ¬ (L + 4 + 4 + 4 + 4 ≤ j ∧ j < L + 4 + 4 + 4 + 4 + 4)) (n4 : ¬ (L + 4 + 4 + 4 ≤ j ∧ j < L + 4 + 4 + 4 + 4)) (n3 : ¬ (L + 4 + 4 ≤ j ∧ j < L + 4 + 4 + 4)) (n2 : ¬ (L + 4 ≤ j ∧ j < L + 4 + 4)) (n1 : ¬ (L ≤ j ∧ j < L + 4)) : j < L := by omega
theorem p_feed {v1 v2 v3 v4 v5 : Int} : Pair 113 215 [qi v1, qi v2, qi v3, qi v4, qi v5] [qi v1, qi v2, qi v3, qi v4, qi v5] := by
  intro d B h a K X S hi b0 b1 hK hS
  obtain ⟨p1, p2, p3⟩ := hi.2.2.2.1
  obtain ⟨L, hL⟩ : ∃ L, h 9 0 1 0 = L := ⟨_, rfl⟩
  rw [hL] at p1 p2 p3
  refine sX11_feed_0 ?_
  rw [hL]
  refine ⟨qR_of (by omega) (by omega), fun c => ?_, fun c => ?_⟩
  · refine x_addFour hL (by omega) (by omega) (fun g1 f1 l1 e1 => x_addFour l1 (by omega) (by omega) (fun g2 f2 l2 e2 => x_addFour l2 (by omega) (by omega) (fun g3 f3 l3 e3 => x_addFour l3 (by omega) (by omega) (fun g4 f4 l4 e4 => x_addFour l4 (by omega) (by omega) (fun g5 f5 l5 e5 => ?_)))))
    have fc := fr_trans f1 (fr_trans f2 (fr_trans f3 (fr_trans f4 f5)))
    have fA : fr PFd h g5 := fr_mono fc (fun c i j p => Or.inr (Or.inl p))
    have m8 : (qup g5 12 0 1 0 0) 12 0 8 0 = L := by rw [up_j (by omega), fc 12 0 8 (by omega)]; exact p1.symm
    refine hS _ _ (fr_91F fA) (sX12_feed_0 ?_)
    rw [show g5 12 0 8 0 = L by rw [fc 12 0 8 (by omega)]; exact p1.symm]
    refine ⟨qR_of (by omega) (by omega), fun _ => m_lay m8 (by omega) (by omega) (fun k1 w1 n1 r1 => m_lay n1 (by omega) (by omega) (fun k2 w2 n2 r2 => m_lay n2 (by omega) (by omega) (fun k3 w3 n3 r3 => m_lay n3 (by omega) (by omega) (fun k4 w4 n4 r4 => m_lay n4 (by omega) (by omega) (fun k5 w5 n5 r5 => ?_))))), fun c2 => absurd c c2⟩
    have fm := fr_trans w1 (fr_trans w2 (fr_trans w3 (fr_trans w4 w5)))
    have fB : fr PFd h k5 := fr_trans fA (fr_trans (fr_mono PN_1 (fun c i j p => Or.inl p)) (fr_mono fm (fun c i j p => Or.inr (Or.inr ⟨p.1, p.2.2⟩))))
    have c9 : ∀ j, k5 9 0 j = g5 9 0 j := fun j => by rw [fm 9 0 j (by omega), up_j (by omega)]
    refine okR (hK _ a (Inv_p hi fB (by omega) ?_ ?_) (fr_91F fB)) (by rw [l5, n5])
    · unfold pRel
      rw [c9, c9, l5, n5]
      refine ⟨rfl, by omega, fun j j0 j1 => ?_⟩
      rw [e5 j j0, e4 j j0, e3 j j0, e2 j j0, e1 j j0, r5 j j0, r4 j j0, r3 j j0, r2 j j0, r1 j j0, up_j (by omega), fc 12 0 7 (by omega)]
      refine fd_step (fun n5 => fd_step (fun n4 => fd_step (fun n3 => fd_step (fun n2 => fd_step (fun n1 => p3 j j0 (fd_last j1 n5 n4 n3 n2 n1))))))
    · rw [fm 11 0 17 (by omega), fm 12 0 0 (by omega), up_j (by omega), up_j (by omega), fc 11 0 17 (by omega), fc 12 0 0 (by omega)]
      exact iSt hi
  · refine hS _ _ rfl (sX12_feed_0 ?_)
    rw [show h 12 0 8 0 = L from p1.symm]
    exact ⟨qR_of (by omega) (by omega), fun c2 => absurd c2 c, fun _ => okR (hK _ a (Inv_n hi PN_1 (by omega) (by rw [up_j (by omega), up_j (by omega)]; exact iSt hi)) (fr_91 PN_1)) rfl⟩
