/-! someone comes -/
def PCm (c i j : Nat) : Prop := PJ c i j ∨ (c = 7 ∧ i = 0) ∨ (c = 12 ∧ j = 22)
theorem Inv_m {B B' : Int} {h h' : qH} {a a' : qB} (hi : Inv B h a) (hf : fr PCm h h') (hc : ∀ y : Int, 100 ≤ y → y < 1488 → h' 12 0 20 (Int.toNat y) = h 12 0 20 (Int.toNat y)) (hn : ∀ y : Int, 7 ≤ y → y < 28 → h' 12 0 22 (Int.toNat y) = h 12 0 22 (Int.toNat y)) (hQ : qQX h' 0 a') (hM : qM h' 0 a') (hW : qwf B' a') (hB : B ≤ B') (hN : nRel h' 0 0 (a' 0)) (h0 : a 0 ≤ a' 0) (h1 : a 1 ≤ a' 1) (hs : h' 11 0 17 0 = h' 12 0 0 0) : Inv B' h' a' := by
  have n : ∀ c i j, ¬ PCm c i j → h' c i j = h c i j := hf
  unfold PCm PJ Scr at n
  obtain ⟨⟨q1, q2, q3, q4, q5⟩, i2, i3, i4, i5, i6⟩ := hi
  refine ⟨⟨hQ, hM, hW, hN, ?_⟩, ?_, ?_, ?_, ?_, tB_e i6 (by funext i j; exact n 6 i j (by omega))⟩
  · exact dRel_nm (dRel_e q5 (by funext j; exact n 1 0 j (by omega)) (fun y y0 y1 => hc y (by omega) (by omega))) h0 h1
  · have i2 := mRel_B i2 hB
    unfold mRel at *
    rw [n 11 0 16 (by omega), n 12 0 23 (by omega)]
    refine ⟨i2.1, i2.2.1, fun k hk => ?_⟩
    obtain ⟨b, hb⟩ := i2.2.2 k hk
    have k3 := i2.2.1
    have wn := wf_n hb.2.2.1
    refine ⟨b, qx_fr hb.1 (by funext j; exact n 7 (2 + k) j (by omega)), fun x x0 x1 => ?_, hb.2.2.1, fun j j0 j1 => ?_, dRel_e hb.2.2.2.2 (by funext j; exact n 1 (2 + k) j (by omega)) (fun y y0 y1 => hc y (by omega) (by omega))⟩
    · rw [hc _ (by omega) (by omega)]; exact hb.2.1 x x0 x1
    · rw [n 7 (2 + k) 0 (by omega), hn _ (by omega) (by omega)]; exact hb.2.2.2.1 j j0 j1
  · exact tRel_e i3 (by funext i j; exact n 10 i j (by omega)) (n 12 0 4 (by omega)) (n 12 0 5 (by omega)) (n 12 0 6 (by omega))
  · exact pRel_e i4 (n 9 0 0 (by omega)) (n 9 0 1 (by omega)) (n 12 0 7 (by omega)) (n 12 0 8 (by omega))
  · unfold oRel at *
    rw [n 90 0 0 (by omega), hs, n 11 0 18 (by omega), n 11 0 19 (by omega), n 12 0 10 (by omega), n 12 0 11 (by omega), n 4 0 0 (by omega), n 4 0 1 (by omega), n 12 0 2 (by omega), n 12 0 3 (by omega), n 5 0 1 (by omega), n 12 0 40 (by omega), n 12 0 39 (by omega), n 5 0 5 (by omega), n 5 0 6 (by omega), n 5 0 7 (by omega), n 5 0 8 (by omega), n 5 0 2 (by omega)]
    exact ⟨i5.1, rfl, i5.2.2⟩
theorem p_come : Pair 128 266 [] [] := by
  intro d B h a K X S hi b0 b1 hK hS
  have hQ := hi.1.1
  have hW := hi.1.2.2.1
  have w0 := wf_n hW
  refine sX11_come_0 ?_
  rw [qx_n hQ]
  refine ⟨fun c7 => x_addPerson hQ hW c7 (fun g1 hQ1 fg kn => ?_), fun c7 => ?_⟩
  · have fc : fr PCm h (qup g1 11 0 17 0 0) := fr_trans (fr_g7 fg (fun j => Or.inr (Or.inl ⟨rfl, rfl⟩))) (fr_up (Or.inl (Or.inr (Or.inl ⟨rfl, rfl⟩))))
    have e20 : (qup g1 11 0 17 0 0) 12 0 = h 12 0 := by funext j; rw [up_j (by omega), fg 12 0 (by omega)]
    have c0 : (qup g1 11 0 17 0 0) 12 0 20 (Int.toNat 0) = a 0 := by rw [e20]; exact m_0 (iM0 hi) (by omega) (by omega)
    have n91 : (qup g1 11 0 17 0 0) 91 = h 91 := by funext i j; rw [up_j (by omega), fg 91 i (by omega)]
    refine sX11_answer_0 (hS _ _ n91 (sX12_come_0 ?_))
    rw [c0]
    obtain ⟨g2, hg2⟩ : ∃ g2, qup (qup (qup (qup g1 11 0 17 0 0) 12 0 1 0 0) 12 0 0 0 0) 12 0 22 (Int.toNat (a 0)) 0 = g2 := ⟨_, rfl⟩
    rw [hg2]
    have hM2 : qM g2 (372 * 0) a := m_fr (iM0 hi) (by rw [← hg2, up_j (by omega), up_j (by omega), up_j (by omega), e20])
    refine ⟨by omega, fun _ => ⟨by omega, by omega, m_comes (b := 0) hM2 (by omega) (by omega) w0.1 c7 (fun h2 hM3 f3 => ⟨by omega, ?_⟩)⟩, fun c => absurd (by omega) c⟩
    have hM4 : qM h2 0 (aCome a 3) := hM3
    have ea : aCome a 3 0 = a 0 + 1 := by unfold aCome; rw [if_pos rfl]
    have eb : aCome a 3 1 = a 1 := by unfold aCome; rw [if_neg (by omega), if_neg (by omega), if_neg (by omega), if_neg (by omega)]
    have h27 : h2 7 0 = g1 7 0 := by rw [f3.1 7 0 (by omega), ← hg2]; funext j; rw [up_j (by omega), up_j (by omega), up_j (by omega), up_j (by omega)]
    have h22 : ∀ y : Int, 0 ≤ y → h2 12 0 22 (Int.toNat y) = if y = a 0 then 0 else h 12 0 22 (Int.toNat y) := fun y y0 => by
      rw [f3.2.1 22 (by omega), ← hg2, up_I y0 w0.1, up_j (by omega), up_j (by omega), e20]
    have ff : fr PCm h h2 := by
      have f2 : fr PCm (qup g1 11 0 17 0 0) g2 := by
        rw [← hg2]
        exact fr_trans (fr_up (by unfold PCm PJ Scr; omega)) (fr_trans (fr_up (by unfold PCm PJ Scr; omega)) (fr_up (by unfold PCm PJ Scr; omega)))
      refine fr_trans fc (fr_trans f2 (fun c i j n => ?_))
      unfold PCm PJ Scr at n
      by_cases c12 : c = 12
      · subst c12
        have i0 : i = 0 := by omega
        subst i0
        exact f3.2.1 j (by omega)
      · exact congrFun (f3.1 c i c12) j
    rw [m_0 hM4 (by omega) (by omega), ea]
    refine ⟨qR_of (by omega) (by omega), okR (hK _ _ (Inv_m hi ff (fun y y0 y1 => ?_) (fun y y0 y1 => ?_) (qx_fr hQ1 h27) hM4 (wf_mono (wf_come hW b0 c7 (by omega) (by omega)) (by omega)) (by omega) (fun j j0 j1 => ?_) (by omega) (by omega) ?_) ?_) (by omega)⟩
    · rw [f3.2.2 y (by omega) (by omega), ← hg2, up_j (by omega), up_j (by omega), up_j (by omega), e20]
    · rw [h22 y (by omega), if_neg (by omega)]
    · rw [ea] at j1
      rw [h27, kn, show 7 * 0 + j = j by omega, h22 j j0]
      by_cases e : j = a 0
      · rw [if_pos (by omega), if_pos e]; exact ⟨0, rfl, rfl⟩
      · rw [if_neg (by omega), if_neg e]
        have := hi.1.2.2.2.1 j j0 (by omega)
        rw [show 7 * 0 + j = j by omega] at this
        exact this
    · rw [f3.2.1 0 (by omega), f3.1 11 0 (by omega), ← hg2, up_j (by omega), up_j (by omega), up_j (by omega), up_at, up_j (by omega), up_at]
    · funext i j
      refine ff 91 i j ?_
      unfold PCm PJ Scr
      omega
  · have ec : (qup h 11 0 17 0 7) 12 0 20 (Int.toNat 0) = a 0 := by rw [up_j (by omega)]; exact m_0 (iM0 hi) (by omega) (by omega)
    refine sX11_answer_0 (hS _ _ s_91 (sX12_come_0 ?_))
    rw [ec]
    exact ⟨by omega, fun c => absurd (by omega) c, fun _ => m_refuse (okR (kS hi hK 7) rfl)⟩
