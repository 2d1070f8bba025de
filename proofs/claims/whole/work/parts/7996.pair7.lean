/-! the TRAYS -/
def PTr (c i j : Nat) : Prop := PN0 c i j ∨ c = 10 ∨ (c = 12 ∧ 4 ≤ j ∧ j ≤ 6)
section Tr
variable {B B' : Int} {h h' : qH} {a : qB}
theorem Inv_t (hi : Inv B h a) (hf : fr PTr h h') (hB : B ≤ B') (ht : tRel h') (hs : h' 11 0 17 0 = h' 12 0 0 0) : Inv B' h' a := by
  have n : ∀ c i j, ¬ PTr c i j → h' c i j = h c i j := hf
  unfold PTr PN0 Scr at n
  obtain ⟨⟨q1, q2, q3, q4, q5⟩, i2, i3, i4, i5, i6⟩ := hi
  refine ⟨⟨qx_fr q1 (by funext j; exact n 7 0 j (by omega)), m_fr q2 (n 12 0 20 (by omega)), wf_mono q3 hB, nRel_e q4 (n 7 0 0 (by omega)) (n 12 0 22 (by omega)), dRel_e q5 (by funext j; exact n 1 0 j (by omega)) (fun y _ _ => by rw [n 12 0 20 (by omega)])⟩, ?_, ht, ?_, ?_, tB_e i6 (by funext i j; exact n 6 i j (by omega))⟩
  · exact mRel_e (mRel_B i2 hB) (fun i i2 => by funext j; exact n 7 i j (by omega)) (fun i i2 => by funext j; exact n 1 i j (by omega)) (fun y y0 y1 => by rw [n 12 0 20 (by omega)]) (n 12 0 22 (by omega)) (n 11 0 16 (by omega)) (n 12 0 23 (by omega))
  · exact pRel_e i4 (n 9 0 0 (by omega)) (n 9 0 1 (by omega)) (n 12 0 7 (by omega)) (n 12 0 8 (by omega))
  · unfold oRel at *
    rw [n 90 0 0 (by omega), hs, n 11 0 18 (by omega), n 11 0 19 (by omega), n 12 0 10 (by omega), n 12 0 11 (by omega), n 4 0 0 (by omega), n 4 0 1 (by omega), n 12 0 2 (by omega), n 12 0 3 (by omega), n 5 0 1 (by omega), n 12 0 40 (by omega), n 12 0 39 (by omega), n 5 0 5 (by omega), n 5 0 6 (by omega), n 5 0 7 (by omega), n 5 0 8 (by omega), n 5 0 2 (by omega)]
    exact ⟨i5.1, rfl, i5.2.2⟩
theorem fr_91T (hf : fr PTr h h') : h' 91 = h 91 := by
  funext i j
  refine hf 91 i j ?_
  unfold PTr PN0 Scr
  omega
end Tr
/-- what is said of a TRAY's place: 1 no TRAY, 3 missing, 4 no place -/
def plS (h : qH) (t p : Int) : Int := if t < 0 ∨ 4 ≤ t then 1 else if h 10 t.toNat 1 0 = -1 then 3 else if p < 0 ∨ h 10 t.toNat 2 0 ≤ p then 4 else 0
section Ts
variable {d : Nat} {R : Option qV → qH → Prop} {h : qH}
theorem x_place {t p : Int} (ht : tRel h) (pr : qR p) (hR : R (some (qi (plS h t p))) h) : qT (d + 3) 161 0 [qo 11 0, qi t, qi p, qu] [] h R := by
  unfold plS at hR
  refine sX11_statusOfPlace_0 (sX11_statusOfTray_0 (sX11_hasTray_0 ⟨fun c => ⟨by omega, fun c2 => absurd rfl c2, fun _ => ⟨fun c2 => absurd c2 (by decide), fun _ => ?_⟩⟩, fun c => ⟨fun c2 => ⟨by omega, fun c3 => absurd rfl c3, fun _ => ⟨fun c3 => absurd c3 (by decide), fun _ => ?_⟩⟩, fun c2 => ⟨by omega, fun _ => ⟨by omega, ?_⟩, fun c3 => absurd (by decide) c3⟩⟩⟩))
  · rw [if_pos (by omega)] at hR; exact hR
  · rw [if_pos (by omega)] at hR; exact hR
  · rw [if_neg (by omega)] at hR
    have T := ht t.toNat (by omega)
    rw [show 0 + Int.toNat t = t.toNat by omega]
    refine sX10_isMissing_0 ⟨fun nm => ⟨by omega, fun _ => ⟨by omega, ?_⟩, fun c3 => absurd rfl c3⟩, fun m => ⟨by omega, fun c3 => absurd c3 (by decide), fun _ => ⟨fun c4 => absurd c4 (by decide), fun _ => ?_⟩⟩⟩
    · rw [if_neg nm] at hR
      have T2 := T.2.2.2 nm
      have T3 := T.2.2.1
      have len : 0 ≤ h 10 t.toNat 2 0 := by
        have : ¬ h 12 0 5 t.toNat < 0 := fun e => nm (T3.mpr e)
        omega
      refine ⟨fun _ => ⟨fun _ => ⟨by omega, ?_⟩, fun c4 => absurd rfl c4⟩, fun c4 => absurd (qlcmp_le.mpr len) c4⟩
      have prr := pr.1
      have prr2 := pr.2
      refine sX10_hasRow_0 ⟨fun c3 => ⟨by omega, fun _ => ?_, fun c4 => absurd rfl c4⟩, fun c3 => ⟨fun c4 => absurd c4 (by decide), fun _ => ⟨qR_of (by omega) (by omega), fun c4 => ⟨by omega, fun _ => ?_, fun c5 => absurd rfl c5⟩, fun c4 => ⟨by omega, fun c5 => absurd c5 (by decide), fun _ => ?_⟩⟩⟩⟩
      · rw [if_pos (by omega)] at hR; exact hR
      · rw [if_pos (by omega)] at hR; exact hR
      · rw [if_neg (by omega)] at hR; exact hR
    · rw [if_pos (Decidable.not_not.mp m)] at hR; exact hR
theorem m_place {t p : Int} {h0 : qH} (ht : tRel h0) (e1 : h0 12 0 5 = h 12 0 5) (hR : R (some (qi (plS h0 t p))) h) : qT (d + 2) 182 0 [qo 12 0, qi t, qi p, qu] [] h R := by
  unfold plS at hR
  refine sX12_placed_0 (sX12_trayed_0 ?_)
  rw [← e1]
  refine ⟨fun c => ⟨fun c2 => absurd c2 (by decide), fun _ => ?_⟩, fun c => ⟨fun c2 => ⟨by omega, ?_⟩, fun c2 => ⟨fun c3 => absurd c3 (by decide), fun _ => ?_⟩⟩⟩
  · rw [if_pos (by omega)] at hR; exact hR
  · rw [if_neg (by omega)] at hR
    have T := ht t.toNat (by omega)
    refine ⟨fun len => ?_, fun nl => ⟨fun c3 => absurd c3 (by decide), fun _ => ?_⟩⟩
    · have nm : h0 10 t.toNat 1 0 ≠ -1 := fun e => by have := T.2.2.1.mp e; omega
      rw [if_neg nm] at hR
      have T2 := T.2.2.2 nm
      refine ⟨fun _ => ⟨fun c3 => ?_, fun c3 => ⟨by omega, ?_⟩⟩, fun c3 => absurd (by decide) c3⟩
      · rw [if_pos (by omega)] at hR; exact hR
      · refine ⟨fun c4 => ?_, fun c4 => ?_⟩
        · rw [if_neg (by omega)] at hR; exact hR
        · rw [if_pos (by omega)] at hR; exact hR
    · rw [if_pos (T.2.2.1.mpr (by omega))] at hR; exact hR
  · rw [if_pos (by omega)] at hR; exact hR
end Ts
theorem plS_b (h : qH) (t p : Int) : (plS h t p = 0 ∨ plS h t p = 1 ∨ plS h t p = 3 ∨ plS h t p = 4) ∧ (plS h t p = 0 → (0 ≤ t ∧ t < 4) ∧ h 10 t.toNat 1 0 ≠ -1 ∧ 0 ≤ p ∧ p < h 10 t.toNat 2 0) := by
  unfold plS
  by_cases c1 : t < 0 ∨ 4 ≤ t
  · rw [if_pos c1]; omega
  rw [if_neg c1]
  by_cases c2 : h 10 t.toNat 1 0 = -1
  · rw [if_pos c2]; omega
  rw [if_neg c2]
  by_cases c3 : p < 0 ∨ h 10 t.toNat 2 0 ≤ p
  · rw [if_pos c3]; omega
  · rw [if_neg c3]; exact ⟨Or.inl rfl, fun _ => ⟨by omega, c2, by omega, by omega⟩⟩
theorem p_read {t p : Int} (pr : qR p) : PairL 111 184 [qi t, qi p] [qi t, qi p] := by
  intro d B h a K X S hi b0 b1 hK hS
  have ht := hi.2.2.1
  obtain ⟨s, hs⟩ : ∃ s, plS h t p = s := ⟨_, rfl⟩
  have pb := plS_b h t p
  have kk : K (qup (qup (qup h 11 0 17 0 s) 12 0 1 0 0) 12 0 0 0 s) := hK _ a (Inv_n hi (fr_trans PN_s (fr_trans PN_1 PN_0)) (by omega) (by rw [up_j (by omega), up_j (by omega), up_at, up_at])) (fr_91 (fr_trans PN_s (fr_trans PN_1 PN_0)))
  have e5 : h 12 0 5 = (qup (qup h 11 0 17 0 s) 12 0 1 0 0) 12 0 5 := by rw [up_j (by omega), up_j (by omega)]
  refine sX11_read_0 (x_place ht pr ?_)
  dsimp only [qri]
  rw [hs] at pb ⊢
  refine sX11_agree_0 ⟨fun ns => ⟨by omega, fun _ => hS _ _ s_91 (sX12_read_0 (m_place ht e5 ?_)), fun c => absurd rfl c⟩, fun e0 => ⟨by omega, fun c => absurd c (by decide), fun _ => ?_⟩⟩
  · dsimp only [qri]
    rw [hs, up_at]
    exact ⟨fun c => absurd c (by omega), fun _ => ⟨fun _ => kk, fun c => absurd (qlcmp_eq.mpr rfl) c⟩⟩
  · have e0 := Decidable.not_not.mp e0
    have q := pb.2 e0
    have T := (ht t.toNat (by omega)).2.2.2 q.2.1
    refine ⟨by omega, by omega, hS _ _ s_91 (sX12_read_0 (m_place ht e5 ?_))⟩
    dsimp only [qri]
    rw [hs, up_at]
    refine ⟨fun _ => ⟨qR_of (by omega) (by omega), qR_of (by omega) (by omega), by omega, fun _ => kk, fun c => absurd (qlcmp_eq.mpr ?_) c⟩, fun c => absurd (by omega) c⟩
    rw [show 0 + Int.toNat t = t.toNat by omega, up_j (by omega), up_j (by omega), up_j (by omega), T.2.2 p q.2.2.1 q.2.2.2]
    congr 2
    omega
