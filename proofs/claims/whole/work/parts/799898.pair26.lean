/-! MARKS -/
section Dt
variable {d : Nat} {R : Option qV → qH → Prop} {h : qH}
theorem x_dTake {i i1 : Nat} (hi : i1 ≠ i) (hb : h 1 i1 5 0 = 0 ∨ h 1 i1 5 0 = 1) (hR : ∀ h', (∀ c' i', ¬ (c' = 1 ∧ i' = i) → h' c' i' = h c' i') → (∀ j, j < 5 → ∀ k, k < 60 → h' 1 i j k = h 1 i1 j k) → (∀ j, 5 ≤ j → j ≤ 7 → h' 1 i j 0 = h 1 i1 j 0) → R none h') : qT (d + 1) 9 0 [qo 1 i, qo 1 i1] [] h R := by
  refine sX1_takeOver_0 ⟨by omega, by omega, by omega, by omega, by omega, hb, hR _ (fun c' i' n => ?_) (fun j j5 k k6 => ?_) (fun j j5 j7 => ?_)⟩
  · funext j
    rw [up_j (by omega), up_j (by omega), up_j (by omega), cp_j (by omega), cp_j (by omega), cp_j (by omega), cp_j (by omega), cp_j (by omega)]
  · have : j = 0 ∨ j = 1 ∨ j = 2 ∨ j = 3 ∨ j = 4 := by omega
    rcases this with e | e | e | e | e <;> subst e <;> simp [qup, qcp, k6, hi]
  · have : j = 5 ∨ j = 6 ∨ j = 7 := by omega
    rcases this with e | e | e <;> subst e <;> simp [qup, qcp, hi]
theorem m_copy {f t : Int} (f0 : 0 ≤ f) (f4 : f ≤ 4) (t0 : 0 ≤ t) (t4 : t ≤ 4) (ne : f ≠ t) (hR : ∀ h', fr (fun c i j => c = 12 ∧ i = 0 ∧ (j = 20 ∨ j = 22)) h h' → (∀ y, 0 ≤ y → h' 12 0 20 (Int.toNat y) = if 372 * t ≤ y ∧ y < 372 * t + 372 then h 12 0 20 (Int.toNat (y - 372 * t + 372 * f)) else h 12 0 20 (Int.toNat y)) → (∀ y, 0 ≤ y → h' 12 0 22 (Int.toNat y) = if 7 * t ≤ y ∧ y < 7 * t + 7 then h 12 0 22 (Int.toNat (y - 7 * t + 7 * f)) else h 12 0 22 (Int.toNat y)) → R none h') : qT (d + 1) 326 0 [qo 12 0, qi f, qi t, qu] [] h R := by
  refine sX12_copy_0 ?_
  refine q_up (n := 372) (C := fun x => x ≤ 372 → ∀ g, fr (fun c i j => c = 12 ∧ i = 0 ∧ j = 20) h g → (∀ y, 0 ≤ y → g 12 0 20 (Int.toNat y) = if 372 * t ≤ y ∧ y < 372 * t + x then h 12 0 20 (Int.toNat (y - 372 * t + 372 * f)) else h 12 0 20 (Int.toNat y)) → qT (d + 1) 326 2 [qo 12 0, qi f, qi t, qi x] [] g R) ?_ 0 (by omega) (by omega) h fr_rfl (fun y y0 => by rw [if_neg (by omega)])
  intro x x0 ih x3 g fg hg
  refine sX12_copy_2 ⟨fun c => ?_, fun c => ⟨qR_of (by omega) (by omega), qR_of (by omega) (by omega), qR_of (by omega) (by omega), qR_of (by omega) (by omega), by omega, by omega, qR_of (by omega) (by omega), ih (by omega) (by omega) _ (fr_trans fg (fr_up ⟨rfl, rfl, rfl⟩)) (fun y y0 => ?_)⟩⟩
  · have ex : x = 372 := by omega
    subst ex
    refine q_up (n := 7) (C := fun x => x ≤ 7 → ∀ g2, fr (fun c i j => c = 12 ∧ i = 0 ∧ j = 22) g g2 → (∀ y, 0 ≤ y → g2 12 0 22 (Int.toNat y) = if 7 * t ≤ y ∧ y < 7 * t + x then h 12 0 22 (Int.toNat (y - 7 * t + 7 * f)) else h 12 0 22 (Int.toNat y)) → qT (d + 1) 326 41 [qo 12 0, qi f, qi t, qi x] [] g2 R) ?_ 0 (by omega) (by omega) g fr_rfl (fun y y0 => by rw [if_neg (by omega), fg 12 0 22 (by omega)])
    intro z z0 ihz z7 g2 fg2 hg2
    refine sX12_copy_41 ⟨fun c => hR g2 (fr_trans (fr_mono fg (fun c i j p => ⟨p.1, p.2.1, Or.inl p.2.2⟩)) (fr_mono fg2 (fun c i j p => ⟨p.1, p.2.1, Or.inr p.2.2⟩))) (fun y y0 => by rw [fg2 12 0 20 (by omega)]; exact hg y y0) (fun y y0 => by rw [hg2 y y0, show z = 7 by omega]), fun c => ⟨qR_of (by omega) (by omega), qR_of (by omega) (by omega), qR_of (by omega) (by omega), qR_of (by omega) (by omega), by omega, by omega, qR_of (by omega) (by omega), ihz (by omega) (by omega) _ (fr_trans fg2 (fr_up ⟨rfl, rfl, rfl⟩)) (fun y y0 => ?_)⟩⟩
    rw [up_I y0 (by omega), hg2 _ (by omega), hg2 y y0, if_neg (show ¬ (7 * t ≤ 7 * f + z ∧ 7 * f + z < 7 * t + z) by omega)]
    by_cases e : y = 7 * t + z
    · rw [if_pos e, if_pos (by omega), show y - 7 * t + 7 * f = 7 * f + z by omega]
    · rw [if_neg e]
      by_cases c2 : 7 * t ≤ y ∧ y < 7 * t + z
      · rw [if_pos c2, if_pos (by omega)]
      · rw [if_neg c2, if_neg (by omega)]
  · rw [up_I y0 (by omega), hg _ (by omega), hg y y0, if_neg (show ¬ (372 * t ≤ 372 * f + x ∧ 372 * f + x < 372 * t + x) by omega)]
    by_cases e : y = 372 * t + x
    · rw [if_pos e, if_pos (by omega), show y - 372 * t + 372 * f = 372 * f + x by omega]
    · rw [if_neg e]
      by_cases c2 : 372 * t ≤ y ∧ y < 372 * t + x
      · rw [if_pos c2, if_pos (by omega)]
      · rw [if_neg c2, if_neg (by omega)]
end Dt
section Dc
variable {h h' : qH} {i i1 : Nat} {bl bl' n m : Int}
theorem dRel_cp (b0 : 0 ≤ bl) (b0' : 0 ≤ bl') (hd : dRel h i1 bl n m) (e1 : ∀ j, j < 5 → ∀ k, k < 60 → h' 1 i j k = h 1 i1 j k) (e2 : ∀ j, 5 ≤ j → j ≤ 7 → h' 1 i j 0 = h 1 i1 j 0) (e3 : ∀ y, 0 ≤ y → y < 372 → h' 12 0 20 (Int.toNat (372 * bl' + y)) = h 12 0 20 (Int.toNat (372 * bl + y))) : dRel h' i bl' n m := by
  unfold dRel at *
  rw [e2 5 (by omega) (by omega), e2 6 (by omega) (by omega), e2 7 (by omega) (by omega), e3 100 (by omega) (by omega), e3 101 (by omega) (by omega)]
  refine ⟨hd.1, hd.2.1, fun c => ?_, hd.2.2.2⟩
  obtain ⟨g1, g2, k, g3⟩ := hd.2.2.1 c
  refine ⟨g1, g2, k, dSeg_c _ _ g3 (fun s s0 s1 => ?_) (fun j j5 l l0 l1 => e1 j j5 _ (by omega))⟩
  have e : ∀ x, 0 ≤ x → x < 9 → h' 12 0 20 (Int.toNat (372 * bl' + 102 + 9 * s + x)) = h 12 0 20 (Int.toNat (372 * bl + 102 + 9 * s + x)) := fun x x0 x9 => by
    have := e3 (102 + 9 * s + x) (by omega) (by omega)
    rw [show 372 * bl' + (102 + 9 * s + x) = 372 * bl' + 102 + 9 * s + x by omega, show 372 * bl + (102 + 9 * s + x) = 372 * bl + 102 + 9 * s + x by omega] at this
    exact this
  refine ⟨?_, e 8 (by omega) (by omega)⟩
  unfold dAg
  dsimp only
  rw [e 0 (by omega) (by omega), e 1 (by omega) (by omega), e 2 (by omega) (by omega), e 5 (by omega) (by omega), e 6 (by omega) (by omega), e 7 (by omega) (by omega)]
  exact dAg_rfl (f := fun x => h 12 0 20 (Int.toNat (372 * bl + 102 + 9 * s + x)))
end Dc
/-- all but TRAYS, FRACTION, life and table -/
def PBg (c i j : Nat) : Prop := Scr c i j ∨ c = 7 ∨ c = 1 ∨ c = 9 ∨ (c = 11 ∧ 16 ≤ j) ∨ (c = 12 ∧ (j = 0 ∨ (7 ≤ j ∧ j ≤ 11) ∨ j = 20 ∨ j = 22 ∨ j = 23))
theorem PB_up {c i j : Nat} (h : c = 7 ∨ c = 1 ∨ c = 9 ∨ (c = 11 ∧ 16 ≤ j) ∨ (c = 12 ∧ (j = 0 ∨ j = 1 ∨ (7 ≤ j ∧ j ≤ 20) ∨ j = 22 ∨ j = 23 ∨ j = 24 ∨ j = 25))) : PBg c i j := by
  unfold PBg Scr
  omega
section Bg
variable {B B' : Int} {h h' : qH} {a a' : qB}
theorem Inv_g (hi : Inv B h a) (hf : fr PBg h h') (hq : qRel B' h' 0 0 a') (hm : mRel B' h') (hp : pRel h') (hs : h' 11 0 17 0 = h' 12 0 0 0) (o2 : h' 11 0 18 0 = h' 12 0 10 0) (o3 : h' 11 0 19 0 = h' 12 0 11 0) : Inv B' h' a' := by
  have n : ∀ c i j, ¬ PBg c i j → h' c i j = h c i j := hf
  unfold PBg Scr at n
  obtain ⟨_, _, i3, _, i5, i6⟩ := hi
  refine ⟨hq, hm, ?_, hp, ?_, tB_e i6 (by funext i j; exact n 6 i j (by omega))⟩
  · exact tRel_e i3 (by funext i j; exact n 10 i j (by omega)) (n 12 0 4 (by omega)) (n 12 0 5 (by omega)) (n 12 0 6 (by omega))
  · have l := oRel_l (h' := h') i5
    unfold oRel at *
    rw [n 90 0 0 (by omega), hs, o2, o3, n 4 0 0 (by omega), n 4 0 1 (by omega), n 12 0 2 (by omega), n 12 0 3 (by omega), n 5 0 1 (by omega), n 12 0 40 (by omega), n 12 0 39 (by omega), n 5 0 5 (by omega), n 5 0 6 (by omega), n 5 0 7 (by omega), n 5 0 8 (by omega), n 5 0 2 (by omega)]
    exact ⟨i5.1, rfl, rfl, rfl, i5.2.2.2.2⟩
theorem fr_91B (hf : fr PBg h h') : h' 91 = h 91 := by
  funext i j
  refine hf 91 i j ?_
  unfold PBg Scr
  omega
end Bg
