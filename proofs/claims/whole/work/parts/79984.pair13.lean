/-! bytes fed -/
theorem qi2b_b (x : Int) : -128 ≤ qi2b x ∧ qi2b x ≤ 127 := by
  unfold qi2b
  rw [Int8.toInt_toInt32]
  have h1 := Int8.le_toInt (Int32.ofInt x).toInt8
  have h2 := Int8.toInt_lt (Int32.ofInt x).toInt8
  omega
def fdB (v i : Int) : Int := qi2b (qshr v (24 - 8 * i))
section Fd
variable {d : Nat} {R : Option qV → qH → Prop} {h : qH}
theorem x_addFour {v L : Int} (hL : h 9 0 1 0 = L) (l0 : 0 ≤ L) (l9 : L + 4 ≤ 900) (hR : ∀ h', fr (fun c _ j => c = 9 ∧ j ≤ 1) h h' → h' 9 0 1 0 = L + 4 → (∀ j, 0 ≤ j → h' 9 0 0 (Int.toNat j) = if L ≤ j ∧ j < L + 4 then fdB v (j - L) else h 9 0 0 (Int.toNat j)) → R none h') : qT (d + 1) 87 0 [qo 9 0, qi v, qu] [] h R := by
  refine sX9_addFour_0 ?_
  refine q_up (n := 4) (C := fun i => i ≤ 4 → ∀ g, fr (fun c _ j => c = 9 ∧ j ≤ 1) h g → g 9 0 1 0 = L + i → (∀ j, 0 ≤ j → g 9 0 0 (Int.toNat j) = if L ≤ j ∧ j < L + i then fdB v (j - L) else h 9 0 0 (Int.toNat j)) → qT (d + 1) 87 3 [qo 9 0, qi v, qi (24 - 8 * i)] [] g R) ?_ 0 (by omega) (by omega) h fr_rfl (by omega) (fun j j0 => by rw [if_neg (by omega)])
  intro i i0 ih i4 g hf g1 gb
  have bb := qi2b_b (qshr v (24 - 8 * i))
  refine sX9_addFour_3 ⟨fun c => ?_, fun c => ?_⟩
  · have e : i = 4 := by omega
    subst e
    exact hR g hf g1 gb
  · rw [g1]
    refine ⟨fun c2 => absurd c2 (by omega), fun _ => ⟨by omega, by omega, qR_of (by omega) (by omega), qR_of (by omega) (by omega), ?_⟩⟩
    rw [show 24 - 8 * i + -8 = 24 - 8 * (i + 1) by omega]
    refine ih (by omega) (by omega) _ (fr_trans hf (fr_trans (fr_up ⟨rfl, by omega⟩) (fr_up ⟨rfl, by omega⟩))) (by rw [up_at]; omega) (fun j j0 => ?_)
    rw [up_j (by omega), up_I j0 (by omega), gb j j0]
    by_cases e : j = L + i
    · rw [if_pos e, if_pos (by omega)]
      unfold fdB
      rw [show j - L = i by omega]
    · rw [if_neg e]
      by_cases c3 : L ≤ j ∧ j < L + i
      · rw [if_pos c3, if_pos (by omega)]
      · rw [if_neg c3, if_neg (by omega)]
theorem m_lay {v L : Int} (hL : h 12 0 8 0 = L) (l0 : 0 ≤ L) (l9 : L + 4 ≤ 900) (hR : ∀ h', fr (fun c i j => c = 12 ∧ i = 0 ∧ (j = 7 ∨ j = 8)) h h' → h' 12 0 8 0 = L + 4 → (∀ j, 0 ≤ j → h' 12 0 7 (Int.toNat j) = if L ≤ j ∧ j < L + 4 then fdB v (j - L) else h 12 0 7 (Int.toNat j)) → R none h') : qT (d + 1) 216 0 [qo 12 0, qi v, qu] [] h R := by
  refine sX12_lay_0 ?_
  refine q_up (n := 4) (C := fun i => i ≤ 4 → ∀ g, fr (fun c i j => c = 12 ∧ i = 0 ∧ (j = 7 ∨ j = 8)) h g → g 12 0 8 0 = L + i → (∀ j, 0 ≤ j → g 12 0 7 (Int.toNat j) = if L ≤ j ∧ j < L + i then fdB v (j - L) else h 12 0 7 (Int.toNat j)) → qT (d + 1) 216 2 [qo 12 0, qi v, qi (3 - i)] [] g R) ?_ 0 (by omega) (by omega) h fr_rfl (by omega) (fun j j0 => by rw [if_neg (by omega)])
  intro i i0 ih i4 g hf g1 gb
  have bb := qi2b_b (qshr v (8 * (3 - i)))
  refine sX12_lay_2 ⟨fun c => ?_, fun c => ?_⟩
  · have e : i = 4 := by omega
    subst e
    exact hR g hf g1 gb
  · rw [g1]
    refine ⟨qR_of (by omega) (by omega), by omega, bb, qR_of (by omega) (by omega), qR_of (by omega) (by omega), ?_⟩
    rw [show 3 - i + -1 = 3 - (i + 1) by omega]
    refine ih (by omega) (by omega) _ (fr_trans hf (fr_trans (fr_up ⟨rfl, rfl, Or.inl rfl⟩) (fr_up ⟨rfl, rfl, Or.inr rfl⟩))) (by rw [up_at]; omega) (fun j j0 => ?_)
    rw [up_j (by omega), up_I j0 (by omega), gb j j0]
    by_cases e : j = L + i
    · rw [if_pos e, if_pos (by omega)]
      unfold fdB
      rw [show j - L = i by omega, show 8 * (3 - i) = 24 - 8 * i by omega]
    · rw [if_neg e]
      by_cases c3 : L ≤ j ∧ j < L + i
      · rw [if_pos c3, if_pos (by omega)]
      · rw [if_neg c3, if_neg (by omega)]
end Fd
