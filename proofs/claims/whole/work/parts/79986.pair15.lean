/-! someone comes -/
def PCm (c i j : Nat) : Prop := PJ c i j ∨ (c = 7 ∧ i = 0) ∨ (c = 12 ∧ j = 22)
theorem Inv_m {B B' : Int} {h h' : qH} {a a' : qB} (hi : Inv B h a) (hf : fr PCm h h') (hc : ∀ y : Int, 100 ≤ y → y < 1488 → h' 12 0 20 (Int.toNat y) = h 12 0 20 (Int.toNat y)) (hn : ∀ y : Int, 7 ≤ y → y < 28 → h' 12 0 22 (Int.toNat y) = h 12 0 22 (Int.toNat y)) (hQ : qQX h' 0 a') (hM : qM h' 0 a') (hW : qwf B' a') (hB : B ≤ B') (hN : nRel h' 0 0 (a' 0)) (h0 : a 0 ≤ a' 0) (h1 : a 1 ≤ a' 1) (hs : h' 11 0 17 0 = h' 12 0 0 0) : Inv B' h' a' := by
  have n : ∀ c i j, ¬ PCm c i j → h' c i j = h c i j := hf
  unfold PCm PJ Scr at n
  obtain ⟨⟨q1, q2, q3, q4, q5⟩, i2, i3, i4, i5, i6⟩ := hi
  refine ⟨⟨hQ, hM, hW, hN, ?_⟩, ?_, ?_, ?_, ?_, tB_e i6 (by funext i j; exact n 6 i j (by omega))⟩
  · exact dRel_nm (dRel_e q5 (by funext j; exact n 1 0 j (by omega)) (fun y y0 y1 => hc y (by omega) (by omega))) h0 h1
  · have i2 := mRel_B i2 hB
    unfold mRel at *
    rw [n 11 0 16 (by omega), n 12 0 23 (by omega)]
    refine ⟨i2.1, i2.2.1, fun k hk => ?_⟩
    obtain ⟨b, hb⟩ := i2.2.2 k hk
    have k3 := i2.2.1
    have wn := wf_n hb.2.2.1
    refine ⟨b, qx_fr hb.1 (by funext j; exact n 7 (2 + k) j (by omega)), fun x x0 x1 => ?_, hb.2.2.1, fun j j0 j1 => ?_, dRel_e hb.2.2.2.2 (by funext j; exact n 1 (2 + k) j (by omega)) (fun y y0 y1 => hc y (by omega) (by omega))⟩
    · rw [hc _ (by omega) (by omega)]; exact hb.2.1 x x0 x1
    · rw [n 7 (2 + k) 0 (by omega), hn _ (by omega) (by omega)]; exact hb.2.2.2.1 j j0 j1
  · exact tRel_e i3 (by funext i j; exact n 10 i j (by omega)) (n 12 0 4 (by omega)) (n 12 0 5 (by omega)) (n 12 0 6 (by omega))
  · exact pRel_e i4 (n 9 0 0 (by omega)) (n 9 0 1 (by omega)) (n 12 0 7 (by omega)) (n 12 0 8 (by omega))
  · unfold oRel at *
    rw [n 90 0 0 (by omega), hs, n 11 0 18 (by omega), n 11 0 19 (by omega), n 12 0 10 (by omega), n 12 0 11 (by omega), n 4 0 0 (by omega), n 4 0 1 (by omega), n 12 0 2 (by omega), n 12 0 3 (by omega), n 5 0 1 (by omega), n 12 0 40 (by omega), n 12 0 39 (by omega), n 5 0 5 (by omega), n 5 0 6 (by omega), n 5 0 7 (by omega), n 5 0 8 (by omega), n 5 0 2 (by omega)]
    exact ⟨i5.1, rfl, i5.2.2⟩
