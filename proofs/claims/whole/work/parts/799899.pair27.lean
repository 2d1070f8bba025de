section Qc
variable {B : Int} {h h' : qH} {a : qB} {i i1 : Nat} {bl bl' : Int}
theorem qRel_e2 (hq : qRel B h i bl a) (b0 : 0 ≤ bl) (e1 : h' 7 i = h 7 i) (e2 : h' 1 i = h 1 i) (e3 : ∀ y, 372 * bl ≤ y → y < 372 * bl + 372 → h' 12 0 20 (Int.toNat y) = h 12 0 20 (Int.toNat y)) (e4 : ∀ y, 7 * bl ≤ y → y < 7 * bl + 7 → h' 12 0 22 (Int.toNat y) = h 12 0 22 (Int.toNat y)) : qRel B h' i bl a := by
  have wn := wf_n hq.2.2.1
  refine ⟨qx_fr hq.1 e1, fun x x0 x1 => by rw [e3 _ (by omega) (by omega)]; exact hq.2.1 x x0 x1, hq.2.2.1, fun j j0 j1 => ?_, dRel_e hq.2.2.2.2 e2 (fun y y0 y1 => e3 y (by omega) y1)⟩
  rw [e1, e4 _ (by omega) (by omega)]
  exact hq.2.2.2.1 j j0 j1
theorem qRel_cp (hq : qRel B h i1 bl a) (b0 : 0 ≤ bl) (b0' : 0 ≤ bl') (Q : qQX h' i a) (nn : ∀ k, k < 7 → h' 7 i 0 k = h 7 i1 0 k) (e1 : ∀ j, j < 5 → ∀ k, k < 60 → h' 1 i j k = h 1 i1 j k) (e2 : ∀ j, 5 ≤ j → j ≤ 7 → h' 1 i j 0 = h 1 i1 j 0) (e3 : ∀ y, 0 ≤ y → y < 372 → h' 12 0 20 (Int.toNat (372 * bl' + y)) = h 12 0 20 (Int.toNat (372 * bl + y))) (e4 : ∀ j, 0 ≤ j → j < 7 → h' 12 0 22 (Int.toNat (7 * bl' + j)) = h 12 0 22 (Int.toNat (7 * bl + j))) : qRel B h' i bl' a := by
  have wn := wf_n hq.2.2.1
  refine ⟨Q, fun x x0 x1 => by rw [e3 x x0 (by omega)]; exact hq.2.1 x x0 x1, hq.2.2.1, fun j j0 j1 => ?_, dRel_cp b0 b0' hq.2.2.2.2 e1 e2 e3⟩
  rw [nn _ (by omega), e4 j j0 (by omega)]
  exact hq.2.2.2.1 j j0 j1
end Qc
theorem p_mark : Pair 155 327 [] [] := by
  intro d B h a K X S hi b0 b1 hK hS
  have hQ := hi.1.1
  have mr := hi.2.1
  obtain ⟨M, hM⟩ : ∃ M : Nat, h 11 0 16 0 = M := ⟨(h 11 0 16 0).toNat, by have := mr.2.1; omega⟩
  have m12 : h 12 0 23 0 = M := by rw [← mr.1]; exact hM
  have M3 : M ≤ 3 := by have := mr.2.1; omega
  refine sX11_mark_0 ?_
  rw [hM]
  refine ⟨fun c => ⟨by omega, ?_⟩, fun c => ?_⟩
  · rw [show Int.toNat (M : Int) = M from rfl]
    refine x_takeOver (by omega) hQ (fun g1 Q1 f1 n1 => ?_)
    have m1 : g1 11 0 16 0 = M := by rw [f1 11 0 (by omega)]; exact hM
    dsimp only [qrv]
    rw [m1, show Int.toNat (M : Int) = M from rfl]
    have b10 : g1 1 0 = h 1 0 := f1 1 0 (by omega)
    refine ⟨by omega, x_dTake (by omega) (by rw [b10]; exact hi.1.2.2.2.2.2.2.2) (fun g2 f2 e1 e2 => ?_)⟩
    have m2 : g2 11 0 16 0 = M := by rw [f2 11 0 (by omega)]; exact m1
    dsimp only [qrv]
    rw [m2, up_at]
    obtain ⟨g3, hg3⟩ : ∃ g3, qup (qup g2 11 0 16 0 ((M : Int) + 1)) 11 0 17 0 0 = g3 := ⟨_, rfl⟩
    have n3 : ∀ c i j, c ≠ 7 → c ≠ 1 → c ≠ 11 → g3 c i j = h c i j := fun c i j c7 c1 c11 => by rw [← hg3, up_j (by omega), up_j (by omega), f2 c i (by omega), f1 c i (by omega)]
    have n37 : ∀ i j, g3 7 i j = g1 7 i j := fun i j => by rw [← hg3, up_j (by omega), up_j (by omega), f2 7 i (by omega)]
    have n31 : ∀ i j, g3 1 i j = g2 1 i j := fun i j => by rw [← hg3, up_j (by omega), up_j (by omega)]
    have f3 : fr PBg h g3 := by
      rw [← hg3]
      refine fr_trans (fun c i j nP => ?_) (fr_trans (h' := qup g2 11 0 16 0 ((M : Int) + 1)) (fr_up (PB_up (by decide))) (fr_up (PB_up (by decide))))
      rw [f2 c i (fun e => nP (PB_up (Or.inr (Or.inl e.1)))), f1 c i (fun e => nP (PB_up (Or.inl e.1)))]
    refine ⟨qR_of (by omega) (by omega), sX11_answer_0 ?_⟩
    dsimp only [qri]
    rw [hg3]
    refine hS _ _ (fr_91B f3) (sX12_mark_0 ?_)
    rw [n3 12 0 23 (by omega) (by omega) (by omega), m12]
    refine ⟨fun _ => ⟨qR_of (by omega) (by omega), ?_⟩, fun c2 => absurd (by omega) c2⟩
    rw [up_at]
    obtain ⟨g4, hg4⟩ : ∃ g4, qup (qup (qup g3 12 0 1 0 0) 12 0 0 0 0) 12 0 23 0 ((M : Int) + 1) = g4 := ⟨_, rfl⟩
    have n4 : ∀ c i j, ¬ (c = 12 ∧ (j = 0 ∨ j = 1 ∨ j = 23)) → g4 c i j = g3 c i j := fun c i j n => by rw [← hg4, up_j (by omega), up_j (by omega), up_j (by omega)]
    rw [hg4]
    refine m_copy (by omega) (by omega) (by omega) (by omega) (by omega) (fun g5 f5 c5 k5 => ?_)
    have n5 : ∀ c i j, ¬ (c = 12 ∧ (j = 0 ∨ j = 1 ∨ j = 23 ∨ j = 20 ∨ j = 22)) → g5 c i j = g3 c i j := fun c i j n => by rw [f5 c i j (by omega), n4 c i j (by omega)]
    have e23 : g5 12 0 23 0 = (M : Int) + 1 := by rw [f5 12 0 23 (by omega), ← hg4]; exact up_at
    have e16 : g5 11 0 16 0 = (M : Int) + 1 := by rw [n5 11 0 16 (by omega), ← hg3, up_j (by omega)]; exact up_at
    have cc : ∀ y, 0 ≤ y → g5 12 0 20 (Int.toNat y) = if 372 * ((M : Int) + 1) ≤ y ∧ y < 372 * ((M : Int) + 1) + 372 then h 12 0 20 (Int.toNat (y - 372 * ((M : Int) + 1) + 372 * 0)) else h 12 0 20 (Int.toNat y) := fun y y0 => by rw [c5 y y0, n4 12 0 20 (by omega), n3 12 0 20 (by omega) (by omega) (by omega)]
    have kk : ∀ y, 0 ≤ y → g5 12 0 22 (Int.toNat y) = if 7 * ((M : Int) + 1) ≤ y ∧ y < 7 * ((M : Int) + 1) + 7 then h 12 0 22 (Int.toNat (y - 7 * ((M : Int) + 1) + 7 * 0)) else h 12 0 22 (Int.toNat y) := fun y y0 => by rw [k5 y y0, n4 12 0 22 (by omega), n3 12 0 22 (by omega) (by omega) (by omega)]
    have g57 : ∀ i, i ≠ 2 + M → g5 7 i = h 7 i := fun i ni => by funext j; rw [n5 7 i j (by omega), n37, f1 7 i (by omega)]
    have g51 : ∀ i, i ≠ 2 + M → g5 1 i = h 1 i := fun i ni => by funext j; rw [n5 1 i j (by omega), n31, f2 1 i (by omega), f1 1 i (by omega)]
    have f6 : fr PBg h g5 := by
      refine fr_trans f3 (fun c i j nP => ?_)
      by_cases c12 : c = 12 ∧ (j = 0 ∨ j = 1 ∨ j = 23 ∨ j = 20 ∨ j = 22)
      · exact absurd (PB_up (by omega)) nP
      · exact n5 c i j c12
    dsimp only [qrv]
    rw [e23]
    refine okR (hK g5 a (Inv_g hi f6 ?_ ?_ ?_ ?_ ?_ ?_) (fr_91B f6)) rfl
    · exact qRel_e2 (qRel_B hi.1 (by omega)) (by omega) (g57 0 (by omega)) (g51 0 (by omega)) (fun y y0 y1 => by rw [cc y (by omega), if_neg (by omega)]) (fun y y0 y1 => by rw [kk y (by omega), if_neg (by omega)])
    · refine ⟨by rw [e16, e23], by rw [e16]; omega, fun k hk => ?_⟩
      rw [e16] at hk
      by_cases ek : k = M
      · subst ek
        refine ⟨a, qRel_cp (i1 := 0) (bl := 0) (qRel_B hi.1 (by omega)) (by omega) (by omega) (qx_fr Q1 ?_) (fun k' k7 => ?_) (fun j j5 k' k6 => ?_) (fun j j5 j7 => ?_) (fun y y0 y1 => ?_) (fun j j0 j7 => ?_)⟩
        · funext j; rw [n5 7 _ j (by omega), n37]
        · rw [n5 7 _ 0 (by omega), n37]; exact n1 k' k7
        · rw [n5 1 _ j (by omega), n31, e1 j j5 k' k6, b10]
        · rw [n5 1 _ j (by omega), n31, e2 j j5 j7, b10]
        · rw [cc _ (by omega), if_pos (by omega), show 372 * ((k : Int) + 1) + y - 372 * ((k : Int) + 1) + 372 * 0 = 372 * 0 + y by omega]
        · rw [kk _ (by omega), if_pos (by omega), show 7 * ((k : Int) + 1) + j - 7 * ((k : Int) + 1) + 7 * 0 = 7 * 0 + j by omega]
      · obtain ⟨b, hb⟩ := mr.2.2 k (by omega)
        exact ⟨b, qRel_e2 (qRel_B hb (by omega)) (by omega) (g57 _ (by omega)) (g51 _ (by omega)) (fun y y0 y1 => by rw [cc y (by omega), if_neg (by omega)]) (fun y y0 y1 => by rw [kk y (by omega), if_neg (by omega)])⟩
    · exact pRel_e hi.2.2.2.1 (by rw [n5 9 0 0 (by omega), n3 9 0 0 (by omega) (by omega) (by omega)]) (by rw [n5 9 0 1 (by omega), n3 9 0 1 (by omega) (by omega) (by omega)]) (by rw [n5 12 0 7 (by omega), n3 12 0 7 (by omega) (by omega) (by omega)]) (by rw [n5 12 0 8 (by omega), n3 12 0 8 (by omega) (by omega) (by omega)])
    · rw [n5 11 0 17 (by omega), ← hg3, up_at, f5 12 0 0 (by omega), ← hg4, up_j (by omega), up_at]
    · rw [n5 11 0 18 (by omega), n5 12 0 10 (by omega), n3 12 0 10 (by omega) (by omega) (by omega), ← hg3, up_j (by omega), up_j (by omega), f2 11 0 (by omega), f1 11 0 (by omega)]
      exact hi.2.2.2.2.1.2.2.1
    · rw [n5 11 0 19 (by omega), n5 12 0 11 (by omega), n3 12 0 11 (by omega) (by omega) (by omega), ← hg3, up_j (by omega), up_j (by omega), f2 11 0 (by omega), f1 11 0 (by omega)]
      exact hi.2.2.2.2.1.2.2.2.1
  · have e : (qup h 11 0 17 0 7) 12 0 23 0 = M := by rw [up_j (by omega)]; exact m12
    refine sX11_answer_0 (hS _ _ s_91 (sX12_mark_0 ?_))
    rw [e]
    exact ⟨fun c2 => absurd (by omega) c2, fun _ => m_refuse (okR (kS hi hK 7) rfl)⟩
theorem p_back : Pair 156 328 [] [] := by
  intro d B h a K X S hi b0 b1 hK hS
  have mr := hi.2.1
  refine sX11_back_0 ⟨fun c => ?_, fun c => ?_⟩
  · obtain ⟨M, hM⟩ : ∃ M : Nat, h 11 0 16 0 = (M : Int) + 1 := ⟨(h 11 0 16 0 - 1).toNat, by omega⟩
    have m12 : h 12 0 23 0 = (M : Int) + 1 := by rw [← mr.1]; exact hM
    have M3 : M ≤ 2 := by have := mr.2.1; omega
    obtain ⟨a', ha'⟩ := mr.2.2 M (by omega)
    rw [up_at, hM, show (M : Int) + 1 - 1 = M by omega, show Int.toNat (M : Int) = M from rfl]
    obtain ⟨h1, hh1⟩ : ∃ h1, qup h 11 0 16 0 (M : Int) = h1 := ⟨_, rfl⟩
    have n1 : ∀ c i j, ¬ (c = 11 ∧ j = 16) → h1 c i j = h c i j := fun c i j n => by rw [← hh1, up_j (by omega)]
    have m1 : h1 11 0 16 0 = M := by rw [← hh1]; exact up_at
    rw [hh1]
    refine ⟨qR_of (by omega) (by omega), by omega, x_takeOver (by omega) (qx_fr ha'.1 (by funext j; exact n1 7 _ j (by omega))) (fun g1 Q1 f1 k1 => ?_)⟩
    have mg1 : g1 11 0 16 0 = M := by rw [f1 11 0 (by omega)]; exact m1
    dsimp only [qrv]
    rw [mg1, show Int.toNat (M : Int) = M from rfl]
    have b10 : g1 1 (2 + M) = h 1 (2 + M) := by rw [f1 1 _ (by omega)]; funext j; exact n1 1 _ j (by omega)
    refine ⟨by omega, x_dTake (by omega) (by rw [b10]; exact ha'.2.2.2.2.2.2.2) (fun g2 f2 e1 e2 => ?_)⟩
    have m2 : g2 11 0 16 0 = M := by rw [f2 11 0 (by omega)]; exact mg1
    dsimp only [qrv]
    rw [m2]
    obtain ⟨g3, hg3⟩ : ∃ g3, qup g2 11 0 17 0 0 = g3 := ⟨_, rfl⟩
    have n3 : ∀ c i j, c ≠ 7 → c ≠ 1 → c ≠ 11 → g3 c i j = h c i j := fun c i j c7 c1 c11 => by rw [← hg3, up_j (by omega), f2 c i (by omega), f1 c i (by omega), n1 c i j (by omega)]
    have n37 : ∀ i j, g3 7 i j = g1 7 i j := fun i j => by rw [← hg3, up_j (by omega), f2 7 i (by omega)]
    have n31 : ∀ i j, g3 1 i j = g2 1 i j := fun i j => by rw [← hg3, up_j (by omega)]
    have f3 : fr PBg h g3 := by
      rw [← hg3]
      refine fr_trans (h' := h1) (by rw [← hh1]; exact fr_up (PB_up (by decide))) (fr_trans (h' := g2) (fun c i j nP => ?_) (fr_up (PB_up (by decide))))
      rw [f2 c i (fun e => nP (PB_up (Or.inr (Or.inl e.1)))), f1 c i (fun e => nP (PB_up (Or.inl e.1)))]
    refine sX11_answer_0 ?_
    dsimp only [qri]
    rw [hg3]
    refine hS _ _ (fr_91B f3) (sX12_back_0 ?_)
    rw [n3 12 0 23 (by omega) (by omega) (by omega), m12]
    refine ⟨fun _ => ?_, fun c2 => absurd (show (M : Int) + 1 ≠ 0 by omega) c2⟩
    obtain ⟨g4, hg4⟩ : ∃ g4, qup (qup g3 12 0 1 0 0) 12 0 0 0 0 = g4 := ⟨_, rfl⟩
    have n4 : ∀ c i j, ¬ (c = 12 ∧ (j = 0 ∨ j = 1)) → g4 c i j = g3 c i j := fun c i j n => by rw [← hg4, up_j (by omega), up_j (by omega)]
    rw [hg4]
    refine m_copy (by omega) (by omega) (by omega) (by omega) (by omega) (fun g5 f5 c5 k5 => ?_)
    have e23 : g5 12 0 23 0 = (M : Int) + 1 := by rw [f5 12 0 23 (by omega), n4 12 0 23 (by omega), n3 12 0 23 (by omega) (by omega) (by omega)]; exact m12
    dsimp only [qrv]
    rw [e23, up_at, show (M : Int) + 1 - 1 = M by omega]
    obtain ⟨g6, hg6⟩ : ∃ g6, qup g5 12 0 23 0 (M : Int) = g6 := ⟨_, rfl⟩
    rw [hg6]
    have n5 : ∀ c i j, ¬ (c = 12 ∧ (j = 0 ∨ j = 1 ∨ j = 23 ∨ j = 20 ∨ j = 22)) → g6 c i j = g3 c i j := fun c i j n => by rw [← hg6, up_j (by omega), f5 c i j (by omega), n4 c i j (by omega)]
    have e23 : g6 12 0 23 0 = M := by rw [← hg6]; exact up_at
    have e16 : g6 11 0 16 0 = M := by rw [n5 11 0 16 (by omega), ← hg3, up_j (by omega)]; exact m2
    have cc : ∀ y, 0 ≤ y → g6 12 0 20 (Int.toNat y) = if 372 * 0 ≤ y ∧ y < 372 * 0 + 372 then h 12 0 20 (Int.toNat (y - 372 * 0 + 372 * ((M : Int) + 1))) else h 12 0 20 (Int.toNat y) := fun y y0 => by rw [← hg6, up_j (by omega), c5 y y0, n4 12 0 20 (by omega), n3 12 0 20 (by omega) (by omega) (by omega)]
    have kk : ∀ y, 0 ≤ y → g6 12 0 22 (Int.toNat y) = if 7 * 0 ≤ y ∧ y < 7 * 0 + 7 then h 12 0 22 (Int.toNat (y - 7 * 0 + 7 * ((M : Int) + 1))) else h 12 0 22 (Int.toNat y) := fun y y0 => by rw [← hg6, up_j (by omega), k5 y y0, n4 12 0 22 (by omega), n3 12 0 22 (by omega) (by omega) (by omega)]
    have g57 : ∀ i, i ≠ 0 → g6 7 i = h 7 i := fun i ni => by funext j; rw [n5 7 i j (by omega), n37, f1 7 i (by omega), n1 7 i j (by omega)]
    have g51 : ∀ i, i ≠ 0 → g6 1 i = h 1 i := fun i ni => by funext j; rw [n5 1 i j (by omega), n31, f2 1 i (by omega), f1 1 i (by omega), n1 1 i j (by omega)]
    have f6 : fr PBg h g6 := by
      refine fr_trans f3 (fun c i j nP => ?_)
      by_cases c12 : c = 12 ∧ (j = 0 ∨ j = 1 ∨ j = 23 ∨ j = 20 ∨ j = 22)
      · exact absurd (PB_up (by omega)) nP
      · exact n5 c i j c12
    refine ⟨qR_of (by omega) (by omega), okR (hK g6 a' (Inv_g hi f6 ?_ ?_ ?_ ?_ ?_ ?_) (fr_91B f6)) rfl⟩
    · refine qRel_cp (i1 := 2 + M) (bl := (M : Int) + 1) (qRel_B ha' (by omega)) (by omega) (by omega) (qx_fr Q1 ?_) (fun k' k7 => ?_) (fun j j5 k' k6 => ?_) (fun j j5 j7 => ?_) (fun y y0 y1 => ?_) (fun j j0 j7 => ?_)
      · funext j; rw [n5 7 _ j (by omega), n37]
      · rw [n5 7 _ 0 (by omega), n37, k1 k' k7, n1 7 _ 0 (by omega)]
      · rw [n5 1 _ j (by omega), n31, e1 j j5 k' k6, b10]
      · rw [n5 1 _ j (by omega), n31, e2 j j5 j7, b10]
      · rw [cc _ (by omega), if_pos (by omega), show 372 * 0 + y - 372 * 0 + 372 * ((M : Int) + 1) = 372 * ((M : Int) + 1) + y by omega]
      · rw [kk _ (by omega), if_pos (by omega), show 7 * 0 + j - 7 * 0 + 7 * ((M : Int) + 1) = 7 * ((M : Int) + 1) + j by omega]
    · refine ⟨by rw [e16, e23], by rw [e16]; omega, fun k hk => ?_⟩
      rw [e16] at hk
      obtain ⟨b, hb⟩ := mr.2.2 k (by omega)
      exact ⟨b, qRel_e2 (qRel_B hb (by omega)) (by omega) (g57 _ (by omega)) (g51 _ (by omega)) (fun y y0 y1 => by rw [cc y (by omega), if_neg (by omega)]) (fun y y0 y1 => by rw [kk y (by omega), if_neg (by omega)])⟩
    · exact pRel_e hi.2.2.2.1 (by rw [n5 9 0 0 (by omega), n3 9 0 0 (by omega) (by omega) (by omega)]) (by rw [n5 9 0 1 (by omega), n3 9 0 1 (by omega) (by omega) (by omega)]) (by rw [n5 12 0 7 (by omega), n3 12 0 7 (by omega) (by omega) (by omega)]) (by rw [n5 12 0 8 (by omega), n3 12 0 8 (by omega) (by omega) (by omega)])
    · rw [n5 11 0 17 (by omega), ← hg3, up_at, ← hg6, up_j (by omega), f5 12 0 0 (by omega), ← hg4, up_at]
    · rw [n5 11 0 18 (by omega), n5 12 0 10 (by omega), n3 12 0 10 (by omega) (by omega) (by omega), ← hg3, up_j (by omega), f2 11 0 (by omega), f1 11 0 (by omega), n1 11 0 18 (by omega)]
      exact hi.2.2.2.2.1.2.2.1
    · rw [n5 11 0 19 (by omega), n5 12 0 11 (by omega), n3 12 0 11 (by omega) (by omega) (by omega), ← hg3, up_j (by omega), f2 11 0 (by omega), f1 11 0 (by omega), n1 11 0 19 (by omega)]
      exact hi.2.2.2.2.1.2.2.2.1
  · have m0' := mr.2.1
    have e : (qup h 11 0 17 0 8) 12 0 23 0 = 0 := by rw [up_j (by omega), ← mr.1]; omega
    refine sX11_answer_0 (hS _ _ s_91 (sX12_back_0 ?_))
    rw [e]
    exact ⟨fun c2 => absurd rfl c2, fun _ => m_refuse (okR (kS hi hK 8) rfl)⟩
