/-! the law's calls, each by its pair -/
theorem pair_go {y z : Nat} {l l' : List qV} (P : Pair y z l l') {d : Nat} {B : Int} {h : qH} {a : qB} (K X : qH → Prop) {S : Option qV → qH → Prop} (hi : Inv B h a) (b0 : 0 ≤ B) (b1 : B + 300 < 2000000000) (hK : ∀ g a', Inv (B + 300) g a' → g 91 = h 91 → K g) (hS : ∀ r g, g 91 = h 91 → qT (d + 39) z 0 (qo 12 0 :: l') [] g (fun w' g' => qri w' fun r' => (r = r' → K g') ∧ (¬ r = r' → X g')) → S (some (qi r)) g) : qT (d + 39) y 0 (qo 11 0 :: l) [] h S := P hi b0 b1 hK hS
theorem pair_goL {y z : Nat} {l l' : List qV} (P : PairL y z l l') {d : Nat} {B : Int} {h : qH} {a : qB} (K X : qH → Prop) {S : Option qV → qH → Prop} (hi : Inv B h a) (b0 : 0 ≤ B) (b1 : B + 300 < 2000000000) (hK : ∀ g a', Inv (B + 300) g a' → g 91 = h 91 → K g) (hS : ∀ r g, g 91 = h 91 → qT (d + 39) z 0 (qo 12 0 :: l') [] g (fun w' g' => qrl w' fun r' => (qlcmp r r' = 0 → K g') ∧ (¬ qlcmp r r' = 0 → X g')) → S (some (ql r)) g) : qT (d + 39) y 0 (qo 11 0 :: l) [] h S := P hi b0 b1 hK hS
section Lc
variable {d : Nat} {R : Option qV → qH → Prop} {B : Int} {h : qH} {a : qB} {x3 : Int}
theorem lc_252 (hi : Inv B h a) (b0 : 0 ≤ B) (b1 : B + 300 < 2000000000) (hq : ∀ j, qR (h 91 0 0 j)) (x0 : 0 ≤ x3) (x1 : x3 + 6 ≤ h 91 0 1 0) (xl : h 91 0 1 0 ≤ 3072) (hK : ∀ g a', Inv (B + 300) g a' → g 91 = h 91 → qT (d + 40) 330 1718 [qa 91 0 0, qo 11 0, qo 12 0, qi x3] [] g R) : qT (d + 40) 330 252 [qa 91 0 0, qo 11 0, qo 12 0, qi x3] [] h R := by
  refine lw_252 (pair_go p_status (fun g => qT (d + 40) 330 1718 [qa 91 0 0, qo 11 0, qo 12 0, qi x3] [] g R) (fun g => ((0 : Int) = 0 ∨ (0 : Int) = 1) ∧ R (some (qi 0)) g) hi b0 b1 hK (fun r g e H => ?_))
  exact H
theorem lc_265 (hi : Inv B h a) (b0 : 0 ≤ B) (b1 : B + 300 < 2000000000) (hq : ∀ j, qR (h 91 0 0 j)) (x0 : 0 ≤ x3) (x1 : x3 + 6 ≤ h 91 0 1 0) (xl : h 91 0 1 0 ≤ 3072) (hK : ∀ g a', Inv (B + 300) g a' → g 91 = h 91 → qT (d + 40) 330 1718 [qa 91 0 0, qo 11 0, qo 12 0, qi x3] [] g R) : qT (d + 40) 330 265 [qa 91 0 0, qo 11 0, qo 12 0, qi x3] [] h R := by
  refine lw_265 (pair_goL p_top (fun g => qT (d + 40) 330 1718 [qa 91 0 0, qo 11 0, qo 12 0, qi x3] [] g R) (fun g => ((0 : Int) = 0 ∨ (0 : Int) = 1) ∧ R (some (qi 0)) g) hi b0 b1 hK (fun r g e H => ?_))
  exact H
theorem lc_279 (hi : Inv B h a) (b0 : 0 ≤ B) (b1 : B + 300 < 2000000000) (hq : ∀ j, qR (h 91 0 0 j)) (x0 : 0 ≤ x3) (x1 : x3 + 6 ≤ h 91 0 1 0) (xl : h 91 0 1 0 ≤ 3072) (hK : ∀ g a', Inv (B + 300) g a' → g 91 = h 91 → qT (d + 40) 330 1718 [qa 91 0 0, qo 11 0, qo 12 0, qi x3] [] g R) : qT (d + 40) 330 279 [qa 91 0 0, qo 11 0, qo 12 0, qi x3] [] h R := by
  refine lw_279 (pair_goL p_bottom (fun g => qT (d + 40) 330 1718 [qa 91 0 0, qo 11 0, qo 12 0, qi x3] [] g R) (fun g => ((0 : Int) = 0 ∨ (0 : Int) = 1) ∧ R (some (qi 0)) g) hi b0 b1 hK (fun r g e H => ?_))
  exact H
theorem lc_293 (hi : Inv B h a) (b0 : 0 ≤ B) (b1 : B + 300 < 2000000000) (hq : ∀ j, qR (h 91 0 0 j)) (x0 : 0 ≤ x3) (x1 : x3 + 6 ≤ h 91 0 1 0) (xl : h 91 0 1 0 ≤ 3072) (hK : ∀ g a', Inv (B + 300) g a' → g 91 = h 91 → qT (d + 40) 330 1718 [qa 91 0 0, qo 11 0, qo 12 0, qi x3] [] g R) : qT (d + 40) 330 293 [qa 91 0 0, qo 11 0, qo 12 0, qi x3] [] h R := by
  refine lw_293 ⟨qR_of (by omega) (by omega), by omega, qR_of (by omega) (by omega), by omega, qR_of (by omega) (by omega), by omega, pair_go p_tray (fun g => qT (d + 40) 330 1718 [qa 91 0 0, qo 11 0, qo 12 0, qi x3] [] g R) (fun g => ((0 : Int) = 0 ∨ (0 : Int) = 1) ∧ R (some (qi 0)) g) hi b0 b1 hK (fun r g e H => ?_)⟩
  dsimp only [qri]
  rw [e]
  exact ⟨qR_of (by omega) (by omega), by omega, qR_of (by omega) (by omega), by omega, qR_of (by omega) (by omega), by omega, H⟩
theorem lc_336 (hi : Inv B h a) (b0 : 0 ≤ B) (b1 : B + 300 < 2000000000) (hq : ∀ j, qR (h 91 0 0 j)) (x0 : 0 ≤ x3) (x1 : x3 + 6 ≤ h 91 0 1 0) (xl : h 91 0 1 0 ≤ 3072) (hK : ∀ g a', Inv (B + 300) g a' → g 91 = h 91 → qT (d + 40) 330 1718 [qa 91 0 0, qo 11 0, qo 12 0, qi x3] [] g R) : qT (d + 40) 330 336 [qa 91 0 0, qo 11 0, qo 12 0, qi x3] [] h R := by
  refine lw_336 ⟨qR_of (by omega) (by omega), by omega, qR_of (by omega) (by omega), by omega, qR_of (by omega) (by omega), by omega, qR_of (by omega) (by omega), by omega, pair_go (p_write (hq (Int.toNat (x3 + 2)))) (fun g => qT (d + 40) 330 1718 [qa 91 0 0, qo 11 0, qo 12 0, qi x3] [] g R) (fun g => ((0 : Int) = 0 ∨ (0 : Int) = 1) ∧ R (some (qi 0)) g) hi b0 b1 hK (fun r g e H => ?_)⟩
  dsimp only [qri]
  rw [e]
  exact ⟨qR_of (by omega) (by omega), by omega, qR_of (by omega) (by omega), by omega, qR_of (by omega) (by omega), by omega, qR_of (by omega) (by omega), by omega, H⟩
theorem lc_409 (hi : Inv B h a) (b0 : 0 ≤ B) (b1 : B + 300 < 2000000000) (hq : ∀ j, qR (h 91 0 0 j)) (x0 : 0 ≤ x3) (x1 : x3 + 6 ≤ h 91 0 1 0) (xl : h 91 0 1 0 ≤ 3072) (hK : ∀ g a', Inv (B + 300) g a' → g 91 = h 91 → qT (d + 40) 330 1718 [qa 91 0 0, qo 11 0, qo 12 0, qi x3] [] g R) : qT (d + 40) 330 409 [qa 91 0 0, qo 11 0, qo 12 0, qi x3] [] h R := by
  refine lw_409 ⟨qR_of (by omega) (by omega), by omega, qR_of (by omega) (by omega), by omega, pair_goL (p_read (hq (Int.toNat (x3 + 2)))) (fun g => qT (d + 40) 330 1718 [qa 91 0 0, qo 11 0, qo 12 0, qi x3] [] g R) (fun g => ((0 : Int) = 0 ∨ (0 : Int) = 1) ∧ R (some (qi 0)) g) hi b0 b1 hK (fun r g e H => ?_)⟩
  dsimp only [qrl]
  rw [e]
  exact ⟨qR_of (by omega) (by omega), by omega, qR_of (by omega) (by omega), by omega, H⟩
theorem lc_443 (hi : Inv B h a) (b0 : 0 ≤ B) (b1 : B + 300 < 2000000000) (hq : ∀ j, qR (h 91 0 0 j)) (x0 : 0 ≤ x3) (x1 : x3 + 6 ≤ h 91 0 1 0) (xl : h 91 0 1 0 ≤ 3072) (hK : ∀ g a', Inv (B + 300) g a' → g 91 = h 91 → qT (d + 40) 330 1718 [qa 91 0 0, qo 11 0, qo 12 0, qi x3] [] g R) : qT (d + 40) 330 443 [qa 91 0 0, qo 11 0, qo 12 0, qi x3] [] h R := by
  refine lw_443 ⟨qR_of (by omega) (by omega), by omega, qR_of (by omega) (by omega), by omega, qR_of (by omega) (by omega), by omega, qR_of (by omega) (by omega), by omega, qR_of (by omega) (by omega), by omega, pair_go (p_pour (hq (Int.toNat (x3 + 2))) (hq (Int.toNat (x3 + 4))) (hq (Int.toNat (x3 + 5)))) (fun g => qT (d + 40) 330 1718 [qa 91 0 0, qo 11 0, qo 12 0, qi x3] [] g R) (fun g => ((0 : Int) = 0 ∨ (0 : Int) = 1) ∧ R (some (qi 0)) g) hi b0 b1 hK (fun r g e H => ?_)⟩
  dsimp only [qri]
  rw [e]
  exact ⟨qR_of (by omega) (by omega), by omega, qR_of (by omega) (by omega), by omega, qR_of (by omega) (by omega), by omega, qR_of (by omega) (by omega), by omega, qR_of (by omega) (by omega), by omega, H⟩
theorem lc_506 (hi : Inv B h a) (b0 : 0 ≤ B) (b1 : B + 300 < 2000000000) (hq : ∀ j, qR (h 91 0 0 j)) (x0 : 0 ≤ x3) (x1 : x3 + 6 ≤ h 91 0 1 0) (xl : h 91 0 1 0 ≤ 3072) (hK : ∀ g a', Inv (B + 300) g a' → g 91 = h 91 → qT (d + 40) 330 1718 [qa 91 0 0, qo 11 0, qo 12 0, qi x3] [] g R) : qT (d + 40) 330 506 [qa 91 0 0, qo 11 0, qo 12 0, qi x3] [] h R := by
  refine lw_506 ⟨qR_of (by omega) (by omega), by omega, qR_of (by omega) (by omega), by omega, qR_of (by omega) (by omega), by omega, qR_of (by omega) (by omega), by omega, qR_of (by omega) (by omega), by omega, pair_go p_feed (fun g => qT (d + 40) 330 1718 [qa 91 0 0, qo 11 0, qo 12 0, qi x3] [] g R) (fun g => ((0 : Int) = 0 ∨ (0 : Int) = 1) ∧ R (some (qi 0)) g) hi b0 b1 hK (fun r g e H => ?_)⟩
  dsimp only [qri]
  rw [e]
  exact ⟨qR_of (by omega) (by omega), by omega, qR_of (by omega) (by omega), by omega, qR_of (by omega) (by omega), by omega, qR_of (by omega) (by omega), by omega, qR_of (by omega) (by omega), by omega, H⟩
theorem lc_569 (hi : Inv B h a) (b0 : 0 ≤ B) (b1 : B + 300 < 2000000000) (hq : ∀ j, qR (h 91 0 0 j)) (x0 : 0 ≤ x3) (x1 : x3 + 6 ≤ h 91 0 1 0) (xl : h 91 0 1 0 ≤ 3072) (hK : ∀ g a', Inv (B + 300) g a' → g 91 = h 91 → qT (d + 40) 330 1718 [qa 91 0 0, qo 11 0, qo 12 0, qi x3] [] g R) : qT (d + 40) 330 569 [qa 91 0 0, qo 11 0, qo 12 0, qi x3] [] h R := by
  refine lw_569 ⟨qR_of (by omega) (by omega), by omega, pair_go p_quarter (fun g => qT (d + 40) 330 1718 [qa 91 0 0, qo 11 0, qo 12 0, qi x3] [] g R) (fun g => ((0 : Int) = 0 ∨ (0 : Int) = 1) ∧ R (some (qi 0)) g) hi b0 b1 hK (fun r g e H => ?_)⟩
  dsimp only [qri]
  rw [e]
  exact ⟨qR_of (by omega) (by omega), by omega, H⟩
theorem lc_592 (hi : Inv B h a) (b0 : 0 ≤ B) (b1 : B + 300 < 2000000000) (hq : ∀ j, qR (h 91 0 0 j)) (x0 : 0 ≤ x3) (x1 : x3 + 6 ≤ h 91 0 1 0) (xl : h 91 0 1 0 ≤ 3072) (hK : ∀ g a', Inv (B + 300) g a' → g 91 = h 91 → qT (d + 40) 330 1718 [qa 91 0 0, qo 11 0, qo 12 0, qi x3] [] g R) : qT (d + 40) 330 592 [qa 91 0 0, qo 11 0, qo 12 0, qi x3] [] h R := by
  refine lw_592 ⟨qR_of (by omega) (by omega), by omega, pair_go p_decades (fun g => qT (d + 40) 330 1718 [qa 91 0 0, qo 11 0, qo 12 0, qi x3] [] g R) (fun g => ((0 : Int) = 0 ∨ (0 : Int) = 1) ∧ R (some (qi 0)) g) hi b0 b1 hK (fun r g e H => ?_)⟩
  dsimp only [qri]
  rw [e]
  exact ⟨qR_of (by omega) (by omega), by omega, H⟩
theorem lc_615 (hi : Inv B h a) (b0 : 0 ≤ B) (b1 : B + 300 < 2000000000) (hq : ∀ j, qR (h 91 0 0 j)) (x0 : 0 ≤ x3) (x1 : x3 + 6 ≤ h 91 0 1 0) (xl : h 91 0 1 0 ≤ 3072) (hK : ∀ g a', Inv (B + 300) g a' → g 91 = h 91 → qT (d + 40) 330 1718 [qa 91 0 0, qo 11 0, qo 12 0, qi x3] [] g R) : qT (d + 40) 330 615 [qa 91 0 0, qo 11 0, qo 12 0, qi x3] [] h R := by
  refine lw_615 ⟨qR_of (by omega) (by omega), by omega, pair_go p_fault (fun g => qT (d + 40) 330 1718 [qa 91 0 0, qo 11 0, qo 12 0, qi x3] [] g R) (fun g => ((0 : Int) = 0 ∨ (0 : Int) = 1) ∧ R (some (qi 0)) g) hi b0 b1 hK (fun r g e H => ?_)⟩
  dsimp only [qri]
  rw [e]
  exact ⟨qR_of (by omega) (by omega), by omega, H⟩
theorem lc_638 (hi : Inv B h a) (b0 : 0 ≤ B) (b1 : B + 300 < 2000000000) (hq : ∀ j, qR (h 91 0 0 j)) (x0 : 0 ≤ x3) (x1 : x3 + 6 ≤ h 91 0 1 0) (xl : h 91 0 1 0 ≤ 3072) (hK : ∀ g a', Inv (B + 300) g a' → g 91 = h 91 → qT (d + 40) 330 1718 [qa 91 0 0, qo 11 0, qo 12 0, qi x3] [] g R) : qT (d + 40) 330 638 [qa 91 0 0, qo 11 0, qo 12 0, qi x3] [] h R := by
  refine lw_638 ⟨qR_of (by omega) (by omega), by omega, pair_go p_many (fun g => qT (d + 40) 330 1718 [qa 91 0 0, qo 11 0, qo 12 0, qi x3] [] g R) (fun g => ((0 : Int) = 0 ∨ (0 : Int) = 1) ∧ R (some (qi 0)) g) hi b0 b1 hK (fun r g e H => ?_)⟩
  dsimp only [qri]
  rw [e]
  exact ⟨qR_of (by omega) (by omega), by omega, H⟩
theorem lc_661 (hi : Inv B h a) (b0 : 0 ≤ B) (b1 : B + 300 < 2000000000) (hq : ∀ j, qR (h 91 0 0 j)) (x0 : 0 ≤ x3) (x1 : x3 + 6 ≤ h 91 0 1 0) (xl : h 91 0 1 0 ≤ 3072) (hK : ∀ g a', Inv (B + 300) g a' → g 91 = h 91 → qT (d + 40) 330 1718 [qa 91 0 0, qo 11 0, qo 12 0, qi x3] [] g R) : qT (d + 40) 330 661 [qa 91 0 0, qo 11 0, qo 12 0, qi x3] [] h R := by
  refine lw_661 ⟨qR_of (by omega) (by omega), by omega, qR_of (by omega) (by omega), by omega, pair_go p_person (fun g => qT (d + 40) 330 1718 [qa 91 0 0, qo 11 0, qo 12 0, qi x3] [] g R) (fun g => ((0 : Int) = 0 ∨ (0 : Int) = 1) ∧ R (some (qi 0)) g) hi b0 b1 hK (fun r g e H => ?_)⟩
  dsimp only [qri]
  rw [e]
  exact ⟨qR_of (by omega) (by omega), by omega, qR_of (by omega) (by omega), by omega, H⟩
theorem lc_694 (hi : Inv B h a) (b0 : 0 ≤ B) (b1 : B + 300 < 2000000000) (hq : ∀ j, qR (h 91 0 0 j)) (x0 : 0 ≤ x3) (x1 : x3 + 6 ≤ h 91 0 1 0) (xl : h 91 0 1 0 ≤ 3072) (hK : ∀ g a', Inv (B + 300) g a' → g 91 = h 91 → qT (d + 40) 330 1718 [qa 91 0 0, qo 11 0, qo 12 0, qi x3] [] g R) : qT (d + 40) 330 694 [qa 91 0 0, qo 11 0, qo 12 0, qi x3] [] h R := by
  refine lw_694 ⟨qR_of (by omega) (by omega), by omega, qR_of (by omega) (by omega), by omega, pair_go p_stair (fun g => qT (d + 40) 330 1718 [qa 91 0 0, qo 11 0, qo 12 0, qi x3] [] g R) (fun g => ((0 : Int) = 0 ∨ (0 : Int) = 1) ∧ R (some (qi 0)) g) hi b0 b1 hK (fun r g e H => ?_)⟩
  dsimp only [qri]
  rw [e]
  exact ⟨qR_of (by omega) (by omega), by omega, qR_of (by omega) (by omega), by omega, H⟩
theorem lc_727 (hi : Inv B h a) (b0 : 0 ≤ B) (b1 : B + 300 < 2000000000) (hq : ∀ j, qR (h 91 0 0 j)) (x0 : 0 ≤ x3) (x1 : x3 + 6 ≤ h 91 0 1 0) (xl : h 91 0 1 0 ≤ 3072) (hK : ∀ g a', Inv (B + 300) g a' → g 91 = h 91 → qT (d + 40) 330 1718 [qa 91 0 0, qo 11 0, qo 12 0, qi x3] [] g R) : qT (d + 40) 330 727 [qa 91 0 0, qo 11 0, qo 12 0, qi x3] [] h R := by
  refine lw_727 ⟨qR_of (by omega) (by omega), by omega, qR_of (by omega) (by omega), by omega, pair_go p_likes (fun g => qT (d + 40) 330 1718 [qa 91 0 0, qo 11 0, qo 12 0, qi x3] [] g R) (fun g => ((0 : Int) = 0 ∨ (0 : Int) = 1) ∧ R (some (qi 0)) g) hi b0 b1 hK (fun r g e H => ?_)⟩
  dsimp only [qri]
  rw [e]
  exact ⟨qR_of (by omega) (by omega), by omega, qR_of (by omega) (by omega), by omega, H⟩
theorem lc_760 (hi : Inv B h a) (b0 : 0 ≤ B) (b1 : B + 300 < 2000000000) (hq : ∀ j, qR (h 91 0 0 j)) (x0 : 0 ≤ x3) (x1 : x3 + 6 ≤ h 91 0 1 0) (xl : h 91 0 1 0 ≤ 3072) (hK : ∀ g a', Inv (B + 300) g a' → g 91 = h 91 → qT (d + 40) 330 1718 [qa 91 0 0, qo 11 0, qo 12 0, qi x3] [] g R) : qT (d + 40) 330 760 [qa 91 0 0, qo 11 0, qo 12 0, qi x3] [] h R := by
  refine lw_760 ⟨qR_of (by omega) (by omega), by omega, pair_go p_copyLives (fun g => qT (d + 40) 330 1718 [qa 91 0 0, qo 11 0, qo 12 0, qi x3] [] g R) (fun g => ((0 : Int) = 0 ∨ (0 : Int) = 1) ∧ R (some (qi 0)) g) hi b0 b1 hK (fun r g e H => ?_)⟩
  dsimp only [qri]
  rw [e]
  exact ⟨qR_of (by omega) (by omega), by omega, H⟩
theorem lc_783 (hi : Inv B h a) (b0 : 0 ≤ B) (b1 : B + 300 < 2000000000) (hq : ∀ j, qR (h 91 0 0 j)) (x0 : 0 ≤ x3) (x1 : x3 + 6 ≤ h 91 0 1 0) (xl : h 91 0 1 0 ≤ 3072) (hK : ∀ g a', Inv (B + 300) g a' → g 91 = h 91 → qT (d + 40) 330 1718 [qa 91 0 0, qo 11 0, qo 12 0, qi x3] [] g R) : qT (d + 40) 330 783 [qa 91 0 0, qo 11 0, qo 12 0, qi x3] [] h R := by
  refine lw_783 ⟨qR_of (by omega) (by omega), by omega, pair_go p_quarrel (fun g => qT (d + 40) 330 1718 [qa 91 0 0, qo 11 0, qo 12 0, qi x3] [] g R) (fun g => ((0 : Int) = 0 ∨ (0 : Int) = 1) ∧ R (some (qi 0)) g) hi b0 b1 hK (fun r g e H => ?_)⟩
  dsimp only [qri]
  rw [e]
  exact ⟨qR_of (by omega) (by omega), by omega, H⟩
theorem lc_806 (hi : Inv B h a) (b0 : 0 ≤ B) (b1 : B + 300 < 2000000000) (hq : ∀ j, qR (h 91 0 0 j)) (x0 : 0 ≤ x3) (x1 : x3 + 6 ≤ h 91 0 1 0) (xl : h 91 0 1 0 ≤ 3072) (hK : ∀ g a', Inv (B + 300) g a' → g 91 = h 91 → qT (d + 40) 330 1718 [qa 91 0 0, qo 11 0, qo 12 0, qi x3] [] g R) : qT (d + 40) 330 806 [qa 91 0 0, qo 11 0, qo 12 0, qi x3] [] h R := by
  refine lw_806 ⟨qR_of (by omega) (by omega), by omega, pair_go p_makeUp (fun g => qT (d + 40) 330 1718 [qa 91 0 0, qo 11 0, qo 12 0, qi x3] [] g R) (fun g => ((0 : Int) = 0 ∨ (0 : Int) = 1) ∧ R (some (qi 0)) g) hi b0 b1 hK (fun r g e H => ?_)⟩
  dsimp only [qri]
  rw [e]
  exact ⟨qR_of (by omega) (by omega), by omega, H⟩
theorem lc_829 (hi : Inv B h a) (b0 : 0 ≤ B) (b1 : B + 300 < 2000000000) (hq : ∀ j, qR (h 91 0 0 j)) (x0 : 0 ≤ x3) (x1 : x3 + 6 ≤ h 91 0 1 0) (xl : h 91 0 1 0 ≤ 3072) (hK : ∀ g a', Inv (B + 300) g a' → g 91 = h 91 → qT (d + 40) 330 1718 [qa 91 0 0, qo 11 0, qo 12 0, qi x3] [] g R) : qT (d + 40) 330 829 [qa 91 0 0, qo 11 0, qo 12 0, qi x3] [] h R := by
  refine lw_829 ⟨qR_of (by omega) (by omega), by omega, pair_go p_night (fun g => qT (d + 40) 330 1718 [qa 91 0 0, qo 11 0, qo 12 0, qi x3] [] g R) (fun g => ((0 : Int) = 0 ∨ (0 : Int) = 1) ∧ R (some (qi 0)) g) hi b0 b1 hK (fun r g e H => ?_)⟩
  dsimp only [qri]
  rw [e]
  exact ⟨qR_of (by omega) (by omega), by omega, H⟩
theorem lc_852 (hi : Inv B h a) (b0 : 0 ≤ B) (b1 : B + 300 < 2000000000) (hq : ∀ j, qR (h 91 0 0 j)) (x0 : 0 ≤ x3) (x1 : x3 + 6 ≤ h 91 0 1 0) (xl : h 91 0 1 0 ≤ 3072) (hK : ∀ g a', Inv (B + 300) g a' → g 91 = h 91 → qT (d + 40) 330 1718 [qa 91 0 0, qo 11 0, qo 12 0, qi x3] [] g R) : qT (d + 40) 330 852 [qa 91 0 0, qo 11 0, qo 12 0, qi x3] [] h R := by
  refine lw_852 ⟨qR_of (by omega) (by omega), by omega, qR_of (by omega) (by omega), by omega, pair_go p_calm (fun g => qT (d + 40) 330 1718 [qa 91 0 0, qo 11 0, qo 12 0, qi x3] [] g R) (fun g => ((0 : Int) = 0 ∨ (0 : Int) = 1) ∧ R (some (qi 0)) g) hi b0 b1 hK (fun r g e H => ?_)⟩
  dsimp only [qri]
  rw [e]
  exact ⟨qR_of (by omega) (by omega), by omega, qR_of (by omega) (by omega), by omega, H⟩
theorem lc_885 (hi : Inv B h a) (b0 : 0 ≤ B) (b1 : B + 300 < 2000000000) (hq : ∀ j, qR (h 91 0 0 j)) (x0 : 0 ≤ x3) (x1 : x3 + 6 ≤ h 91 0 1 0) (xl : h 91 0 1 0 ≤ 3072) (hK : ∀ g a', Inv (B + 300) g a' → g 91 = h 91 → qT (d + 40) 330 1718 [qa 91 0 0, qo 11 0, qo 12 0, qi x3] [] g R) : qT (d + 40) 330 885 [qa 91 0 0, qo 11 0, qo 12 0, qi x3] [] h R := by
  refine lw_885 ⟨qR_of (by omega) (by omega), by omega, qR_of (by omega) (by omega), by omega, qR_of (by omega) (by omega), by omega, pair_go p_tell (fun g => qT (d + 40) 330 1718 [qa 91 0 0, qo 11 0, qo 12 0, qi x3] [] g R) (fun g => ((0 : Int) = 0 ∨ (0 : Int) = 1) ∧ R (some (qi 0)) g) hi b0 b1 hK (fun r g e H => ?_)⟩
  dsimp only [qri]
  rw [e]
  exact ⟨qR_of (by omega) (by omega), by omega, qR_of (by omega) (by omega), by omega, qR_of (by omega) (by omega), by omega, H⟩
theorem lc_928 (hi : Inv B h a) (b0 : 0 ≤ B) (b1 : B + 300 < 2000000000) (hq : ∀ j, qR (h 91 0 0 j)) (x0 : 0 ≤ x3) (x1 : x3 + 6 ≤ h 91 0 1 0) (xl : h 91 0 1 0 ≤ 3072) (hK : ∀ g a', Inv (B + 300) g a' → g 91 = h 91 → qT (d + 40) 330 1718 [qa 91 0 0, qo 11 0, qo 12 0, qi x3] [] g R) : qT (d + 40) 330 928 [qa 91 0 0, qo 11 0, qo 12 0, qi x3] [] h R := by
  refine lw_928 ⟨qR_of (by omega) (by omega), by omega, qR_of (by omega) (by omega), by omega, pair_go p_swap (fun g => qT (d + 40) 330 1718 [qa 91 0 0, qo 11 0, qo 12 0, qi x3] [] g R) (fun g => ((0 : Int) = 0 ∨ (0 : Int) = 1) ∧ R (some (qi 0)) g) hi b0 b1 hK (fun r g e H => ?_)⟩
  dsimp only [qri]
  rw [e]
  exact ⟨qR_of (by omega) (by omega), by omega, qR_of (by omega) (by omega), by omega, H⟩
theorem lc_961 (hi : Inv B h a) (b0 : 0 ≤ B) (b1 : B + 300 < 2000000000) (hq : ∀ j, qR (h 91 0 0 j)) (x0 : 0 ≤ x3) (x1 : x3 + 6 ≤ h 91 0 1 0) (xl : h 91 0 1 0 ≤ 3072) (hK : ∀ g a', Inv (B + 300) g a' → g 91 = h 91 → qT (d + 40) 330 1718 [qa 91 0 0, qo 11 0, qo 12 0, qi x3] [] g R) : qT (d + 40) 330 961 [qa 91 0 0, qo 11 0, qo 12 0, qi x3] [] h R := by
  refine lw_961 (pair_go p_come (fun g => qT (d + 40) 330 1718 [qa 91 0 0, qo 11 0, qo 12 0, qi x3] [] g R) (fun g => ((0 : Int) = 0 ∨ (0 : Int) = 1) ∧ R (some (qi 0)) g) hi b0 b1 hK (fun r g e H => ?_))
  exact H
theorem lc_974 (hi : Inv B h a) (b0 : 0 ≤ B) (b1 : B + 300 < 2000000000) (hq : ∀ j, qR (h 91 0 0 j)) (x0 : 0 ≤ x3) (x1 : x3 + 6 ≤ h 91 0 1 0) (xl : h 91 0 1 0 ≤ 3072) (hK : ∀ g a', Inv (B + 300) g a' → g 91 = h 91 → qT (d + 40) 330 1718 [qa 91 0 0, qo 11 0, qo 12 0, qi x3] [] g R) : qT (d + 40) 330 974 [qa 91 0 0, qo 11 0, qo 12 0, qi x3] [] h R := by
  refine lw_974 ⟨qR_of (by omega) (by omega), by omega, qR_of (by omega) (by omega), by omega, pair_go p_build (fun g => qT (d + 40) 330 1718 [qa 91 0 0, qo 11 0, qo 12 0, qi x3] [] g R) (fun g => ((0 : Int) = 0 ∨ (0 : Int) = 1) ∧ R (some (qi 0)) g) hi b0 b1 hK (fun r g e H => ?_)⟩
  dsimp only [qri]
  rw [e]
  exact ⟨qR_of (by omega) (by omega), by omega, qR_of (by omega) (by omega), by omega, H⟩
theorem lc_1007 (hi : Inv B h a) (b0 : 0 ≤ B) (b1 : B + 300 < 2000000000) (hq : ∀ j, qR (h 91 0 0 j)) (x0 : 0 ≤ x3) (x1 : x3 + 6 ≤ h 91 0 1 0) (xl : h 91 0 1 0 ≤ 3072) (hK : ∀ g a', Inv (B + 300) g a' → g 91 = h 91 → qT (d + 40) 330 1718 [qa 91 0 0, qo 11 0, qo 12 0, qi x3] [] g R) : qT (d + 40) 330 1007 [qa 91 0 0, qo 11 0, qo 12 0, qi x3] [] h R := by
  refine lw_1007 ⟨qR_of (by omega) (by omega), by omega, qR_of (by omega) (by omega), by omega, pair_go p_rule (fun g => qT (d + 40) 330 1718 [qa 91 0 0, qo 11 0, qo 12 0, qi x3] [] g R) (fun g => ((0 : Int) = 0 ∨ (0 : Int) = 1) ∧ R (some (qi 0)) g) hi b0 b1 hK (fun r g e H => ?_)⟩
  dsimp only [qri]
  rw [e]
  exact ⟨qR_of (by omega) (by omega), by omega, qR_of (by omega) (by omega), by omega, H⟩
theorem lc_1040 (hi : Inv B h a) (b0 : 0 ≤ B) (b1 : B + 300 < 2000000000) (hq : ∀ j, qR (h 91 0 0 j)) (x0 : 0 ≤ x3) (x1 : x3 + 6 ≤ h 91 0 1 0) (xl : h 91 0 1 0 ≤ 3072) (hK : ∀ g a', Inv (B + 300) g a' → g 91 = h 91 → qT (d + 40) 330 1718 [qa 91 0 0, qo 11 0, qo 12 0, qi x3] [] g R) : qT (d + 40) 330 1040 [qa 91 0 0, qo 11 0, qo 12 0, qi x3] [] h R := by
  refine lw_1040 ⟨qR_of (by omega) (by omega), by omega, pair_go p_ring (fun g => qT (d + 40) 330 1718 [qa 91 0 0, qo 11 0, qo 12 0, qi x3] [] g R) (fun g => ((0 : Int) = 0 ∨ (0 : Int) = 1) ∧ R (some (qi 0)) g) hi b0 b1 hK (fun r g e H => ?_)⟩
  dsimp only [qri]
  rw [e]
  exact ⟨qR_of (by omega) (by omega), by omega, H⟩
theorem lc_1063 (hi : Inv B h a) (b0 : 0 ≤ B) (b1 : B + 300 < 2000000000) (hq : ∀ j, qR (h 91 0 0 j)) (x0 : 0 ≤ x3) (x1 : x3 + 6 ≤ h 91 0 1 0) (xl : h 91 0 1 0 ≤ 3072) (hK : ∀ g a', Inv (B + 300) g a' → g 91 = h 91 → qT (d + 40) 330 1718 [qa 91 0 0, qo 11 0, qo 12 0, qi x3] [] g R) : qT (d + 40) 330 1063 [qa 91 0 0, qo 11 0, qo 12 0, qi x3] [] h R := by
  refine lw_1063 ⟨qR_of (by omega) (by omega), by omega, qR_of (by omega) (by omega), by omega, pair_go p_ringAt (fun g => qT (d + 40) 330 1718 [qa 91 0 0, qo 11 0, qo 12 0, qi x3] [] g R) (fun g => ((0 : Int) = 0 ∨ (0 : Int) = 1) ∧ R (some (qi 0)) g) hi b0 b1 hK (fun r g e H => ?_)⟩
  dsimp only [qri]
  rw [e]
  exact ⟨qR_of (by omega) (by omega), by omega, qR_of (by omega) (by omega), by omega, H⟩
theorem lc_1096 (hi : Inv B h a) (b0 : 0 ≤ B) (b1 : B + 300 < 2000000000) (hq : ∀ j, qR (h 91 0 0 j)) (x0 : 0 ≤ x3) (x1 : x3 + 6 ≤ h 91 0 1 0) (xl : h 91 0 1 0 ≤ 3072) (hK : ∀ g a', Inv (B + 300) g a' → g 91 = h 91 → qT (d + 40) 330 1718 [qa 91 0 0, qo 11 0, qo 12 0, qi x3] [] g R) : qT (d + 40) 330 1096 [qa 91 0 0, qo 11 0, qo 12 0, qi x3] [] h R := by
  refine lw_1096 (pair_go p_rings (fun g => qT (d + 40) 330 1718 [qa 91 0 0, qo 11 0, qo 12 0, qi x3] [] g R) (fun g => ((0 : Int) = 0 ∨ (0 : Int) = 1) ∧ R (some (qi 0)) g) hi b0 b1 hK (fun r g e H => ?_))
  exact H
theorem lc_1109 (hi : Inv B h a) (b0 : 0 ≤ B) (b1 : B + 300 < 2000000000) (hq : ∀ j, qR (h 91 0 0 j)) (x0 : 0 ≤ x3) (x1 : x3 + 6 ≤ h 91 0 1 0) (xl : h 91 0 1 0 ≤ 3072) (hK : ∀ g a', Inv (B + 300) g a' → g 91 = h 91 → qT (d + 40) 330 1718 [qa 91 0 0, qo 11 0, qo 12 0, qi x3] [] g R) : qT (d + 40) 330 1109 [qa 91 0 0, qo 11 0, qo 12 0, qi x3] [] h R := by
  refine lw_1109 (pair_go p_undo (fun g => qT (d + 40) 330 1718 [qa 91 0 0, qo 11 0, qo 12 0, qi x3] [] g R) (fun g => ((0 : Int) = 0 ∨ (0 : Int) = 1) ∧ R (some (qi 0)) g) hi b0 b1 hK (fun r g e H => ?_))
  exact H
theorem lc_1122 (hi : Inv B h a) (b0 : 0 ≤ B) (b1 : B + 300 < 2000000000) (hq : ∀ j, qR (h 91 0 0 j)) (x0 : 0 ≤ x3) (x1 : x3 + 6 ≤ h 91 0 1 0) (xl : h 91 0 1 0 ≤ 3072) (hK : ∀ g a', Inv (B + 300) g a' → g 91 = h 91 → qT (d + 40) 330 1718 [qa 91 0 0, qo 11 0, qo 12 0, qi x3] [] g R) : qT (d + 40) 330 1122 [qa 91 0 0, qo 11 0, qo 12 0, qi x3] [] h R := by
  refine lw_1122 (pair_go p_homeward (fun g => qT (d + 40) 330 1718 [qa 91 0 0, qo 11 0, qo 12 0, qi x3] [] g R) (fun g => ((0 : Int) = 0 ∨ (0 : Int) = 1) ∧ R (some (qi 0)) g) hi b0 b1 hK (fun r g e H => ?_))
  exact H
theorem lc_1135 (hi : Inv B h a) (b0 : 0 ≤ B) (b1 : B + 300 < 2000000000) (hq : ∀ j, qR (h 91 0 0 j)) (x0 : 0 ≤ x3) (x1 : x3 + 6 ≤ h 91 0 1 0) (xl : h 91 0 1 0 ≤ 3072) (hK : ∀ g a', Inv (B + 300) g a' → g 91 = h 91 → qT (d + 40) 330 1718 [qa 91 0 0, qo 11 0, qo 12 0, qi x3] [] g R) : qT (d + 40) 330 1135 [qa 91 0 0, qo 11 0, qo 12 0, qi x3] [] h R := by
  refine lw_1135 ⟨qR_of (by omega) (by omega), by omega, pair_go p_homewardAt (fun g => qT (d + 40) 330 1718 [qa 91 0 0, qo 11 0, qo 12 0, qi x3] [] g R) (fun g => ((0 : Int) = 0 ∨ (0 : Int) = 1) ∧ R (some (qi 0)) g) hi b0 b1 hK (fun r g e H => ?_)⟩
  dsimp only [qri]
  rw [e]
  exact ⟨qR_of (by omega) (by omega), by omega, H⟩
theorem lc_1158 (hi : Inv B h a) (b0 : 0 ≤ B) (b1 : B + 300 < 2000000000) (hq : ∀ j, qR (h 91 0 0 j)) (x0 : 0 ≤ x3) (x1 : x3 + 6 ≤ h 91 0 1 0) (xl : h 91 0 1 0 ≤ 3072) (hK : ∀ g a', Inv (B + 300) g a' → g 91 = h 91 → qT (d + 40) 330 1718 [qa 91 0 0, qo 11 0, qo 12 0, qi x3] [] g R) : qT (d + 40) 330 1158 [qa 91 0 0, qo 11 0, qo 12 0, qi x3] [] h R := by
  refine lw_1158 ⟨qR_of (by omega) (by omega), by omega, pair_go p_toward (fun g => qT (d + 40) 330 1718 [qa 91 0 0, qo 11 0, qo 12 0, qi x3] [] g R) (fun g => ((0 : Int) = 0 ∨ (0 : Int) = 1) ∧ R (some (qi 0)) g) hi b0 b1 hK (fun r g e H => ?_)⟩
  dsimp only [qri]
  rw [e]
  exact ⟨qR_of (by omega) (by omega), by omega, H⟩
theorem lc_1181 (hi : Inv B h a) (b0 : 0 ≤ B) (b1 : B + 300 < 2000000000) (hq : ∀ j, qR (h 91 0 0 j)) (x0 : 0 ≤ x3) (x1 : x3 + 6 ≤ h 91 0 1 0) (xl : h 91 0 1 0 ≤ 3072) (hK : ∀ g a', Inv (B + 300) g a' → g 91 = h 91 → qT (d + 40) 330 1718 [qa 91 0 0, qo 11 0, qo 12 0, qi x3] [] g R) : qT (d + 40) 330 1181 [qa 91 0 0, qo 11 0, qo 12 0, qi x3] [] h R := by
  refine lw_1181 ⟨qR_of (by omega) (by omega), by omega, qR_of (by omega) (by omega), by omega, pair_go p_towardAt (fun g => qT (d + 40) 330 1718 [qa 91 0 0, qo 11 0, qo 12 0, qi x3] [] g R) (fun g => ((0 : Int) = 0 ∨ (0 : Int) = 1) ∧ R (some (qi 0)) g) hi b0 b1 hK (fun r g e H => ?_)⟩
  dsimp only [qri]
  rw [e]
  exact ⟨qR_of (by omega) (by omega), by omega, qR_of (by omega) (by omega), by omega, H⟩
theorem lc_1214 (hi : Inv B h a) (b0 : 0 ≤ B) (b1 : B + 300 < 2000000000) (hq : ∀ j, qR (h 91 0 0 j)) (x0 : 0 ≤ x3) (x1 : x3 + 6 ≤ h 91 0 1 0) (xl : h 91 0 1 0 ≤ 3072) (hK : ∀ g a', Inv (B + 300) g a' → g 91 = h 91 → qT (d + 40) 330 1718 [qa 91 0 0, qo 11 0, qo 12 0, qi x3] [] g R) : qT (d + 40) 330 1214 [qa 91 0 0, qo 11 0, qo 12 0, qi x3] [] h R := by
  refine lw_1214 (pair_go p_ways (fun g => qT (d + 40) 330 1718 [qa 91 0 0, qo 11 0, qo 12 0, qi x3] [] g R) (fun g => ((0 : Int) = 0 ∨ (0 : Int) = 1) ∧ R (some (qi 0)) g) hi b0 b1 hK (fun r g e H => ?_))
  exact H
theorem lc_1227 (hi : Inv B h a) (b0 : 0 ≤ B) (b1 : B + 300 < 2000000000) (hq : ∀ j, qR (h 91 0 0 j)) (x0 : 0 ≤ x3) (x1 : x3 + 6 ≤ h 91 0 1 0) (xl : h 91 0 1 0 ≤ 3072) (hK : ∀ g a', Inv (B + 300) g a' → g 91 = h 91 → qT (d + 40) 330 1718 [qa 91 0 0, qo 11 0, qo 12 0, qi x3] [] g R) : qT (d + 40) 330 1227 [qa 91 0 0, qo 11 0, qo 12 0, qi x3] [] h R := by
  refine lw_1227 ⟨qR_of (by omega) (by omega), by omega, qR_of (by omega) (by omega), by omega, qR_of (by omega) (by omega), by omega, pair_go (p_fits (hq (Int.toNat (x3 + 2)))) (fun g => qT (d + 40) 330 1718 [qa 91 0 0, qo 11 0, qo 12 0, qi x3] [] g R) (fun g => ((0 : Int) = 0 ∨ (0 : Int) = 1) ∧ R (some (qi 0)) g) hi b0 b1 hK (fun r g e H => ?_)⟩
  dsimp only [qri]
  rw [e]
  exact ⟨qR_of (by omega) (by omega), by omega, qR_of (by omega) (by omega), by omega, qR_of (by omega) (by omega), by omega, H⟩
theorem lc_1270 (hi : Inv B h a) (b0 : 0 ≤ B) (b1 : B + 300 < 2000000000) (hq : ∀ j, qR (h 91 0 0 j)) (x0 : 0 ≤ x3) (x1 : x3 + 6 ≤ h 91 0 1 0) (xl : h 91 0 1 0 ≤ 3072) (hK : ∀ g a', Inv (B + 300) g a' → g 91 = h 91 → qT (d + 40) 330 1718 [qa 91 0 0, qo 11 0, qo 12 0, qi x3] [] g R) : qT (d + 40) 330 1270 [qa 91 0 0, qo 11 0, qo 12 0, qi x3] [] h R := by
  refine lw_1270 ⟨qR_of (by omega) (by omega), by omega, qR_of (by omega) (by omega), by omega, qR_of (by omega) (by omega), by omega, qR_of (by omega) (by omega), by omega, pair_go (p_firstAt (hq (Int.toNat (x3 + 2)))) (fun g => qT (d + 40) 330 1718 [qa 91 0 0, qo 11 0, qo 12 0, qi x3] [] g R) (fun g => ((0 : Int) = 0 ∨ (0 : Int) = 1) ∧ R (some (qi 0)) g) hi b0 b1 hK (fun r g e H => ?_)⟩
  dsimp only [qri]
  rw [e]
  exact ⟨qR_of (by omega) (by omega), by omega, qR_of (by omega) (by omega), by omega, qR_of (by omega) (by omega), by omega, qR_of (by omega) (by omega), by omega, H⟩
theorem lc_1323 (hi : Inv B h a) (b0 : 0 ≤ B) (b1 : B + 300 < 2000000000) (hq : ∀ j, qR (h 91 0 0 j)) (x0 : 0 ≤ x3) (x1 : x3 + 6 ≤ h 91 0 1 0) (xl : h 91 0 1 0 ≤ 3072) (hK : ∀ g a', Inv (B + 300) g a' → g 91 = h 91 → qT (d + 40) 330 1718 [qa 91 0 0, qo 11 0, qo 12 0, qi x3] [] g R) : qT (d + 40) 330 1323 [qa 91 0 0, qo 11 0, qo 12 0, qi x3] [] h R := by
  refine lw_1323 ⟨qR_of (by omega) (by omega), by omega, qR_of (by omega) (by omega), by omega, qR_of (by omega) (by omega), by omega, pair_go (p_ask (hq (Int.toNat (x3 + 2)))) (fun g => qT (d + 40) 330 1718 [qa 91 0 0, qo 11 0, qo 12 0, qi x3] [] g R) (fun g => ((0 : Int) = 0 ∨ (0 : Int) = 1) ∧ R (some (qi 0)) g) hi b0 b1 hK (fun r g e H => ?_)⟩
  dsimp only [qri]
  rw [e]
  exact ⟨qR_of (by omega) (by omega), by omega, qR_of (by omega) (by omega), by omega, qR_of (by omega) (by omega), by omega, H⟩
theorem lc_1366 (hi : Inv B h a) (b0 : 0 ≤ B) (b1 : B + 300 < 2000000000) (hq : ∀ j, qR (h 91 0 0 j)) (x0 : 0 ≤ x3) (x1 : x3 + 6 ≤ h 91 0 1 0) (xl : h 91 0 1 0 ≤ 3072) (hK : ∀ g a', Inv (B + 300) g a' → g 91 = h 91 → qT (d + 40) 330 1718 [qa 91 0 0, qo 11 0, qo 12 0, qi x3] [] g R) : qT (d + 40) 330 1366 [qa 91 0 0, qo 11 0, qo 12 0, qi x3] [] h R := by
  refine lw_1366 ⟨qR_of (by omega) (by omega), by omega, pair_go p_trade (fun g => qT (d + 40) 330 1718 [qa 91 0 0, qo 11 0, qo 12 0, qi x3] [] g R) (fun g => ((0 : Int) = 0 ∨ (0 : Int) = 1) ∧ R (some (qi 0)) g) hi b0 b1 hK (fun r g e H => ?_)⟩
  dsimp only [qri]
  rw [e]
  exact ⟨qR_of (by omega) (by omega), by omega, H⟩
theorem lc_1389 (hi : Inv B h a) (b0 : 0 ≤ B) (b1 : B + 300 < 2000000000) (hq : ∀ j, qR (h 91 0 0 j)) (x0 : 0 ≤ x3) (x1 : x3 + 6 ≤ h 91 0 1 0) (xl : h 91 0 1 0 ≤ 3072) (hK : ∀ g a', Inv (B + 300) g a' → g 91 = h 91 → qT (d + 40) 330 1718 [qa 91 0 0, qo 11 0, qo 12 0, qi x3] [] g R) : qT (d + 40) 330 1389 [qa 91 0 0, qo 11 0, qo 12 0, qi x3] [] h R := by
  refine lw_1389 (pair_go p_best (fun g => qT (d + 40) 330 1718 [qa 91 0 0, qo 11 0, qo 12 0, qi x3] [] g R) (fun g => ((0 : Int) = 0 ∨ (0 : Int) = 1) ∧ R (some (qi 0)) g) hi b0 b1 hK (fun r g e H => ?_))
  exact H
theorem lc_1402 (hi : Inv B h a) (b0 : 0 ≤ B) (b1 : B + 300 < 2000000000) (hq : ∀ j, qR (h 91 0 0 j)) (x0 : 0 ≤ x3) (x1 : x3 + 6 ≤ h 91 0 1 0) (xl : h 91 0 1 0 ≤ 3072) (hK : ∀ g a', Inv (B + 300) g a' → g 91 = h 91 → qT (d + 40) 330 1718 [qa 91 0 0, qo 11 0, qo 12 0, qi x3] [] g R) : qT (d + 40) 330 1402 [qa 91 0 0, qo 11 0, qo 12 0, qi x3] [] h R := by
  refine lw_1402 ⟨qR_of (by omega) (by omega), by omega, pair_go p_bestOf (fun g => qT (d + 40) 330 1718 [qa 91 0 0, qo 11 0, qo 12 0, qi x3] [] g R) (fun g => ((0 : Int) = 0 ∨ (0 : Int) = 1) ∧ R (some (qi 0)) g) hi b0 b1 hK (fun r g e H => ?_)⟩
  dsimp only [qri]
  rw [e]
  exact ⟨qR_of (by omega) (by omega), by omega, H⟩
theorem lc_1425 (hi : Inv B h a) (b0 : 0 ≤ B) (b1 : B + 300 < 2000000000) (hq : ∀ j, qR (h 91 0 0 j)) (x0 : 0 ≤ x3) (x1 : x3 + 6 ≤ h 91 0 1 0) (xl : h 91 0 1 0 ≤ 3072) (hK : ∀ g a', Inv (B + 300) g a' → g 91 = h 91 → qT (d + 40) 330 1718 [qa 91 0 0, qo 11 0, qo 12 0, qi x3] [] g R) : qT (d + 40) 330 1425 [qa 91 0 0, qo 11 0, qo 12 0, qi x3] [] h R := by
  refine lw_1425 (pair_go p_envy (fun g => qT (d + 40) 330 1718 [qa 91 0 0, qo 11 0, qo 12 0, qi x3] [] g R) (fun g => ((0 : Int) = 0 ∨ (0 : Int) = 1) ∧ R (some (qi 0)) g) hi b0 b1 hK (fun r g e H => ?_))
  exact H
theorem lc_1438 (hi : Inv B h a) (b0 : 0 ≤ B) (b1 : B + 300 < 2000000000) (hq : ∀ j, qR (h 91 0 0 j)) (x0 : 0 ≤ x3) (x1 : x3 + 6 ≤ h 91 0 1 0) (xl : h 91 0 1 0 ≤ 3072) (hK : ∀ g a', Inv (B + 300) g a' → g 91 = h 91 → qT (d + 40) 330 1718 [qa 91 0 0, qo 11 0, qo 12 0, qi x3] [] g R) : qT (d + 40) 330 1438 [qa 91 0 0, qo 11 0, qo 12 0, qi x3] [] h R := by
  refine lw_1438 ⟨qR_of (by omega) (by omega), by omega, qR_of (by omega) (by omega), by omega, pair_go p_vote (fun g => qT (d + 40) 330 1718 [qa 91 0 0, qo 11 0, qo 12 0, qi x3] [] g R) (fun g => ((0 : Int) = 0 ∨ (0 : Int) = 1) ∧ R (some (qi 0)) g) hi b0 b1 hK (fun r g e H => ?_)⟩
  dsimp only [qri]
  rw [e]
  exact ⟨qR_of (by omega) (by omega), by omega, qR_of (by omega) (by omega), by omega, H⟩
theorem lc_1471 (hi : Inv B h a) (b0 : 0 ≤ B) (b1 : B + 300 < 2000000000) (hq : ∀ j, qR (h 91 0 0 j)) (x0 : 0 ≤ x3) (x1 : x3 + 6 ≤ h 91 0 1 0) (xl : h 91 0 1 0 ≤ 3072) (hK : ∀ g a', Inv (B + 300) g a' → g 91 = h 91 → qT (d + 40) 330 1718 [qa 91 0 0, qo 11 0, qo 12 0, qi x3] [] g R) : qT (d + 40) 330 1471 [qa 91 0 0, qo 11 0, qo 12 0, qi x3] [] h R := by
  refine lw_1471 (pair_go p_winner (fun g => qT (d + 40) 330 1718 [qa 91 0 0, qo 11 0, qo 12 0, qi x3] [] g R) (fun g => ((0 : Int) = 0 ∨ (0 : Int) = 1) ∧ R (some (qi 0)) g) hi b0 b1 hK (fun r g e H => ?_))
  exact H
theorem lc_1484 (hi : Inv B h a) (b0 : 0 ≤ B) (b1 : B + 300 < 2000000000) (hq : ∀ j, qR (h 91 0 0 j)) (x0 : 0 ≤ x3) (x1 : x3 + 6 ≤ h 91 0 1 0) (xl : h 91 0 1 0 ≤ 3072) (hK : ∀ g a', Inv (B + 300) g a' → g 91 = h 91 → qT (d + 40) 330 1718 [qa 91 0 0, qo 11 0, qo 12 0, qi x3] [] g R) : qT (d + 40) 330 1484 [qa 91 0 0, qo 11 0, qo 12 0, qi x3] [] h R := by
  refine lw_1484 ⟨qR_of (by omega) (by omega), by omega, qR_of (by omega) (by omega), by omega, qR_of (by omega) (by omega), by omega, pair_go p_game (fun g => qT (d + 40) 330 1718 [qa 91 0 0, qo 11 0, qo 12 0, qi x3] [] g R) (fun g => ((0 : Int) = 0 ∨ (0 : Int) = 1) ∧ R (some (qi 0)) g) hi b0 b1 hK (fun r g e H => ?_)⟩
  dsimp only [qri]
  rw [e]
  exact ⟨qR_of (by omega) (by omega), by omega, qR_of (by omega) (by omega), by omega, qR_of (by omega) (by omega), by omega, H⟩
theorem lc_1527 (hi : Inv B h a) (b0 : 0 ≤ B) (b1 : B + 300 < 2000000000) (hq : ∀ j, qR (h 91 0 0 j)) (x0 : 0 ≤ x3) (x1 : x3 + 6 ≤ h 91 0 1 0) (xl : h 91 0 1 0 ≤ 3072) (hK : ∀ g a', Inv (B + 300) g a' → g 91 = h 91 → qT (d + 40) 330 1718 [qa 91 0 0, qo 11 0, qo 12 0, qi x3] [] g R) : qT (d + 40) 330 1527 [qa 91 0 0, qo 11 0, qo 12 0, qi x3] [] h R := by
  refine lw_1527 ⟨qR_of (by omega) (by omega), by omega, qR_of (by omega) (by omega), by omega, qR_of (by omega) (by omega), by omega, pair_go p_moveOf (fun g => qT (d + 40) 330 1718 [qa 91 0 0, qo 11 0, qo 12 0, qi x3] [] g R) (fun g => ((0 : Int) = 0 ∨ (0 : Int) = 1) ∧ R (some (qi 0)) g) hi b0 b1 hK (fun r g e H => ?_)⟩
  dsimp only [qri]
  rw [e]
  exact ⟨qR_of (by omega) (by omega), by omega, qR_of (by omega) (by omega), by omega, qR_of (by omega) (by omega), by omega, H⟩
theorem lc_1570 (hi : Inv B h a) (b0 : 0 ≤ B) (b1 : B + 300 < 2000000000) (hq : ∀ j, qR (h 91 0 0 j)) (x0 : 0 ≤ x3) (x1 : x3 + 6 ≤ h 91 0 1 0) (xl : h 91 0 1 0 ≤ 3072) (hK : ∀ g a', Inv (B + 300) g a' → g 91 = h 91 → qT (d + 40) 330 1718 [qa 91 0 0, qo 11 0, qo 12 0, qi x3] [] g R) : qT (d + 40) 330 1570 [qa 91 0 0, qo 11 0, qo 12 0, qi x3] [] h R := by
  refine lw_1570 ⟨qR_of (by omega) (by omega), by omega, qR_of (by omega) (by omega), by omega, qR_of (by omega) (by omega), by omega, pair_go p_drift (fun g => qT (d + 40) 330 1718 [qa 91 0 0, qo 11 0, qo 12 0, qi x3] [] g R) (fun g => ((0 : Int) = 0 ∨ (0 : Int) = 1) ∧ R (some (qi 0)) g) hi b0 b1 hK (fun r g e H => ?_)⟩
  dsimp only [qri]
  rw [e]
  exact ⟨qR_of (by omega) (by omega), by omega, qR_of (by omega) (by omega), by omega, qR_of (by omega) (by omega), by omega, H⟩
theorem lc_1613 (hi : Inv B h a) (b0 : 0 ≤ B) (b1 : B + 300 < 2000000000) (hq : ∀ j, qR (h 91 0 0 j)) (x0 : 0 ≤ x3) (x1 : x3 + 6 ≤ h 91 0 1 0) (xl : h 91 0 1 0 ≤ 3072) (hK : ∀ g a', Inv (B + 300) g a' → g 91 = h 91 → qT (d + 40) 330 1718 [qa 91 0 0, qo 11 0, qo 12 0, qi x3] [] g R) : qT (d + 40) 330 1613 [qa 91 0 0, qo 11 0, qo 12 0, qi x3] [] h R := by
  refine lw_1613 ⟨qR_of (by omega) (by omega), by omega, pair_go p_live (fun g => qT (d + 40) 330 1718 [qa 91 0 0, qo 11 0, qo 12 0, qi x3] [] g R) (fun g => ((0 : Int) = 0 ∨ (0 : Int) = 1) ∧ R (some (qi 0)) g) hi b0 b1 hK (fun r g e H => ?_)⟩
  dsimp only [qri]
  rw [e]
  exact ⟨qR_of (by omega) (by omega), by omega, H⟩
theorem lc_1636 (hi : Inv B h a) (b0 : 0 ≤ B) (b1 : B + 300 < 2000000000) (hq : ∀ j, qR (h 91 0 0 j)) (x0 : 0 ≤ x3) (x1 : x3 + 6 ≤ h 91 0 1 0) (xl : h 91 0 1 0 ≤ 3072) (hK : ∀ g a', Inv (B + 300) g a' → g 91 = h 91 → qT (d + 40) 330 1718 [qa 91 0 0, qo 11 0, qo 12 0, qi x3] [] g R) : qT (d + 40) 330 1636 [qa 91 0 0, qo 11 0, qo 12 0, qi x3] [] h R := by
  refine lw_1636 ⟨qR_of (by omega) (by omega), by omega, pair_go p_lived (fun g => qT (d + 40) 330 1718 [qa 91 0 0, qo 11 0, qo 12 0, qi x3] [] g R) (fun g => ((0 : Int) = 0 ∨ (0 : Int) = 1) ∧ R (some (qi 0)) g) hi b0 b1 hK (fun r g e H => ?_)⟩
  dsimp only [qri]
  rw [e]
  exact ⟨qR_of (by omega) (by omega), by omega, H⟩
theorem lc_1659 (hi : Inv B h a) (b0 : 0 ≤ B) (b1 : B + 300 < 2000000000) (hq : ∀ j, qR (h 91 0 0 j)) (x0 : 0 ≤ x3) (x1 : x3 + 6 ≤ h 91 0 1 0) (xl : h 91 0 1 0 ≤ 3072) (hK : ∀ g a', Inv (B + 300) g a' → g 91 = h 91 → qT (d + 40) 330 1718 [qa 91 0 0, qo 11 0, qo 12 0, qi x3] [] g R) : qT (d + 40) 330 1659 [qa 91 0 0, qo 11 0, qo 12 0, qi x3] [] h R := by
  refine lw_1659 ⟨qR_of (by omega) (by omega), by omega, qR_of (by omega) (by omega), by omega, pair_go p_mean (fun g => qT (d + 40) 330 1718 [qa 91 0 0, qo 11 0, qo 12 0, qi x3] [] g R) (fun g => ((0 : Int) = 0 ∨ (0 : Int) = 1) ∧ R (some (qi 0)) g) hi b0 b1 hK (fun r g e H => ?_)⟩
  dsimp only [qri]
  rw [e]
  exact ⟨qR_of (by omega) (by omega), by omega, qR_of (by omega) (by omega), by omega, H⟩
theorem lc_1692 (hi : Inv B h a) (b0 : 0 ≤ B) (b1 : B + 300 < 2000000000) (hq : ∀ j, qR (h 91 0 0 j)) (x0 : 0 ≤ x3) (x1 : x3 + 6 ≤ h 91 0 1 0) (xl : h 91 0 1 0 ≤ 3072) (hK : ∀ g a', Inv (B + 300) g a' → g 91 = h 91 → qT (d + 40) 330 1718 [qa 91 0 0, qo 11 0, qo 12 0, qi x3] [] g R) : qT (d + 40) 330 1692 [qa 91 0 0, qo 11 0, qo 12 0, qi x3] [] h R := by
  refine lw_1692 (pair_go p_mark (fun g => qT (d + 40) 330 1718 [qa 91 0 0, qo 11 0, qo 12 0, qi x3] [] g R) (fun g => ((0 : Int) = 0 ∨ (0 : Int) = 1) ∧ R (some (qi 0)) g) hi b0 b1 hK (fun r g e H => ?_))
  exact H
theorem lc_1705 (hi : Inv B h a) (b0 : 0 ≤ B) (b1 : B + 300 < 2000000000) (hq : ∀ j, qR (h 91 0 0 j)) (x0 : 0 ≤ x3) (x1 : x3 + 6 ≤ h 91 0 1 0) (xl : h 91 0 1 0 ≤ 3072) (hK : ∀ g a', Inv (B + 300) g a' → g 91 = h 91 → qT (d + 40) 330 1718 [qa 91 0 0, qo 11 0, qo 12 0, qi x3] [] g R) : qT (d + 40) 330 1705 [qa 91 0 0, qo 11 0, qo 12 0, qi x3] [] h R := by
  refine lw_1705 (pair_go p_back (fun g => qT (d + 40) 330 1718 [qa 91 0 0, qo 11 0, qo 12 0, qi x3] [] g R) (fun g => ((0 : Int) = 0 ∨ (0 : Int) = 1) ∧ R (some (qi 0)) g) hi b0 b1 hK (fun r g e H => ?_))
  exact H
end Lc
theorem law_loop {d : Nat} {R : Option qV → qH → Prop} (hR : ∀ g, R (some (qi 1)) g) : ∀ (n : Nat) {B : Int} {h : qH} {a : qB} {x3 : Int}, Inv B h a → 0 ≤ B → B + 300 * n < 2000000000 → (∀ j, qR (h 91 0 0 j)) → 0 ≤ x3 → x3 ≤ 4000 → (0 ≤ h 91 0 1 0 ∧ h 91 0 1 0 ≤ 3072) → h 91 0 1 0 - x3 < 6 * n → qT (d + 40) 330 18 [qa 91 0 0, qo 11 0, qo 12 0, qi x3] [] h R := by
  intro n
  induction n with
  | zero =>
    intro B h a x3 hi b0 b1 hq x0 x4 xl hn
    exact lw_18 ⟨qR_of (by omega) (by omega), fun _ => ⟨by omega, hR h⟩, fun c => absurd (by omega) c⟩
  | succ n ih =>
    intro B h a x3 hi b0 b1 hq x0 x4 xl hn
    refine lw_18 ⟨qR_of (by omega) (by omega), fun _ => ⟨by omega, hR h⟩, fun c => ⟨by omega, ?_⟩⟩
    have xl' := xl
    have xl := xl.2
    have hK : ∀ g a', Inv (B + 300) g a' → g 91 = h 91 → qT (d + 40) 330 1718 [qa 91 0 0, qo 11 0, qo 12 0, qi x3] [] g R := fun g a' hi' e => lw_1718 ⟨qR_of (by omega) (by omega), ih hi' (by omega) (by omega) (by rw [e]; exact hq) (by omega) (by omega) (by rw [e]; exact xl') (by rw [e]; omega)⟩
    exact ⟨fun _ => lc_252 hi b0 (by omega) hq x0 (by omega) xl hK, fun _ => ⟨fun _ => lc_265 hi b0 (by omega) hq x0 (by omega) xl hK, fun _ => ⟨fun _ => lc_279 hi b0 (by omega) hq x0 (by omega) xl hK, fun _ => ⟨fun _ => lc_293 hi b0 (by omega) hq x0 (by omega) xl hK, fun _ => ⟨fun _ => lc_336 hi b0 (by omega) hq x0 (by omega) xl hK, fun _ => ⟨fun _ => lc_409 hi b0 (by omega) hq x0 (by omega) xl hK, fun _ => ⟨fun _ => lc_443 hi b0 (by omega) hq x0 (by omega) xl hK, fun _ => ⟨fun _ => lc_506 hi b0 (by omega) hq x0 (by omega) xl hK, fun _ => ⟨fun _ => lc_569 hi b0 (by omega) hq x0 (by omega) xl hK, fun _ => ⟨fun _ => lc_592 hi b0 (by omega) hq x0 (by omega) xl hK, fun _ => ⟨fun _ => lc_615 hi b0 (by omega) hq x0 (by omega) xl hK, fun _ => ⟨fun _ => lc_638 hi b0 (by omega) hq x0 (by omega) xl hK, fun _ => ⟨fun _ => lc_661 hi b0 (by omega) hq x0 (by omega) xl hK, fun _ => ⟨fun _ => lc_694 hi b0 (by omega) hq x0 (by omega) xl hK, fun _ => ⟨fun _ => lc_727 hi b0 (by omega) hq x0 (by omega) xl hK, fun _ => ⟨fun _ => lc_760 hi b0 (by omega) hq x0 (by omega) xl hK, fun _ => ⟨fun _ => lc_783 hi b0 (by omega) hq x0 (by omega) xl hK, fun _ => ⟨fun _ => lc_806 hi b0 (by omega) hq x0 (by omega) xl hK, fun _ => ⟨fun _ => lc_829 hi b0 (by omega) hq x0 (by omega) xl hK, fun _ => ⟨fun _ => lc_852 hi b0 (by omega) hq x0 (by omega) xl hK, fun _ => ⟨fun _ => lc_885 hi b0 (by omega) hq x0 (by omega) xl hK, fun _ => ⟨fun _ => lc_928 hi b0 (by omega) hq x0 (by omega) xl hK, fun _ => ⟨fun _ => lc_961 hi b0 (by omega) hq x0 (by omega) xl hK, fun _ => ⟨fun _ => lc_974 hi b0 (by omega) hq x0 (by omega) xl hK, fun _ => ⟨fun _ => lc_1007 hi b0 (by omega) hq x0 (by omega) xl hK, fun _ => ⟨fun _ => lc_1040 hi b0 (by omega) hq x0 (by omega) xl hK, fun _ => ⟨fun _ => lc_1063 hi b0 (by omega) hq x0 (by omega) xl hK, fun _ => ⟨fun _ => lc_1096 hi b0 (by omega) hq x0 (by omega) xl hK, fun _ => ⟨fun _ => lc_1109 hi b0 (by omega) hq x0 (by omega) xl hK, fun _ => ⟨fun _ => lc_1122 hi b0 (by omega) hq x0 (by omega) xl hK, fun _ => ⟨fun _ => lc_1135 hi b0 (by omega) hq x0 (by omega) xl hK, fun _ => ⟨fun _ => lc_1158 hi b0 (by omega) hq x0 (by omega) xl hK, fun _ => ⟨fun _ => lc_1181 hi b0 (by omega) hq x0 (by omega) xl hK, fun _ => ⟨fun _ => lc_1214 hi b0 (by omega) hq x0 (by omega) xl hK, fun _ => ⟨fun _ => lc_1227 hi b0 (by omega) hq x0 (by omega) xl hK, fun _ => ⟨fun _ => lc_1270 hi b0 (by omega) hq x0 (by omega) xl hK, fun _ => ⟨fun _ => lc_1323 hi b0 (by omega) hq x0 (by omega) xl hK, fun _ => ⟨fun _ => lc_1366 hi b0 (by omega) hq x0 (by omega) xl hK, fun _ => ⟨fun _ => lc_1389 hi b0 (by omega) hq x0 (by omega) xl hK, fun _ => ⟨fun _ => lc_1402 hi b0 (by omega) hq x0 (by omega) xl hK, fun _ => ⟨fun _ => lc_1425 hi b0 (by omega) hq x0 (by omega) xl hK, fun _ => ⟨fun _ => lc_1438 hi b0 (by omega) hq x0 (by omega) xl hK, fun _ => ⟨fun _ => lc_1471 hi b0 (by omega) hq x0 (by omega) xl hK, fun _ => ⟨fun _ => lc_1484 hi b0 (by omega) hq x0 (by omega) xl hK, fun _ => ⟨fun _ => lc_1527 hi b0 (by omega) hq x0 (by omega) xl hK, fun _ => ⟨fun _ => lc_1570 hi b0 (by omega) hq x0 (by omega) xl hK, fun _ => ⟨fun _ => lc_1613 hi b0 (by omega) hq x0 (by omega) xl hK, fun _ => ⟨fun _ => lc_1636 hi b0 (by omega) hq x0 (by omega) xl hK, fun _ => ⟨fun _ => lc_1659 hi b0 (by omega) hq x0 (by omega) xl hK, fun _ => ⟨fun _ => lc_1692 hi b0 (by omega) hq x0 (by omega) xl hK, fun _ => ⟨fun _ => lc_1705 hi b0 (by omega) hq x0 (by omega) xl hK, fun _ => hK h a (Inv_B hi (by omega)) rfl⟩⟩⟩⟩⟩⟩⟩⟩⟩⟩⟩⟩⟩⟩⟩⟩⟩⟩⟩⟩⟩⟩⟩⟩⟩⟩⟩⟩⟩⟩⟩⟩⟩⟩⟩⟩⟩⟩⟩⟩⟩⟩⟩⟩⟩⟩⟩⟩⟩⟩⟩
