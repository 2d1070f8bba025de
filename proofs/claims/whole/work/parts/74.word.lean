/-! the Model's WORDS -/
def sp1 (w x : Int) : Int := if x ≤ 0 then w else w * 32 + x - 96
def mW (h : qH) : Int := if h 12 0 14 0 = 1 then wid (h 12 0 19 0) else -1
theorem mT_W {h : qH} {b : Int → Int} {n p : Int} (hm : mT h b n p) : mW h = tkW b n p := by
  unfold mW tkW
  rw [hm.2.1]
  by_cases c : tkK b n p = 1
  · rw [if_pos c, if_pos c, (hm.2.2.2.2.2 c).1]
  · rw [if_neg c, if_neg c]
def stW (w : Int) : Int := if w = 8 then 0 else if w = 9 then 1 else if w = 10 then 2 else if w = 11 then 3 else if w = 12 then 4 else if w = 13 then 5 else if w = 16 then 6 else if w = 18 then 7 else -1
def tsW (w : Int) : Int := if w = 14 then 0 else if w = 15 then 1 else if w = 5 then 2 else if w = 3 then 3 else -1
theorem mW_b (h : qH) : -1 ≤ mW h ∧ mW h < 19 := by
  unfold mW
  split
  · rcases wid_b (h 12 0 19 0) with ⟨k, _⟩ | ⟨k1, k2, _⟩ <;> omega
  · omega
section Wd
variable {d : Nat} {R : Option qV → qH → Prop} {h : qH} {b : Int → Int} {n p : Int}
theorem m_spelled {x0 x1 x2 x3 x4 x5 : Int} (h0 : 97 ≤ x0 ∧ x0 ≤ 122) (h1 : 97 ≤ x1 ∧ x1 ≤ 122) (h2 : x2 ≤ 0 ∨ (97 ≤ x2 ∧ x2 ≤ 122)) (h3 : x3 ≤ 0 ∨ (97 ≤ x3 ∧ x3 ≤ 122)) (h4 : x4 ≤ 0 ∨ (97 ≤ x4 ∧ x4 ≤ 122)) (h5 : x5 ≤ 0 ∨ (97 ≤ x5 ∧ x5 ≤ 122)) (hR : R (some (ql (sp1 (sp1 (sp1 (sp1 ((x0 - 96) * 32 + x1 - 96) x2) x3) x4) x5))) h) : qT (d + 1) 195 0 [qi x0, qi x1, qi x2, qi x3, qi x4, qi x5, qu, qu] [] h R := by
  have s5 : ∀ w, 0 ≤ w → w ≤ 28142426 → R (some (ql (sp1 w x5))) h → qT (d + 1) 195 93 [qi x0, qi x1, qi x2, qi x3, qi x4, qi x5, ql w, qu] [] h R := by
    intro w w0 w1 H
    unfold sp1 at H
    refine tX12_spelled_93 ⟨fun c => by rw [if_pos c] at H; exact H, fun c => ?_⟩
    rw [if_neg c] at H
    exact ⟨qRL_of (by omega) (by omega), qRL_of (by omega) (by omega), qRL_of (by omega) (by omega), H⟩
  have s4 : ∀ w, 0 ≤ w → w ≤ 879450 → R (some (ql (sp1 (sp1 w x4) x5))) h → qT (d + 1) 195 67 [qi x0, qi x1, qi x2, qi x3, qi x4, qi x5, ql w, qu] [] h R := by
    intro w w0 w1 H
    refine tX12_spelled_67 ⟨fun c => s5 w w0 (by omega) (by rw [show sp1 w x4 = w from if_pos c] at H; exact H), fun c => ⟨qRL_of (by omega) (by omega), qRL_of (by omega) (by omega), qRL_of (by omega) (by omega), s5 _ (by omega) (by omega) (by rw [show sp1 w x4 = w * 32 + x4 - 96 from if_neg c] at H; exact H)⟩⟩
  have s3 : ∀ w, 0 ≤ w → w ≤ 27482 → R (some (ql (sp1 (sp1 (sp1 w x3) x4) x5))) h → qT (d + 1) 195 43 [qi x0, qi x1, qi x2, qi x3, qi x4, qi x5, ql w, qu] [] h R := by
    intro w w0 w1 H
    refine tX12_spelled_43 ⟨fun c => s4 w w0 (by omega) (by rw [show sp1 w x3 = w from if_pos c] at H; exact H), fun c => ⟨qRL_of (by omega) (by omega), qRL_of (by omega) (by omega), qRL_of (by omega) (by omega), s4 _ (by omega) (by omega) (by rw [show sp1 w x3 = w * 32 + x3 - 96 from if_neg c] at H; exact H)⟩⟩
  refine tX12_spelled_0 ⟨qRL_of (by omega) (by omega), qRL_of (by omega) (by omega), qRL_of (by omega) (by omega), qRL_of (by omega) (by omega), tX12_spelled_19 ⟨fun c => s3 _ (by omega) (by omega) ?_, fun c => ⟨qRL_of (by omega) (by omega), qRL_of (by omega) (by omega), qRL_of (by omega) (by omega), s3 _ (by omega) (by omega) ?_⟩⟩⟩
  · rw [show sp1 ((x0 - 96) * 32 + x1 - 96) x2 = (x0 - 96) * 32 + x1 - 96 from if_pos c] at hR; exact hR
  · rw [show sp1 ((x0 - 96) * 32 + x1 - 96) x2 = ((x0 - 96) * 32 + x1 - 96) * 32 + x2 - 96 from if_neg c] at hR; exact hR
theorem m_isWord {w : Nat} (hw : w < 19) {y : Int} (ey : y = kY w) (h1 : mW h = w → R (some (qi 1)) h) (h0 : mW h ≠ w → R (some (qi 0)) h) : qT (d + 1) 196 0 [qo 12 0, ql y, qu] [] h R := by
  unfold mW at h1 h0
  refine sX12_isWord_0 ⟨fun c => ⟨by omega, h0 (by rw [if_neg c]; omega)⟩, fun c => ?_⟩
  have c := Decidable.not_not.mp c
  rw [if_pos c] at h1 h0
  have we := wid_eq (y := h 12 0 19 0) hw
  refine ⟨fun c2 => ⟨by omega, h0 (fun e => c2 (qlcmp_eq.mpr (by rw [ey]; exact we.mp e)))⟩, fun c2 => ⟨by omega, h1 (we.mpr (by rw [← ey]; exact qlcmp_eq.mp (Decidable.not_not.mp c2)))⟩⟩
theorem m_isOdds (h1 : mW h = 0 → R (some (qi 1)) h) (h0 : mW h ≠ 0 → R (some (qi 0)) h) : qT (d + 2) 197 0 [qo 12 0] [] h R :=
  sX12_isOdds_0 (m_spelled (by omega) (by omega) (by omega) (by omega) (by omega) (by omega) (m_isWord (w := 0) (by decide) (by decide) (fun e => ⟨by omega, h1 e⟩) (fun e => ⟨by omega, h0 e⟩)))
theorem m_isCool (h1 : mW h = 1 → R (some (qi 1)) h) (h0 : mW h ≠ 1 → R (some (qi 0)) h) : qT (d + 2) 198 0 [qo 12 0] [] h R :=
  sX12_isCool_0 (m_spelled (by omega) (by omega) (by omega) (by omega) (by omega) (by omega) (m_isWord (w := 1) (by decide) (by decide) (fun e => ⟨by omega, h1 e⟩) (fun e => ⟨by omega, h0 e⟩)))
theorem m_isPerson (h1 : mW h = 2 → R (some (qi 1)) h) (h0 : mW h ≠ 2 → R (some (qi 0)) h) : qT (d + 2) 199 0 [qo 12 0] [] h R :=
  sX12_isPerson_0 (m_spelled (by omega) (by omega) (by omega) (by omega) (by omega) (by omega) (m_isWord (w := 2) (by decide) (by decide) (fun e => ⟨by omega, h1 e⟩) (fun e => ⟨by omega, h0 e⟩)))
theorem m_isTemper (h1 : mW h = 3 → R (some (qi 1)) h) (h0 : mW h ≠ 3 → R (some (qi 0)) h) : qT (d + 2) 200 0 [qo 12 0] [] h R :=
  sX12_isTemper_0 (m_spelled (by omega) (by omega) (by omega) (by omega) (by omega) (by omega) (m_isWord (w := 3) (by decide) (by decide) (fun e => ⟨by omega, h1 e⟩) (fun e => ⟨by omega, h0 e⟩)))
theorem m_isStair (h1 : mW h = 4 → R (some (qi 1)) h) (h0 : mW h ≠ 4 → R (some (qi 0)) h) : qT (d + 2) 201 0 [qo 12 0] [] h R :=
  sX12_isStair_0 (m_spelled (by omega) (by omega) (by omega) (by omega) (by omega) (by omega) (m_isWord (w := 4) (by decide) (by decide) (fun e => ⟨by omega, h1 e⟩) (fun e => ⟨by omega, h0 e⟩)))
theorem m_isGrudge (h1 : mW h = 5 → R (some (qi 1)) h) (h0 : mW h ≠ 5 → R (some (qi 0)) h) : qT (d + 2) 202 0 [qo 12 0] [] h R :=
  sX12_isGrudge_0 (m_spelled (by omega) (by omega) (by omega) (by omega) (by omega) (by omega) (m_isWord (w := 5) (by decide) (by decide) (fun e => ⟨by omega, h1 e⟩) (fun e => ⟨by omega, h0 e⟩)))
theorem m_isLike (h1 : mW h = 6 → R (some (qi 1)) h) (h0 : mW h ≠ 6 → R (some (qi 0)) h) : qT (d + 2) 203 0 [qo 12 0] [] h R :=
  sX12_isLike_0 (m_spelled (by omega) (by omega) (by omega) (by omega) (by omega) (by omega) (m_isWord (w := 6) (by decide) (by decide) (fun e => ⟨by omega, h1 e⟩) (fun e => ⟨by omega, h0 e⟩)))
theorem m_isSwap (h1 : mW h = 7 → R (some (qi 1)) h) (h0 : mW h ≠ 7 → R (some (qi 0)) h) : qT (d + 2) 204 0 [qo 12 0] [] h R :=
  sX12_isSwap_0 (m_spelled (by omega) (by omega) (by omega) (by omega) (by omega) (by omega) (m_isWord (w := 7) (by decide) (by decide) (fun e => ⟨by omega, h1 e⟩) (fun e => ⟨by omega, h0 e⟩)))
theorem m_isEnd (h1 : mW h = 17 → R (some (qi 1)) h) (h0 : mW h ≠ 17 → R (some (qi 0)) h) : qT (d + 2) 207 0 [qo 12 0] [] h R :=
  sX12_isEnd_0 (m_spelled (by omega) (by omega) (by omega) (by omega) (by omega) (by omega) (m_isWord (w := 17) (by decide) (by decide) (fun e => ⟨by omega, h1 e⟩) (fun e => ⟨by omega, h0 e⟩)))
theorem m_stepWord (hR : R (some (qi (stW (mW h)))) h) : qT (d + 2) 205 0 [qo 12 0] [] h R := by
  unfold stW at hR
  refine sX12_stepWord_0 (m_spelled (by omega) (by omega) (by omega) (by omega) (by omega) (by omega) (⟨qRL_of (by decide) (by decide), qRL_of (by decide) (by decide), qRL_of (by decide) (by decide), m_isWord (w := 8) (by decide) (by decide) (fun e8 => ⟨fun c => absurd c (by decide), fun _ => ?_⟩) (fun e8 => ⟨fun _ => m_spelled (by omega) (by omega) (by omega) (by omega) (by omega) (by omega) (m_isWord (w := 9) (by decide) (by decide) (fun e9 => ⟨fun c => absurd c (by decide), fun _ => ?_⟩) (fun e9 => ⟨fun _ => m_spelled (by omega) (by omega) (by omega) (by omega) (by omega) (by omega) (m_isWord (w := 10) (by decide) (by decide) (fun e10 => ⟨fun c => absurd c (by decide), fun _ => ?_⟩) (fun e10 => ⟨fun _ => m_spelled (by omega) (by omega) (by omega) (by omega) (by omega) (by omega) (m_isWord (w := 11) (by decide) (by decide) (fun e11 => ⟨fun c => absurd c (by decide), fun _ => ?_⟩) (fun e11 => ⟨fun _ => m_spelled (by omega) (by omega) (by omega) (by omega) (by omega) (by omega) (m_isWord (w := 12) (by decide) (by decide) (fun e12 => ⟨fun c => absurd c (by decide), fun _ => ?_⟩) (fun e12 => ⟨fun _ => m_spelled (by omega) (by omega) (by omega) (by omega) (by omega) (by omega) (m_isWord (w := 13) (by decide) (by decide) (fun e13 => ⟨fun c => absurd c (by decide), fun _ => ?_⟩) (fun e13 => ⟨fun _ => m_spelled (by omega) (by omega) (by omega) (by omega) (by omega) (by omega) (m_isWord (w := 16) (by decide) (by decide) (fun e16 => ⟨fun c => absurd c (by decide), fun _ => ?_⟩) (fun e16 => ⟨fun _ => m_spelled (by omega) (by omega) (by omega) (by omega) (by omega) (by omega) (m_isWord (w := 18) (by decide) (by decide) (fun e18 => ⟨fun c => absurd c (by decide), fun _ => ?_⟩) (fun e18 => ⟨fun _ => ?_, fun c => absurd rfl c⟩)), fun c => absurd rfl c⟩)), fun c => absurd rfl c⟩)), fun c => absurd rfl c⟩)), fun c => absurd rfl c⟩)), fun c => absurd rfl c⟩)), fun c => absurd rfl c⟩)), fun c => absurd rfl c⟩)⟩))
  · rw [if_pos (show mW h = 8 from e8)] at hR; exact hR
  · rw [if_neg (show ¬ mW h = 8 from e8), if_pos (show mW h = 9 from e9)] at hR; exact hR
  · rw [if_neg (show ¬ mW h = 8 from e8), if_neg (show ¬ mW h = 9 from e9), if_pos (show mW h = 10 from e10)] at hR; exact hR
  · rw [if_neg (show ¬ mW h = 8 from e8), if_neg (show ¬ mW h = 9 from e9), if_neg (show ¬ mW h = 10 from e10), if_pos (show mW h = 11 from e11)] at hR; exact hR
  · rw [if_neg (show ¬ mW h = 8 from e8), if_neg (show ¬ mW h = 9 from e9), if_neg (show ¬ mW h = 10 from e10), if_neg (show ¬ mW h = 11 from e11), if_pos (show mW h = 12 from e12)] at hR; exact hR
  · rw [if_neg (show ¬ mW h = 8 from e8), if_neg (show ¬ mW h = 9 from e9), if_neg (show ¬ mW h = 10 from e10), if_neg (show ¬ mW h = 11 from e11), if_neg (show ¬ mW h = 12 from e12), if_pos (show mW h = 13 from e13)] at hR; exact hR
  · rw [if_neg (show ¬ mW h = 8 from e8), if_neg (show ¬ mW h = 9 from e9), if_neg (show ¬ mW h = 10 from e10), if_neg (show ¬ mW h = 11 from e11), if_neg (show ¬ mW h = 12 from e12), if_neg (show ¬ mW h = 13 from e13), if_pos (show mW h = 16 from e16)] at hR; exact hR
  · rw [if_neg (show ¬ mW h = 8 from e8), if_neg (show ¬ mW h = 9 from e9), if_neg (show ¬ mW h = 10 from e10), if_neg (show ¬ mW h = 11 from e11), if_neg (show ¬ mW h = 12 from e12), if_neg (show ¬ mW h = 13 from e13), if_neg (show ¬ mW h = 16 from e16), if_pos (show mW h = 18 from e18)] at hR; exact hR
  · rw [if_neg (show ¬ mW h = 8 from e8), if_neg (show ¬ mW h = 9 from e9), if_neg (show ¬ mW h = 10 from e10), if_neg (show ¬ mW h = 11 from e11), if_neg (show ¬ mW h = 12 from e12), if_neg (show ¬ mW h = 13 from e13), if_neg (show ¬ mW h = 16 from e16), if_neg (show ¬ mW h = 18 from e18)] at hR; exact hR
theorem m_testWord (hR : R (some (qi (tsW (mW h)))) h) : qT (d + 3) 206 0 [qo 12 0] [] h R := by
  unfold tsW at hR
  refine sX12_testWord_0 (m_spelled (by omega) (by omega) (by omega) (by omega) (by omega) (by omega) (m_isWord (w := 14) (by decide) (by decide) (fun e14 => ⟨fun c => absurd c (by decide), fun _ => ?_⟩) (fun e14 => ⟨fun _ => m_spelled (by omega) (by omega) (by omega) (by omega) (by omega) (by omega) (m_isWord (w := 15) (by decide) (by decide) (fun e15 => ⟨fun c => absurd c (by decide), fun _ => ?_⟩) (fun e15 => ⟨fun _ => m_isGrudge (fun e5 => ⟨fun c => absurd c (by decide), fun _ => ?_⟩) (fun e5 => ⟨fun _ => m_isTemper (fun e3 => ⟨fun c => absurd c (by decide), fun _ => ?_⟩) (fun e3 => ⟨fun _ => ?_, fun c => absurd rfl c⟩), fun c => absurd rfl c⟩), fun c => absurd rfl c⟩)), fun c => absurd rfl c⟩)))
  · rw [if_pos (show mW h = 14 from e14)] at hR; exact hR
  · rw [if_neg (show ¬ mW h = 14 from e14), if_pos (show mW h = 15 from e15)] at hR; exact hR
  · rw [if_neg (show ¬ mW h = 14 from e14), if_neg (show ¬ mW h = 15 from e15), if_pos (show mW h = 5 from e5)] at hR; exact hR
  · rw [if_neg (show ¬ mW h = 14 from e14), if_neg (show ¬ mW h = 15 from e15), if_neg (show ¬ mW h = 5 from e5), if_pos (show mW h = 3 from e3)] at hR; exact hR
  · rw [if_neg (show ¬ mW h = 14 from e14), if_neg (show ¬ mW h = 15 from e15), if_neg (show ¬ mW h = 5 from e5), if_neg (show ¬ mW h = 3 from e3)] at hR; exact hR
theorem m_isKept (h1 : mW h ≠ -1 → R (some (qi 1)) h) (h0 : mW h = -1 → R (some (qi 0)) h) : qT (d + 4) 208 0 [qo 12 0] [] h R := by
  have mb := mW_b h
  have yes : ∀ w : Int, 0 ≤ w → mW h = w → R (some (qi 1)) h := fun w w0 e => h1 (by omega)
  refine sX12_isKept_0 (m_isOdds (fun e => ⟨fun _ => ⟨by omega, yes _ (by omega) e⟩, fun c => absurd (by decide) c⟩) (fun e0 => ⟨fun c => absurd rfl c, fun _ => m_isCool (fun e => ⟨fun _ => ⟨by omega, yes _ (by omega) e⟩, fun c => absurd (by decide) c⟩) (fun e1 => ⟨fun c => absurd rfl c, fun _ => m_isPerson (fun e => ⟨fun _ => ⟨by omega, yes _ (by omega) e⟩, fun c => absurd (by decide) c⟩) (fun e2 => ⟨fun c => absurd rfl c, fun _ => m_isStair (fun e => ⟨fun _ => ⟨by omega, yes _ (by omega) e⟩, fun c => absurd (by decide) c⟩) (fun e4 => ⟨fun c => absurd rfl c, fun _ => m_isLike (fun e => ⟨fun _ => ⟨by omega, yes _ (by omega) e⟩, fun c => absurd (by decide) c⟩) (fun e6 => ⟨fun c => absurd rfl c, fun _ => m_isSwap (fun e => ⟨fun c => absurd c (by decide), fun _ => ⟨by omega, yes _ (by omega) e⟩⟩) (fun e7 => ⟨fun _ => m_stepWord ?_, fun c => absurd rfl c⟩)⟩)⟩)⟩)⟩)⟩))
  refine ⟨fun c => ⟨by omega, h1 (fun e => ?_)⟩, fun c => m_testWord ⟨fun c2 => ⟨by omega, h1 (fun e => ?_)⟩, fun c2 => m_isEnd (fun e => ⟨fun c => absurd c (by decide), fun _ => ⟨by omega, yes _ (by omega) e⟩⟩) (fun e17 => ⟨fun _ => ⟨by omega, h0 ?_⟩, fun c => absurd rfl c⟩)⟩⟩
  · rw [e] at c; revert c; decide
  · rw [e] at c2; revert c2; decide
  · unfold stW at c
    unfold tsW at c2
    by_cases c8 : mW h = 8
    · rw [if_pos c8] at c; omega
    by_cases c9 : mW h = 9
    · rw [if_neg c8, if_pos c9] at c; omega
    by_cases c10 : mW h = 10
    · rw [if_neg c8, if_neg c9, if_pos c10] at c; omega
    by_cases c11 : mW h = 11
    · rw [if_neg c8, if_neg c9, if_neg c10, if_pos c11] at c; omega
    by_cases c12 : mW h = 12
    · rw [if_neg c8, if_neg c9, if_neg c10, if_neg c11, if_pos c12] at c; omega
    by_cases c13 : mW h = 13
    · rw [if_neg c8, if_neg c9, if_neg c10, if_neg c11, if_neg c12, if_pos c13] at c; omega
    by_cases c16 : mW h = 16
    · rw [if_neg c8, if_neg c9, if_neg c10, if_neg c11, if_neg c12, if_neg c13, if_pos c16] at c; omega
    by_cases c18 : mW h = 18
    · rw [if_neg c8, if_neg c9, if_neg c10, if_neg c11, if_neg c12, if_neg c13, if_neg c16, if_pos c18] at c; omega
    by_cases c14 : mW h = 14
    · rw [if_pos c14] at c2; omega
    by_cases c15 : mW h = 15
    · rw [if_neg c14, if_pos c15] at c2; omega
    by_cases c5 : mW h = 5
    · rw [if_neg c14, if_neg c15, if_pos c5] at c2; omega
    by_cases c3 : mW h = 3
    · rw [if_neg c14, if_neg c15, if_neg c5, if_pos c3] at c2; omega
    omega
theorem m_isName (hm : mT h b n p) (h1 : isNm b n p → R (some (qi 1)) h) (h0 : ¬ isNm b n p → R (some (qi 0)) h) : qT (d + 5) 209 0 [qo 12 0] [] h R := by
  have ew := mT_W hm
  unfold isNm at h1 h0
  refine sX12_isName_0 ?_
  rw [hm.2.1]
  refine ⟨fun c => ⟨by omega, h0 (by omega)⟩, fun c => ?_⟩
  rw [(hm.2.2.2.2.2 (by omega)).2]
  exact ⟨fun c2 => ⟨by omega, h0 (by omega)⟩, fun c2 => m_isKept (fun e => ⟨fun _ => ⟨by omega, h0 (by omega)⟩, fun c => absurd (by decide) c⟩) (fun e => ⟨fun c => absurd rfl c, fun _ => ⟨by omega, h1 (by omega)⟩⟩)⟩
theorem m_isSign {x : Int} (h1 : h 12 0 14 0 = 3 → h 12 0 17 0 = x → R (some (qi 1)) h) (h0 : ¬ (h 12 0 14 0 = 3 ∧ h 12 0 17 0 = x) → R (some (qi 0)) h) : qT (d + 1) 194 0 [qo 12 0, qi x] [] h R :=
  sX12_isSign_0 ⟨fun c => ⟨by omega, h0 (by omega)⟩, fun c => ⟨fun c2 => ⟨by omega, h0 (by omega)⟩, fun c2 => ⟨by omega, h1 (by omega) (by omega)⟩⟩⟩
theorem m_fail {k x : Int} (hb : h 12 0 12 0 = 0) (k0 : 0 < k) (hR : ∀ h', fr PMr h h' → mF h' (k, x) → R none h') : qT (d + 1) 210 0 [qo 12 0, qi k, qi x] [] h R := by
  refine sX12_fail_0 ?_
  rw [hb]
  exact ⟨fun _ => hR _ (fr_trans (fr_up ⟨rfl, by omega⟩) (fr_up ⟨rfl, by omega⟩)) ⟨by rw [up_j (by omega)]; exact up_at, up_at, k0⟩, fun c => absurd (by decide) c⟩
theorem m_failB {k x : Int} {e : Int × Int} (hb : mF h e) (hR : R none h) : qT (d + 1) 210 0 [qo 12 0, qi k, qi x] [] h R := by
  have := hb.2.2
  refine sX12_fail_0 ?_
  rw [hb.1]
  exact ⟨fun c => absurd c (by omega), fun _ => hR⟩
theorem m_amiss (hk : mK h b n p) (hR : ∀ h', fr PMr h h' → mF h' (amF b n p) → R none h') : qT (d + 2) 211 0 [qo 12 0] [] h R := by
  refine sX12_amiss_0 ?_
  rw [hk.2.2.1, hk.2.1]
  refine ⟨fun c => m_fail hk.1 (by omega) (fun h' hf hF => hR h' hf (by rw [amF_2 c]; exact hF)), fun c => m_fail hk.1 (by omega) (fun h' hf hF => hR h' hf (by rw [amF_4 (Decidable.not_not.mp c)]; exact hF))⟩
theorem mK_fr0 {h' : qH} (hk : mK h b n p) (hf : fr PMa h h') : h' 12 0 12 0 = 0 := by rw [hf 12 0 12 (by omega)]; exact hk.1
theorem m_next (ht : txM h b n) (hk : mK h b n p) (p0 : 0 ≤ p) (pn : p ≤ n) (hR : ∀ h', fr PMr h h' → mK h' b n (tkE b n p) → R none h') : qT (d + 2) 193 0 [qo 12 0, qu] [] h R := by
  have hs := tkS_b (b := b) pn
  have he := tkE_b (b := b) pn
  exact m_advance ht hk.2.2.2.1 (by omega) he.2.1 (fun h' hf hm => hR h' (PMa_r hf) ⟨mK_fr0 hk hf, hm⟩)
theorem m_mustT (ht : txM h b n) (hk : mK h b n p) (p0 : 0 ≤ p) (pn : p ≤ n) (hR : ∀ h', fr PMr h h' → mK h' b n (tkE b n p) → R none h') : qT (d + 3) 212 0 [qo 12 0, qi 1] [] h R := by
  refine sX12_must_0 ?_
  rw [hk.1]
  exact ⟨fun _ => ⟨fun c => absurd c (by decide), fun _ => m_next ht hk p0 pn hR⟩, fun c => absurd (by decide) c⟩
theorem m_mustF (hk : mK h b n p) (hR : ∀ h', fr PMr h h' → mF h' (amF b n p) → R none h') : qT (d + 3) 212 0 [qo 12 0, qi 0] [] h R := by
  refine sX12_must_0 ?_
  rw [hk.1]
  exact ⟨fun _ => ⟨fun _ => m_amiss hk hR, fun c => absurd rfl c⟩, fun c => absurd (by decide) c⟩
theorem m_mustB {x : Int} {e : Int × Int} (hb : mF h e) (hR : R none h) : qT (d + 1) 212 0 [qo 12 0, qi x] [] h R := by
  have := hb.2.2
  refine sX12_must_0 ?_
  rw [hb.1]
  exact ⟨fun c => absurd c (by omega), fun _ => hR⟩
theorem m_count {lo hi : Int} (ht : txM h b n) (hk : mK h b n p) (p0 : 0 ≤ p) (pn : p ≤ n) (he : ∀ e, rdNum b n lo hi p = .inl e → ∀ h', fr PMr h h' → mF h' e → R (some (qi 0)) h') (hx : ∀ v p', rdNum b n lo hi p = .inr (v, p') → ∀ h', fr PMr h h' → mK h' b n p' → R (some (qi v)) h') : qT (d + 3) 213 0 [qo 12 0, qi lo, qi hi, qu] [] h R := by
  have bad : ∀ g e, fr PMr h g → mF g e → rdNum b n lo hi p = .inl e → qT (d + 3) 213 50 [qo 12 0, qi lo, qi hi, qu] [] g R := by
    intro g e hf hF hr
    have := hF.2.2
    refine tX12_count_50 ?_
    rw [hF.1]
    exact ⟨fun c => absurd c (by omega), fun _ => he e hr g hf hF⟩
  refine tX12_count_0 ?_
  rw [hk.1, hk.2.2.1]
  refine ⟨fun c => absurd rfl c, fun _ => ⟨fun c => ?_, fun c => m_amiss hk (fun g hf hF => tX12_count_19 ?_)⟩⟩
  · refine tX12_count_19 ?_
    rw [hk.1, hk.2.2.2.2.1 c]
    refine ⟨fun c => absurd rfl c, fun _ => m_isIn (fun c1 c2 => ⟨fun _ => tX12_count_50 ?_, fun c => absurd (by decide) c⟩) (fun c1 => ⟨fun c => absurd rfl c, fun _ => ?_⟩)⟩
    · rw [hk.1]
      refine ⟨fun _ => tX12_count_59 (m_next ht hk p0 pn (fun g hf hk' => ?_)), fun c => absurd (by decide) c⟩
      show R (some (qi (h 12 0 17 0))) g
      rw [hk.2.2.2.2.1 c]
      exact hx _ _ (rdNum_y c ⟨c1, c2⟩) g hf hk'
    · rw [hk.2.1]
      exact m_fail hk.1 (by omega) (fun g hf hF => bad g _ hf hF (rdNum_n c c1))
  · have hr : rdNum b n lo hi p = .inl (amF b n p) := rdNum_k c
    have := hF.2.2
    rw [hF.1]
    exact ⟨fun _ => bad g _ hf hF hr, fun c2 => absurd (by omega) c2⟩
theorem m_countB {lo hi : Int} {e : Int × Int} (hb : mF h e) (hR : R (some (qi 0)) h) : qT (d + 1) 213 0 [qo 12 0, qi lo, qi hi, qu] [] h R := by
  have := hb.2.2
  refine tX12_count_0 ?_
  rw [hb.1]
  refine ⟨fun _ => tX12_count_19 ?_, fun c => absurd (by omega) c⟩
  rw [hb.1]
  refine ⟨fun _ => tX12_count_50 ?_, fun c => absurd (by omega) c⟩
  rw [hb.1]
  exact ⟨fun c => absurd c (by omega), fun _ => hR⟩
theorem m_named {X : Int} {Y : Int → Int} {bl m y : Int} (hm : h 12 0 20 (Int.toNat (372 * bl)) = m) (m0 : 0 ≤ m) (m7 : m ≤ 7) (b0 : 0 ≤ bl) (b4 : bl ≤ 4) (hY : ∀ j, 0 ≤ j → j < m → h 12 0 22 (Int.toNat (7 * bl + j)) = Y j) (hy : h 12 0 19 0 = y) (hR : R (some (qi (fnd Y m y))) h) : qT (d + 1) 221 0 [qo 12 0, qi bl, qu] [] h R := by
  have key : ∀ r, qfst (fun j => Y j = y) m r → R (some (qi r)) h := fun r hr => by rw [qfst_uniq hr (fnd_qfst m m0)]; exact hR
  refine sX12_named_0 ?_
  refine q_up (n := m) (C := fun j => j ≤ m → (∀ j', 0 ≤ j' → j' < j → ¬ Y j' = y) → qT (d + 1) 221 2 [qo 12 0, qi bl, qi j] [] h R) ?_ 0 (by omega) m0 (fun j' j0 j1 => absurd j1 (by omega))
  intro j hj ih jm hn
  refine sX12_named_2 ?_
  rw [hm, hy]
  refine ⟨qR_of (by omega) (by omega), by omega, fun c => key _ (Or.inr ⟨rfl, fun j' j0 j1 => hn j' j0 (by omega)⟩), fun c => ?_⟩
  rw [hY j hj (by omega)]
  refine ⟨qR_of (by omega) (by omega), qR_of (by omega) (by omega), by omega, fun c2 => ⟨qR_of (by omega) (by omega), ih (by omega) (by omega) (fun j' j0 j1 => ?_)⟩, fun c2 => key _ (Or.inl ⟨hj, by omega, qlcmp_eq.mp (Decidable.not_not.mp c2), hn⟩)⟩
  by_cases e : j' = j
  · rw [e]; exact fun e2 => c2 (qlcmp_eq.mpr e2)
  · exact hn j' j0 (by omega)
/-- the Model's names and count of a block -/
def nmM (h : qH) (bl : Int) (Y : Int → Int) (m : Int) : Prop := h 12 0 20 (Int.toNat (372 * bl)) = m ∧ (0 ≤ m ∧ m ≤ 7) ∧ (0 ≤ bl ∧ bl ≤ 4) ∧ ∀ j, 0 ≤ j → j < m → h 12 0 22 (Int.toNat (7 * bl + j)) = Y j
theorem nmM_fr {h' : qH} {bl m : Int} {Y : Int → Int} (hn : nmM h bl Y m) (hf : fr PMr h h') : nmM h' bl Y m := by
  unfold nmM at *
  rw [hf 12 0 20 (by omega), hf 12 0 22 (by omega)]
  exact hn
theorem m_told {Y : Int → Int} {bl m : Int} (hk : mK h b n p) (hn : nmM h bl Y m) (he : ∀ e, rdPer b n Y m p = .inl e → ∀ h', fr PMr h h' → mF h' e → R (some (qi 0)) h') (hx : ∀ v p', rdPer b n Y m p = .inr (v, p') → (0 ≤ v ∧ v < m) → p' = tkE b n p → R (some (qi v)) h) : qT (d + 6) 222 0 [qo 12 0, qi bl, qu] [] h R := by
  refine tX12_told_0 ?_
  rw [hk.1]
  refine ⟨fun c => absurd rfl c, fun _ => m_isName hk.2 (fun hN => ⟨fun _ => tX12_told_18 ?_, fun c => absurd (by decide) c⟩) (fun hN => ⟨fun c => absurd rfl c, fun _ => m_amiss hk (fun g hf hF => tX12_told_18 ?_)⟩)⟩
  · rw [hk.1]
    refine ⟨fun _ => tX12_told_27 (m_named (X := 0) hn.1 hn.2.1.1 hn.2.1.2 hn.2.2.1.1 hn.2.2.1.2 hn.2.2.2 (hk.2.2.2.2.2.2 hN.1).1 ?_), fun c => absurd (by decide) c⟩
    have fq := fnd_qfst (Y := Y) (y := tkY b n p) m hn.2.1.1
    dsimp only [qri]
    rw [hk.2.1]
    refine ⟨fun c => ?_, fun c => m_fail hk.1 (by omega) (fun g hf hF => ?_)⟩
    · rw [show max 0 (fnd Y m (tkY b n p)) = fnd Y m (tkY b n p) by omega]
      rcases fq with ⟨q0, q1, _⟩ | ⟨q1, _⟩
      · exact hx _ _ (rdPer_y hN c) ⟨q0, q1⟩ rfl
      · omega
    · show R (some (qi (max 0 (fnd Y m (tkY b n p))))) g
      rw [show max 0 (fnd Y m (tkY b n p)) = 0 by omega]
      exact he _ (rdPer_n hN c) g hf hF
  · have := hF.2.2
    rw [hF.1]
    exact ⟨fun c => absurd c (by omega), fun _ => he _ (rdPer_a hN) g hf hF⟩
theorem m_toldB {bl : Int} {e : Int × Int} (hb : mF h e) (hR : R (some (qi 0)) h) : qT (d + 1) 222 0 [qo 12 0, qi bl, qu] [] h R := by
  have := hb.2.2
  refine tX12_told_0 ?_
  rw [hb.1]
  refine ⟨fun _ => tX12_told_18 ?_, fun c => absurd (by omega) c⟩
  rw [hb.1]
  exact ⟨fun c => absurd c (by omega), fun _ => hR⟩
theorem m_readTold {Y : Int → Int} {bl m : Int} (ht : txM h b n) (hk : mK h b n p) (p0 : 0 ≤ p) (pn : p ≤ n) (hn : nmM h bl Y m) (he : ∀ e, rdPer b n Y m p = .inl e → ∀ h', fr PMr h h' → mF h' e → R (some (qi 0)) h') (hx : ∀ v p', rdPer b n Y m p = .inr (v, p') → (0 ≤ v ∧ v < m) → ∀ h', fr PMr h h' → mK h' b n p' → R (some (qi v)) h') : qT (d + 7) 223 0 [qo 12 0, qi bl, qu] [] h R := by
  refine sX12_readTold_0 (m_told hk hn (fun e hr g hf hF => m_mustB hF (he e hr g hf hF)) (fun v p' hr hv ep => m_mustT ht hk p0 pn (fun g hf hk' => ?_)))
  rw [← ep] at hk'
  exact hx v p' hr hv g hf hk'
theorem m_readToldB {bl : Int} {e : Int × Int} (hb : mF h e) (hR : R (some (qi 0)) h) : qT (d + 2) 223 0 [qo 12 0, qi bl, qu] [] h R :=
  sX12_readTold_0 (m_toldB hb (m_mustB hb hR))
end Wd
