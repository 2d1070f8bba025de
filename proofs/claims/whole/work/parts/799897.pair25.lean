/-! from TRAY to TRAY -/
def pSt (h : qH) (t i u j m s : Int) : Prop := (s = 1 ∧ ¬ ((0 ≤ t ∧ t < 4) ∧ (0 ≤ u ∧ u < 4))) ∨ (((0 ≤ t ∧ t < 4) ∧ (0 ≤ u ∧ u < 4)) ∧ ((s = 3 ∧ (h 12 0 5 (Int.toNat t) < 0 ∨ h 12 0 5 (Int.toNat u) < 0)) ∨ ((0 ≤ h 12 0 5 (Int.toNat t) ∧ 0 ≤ h 12 0 5 (Int.toNat u)) ∧ ((s = 11 ∧ h 12 0 4 (Int.toNat t) ≠ h 12 0 4 (Int.toNat u)) ∨ (h 12 0 4 (Int.toNat t) = h 12 0 4 (Int.toNat u) ∧ ((s = 6 ∧ m < 0) ∨ (0 ≤ m ∧ ((s = 4 ∧ ¬ (0 ≤ i ∧ 0 ≤ j ∧ i + m ≤ h 12 0 5 (Int.toNat t) ∧ j + m ≤ h 12 0 5 (Int.toNat u))) ∨ (s = 0 ∧ (0 ≤ i ∧ 0 ≤ j ∧ i + m ≤ h 12 0 5 (Int.toNat t) ∧ j + m ≤ h 12 0 5 (Int.toNat u)))))))))))
theorem cp_n {h : qH} {c0 i0 j0 sp c i j dp n k : Nat} (nn : ¬ (dp ≤ k ∧ k < dp + n)) : qcp h c0 i0 j0 sp c i j dp n c i j k = h c i j k := if_neg (fun e => nn e.2.2.1)
section Pu
variable {d : Nat} {R : Option qV → qH → Prop} {h : qH} {t i u j m : Int}
theorem x_stPour (ht : tRel h) (ri : qR i) (rj : qR j) (hR : ∀ s, pSt h t i u j m s → R (some (qi s)) h) : qT (d + 2) 162 0 [qo 11 0, qi t, qi i, qi u, qi j, qi m] [] h R := by
  refine sX11_statusOfPour_0 (sX11_hasTray_0 ⟨fun c => ⟨by omega, fun _ => hR 1 (Or.inl ⟨rfl, by omega⟩), fun c2 => absurd rfl c2⟩, fun c => ⟨fun c2 => ⟨by omega, fun _ => hR 1 (Or.inl ⟨rfl, by omega⟩), fun c3 => absurd rfl c3⟩, fun c2 => ⟨by omega, fun c3 => absurd c3 (by decide), fun _ => sX11_hasTray_0 ⟨fun d1 => ⟨by omega, fun d2 => absurd rfl d2, fun _ => hR 1 (Or.inl ⟨rfl, by omega⟩)⟩, fun d1 => ⟨fun d2 => ⟨by omega, fun d3 => absurd rfl d3, fun _ => hR 1 (Or.inl ⟨rfl, by omega⟩)⟩, fun d2 => ⟨by omega, fun _ => ⟨by omega, ?_⟩, fun d3 => absurd (by decide) d3⟩⟩⟩⟩⟩⟩)
  have bb : (0 ≤ t ∧ t < 4) ∧ (0 ≤ u ∧ u < 4) := by omega
  have T := ht t.toNat (by omega)
  have U := ht u.toNat (by omega)
  have ri1 := ri.1
  have ri2 := ri.2
  have rj1 := rj.1
  have rj2 := rj.2
  rw [show 0 + Int.toNat t = t.toNat by omega, show 0 + Int.toNat u = u.toNat by omega]
  refine sX10_isMissing_0 ⟨fun nm => ⟨by omega, fun c3 => absurd rfl c3, fun _ => ⟨by omega, sX10_isMissing_0 ⟨fun um => ⟨by omega, fun _ => ?_, fun c4 => absurd rfl c4⟩, fun um => ⟨by omega, fun c4 => absurd c4 (by decide), fun _ => hR 3 (Or.inr ⟨bb, Or.inl ⟨rfl, Or.inr (U.2.2.1.mp (Decidable.not_not.mp um))⟩⟩)⟩⟩⟩⟩, fun tm => ⟨by omega, fun _ => hR 3 (Or.inr ⟨bb, Or.inl ⟨rfl, Or.inl (T.2.2.1.mp (Decidable.not_not.mp tm))⟩⟩), fun c3 => absurd (by decide) c3⟩⟩
  have T2 := T.2.2.2 nm
  have U2 := U.2.2.2 um
  have T3 : 0 ≤ h 12 0 5 (Int.toNat t) := by have : ¬ h 12 0 5 t.toNat < 0 := fun e => nm (T.2.2.1.mpr e); omega
  have U3 : 0 ≤ h 12 0 5 (Int.toNat u) := by have : ¬ h 12 0 5 u.toNat < 0 := fun e => um (U.2.2.1.mpr e); omega
  have go : ∀ s, ((s = 11 ∧ h 12 0 4 (Int.toNat t) ≠ h 12 0 4 (Int.toNat u)) ∨ (h 12 0 4 (Int.toNat t) = h 12 0 4 (Int.toNat u) ∧ ((s = 6 ∧ m < 0) ∨ (0 ≤ m ∧ ((s = 4 ∧ ¬ (0 ≤ i ∧ 0 ≤ j ∧ i + m ≤ h 12 0 5 (Int.toNat t) ∧ j + m ≤ h 12 0 5 (Int.toNat u))) ∨ (s = 0 ∧ (0 ≤ i ∧ 0 ≤ j ∧ i + m ≤ h 12 0 5 (Int.toNat t) ∧ j + m ≤ h 12 0 5 (Int.toNat u)))))))) → R (some (qi s)) h := fun s hs => hR s (Or.inr ⟨bb, Or.inr ⟨⟨T3, U3⟩, hs⟩⟩)
  have T1 := T.1 nm
  have U1 := U.1 um
  refine ⟨bb.1, bb.2, fun es => ⟨fun m0' => ⟨bb.1, ?_⟩, fun nm0 => go 6 (Or.inr ⟨by omega, Or.inl ⟨rfl, by omega⟩⟩)⟩, fun ns => go 11 (Or.inl ⟨rfl, by omega⟩)⟩
  have es' : h 12 0 4 (Int.toNat t) = h 12 0 4 (Int.toNat u) := by omega
  have g4 : ¬ (0 ≤ i ∧ 0 ≤ j ∧ i + m ≤ h 12 0 5 (Int.toNat t) ∧ j + m ≤ h 12 0 5 (Int.toNat u)) → R (some (qi 4)) h := fun n4 => go 4 (Or.inr ⟨es', Or.inr ⟨m0', Or.inl ⟨rfl, n4⟩⟩⟩)
  refine sX10_hasRow_0 ⟨fun c3 => ⟨by omega, fun _ => g4 (by omega), fun c4 => absurd rfl c4⟩, fun c3 => ⟨fun c4 => absurd c4 (by omega), fun _ => ⟨qR_of (by omega) (by omega), fun c4 => ⟨by omega, fun _ => g4 (by omega), fun c5 => absurd rfl c5⟩, fun c4 => ⟨by omega, fun c5 => absurd c5 (by decide), fun _ => ⟨bb.2, ?_⟩⟩⟩⟩⟩
  refine sX10_hasRow_0 ⟨fun c5 => ⟨by omega, fun _ => g4 (by omega), fun c6 => absurd rfl c6⟩, fun c5 => ⟨fun c6 => absurd c6 (by omega), fun _ => ⟨qR_of (by omega) (by omega), fun c6 => ⟨by omega, fun _ => g4 (by omega), fun c7 => absurd rfl c7⟩, fun c6 => ⟨by omega, fun c7 => absurd c7 (by decide), fun _ => go 0 (Or.inr ⟨es', Or.inr ⟨m0', Or.inr ⟨rfl, by omega⟩⟩⟩)⟩⟩⟩⟩
/-- the Model's numbers behind a pour of those from lo to hi -/
def pNb (h : qH) (t i u j lo hi y : Int) : Int := if 60 * u + j + lo ≤ y ∧ y < 60 * u + j + hi then h 12 0 6 (Int.toNat (y - (60 * u + j) + (60 * t + i))) else h 12 0 6 (Int.toNat y)
theorem m_pourLoop {H : qH} (bb : (0 ≤ t ∧ t < 4) ∧ (0 ≤ u ∧ u < 4)) (m0' : 0 ≤ m) (i0 : 0 ≤ i) (j0 : 0 ≤ j) (im : i + m ≤ 60) (jm : j + m ≤ 60) {r : Int} (hr : (r = 0 ∧ j ≤ i) ∨ (r = 1 ∧ i < j)) (e6 : ∀ y, 0 ≤ y → H 12 0 6 (Int.toNat y) = h 12 0 6 (Int.toNat y)) (hR : ∀ g, fr (fun c i j => c = 12 ∧ i = 0 ∧ j = 6) H g → (∀ y, 0 ≤ y → g 12 0 6 (Int.toNat y) = pNb h t i u j 0 m y) → R (some (qi 1)) g) : qT (d + 1) 185 158 [qo 12 0, qi t, qi i, qi u, qi j, qi m, qi r, qi 0, qu] [] H R := by
  refine q_up (n := m) (C := fun x => x ≤ m → ∀ g z, fr (fun c i j => c = 12 ∧ i = 0 ∧ j = 6) H g → (∀ y, 0 ≤ y → g 12 0 6 (Int.toNat y) = pNb h t i u j (if r = 0 then 0 else m - x) (if r = 0 then x else m) y) → qT (d + 1) 185 158 [qo 12 0, qi t, qi i, qi u, qi j, qi m, qi r, qi x, z] [] g R) ?_ 0 (by omega) m0' H qu fr_rfl (fun y y0 => ?_)
  · intro x x0 ih xm g z fg hg
    refine sX12_pour_158 ⟨fun c => ⟨by omega, hR g fg (fun y y0 => ?_)⟩, fun c => ⟨fun r0 => ⟨qR_of (by omega) (by omega), qR_of (by omega) (by omega), qR_of (by omega) (by omega), qR_of (by omega) (by omega), qR_of (by omega) (by omega), qR_of (by omega) (by omega), by omega, by omega, qR_of (by omega) (by omega), ih (by omega) (by omega) _ _ (fr_trans fg (fr_up ⟨rfl, rfl, rfl⟩)) (fun y y0 => ?_)⟩, fun r0 => ⟨qR_of (by omega) (by omega), qR_of (by omega) (by omega), qR_of (by omega) (by omega), qR_of (by omega) (by omega), qR_of (by omega) (by omega), qR_of (by omega) (by omega), qR_of (by omega) (by omega), qR_of (by omega) (by omega), by omega, by omega, qR_of (by omega) (by omega), ih (by omega) (by omega) _ _ (fr_trans fg (fr_up ⟨rfl, rfl, rfl⟩)) (fun y y0 => ?_)⟩⟩⟩
    · rw [hg y y0]
      have ex : x = m := by omega
      subst ex
      by_cases r0 : r = 0
      · rw [if_pos r0, if_pos r0]
      · rw [if_neg r0, if_neg r0, show x - x = 0 by omega]
    · rw [up_I y0 (by omega), hg _ (by omega), hg y y0, if_pos r0, if_pos r0, if_pos r0, if_pos r0]
      unfold pNb
      by_cases e : y = 60 * u + j + x
      · rw [if_pos e, if_neg (by omega), if_pos (by omega), show y - (60 * u + j) + (60 * t + i) = 60 * t + i + x by omega]
      · rw [if_neg e]
        by_cases c2 : 60 * u + j + 0 ≤ y ∧ y < 60 * u + j + x
        · rw [if_pos c2, if_pos (by omega)]
        · rw [if_neg c2, if_neg (by omega)]
    · rw [up_I y0 (by omega), hg _ (by omega), hg y y0, if_neg r0, if_neg r0, if_neg r0, if_neg r0]
      unfold pNb
      by_cases e : y = 60 * u + j + (m - 1 - x)
      · rw [if_pos e, if_neg (by omega), if_pos (by omega), show y - (60 * u + j) + (60 * t + i) = 60 * t + i + (m - 1 - x) by omega]
      · rw [if_neg e]
        by_cases c2 : 60 * u + j + (m - x) ≤ y ∧ y < 60 * u + j + m
        · rw [if_pos c2, if_pos (by omega)]
        · rw [if_neg c2, if_neg (by omega)]
  · unfold pNb
    rw [e6 y y0, if_neg]
    by_cases r0 : r = 0
    · rw [if_pos r0, if_pos r0]; omega
    · rw [if_neg r0, if_neg r0]; omega
end Pu
theorem p_pour {t i u j m : Int} (ri : qR i) (rj : qR j) (rm : qR m) : Pair 112 185 [qi t, qi i, qi u, qi j, qi m] [qi t, qi i, qi u, qi j, qi m, qu, qu, qu] := by
  intro d B h a K X S hi b0 b1 hK hS
  have ht := hi.2.2.1
  have ri1 := ri.1
  have ri2 := ri.2
  have rj1 := rj.1
  have rj2 := rj.2
  have rm1 := rm.1
  have rm2 := rm.2
  refine sX11_pour_0 (x_stPour ht ri rj (fun s hs => ?_))
  dsimp only [qri]
  by_cases s0 : s = 0
  · subst s0
    rcases hs with ⟨c, _⟩ | ⟨bb, ⟨c, _⟩ | ⟨⟨T3, U3⟩, ⟨c, _⟩ | ⟨es, ⟨c, _⟩ | ⟨m0', ⟨c, _⟩ | ⟨_, ok⟩⟩⟩⟩⟩
    · omega
    · omega
    · omega
    · omega
    · omega
    · have T := ht t.toNat (by omega)
      have U := ht u.toNat (by omega)
      have nm : h 10 t.toNat 1 0 ≠ -1 := fun e => by have := T.2.2.1.mp e; omega
      have um : h 10 u.toNat 1 0 ≠ -1 := fun e => by have := U.2.2.1.mp e; omega
      have T2 := T.2.2.2 nm
      have U2 := U.2.2.2 um
      refine x_agree0 ⟨fun c => absurd c (by decide), fun _ => ⟨bb.1, bb.2, by omega, ?_⟩⟩
      rw [show 0 + Int.toNat t = t.toNat by omega, show 0 + Int.toNat u = u.toNat by omega, up_at]
      refine ⟨fun c => absurd rfl c, fun _ => ⟨by omega, ?_⟩⟩
      obtain ⟨g1, hg1⟩ : ∃ g1, qcp (qup h 11 0 17 0 0) 10 t.toNat 0 (Int.toNat i) 10 u.toNat 0 (Int.toNat j) (Int.toNat m) = g1 := ⟨_, rfl⟩
      rw [hg1]
      have f1 : fr PTr h g1 := by
        rw [← hg1]
        exact fr_trans (fr_mono PN_s (fun _ _ _ p => Or.inl p)) (fr_cp (Or.inr (Or.inl rfl)))
      have n1 : ∀ c i j, c ≠ 10 → c ≠ 11 → g1 c i j = h c i j := fun c i j c1 c2 => by rw [← hg1, cp_j (by omega), up_j (by omega)]
      have v17 : g1 11 0 17 0 = 0 := by rw [← hg1, cp_j (by omega)]; exact up_at
      have v10 : ∀ t' j', ¬ (t' = u.toNat ∧ j' = 0) → g1 10 t' j' = h 10 t' j' := fun t' j' nn => by rw [← hg1, cp_j (by omega), up_j (by omega)]
      have vu : ∀ k : Int, 0 ≤ k → g1 10 u.toNat 0 (Int.toNat k) = if j ≤ k ∧ k < j + m then h 10 t.toNat 0 (Int.toNat (i + (k - j))) else h 10 u.toNat 0 (Int.toNat k) := fun k k0 => by
        rw [← hg1]
        by_cases c : j ≤ k ∧ k < j + m
        · rw [if_pos c, cp_at (by omega) (by omega), up_j (by omega), show Int.toNat i + (Int.toNat k - Int.toNat j) = Int.toNat (i + (k - j)) by omega]
        · rw [if_neg c, cp_n (by omega), up_j (by omega)]
      have e4 : g1 12 0 4 = h 12 0 4 := n1 12 0 4 (by omega) (by omega)
      have e5 : g1 12 0 5 = h 12 0 5 := n1 12 0 5 (by omega) (by omega)
      have fin : ∀ g, fr (fun c i j => c = 12 ∧ i = 0 ∧ j = 6) (qup (qup g1 12 0 1 0 0) 12 0 0 0 0) g → (∀ y, 0 ≤ y → g 12 0 6 (Int.toNat y) = pNb h t i u j 0 m y) → K g := by
        intro g fg hg
        have fA : fr PTr g1 g := fr_trans (fr_mono PN_1 (fun _ _ _ p => Or.inl p)) (fr_trans (fr_mono PN_0 (fun _ _ _ p => Or.inl p)) (fr_mono fg (fun c i j p => Or.inr (Or.inr ⟨p.1, by omega, by omega⟩))))
        have fB := fr_trans f1 fA
        refine hK g a (Inv_t hi fB (by omega) (fun t' t4' => ?_) ?_) (fr_91T fB)
        · have T' := ht t' t4'
          have q4 : g 12 0 4 = h 12 0 4 := by rw [fg 12 0 4 (by omega), up_j (by omega), up_j (by omega)]; exact e4
          have q5 : g 12 0 5 = h 12 0 5 := by rw [fg 12 0 5 (by omega), up_j (by omega), up_j (by omega)]; exact e5
          have q10 : ∀ j', g 10 t' j' = g1 10 t' j' := fun j' => by rw [fg 10 t' j' (by omega), up_j (by omega), up_j (by omega)]
          rw [q4, q5, q10, q10, q10, v10 t' 1 (by omega), v10 t' 2 (by omega)]
          refine ⟨T'.1, T'.2.1, T'.2.2.1, fun nm' => ?_⟩
          have T2' := T'.2.2.2 nm'
          refine ⟨T2'.1, T2'.2.1, fun k k0 k1 => ?_⟩
          rw [hg _ (by omega)]
          unfold pNb
          by_cases e : t' = u.toNat
          · subst e
            rw [vu k k0]
            by_cases c : j ≤ k ∧ k < j + m
            · rw [if_pos c, if_pos (by omega), T2.2.2 _ (by omega) (by omega), show 60 * ((t.toNat : Nat) : Int) + (i + (k - j)) = 60 * ((u.toNat : Nat) : Int) + k - (60 * u + j) + (60 * t + i) by omega]
            · rw [if_neg c, if_neg (by omega)]; exact T2'.2.2 k k0 k1
          · rw [v10 t' 0 (by omega), if_neg (by omega)]
            exact T2'.2.2 k k0 k1
        · rw [fg 11 0 17 (by omega), up_j (by omega), up_j (by omega), v17, fg 12 0 0 (by omega), up_at]
      refine hS _ _ (fr_91T f1) (sX12_pour_0 ?_)
      rw [e4, e5, qlcmp_gt, qlcmp_le]
      have lp : ∀ r, ((r = 0 ∧ j ≤ i) ∨ (r = 1 ∧ i < j)) → qT (d + 39) 185 158 [qo 12 0, qi t, qi i, qi u, qi j, qi m, qi r, qi 0, qu] [] (qup (qup g1 12 0 1 0 0) 12 0 0 0 0) (fun w' g' => qri w' fun r' => ((1 : Int) = r' → K g') ∧ (¬ (1 : Int) = r' → X g')) := fun r hr => m_pourLoop (h := h) bb m0' ok.1 ok.2.1 (by omega) (by omega) hr (fun y y0 => by rw [up_j (by omega), up_j (by omega), n1 12 0 6 (by omega) (by omega)]) (fun g fg hg => okR (fin g fg hg) rfl)
      exact ⟨fun c => by omega, fun _ => ⟨fun c => by omega, fun _ => ⟨fun c => by omega, fun _ => ⟨fun _ => ⟨bb.1, fun c => by omega, fun _ => ⟨bb.2, fun _ => ⟨bb.1, bb.2, fun _ => ⟨fun _ => ⟨fun c => by omega, fun _ => ⟨fun c => by omega, fun _ => ⟨qRL_of (by omega) (by omega), bb.1, fun c => by omega, fun _ => ⟨qRL_of (by omega) (by omega), bb.2, fun _ => ⟨fun c => lp 0 (Or.inl ⟨rfl, c⟩), fun c => lp 1 (Or.inr ⟨rfl, by omega⟩)⟩, fun c => by omega⟩⟩⟩⟩, fun c => by omega⟩, fun c => by omega⟩, fun c => by omega⟩⟩, fun c => by omega⟩⟩⟩⟩
  · refine x_agreeN s0 ⟨fun _ => ?_, fun c => absurd rfl c⟩
    rw [up_at]
    refine ⟨fun _ => ⟨by omega, hS _ _ s_91 (sX12_pour_0 ?_)⟩, fun c => absurd s0 c⟩
    have ks := kS hi hK s
    have e4 : (qup h 11 0 17 0 s) 12 0 4 = h 12 0 4 := up_j (by omega)
    have e5 : (qup h 11 0 17 0 s) 12 0 5 = h 12 0 5 := up_j (by omega)
    rw [e4, e5, qlcmp_gt, qlcmp_le]
    have no : ∀ v, s = v → qT (d + 38) 176 0 [qo 12 0, qi v] [] (qup (qup (qup h 11 0 17 0 s) 12 0 1 0 0) 12 0 0 0 0) (fun w1 g2 => qri w1 fun r3 => (r3 = 0 ∨ r3 = 1) ∧ qri (some (qi r3)) fun r' => ((0 : Int) = r' → K g2) ∧ (¬ (0 : Int) = r' → X g2)) := fun v e => by
      subst e
      exact m_no ⟨by omega, okR ks rfl⟩
    unfold pSt at hs
    exact ⟨fun c => no 1 (by omega), fun c1 => ⟨fun c => no 1 (by omega), fun c2 => ⟨fun c => no 1 (by omega), fun c3 => ⟨fun c4 => ⟨by omega, fun c => no 3 (by omega), fun c5 => ⟨by omega, fun c6 => ⟨by omega, by omega, fun c7 => ⟨fun c8 => ⟨fun c => no 4 (by omega), fun c9 => ⟨fun c => no 4 (by omega), fun c10 => ⟨qRL_of (by omega) (by omega), by omega, fun c => no 4 (by omega), fun c11 => ⟨qRL_of (by omega) (by omega), by omega, fun c => by omega, fun c => no 4 (by omega)⟩⟩⟩⟩, fun c => no 6 (by omega)⟩, fun c => no 11 (by omega)⟩, fun c => no 3 (by omega)⟩⟩, fun c => no 1 (by omega)⟩⟩⟩⟩
