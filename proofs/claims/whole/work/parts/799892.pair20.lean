/-! who is home behind some lives -/
noncomputable def mnH (D : Int → Int → Int) (N : Int) (k : Nat) (a : qB) (s : Int) : Int := sPop (aHome (lvAll D k 0 N (lv0 a s)).1 ((lvAll D k 0 N (lv0 a s)).1 0)).toNat
noncomputable def mnS (D : Int → Int → Int) (N : Int) (k : Nat) (a : qB) (x i : Int) : Int := qfold (fun j r => r + mnH D N k a (x + j)) 0 i
theorem mnS_s {D : Int → Int → Int} {N : Int} {k : Nat} {a : qB} {x i : Int} (i0 : 0 ≤ i) : mnS D N k a x (i + 1) = mnS D N k a x i + mnH D N k a (x + i) := by unfold mnS; rw [qfold_s i0]
theorem mnS_b {D : Int → Int → Int} {N : Int} {k : Nat} {a : qB} {x : Int} : ∀ i, 0 ≤ i → 0 ≤ mnS D N k a x i ∧ mnS D N k a x i ≤ 10 * i := by
  apply q_ind
  · exact ⟨Int.le_refl _, Int.le_refl _⟩
  · intro i i0 ih
    rw [mnS_s i0]
    have := sPopTo_b (aHome (lvAll D k 0 N (lv0 a (x + i))).1 ((lvAll D k 0 N (lv0 a (x + i))).1 0)).toNat 10
    have e : mnH D N k a (x + i) = sPopTo (aHome (lvAll D k 0 N (lv0 a (x + i))).1 ((lvAll D k 0 N (lv0 a (x + i))).1 0)).toNat 10 := rfl
    omega
theorem lvF2_rfl {h : qH} : lvF2 h h := ⟨fun _ _ _ => rfl, fun _ _ => rfl, fun _ _ => rfl⟩
theorem lvF2_c {h : qH} {y v : Int} (y0 : 0 ≤ y) (y1 : y < 100) : lvF2 h (qup h 12 0 20 (Int.toNat y) v) := by
  refine ⟨fun c i n => by funext j; exact up_j (by omega), fun j n => up_j (by omega), fun z hz => ?_⟩
  rw [up_I (by omega) y0, if_neg (by omega)]
theorem p_mean {x y : Int} : Pair 154 325 [qi x, qi y, qu, qu] [qi x, qi y, qu, qu, qu, qu] := by
  intro d B h a K X S hi b0 b1 hK hS
  have hQ := hi.1.1
  have hW := hi.1.2.2.1
  have hd := hi.1.2.2.2.2
  have d1 : h 1 0 5 0 = h 12 0 20 (Int.toNat 100) := hd.1
  have d2 : h 1 0 6 0 = h 12 0 20 (Int.toNat 101) := hd.2.1
  have no : ∀ s, s ≠ 0 → ((¬ ((1 ≤ y ∧ y ≤ 20) ∧ (0 ≤ x ∧ x ≤ 10000 - y)) ∧ s = 5) ∨ (((1 ≤ y ∧ y ≤ 20) ∧ (0 ≤ x ∧ x ≤ 10000 - y)) ∧ h 1 0 5 0 = 0 ∧ s = 8)) → qT (d + 38) 158 0 [qo 11 0, qi s] [] h (fun w1 g2 => qri w1 fun r3 => (r3 = 0 ∨ r3 = 1) ∧ S (some (qi r3)) g2) := by
    intro s s0 hs
    have ks := kS hi hK s
    refine x_agreeN s0 ⟨by omega, hS _ _ s_91 (sX12_mean_0 (m_isIn (fun c1 c2 => ⟨fun c => absurd c (by decide), fun _ => ⟨qR_of (by omega) (by omega), m_isIn (fun c3 c4 => ⟨fun _ => ⟨by omega, fun c => ?_, fun c => ?_⟩, fun c => absurd (by decide) c⟩) (fun nx => ⟨fun c => absurd rfl c, fun _ => ?_⟩)⟩⟩) (fun ny => ⟨fun _ => ?_, fun c => absurd rfl c⟩)))⟩
    · rw [up_j (by omega), up_j (by omega), up_j (by omega), ← d1] at c
      exfalso; omega
    · rw [show s = 8 by omega] at ks ⊢; exact m_no ⟨by omega, okR ks rfl⟩
    · rw [show s = 5 by omega] at ks ⊢; exact m_no ⟨by omega, okR ks rfl⟩
    · rw [show s = 5 by omega] at ks ⊢; exact m_no ⟨by omega, okR ks rfl⟩
  refine sX11_mean_0 ⟨fun c => no 5 (by decide) (by omega), fun c1 => ⟨fun c => no 5 (by decide) (by omega), fun c2 => ⟨fun c => no 5 (by decide) (by omega), fun c3 => ⟨qR_of (by omega) (by omega), qR_of (by omega) (by omega), fun c4 => ⟨fun h1 => ?_, fun h1 => no 8 (by decide) (by omega)⟩, fun c => no 5 (by decide) (by omega)⟩⟩⟩⟩
  obtain ⟨Y, rfl⟩ : ∃ Y : Nat, y = Y := ⟨y.toNat, by omega⟩
  obtain ⟨n30, l60, k, sg⟩ := hd.2.2.1 h1
  revert sg
  generalize hD : (fun s x => h 12 0 20 (Int.toNat (372 * 0 + 102 + 9 * s + x))) = D
  intro sg
  have lok := fun (s : Int) (s0 : 0 ≤ s) (s1 : s ≤ 9999) => lvOk_0 (n := a 0) (m := a 1) (seed := s) hW (Int.le_refl _) (Int.le_refl _) s0 s1
  have ok := fun (s : Int) (s0 : 0 ≤ s) (s1 : s ≤ 9999) => (lvAll_ok (B := B) k 3 sg (lok s s0 s1)).1
  have hm := fun (s : Int) (s0 : 0 ≤ s) (s1 : s ≤ 9999) => aHome_nat (a := (lvAll D k 0 (h 1 0 6 0) (lv0 a s)).1) (wf_n (ok s s0 s1).1).1 (wf_n (ok s s0 s1).1).2
  obtain ⟨T, hT⟩ : ∃ T : Nat, mnS D (h 1 0 6 0) k a x Y = T := ⟨(mnS D (h 1 0 6 0) k a x Y).toNat, by have := (mnS_b (D := D) (N := h 1 0 6 0) (k := k) (a := a) (x := x) Y (by omega)).1; omega⟩
  -- the Model
  have mod : ∀ g, fr (fun c i j => (c = 5 ∧ i = 1) ∨ (c = 7 ∧ i = 1)) h g → qT (d + 39) 325 0 [qo 12 0, qi x, qi (Y : Int), qu, qu, qu, qu] [] (qup (qup (qup g 4 0 0 0 (fTop T Y)) 4 0 1 0 (fBot T Y)) 11 0 17 0 0) (fun w' g' => qri w' fun r' => ((1 : Int) = r' → K g') ∧ (¬ (1 : Int) = r' → X g')) := by
    intro g fg
    obtain ⟨g3, hg3⟩ : ∃ g3, qup (qup (qup g 4 0 0 0 (fTop T Y)) 4 0 1 0 (fBot T Y)) 11 0 17 0 0 = g3 := ⟨_, rfl⟩
    rw [hg3]
    have fA : fr POl h g3 := by
      rw [← hg3]
      exact fr_trans (fr_mono fg (fun c i j p => PO_mn p)) (fr_trans (fr_up (PO_up (by decide))) (fr_trans (fr_up (PO_up (by decide))) (fr_up (PO_up (by decide)))))
    have n12 : ∀ j, g3 12 0 j = h 12 0 j := fun j => by rw [← hg3, up_j (by omega), up_j (by omega), up_j (by omega), fg 12 0 j (by omega)]
    obtain ⟨G, hG⟩ : ∃ G, qup (qup g3 12 0 1 0 0) 12 0 0 0 0 = G := ⟨_, rfl⟩
    have nG : ∀ c i j, ¬ (c = 12 ∧ (j = 0 ∨ j = 1)) → G c i j = g3 c i j := fun c i j n => by rw [← hG, up_j (by omega), up_j (by omega)]
    have G0 : G 12 0 0 0 = 0 := by rw [← hG]; exact up_at
    have fin : ∀ g, lvF2 G g ∨ True → (∀ c i, c ≠ 12 → g c i = G c i) → (∀ j, j ≠ 20 → j ≠ 21 → j < 41 → g 12 0 j = G 12 0 j) → (∀ y : Int, 100 ≤ y → g 12 0 20 (Int.toNat y) = G 12 0 20 (Int.toNat y)) → qM g 0 a → K (qup (qup g 12 0 2 0 (fTop T Y)) 12 0 3 0 (fBot T Y)) := by
      intro g _ e1 e2 e3 hM
      obtain ⟨g5, hg5⟩ : ∃ g5, qup (qup g 12 0 2 0 (fTop T Y)) 12 0 3 0 (fBot T Y) = g5 := ⟨_, rfl⟩
      rw [hg5]
      have q : ∀ c i j, c ≠ 12 → g5 c i j = g3 c i j := fun c i j c12 => by rw [← hg5, up_j (by omega), up_j (by omega), e1 c i c12, nG c i j (by omega)]
      have q12 : ∀ j, 4 ≤ j → j ≠ 20 → j ≠ 21 → j < 41 → g5 12 0 j = h 12 0 j := fun j j4 j0 j1 j41 => by rw [← hg5, up_j (by omega), up_j (by omega), e2 j j0 j1 j41, nG 12 0 j (by omega), n12]
      have fC : fr POl h g5 := by
        refine fr_trans fA (fun c i j nP => ?_)
        by_cases c12 : c = 12
        · subst c12
          have nn := PO_n nP
          rw [nn.1, q12 j nn.2.1 nn.2.2.2.1 nn.2.2.2.2 (by omega), n12]
        · exact q c i j c12
      have n5 : ∀ c i j, c ≠ 12 → c ≠ 4 → c ≠ 11 → ¬ ((c = 5 ∧ i = 1) ∨ (c = 7 ∧ i = 1)) → g5 c i j = h c i j := fun c i j c12 c4 c11 nn => by rw [q c i j c12, ← hg3, up_j (by omega), up_j (by omega), up_j (by omega), fg c i j nn]
      have l := oRel_l (h' := g5) hi.2.2.2.2.1 (by funext j; exact n5 5 0 j (by omega) (by omega) (by omega) (by omega)) (q12 39 (by omega) (by omega) (by omega) (by omega)) (q12 40 (by omega) (by omega) (by omega) (by omega))
      refine hK _ a (Inv_o hi fC (fun y' y0 _ => ?_) (qx_fr hQ (by funext j; exact n5 7 0 j (by omega) (by omega) (by omega) (by omega))) ?_ (wf_mono hW (by omega)) (by omega) rfl (by omega) ?_ ?_ ?_ l.1 l.2) (fr_91O fC)
      · rw [← hg5, up_j (by omega), up_j (by omega), e3 y' y0, nG 12 0 20 (by omega), n12]
      · exact m_fr hM (by rw [← hg5, up_j (by omega), up_j (by omega)])
      · rw [q 11 0 17 (by omega), ← hg3, up_at, ← hg5, up_j (by omega), up_j (by omega), e2 0 (by omega) (by omega) (by omega), G0]
      · rw [q 4 0 0 (by omega), ← hg3, up_j (by omega), up_j (by omega), up_at, ← hg5, up_j (by omega), up_at]
      · rw [q 4 0 1 (by omega), ← hg3, up_j (by omega), up_at, ← hg5, up_at]
    have hM0 : qM G 0 a := m_fr (iM0 hi) (by rw [nG 12 0 20 (by omega), n12])
    -- once more and again
    have loop91 : ∀ G1, (∀ c i, c ≠ 12 → G1 c i = G c i) → (∀ j, j ≠ 21 → G1 12 0 j = G 12 0 j) → (∀ j : Int, 0 ≤ j → j < 100 → G1 12 0 21 (Int.toNat j) = a j) → qT (d + 39) 325 91 [qo 12 0, qi x, qi (Y : Int), ql 0, qu, qi 0, qu] [] G1 (fun w' g' => qri w' fun r' => ((1 : Int) = r' → K g') ∧ (¬ (1 : Int) = r' → X g')) := by
      intro G1 u1 u2 u3
      refine q_up (n := (Y : Int)) (C := fun i => i ≤ (Y : Int) → ∀ g z6, lvF2 G1 g → qM g 0 a → qT (d + 39) 325 91 [qo 12 0, qi x, qi (Y : Int), ql (mnS D (h 1 0 6 0) k a x i), qu, qi i, z6] [] g (fun w' g' => qri w' fun r' => ((1 : Int) = r' → K g') ∧ (¬ (1 : Int) = r' → X g'))) ?_ 0 (by omega) (by omega) G1 qu lvF2_rfl (m_fr hM0 (u2 20 (by omega)))
      intro i i0 ih iY g z6 hf hM
      refine sX12_mean_91 ⟨fun c => ?_, fun c => ⟨qR_of (by omega) (by omega), ?_⟩⟩
      · rw [show i = (Y : Int) by omega, hT]
        refine m_fraction (by omega) ⟨by omega, okR (fin g (Or.inr trivial) (fun c i n => by rw [hf.1 c i n, u1 c i n]) (fun j j0 j1 j4 => by rw [hf.2.1 j ⟨j0, j4⟩, u2 j j1]) (fun y' y0 => by rw [hf.2.2 y' y0, u2 20 (by omega)]) hM) rfl⟩
      · have s0 : 0 ≤ x + i := by omega
        have s9 : x + i ≤ 9999 := by omega
        refine m_runsDecades (n := a 0) (m := a 1) (N := h 1 0 6 0) (D := D) hM hW b1 (Int.le_refl _) (Int.le_refl _) (fun s y' s0 s1 y0 y1 => ?_) ?_ n30.2 sg s0 s9 (fun g2 M2 f2 _ _ _ => m_home M2.1 (ok _ s0 s9).1 ?_)
        · rw [← hD, hf.2.2 _ (by omega), u2 20 (by omega), nG 12 0 20 (by omega), n12]
          dsimp only
          rw [show 372 * 0 + 102 + 9 * s + y' = 102 + 9 * s + y' by omega]
        · rw [hf.2.2 _ (by omega), u2 20 (by omega), nG 12 0 20 (by omega), n12]; exact d2.symm
        · obtain ⟨S1, hS1, hS2⟩ := hm _ s0 s9
          have eS : mnS D (h 1 0 6 0) k a x (i + 1) = mnS D (h 1 0 6 0) k a x i + sPop S1 := by
            rw [mnS_s i0]
            unfold mnH
            rw [hS1]
            rfl
          have bS := mnS_b (D := D) (N := h 1 0 6 0) (k := k) (a := a) (x := x) (i + 1) (by omega)
          dsimp only [qri]
          rw [hS1]
          refine m_sizeOf (by omega) ?_
          dsimp only [qri]
          rw [← eS]
          refine ⟨qRL_of (by omega) (by omega), ?_⟩
          refine q_up (n := 100) (C := fun j => j ≤ 100 → ∀ g', lvF2 G1 g' → (∀ q : Int, 0 ≤ q → q < j → g' 12 0 20 (Int.toNat q) = a q) → qT (d + 39) 325 119 [qo 12 0, qi x, qi (Y : Int), ql (mnS D (h 1 0 6 0) k a x (i + 1)), qu, qi i, qi j] [] g' (fun w' g' => qri w' fun r' => ((1 : Int) = r' → K g') ∧ (¬ (1 : Int) = r' → X g'))) ?_ 0 (by omega) (by omega) g2 (lvF2_trans hf f2) (fun q q0 q1 => by omega)
          intro j j0 ihj j100 g' hf' hq
          refine sX12_mean_119 ⟨fun c => ⟨qR_of (by omega) (by omega), ih (by omega) (by omega) g' _ hf' (fun q q0 q1 => ?_)⟩, fun c => ⟨by omega, by omega, qR_of (by omega) (by omega), ihj (by omega) (by omega) _ (lvF2_trans hf' (lvF2_c j0 (by omega))) (fun q q0 q1 => ?_)⟩⟩
          · rw [show 0 + q = q by omega]; exact hq q q0 (by omega)
          · rw [up_I q0 j0]
            by_cases e : q = j
            · rw [if_pos e, hf'.2.1 21 (by omega), u3 j j0 (by omega), e]
            · rw [if_neg e]; exact hq q q0 (by omega)
    have loop62 : qT (d + 39) 325 62 [qo 12 0, qi x, qi (Y : Int), qi 0, qu, qu, qu] [] G (fun w' g' => qri w' fun r' => ((1 : Int) = r' → K g') ∧ (¬ (1 : Int) = r' → X g')) := by
      refine q_up (n := 100) (C := fun j => j ≤ 100 → ∀ g', (∀ c i, c ≠ 12 → g' c i = G c i) → (∀ j, j ≠ 21 → g' 12 0 j = G 12 0 j) → (∀ q : Int, 0 ≤ q → q < j → g' 12 0 21 (Int.toNat q) = a q) → qT (d + 39) 325 62 [qo 12 0, qi x, qi (Y : Int), qi j, qu, qu, qu] [] g' (fun w' g' => qri w' fun r' => ((1 : Int) = r' → K g') ∧ (¬ (1 : Int) = r' → X g'))) ?_ 0 (by omega) (by omega) G (fun _ _ _ => rfl) (fun _ _ => rfl) (fun q q0 q1 => by omega)
      intro j j0 ihj j100 g' v1 v2 v3
      refine sX12_mean_62 ⟨fun c => loop91 g' v1 v2 (fun q q0 q1 => v3 q q0 (by omega)), fun c => ⟨by omega, by omega, qR_of (by omega) (by omega), ihj (by omega) (by omega) _ (fun c i n => ?_) (fun j' n => ?_) (fun q q0 q1 => ?_)⟩⟩
      · rw [← v1 c i n]; funext j'; exact up_j (by omega)
      · rw [up_j (by omega)]; exact v2 j' n
      · rw [up_I q0 j0]
        by_cases e : q = j
        · rw [if_pos e, v2 20 (by omega), e]; exact m_0 hM0 (by omega) (by omega)
        · rw [if_neg e]; exact v3 q q0 (by omega)
    refine sX12_mean_0 (m_isIn (fun _ _ => ⟨fun c => absurd c (by decide), fun _ => ⟨qR_of (by omega) (by omega), m_isIn (fun _ _ => ⟨fun _ => ⟨by omega, fun _ => ?_, fun c => ?_⟩, fun c => absurd (by decide) c⟩) (fun c => absurd ⟨by omega, by omega⟩ c)⟩⟩) (fun c => absurd ⟨by omega, by omega⟩ c))
    · rw [hG]; exact loop62
    · rw [hG, nG 12 0 20 (by omega), n12, ← d1] at c
      exact absurd h1 c
  -- the class
  refine q_up (n := (Y : Int)) (C := fun i => i ≤ (Y : Int) → ∀ g, fr (fun c i j => (c = 5 ∧ i = 1) ∨ (c = 7 ∧ i = 1)) h g → qT (d + 39) 154 54 [qo 11 0, qi x, qi (Y : Int), qi (mnS D (h 1 0 6 0) k a x i), qi i] [] g S) ?_ 0 (by omega) (by omega) h fr_rfl
  intro i i0 ih iY g fg
  refine sX11_mean_54 ⟨fun c => ?_, fun c => ?_⟩
  · rw [show i = (Y : Int) by omega, hT]
    refine x_fsetB (by omega) (by omega) (x_agree0 ⟨by omega, hS _ _ ?_ (mod g fg)⟩)
    funext i' j
    rw [up_j (by omega), up_j (by omega), up_j (by omega), fg 91 i' j (by omega)]
  · have s0 : 0 ≤ x + i := by omega
    have s9 : x + i ≤ 9999 := by omega
    refine x_takeOver (by decide) (qx_fr hQ (by funext j; exact fg 7 0 j (by omega))) (fun g1 Q1 f1 _ => ⟨qR_of (by omega) (by omega), ?_⟩)
    have e10 : g1 1 0 = h 1 0 := by rw [f1 1 0 (by omega)]; funext j; exact fg 1 0 j (by omega)
    refine x_run (i := 1) (q := 1) (n := a 0) (m := a 1) (N := h 1 0 6 0) (D := D) Q1 hW b1 (Int.le_refl _) (Int.le_refl _) (by rw [e10]; exact l60.1) (by rw [e10]; exact l60.2) (by rw [e10]; exact sg) s0 s9 (fun g2 X2 f2 _ _ _ _ => x_homeSet X2.1 (ok _ s0 s9).1 ?_)
    obtain ⟨S1, hS1, hS2⟩ := hm _ s0 s9
    have eS : mnS D (h 1 0 6 0) k a x (i + 1) = mnS D (h 1 0 6 0) k a x i + sPop S1 := by
      rw [mnS_s i0]
      unfold mnH
      rw [hS1]
      rfl
    have bS := mnS_b (D := D) (N := h 1 0 6 0) (k := k) (a := a) (x := x) (i + 1) (by omega)
    dsimp only [qri]
    rw [hS1]
    refine j_bitCount hS2 ?_
    dsimp only [qri]
    rw [← eS]
    refine ⟨qR_of (by omega) (by omega), qR_of (by omega) (by omega), ih (by omega) (by omega) g2 (fr_trans fg (fr_trans (fr_g7 f1 (fun j => Or.inr ⟨rfl, rfl⟩)) (fr_mono f2 (fun c i j p => by omega))))⟩
