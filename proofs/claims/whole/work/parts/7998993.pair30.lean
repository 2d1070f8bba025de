/-! DECADES from a text -/
abbrev PMd : Nat → Nat → Nat → Prop := fun c _ j => c = 12 ∧ (j = 0 ∨ j = 1 ∨ (8 ≤ j ∧ j ≤ 20) ∨ j = 25)
section Md
variable {d : Nat} {R : Option qV → qH → Prop} {g : qH} {b : Int → Int} {n L B : Int} {a : qB} {Y : Int → Int}
theorem m_decades (hW : qwf B a) (n0 : 0 ≤ n) (nL : n ≤ L) (n3 : n ≤ 300) (L9 : L ≤ 900) (e8 : g 12 0 8 0 = L) (e7 : ∀ j, 0 ≤ j → j < n → g 12 0 7 (Int.toNat j) = b j) (bb : ∀ j, -128 ≤ b j ∧ b j ≤ 127) (hM : qM g 0 a) (hN : ∀ j, 0 ≤ j → j < a 0 → g 12 0 22 (Int.toNat (7 * 0 + j)) = Y j)
    (he : ∀ e, dAll b n Y (a 0) (a 1) = .inl e → ∀ g', fr PMd g g' → g' 12 0 10 0 = e.1 → g' 12 0 11 0 = e.2 → g' 12 0 8 0 = 0 → g' 12 0 0 0 = 10 → (∀ y : Int, 0 ≤ y → y < 1488 → g' 12 0 20 (Int.toNat y) = g 12 0 20 (Int.toNat y)) → R (some (qi (-1))) g')
    (hx : ∀ ns nl D C, dAll b n Y (a 0) (a 1) = .inr (ns, nl, D, C) → ∀ g', fr PMd g g' → g' 12 0 10 0 = 0 → g' 12 0 11 0 = -1 → g' 12 0 8 0 = 0 → g' 12 0 0 0 = 0 → dInv ns nl [] → g' 12 0 20 (Int.toNat 100) = 1 → g' 12 0 20 (Int.toNat 101) = ns → (∀ s, 0 ≤ s → s < ns → dAg (fun x => g' 12 0 20 (Int.toNat (102 + 9 * s + x))) (D s) ∧ g' 12 0 20 (Int.toNat (102 + 9 * s + 8)) = D s 8) → (∀ y : Int, 0 ≤ y → (y < 100 ∨ (372 ≤ y ∧ y < 1488)) → g' 12 0 20 (Int.toNat y) = g 12 0 20 (Int.toNat y)) → R (some (qi ns)) g') : qT (d + 14) 238 0 [qo 12 0, qi n, qu] [] g R := by
  have w0 := wf_n hW
  obtain ⟨g1, hg1⟩ : ∃ g1, qup (qup (qup (qup (qup (qup g 12 0 1 0 0) 12 0 0 0 0) 12 0 9 0 n) 12 0 8 0 0) 12 0 16 0 0) 12 0 12 0 0 = g1 := ⟨_, rfl⟩
  have n1 : ∀ c i j, ¬ (c = 12 ∧ i = 0 ∧ (j = 0 ∨ j = 1 ∨ j = 8 ∨ j = 9 ∨ j = 16 ∨ j = 12)) → g1 c i j = g c i j := fun c i j nn => by rw [← hg1, up_j (by omega), up_j (by omega), up_j (by omega), up_j (by omega), up_j (by omega), up_j (by omega)]
  have s1 : g1 12 0 0 0 = 0 := by rw [← hg1, up_j (by omega), up_j (by omega), up_j (by omega), up_j (by omega), up_at]
  have s8 : g1 12 0 8 0 = 0 := by rw [← hg1, up_j (by omega), up_j (by omega), up_at]
  have s9 : g1 12 0 9 0 = n := by rw [← hg1, up_j (by omega), up_j (by omega), up_j (by omega), up_at]
  have s16 : g1 12 0 16 0 = 0 := by rw [← hg1, up_j (by omega), up_at]
  have s12 : g1 12 0 12 0 = 0 := by rw [← hg1, up_at]
  have tx1 : txM g1 b n := ⟨by omega, s9, fun j j0 j1 => by rw [n1 12 0 7 (by omega)]; exact e7 j j0 j1, bb⟩
  refine sX12_decades_0 (sX12_starts_0 ?_)
  rw [show (qup (qup g 12 0 1 0 0) 12 0 0 0 0) 12 0 8 0 = L by rw [up_j (by omega), up_j (by omega)]; exact e8]
  refine ⟨fun c => absurd c (by omega), fun _ => ⟨fun c => absurd c (by omega), fun _ => ⟨fun _ => ?_, fun c => absurd n3 c⟩⟩⟩
  rw [hg1]
  refine m_advance tx1 s16 (by omega) n0 (fun g2 f2 t2 => ⟨by omega, ⟨fun _ => ?_, fun c => absurd (by decide) c⟩⟩)
  have fA : ∀ c i j, ¬ (c = 12 ∧ i = 0 ∧ j = 25) → (qup g2 12 0 25 0 0) c i j = g2 c i j := fun c i j nn => up_j (by omega)
  have c20 : (qup g2 12 0 25 0 0) 12 0 20 = g 12 0 20 := by rw [fA 12 0 20 (by omega), f2 12 0 20 (by omega), n1 12 0 20 (by omega)]
  have n22 : (qup g2 12 0 25 0 0) 12 0 22 = g 12 0 22 := by rw [fA 12 0 22 (by omega), f2 12 0 22 (by omega), n1 12 0 22 (by omega)]
  have nA : ∀ c i j, ¬ PMd c i j → (qup g2 12 0 25 0 0) c i j = g c i j := fun c i j nn => by rw [fA c i j (by omega), f2 c i j (by omega), n1 c i j (by omega)]
  have v0 : (qup g2 12 0 25 0 0) 12 0 0 0 = 0 := by rw [fA 12 0 0 (by omega), f2 12 0 0 (by omega)]; exact s1
  have v8 : (qup g2 12 0 25 0 0) 12 0 8 0 = 0 := by rw [fA 12 0 8 (by omega), f2 12 0 8 (by omega)]; exact s8
  have v25 : (qup g2 12 0 25 0 0) 12 0 25 0 = 0 := up_at
  have tx3 : txM (qup g2 12 0 25 0 0) b n := by
    unfold txM
    rw [fA 12 0 9 (by omega), fA 12 0 7 (by omega)]
    exact txM_fr tx1 (PMa_r f2)
  have k3 : mK (qup g2 12 0 25 0 0) b n 0 := by
    refine ⟨by rw [fA 12 0 12 (by omega), f2 12 0 12 (by omega)]; exact s12, ?_⟩
    unfold mT
    rw [fA 12 0 15 (by omega), fA 12 0 14 (by omega), fA 12 0 16 (by omega), fA 12 0 17 (by omega), fA 12 0 19 (by omega), fA 12 0 18 (by omega)]
    exact t2
  revert fA c20 n22 nA v0 v8 v25 tx3 k3
  generalize qup g2 12 0 25 0 0 = g4
  intro fA c20 n22 nA v0 v8 v25 tx3 k3
  have bm : bM g4 b n a Y := by
    refine ⟨tx3, m_fr hM c20, ?_, w0, by omega, fun j j0 j1 => ?_⟩
    · rw [show (372 : Int) * 0 = 0 by omega, c20]; exact m_0 hM (by omega) (by omega)
    · rw [n22]; exact hN j j0 j1
  refine m_dLoop (d := d) (B := B) (a := a) (Y := Y) hW 301 (p := 0) (ns := 0) (nl := 0) (D := fun _ _ => 0) (C := fun _ _ => 0) ⟨bm, v25, fun s s0 s1 => by omega, fun s s0 s1 => by omega⟩ k3 (by omega) (by omega) dInv_0 (fun e h1 g5 f5 F5 => ?_) (fun ns nl D C h1 g5 f5 b5 k5 I5 T5 => ?_)
  · have ne := mF_ne F5
    refine sX12_decades_28 ⟨fun _ => sX12_isWell_0 ⟨fun _ => ⟨fun c => absurd c ne, fun _ => m_no ⟨fun _ => ⟨by omega, ⟨fun c => absurd rfl c, fun _ => ?_⟩⟩, fun c => absurd rfl c⟩⟩, fun c => absurd ne c⟩, fun c => absurd ne c⟩
    refine he e h1 _ (fun c i j nP => ?_) ?_ ?_ ?_ up_at (fun y y0 y1 => ?_)
    · rw [up_j (by omega), up_j (by omega), up_j (by omega), f5.1 c i j (by omega), nA c i j nP]
    · rw [up_j (by omega), up_j (by omega), up_at]; exact F5.1
    · rw [up_j (by omega), up_at]; exact F5.2.1
    · rw [up_j (by omega), up_j (by omega), up_j (by omega), f5.1 12 0 8 (by omega)]; exact v8
    · rw [up_j (by omega), up_j (by omega), up_j (by omega), f5.2 y y0 (by omega), c20]
  · have I1 := I5.1
    have e25 : g5 12 0 25 0 = ns := T5.2.1
    refine sX12_decades_28 ⟨fun c => absurd b5 c, fun _ => ⟨fun _ => sX12_isWell_0 ⟨fun c => absurd b5 c, fun _ => ⟨fun _ => ⟨by omega, ⟨fun _ => ⟨by omega, by omega, ?_⟩, fun c => absurd (by decide) c⟩⟩, fun c => absurd b5 c⟩⟩, fun c => absurd k5 c⟩⟩
    rw [show (qup (qup g5 12 0 10 0 (g5 12 0 12 0)) 12 0 11 0 (-1)) 12 0 25 0 = ns by rw [up_j (by omega), up_j (by omega)]; exact e25]
    obtain ⟨g6, hg6⟩ : ∃ g6, qup (qup (qup (qup g5 12 0 10 0 (g5 12 0 12 0)) 12 0 11 0 (-1)) 12 0 20 (Int.toNat 100) 1) 12 0 20 (Int.toNat 101) ns = g6 := ⟨_, rfl⟩
    rw [hg6]
    have m6 : ∀ c i j, ¬ (c = 12 ∧ i = 0 ∧ (j = 10 ∨ j = 11 ∨ j = 20)) → g6 c i j = g5 c i j := fun c i j nn => by rw [← hg6, up_j (by omega), up_j (by omega), up_j (by omega), up_j (by omega)]
    have u10 : g6 12 0 10 0 = 0 := by rw [← hg6, up_j (by omega), up_j (by omega), up_j (by omega), up_at]; exact b5
    have u11 : g6 12 0 11 0 = -1 := by rw [← hg6, up_j (by omega), up_j (by omega), up_at]
    have u20 : ∀ y : Int, 0 ≤ y → g6 12 0 20 (Int.toNat y) = if y = 101 then ns else if y = 100 then 1 else g5 12 0 20 (Int.toNat y) := fun y y0 => by rw [← hg6, up_I y0 (by omega), up_I y0 (by omega), up_j (by omega), up_j (by omega)]
    refine q_up (n := 9 * ns) (C := fun x => x ≤ 9 * ns → ∀ g7, fr (fun c i j => c = 12 ∧ i = 0 ∧ j = 20) g6 g7 → (∀ y : Int, 0 ≤ y → g7 12 0 20 (Int.toNat y) = if 102 ≤ y ∧ y < 102 + x then g5 12 0 20 (Int.toNat (1590 + (y - 102))) else g6 12 0 20 (Int.toNat y)) → qT (d + 14) 238 80 [qo 12 0, qi n, qi x] [] g7 R) ?_ 0 (by omega) (by omega) g6 fr_rfl (fun y y0 => by rw [if_neg (by omega)])
    intro x x0 ih xn g7 f7 h7
    refine sX12_decades_80 ?_
    rw [show g7 12 0 25 0 = ns by rw [f7 12 0 25 (by omega), m6 12 0 25 (by omega)]; exact e25]
    refine ⟨qR_of (by omega) (by omega), fun c => ?_, fun c => ⟨qR_of (by omega) (by omega), qR_of (by omega) (by omega), by omega, by omega, qR_of (by omega) (by omega), ih (by omega) (by omega) _ (fr_trans f7 (fr_up ⟨rfl, rfl, rfl⟩)) (fun y y0 => ?_)⟩⟩
    · refine hx ns nl D C h1 g7 (fun c i j nP => ?_) ?_ ?_ ?_ ?_ I5 ?_ ?_ (fun s s0 s1 => ?_) (fun y y0 y1 => ?_)
      · rw [f7 c i j (by omega), m6 c i j (by omega), f5.1 c i j (by omega), nA c i j nP]
      · rw [f7 12 0 10 (by omega)]; exact u10
      · rw [f7 12 0 11 (by omega)]; exact u11
      · rw [f7 12 0 8 (by omega), m6 12 0 8 (by omega), f5.1 12 0 8 (by omega)]; exact v8
      · rw [f7 12 0 0 (by omega), m6 12 0 0 (by omega), f5.1 12 0 0 (by omega)]; exact v0
      · rw [h7 100 (by omega), if_neg (by omega), u20 100 (by omega), if_neg (by omega), if_pos rfl]
      · rw [h7 101 (by omega), if_neg (by omega), u20 101 (by omega), if_pos rfl]
      · have e : ∀ x', 0 ≤ x' → x' < 9 → g7 12 0 20 (Int.toNat (102 + 9 * s + x')) = g5 12 0 20 (Int.toNat (1590 + 9 * s + x')) := fun x' x0' x9' => by rw [h7 _ (by omega), if_pos (by omega), show 1590 + (102 + 9 * s + x' - 102) = 1590 + 9 * s + x' by omega]
        refine ⟨?_, by rw [e 8 (by omega) (by omega)]; exact T5.2.2.2 s s0 s1 (fun q hq => by cases hq)⟩
        have A := T5.2.2.1 s s0 s1
        unfold dAg at A ⊢
        dsimp only at A ⊢
        rw [e 0 (by omega) (by omega), e 1 (by omega) (by omega), e 2 (by omega) (by omega), e 5 (by omega) (by omega), e 6 (by omega) (by omega), e 7 (by omega) (by omega)]
        exact A
      · rw [h7 y y0, if_neg (by omega), u20 y y0, if_neg (by omega), if_neg (by omega), f5.2 y y0 (by omega), c20]
    · rw [up_I y0 (by omega), h7 _ (by omega), h7 y y0, if_neg (show ¬ (102 ≤ 1590 + x ∧ 1590 + x < 102 + x) by omega), u20 (1590 + x) (by omega), if_neg (show ¬ 1590 + x = 101 by omega), if_neg (show ¬ 1590 + x = 100 by omega)]
      by_cases e : y = 102 + x
      · rw [if_pos e, if_pos (by omega), show 1590 + (y - 102) = 1590 + x by omega]
      · rw [if_neg e]
        by_cases c2 : 102 ≤ y ∧ y < 102 + x
        · rw [if_pos c2, if_pos (by omega)]
        · rw [if_neg c2, if_neg (by omega)]
end Md
theorem PB_Md {c i j : Nat} (p : PMd c i j) : PBg c i j := by
  obtain ⟨e, p⟩ := p
  subst e
  unfold PBg Scr
  omega
theorem PB_Ds {c i j : Nat} (p : PDs c i j) : PBg c i j := by
  rcases p with p | p | p
  · exact PB_up (by omega)
  · exact Or.inl (Or.inr (Or.inl p))
  · exact PB_up (by omega)
theorem p_decades {n : Int} : Pair 115 238 [qi n, qu] [qi n, qu] := by
  intro d B h a K X S hi b0 b1 hK hS
  have hp := hi.2.2.2.1
  have hQ := hi.1.1
  have hW := hi.1.2.2.1
  have w0 := wf_n hW
  have w1 := wf_m hW
  obtain ⟨b, bb, hb⟩ := tape_b hp
  obtain ⟨L, hL⟩ : ∃ L, h 9 0 1 0 = L := ⟨_, rfl⟩
  have L9 := hp.2.1
  have e8 := hp.1
  rw [hL] at hb L9 e8
  have no : ¬ (0 ≤ n ∧ n ≤ L ∧ n ≤ 300) → qT (d + 38) 157 0 [qo 11 0, qi 5, qi (-1)] [] h (fun w1 g2 => qri w1 fun r3 => S (some (qi r3)) g2) := fun nn => by
    refine sX11_answer_0 (hS _ _ s_91 (sX12_decades_0 (sX12_starts_0 ?_)))
    rw [show (qup (qup (qup h 11 0 17 0 5) 12 0 1 0 0) 12 0 0 0 0) 12 0 8 0 = L by rw [up_j (by omega), up_j (by omega), up_j (by omega)]; exact e8.symm]
    have ks := kS hi hK 5
    exact ⟨fun c => m_no ⟨by omega, ⟨fun c2 => absurd rfl c2, fun _ => okR ks rfl⟩⟩, fun c => ⟨fun c2 => m_no ⟨by omega, ⟨fun c2 => absurd rfl c2, fun _ => okR ks rfl⟩⟩, fun c2 => ⟨fun c3 => absurd ⟨by omega, by omega, by omega⟩ nn, fun c3 => m_no ⟨by omega, ⟨fun c2 => absurd rfl c2, fun _ => okR ks rfl⟩⟩⟩⟩⟩
  refine sX11_decades_0 ?_
  rw [hL]
  refine ⟨fun c => no (by omega), fun n0 => ⟨fun c => no (by omega), fun nL => ⟨fun n3 => sX9_open_0 ?_, fun c => no (by omega)⟩⟩⟩
  dsimp only [qrv]
  rw [show min n 900 = n by omega]
  obtain ⟨h1, hh1⟩ : ∃ h1, qup (qup (qup (qup (qup h 9 0 2 0 n) 9 0 3 0 0) 9 0 4 0 0) 9 0 12 0 0) 9 0 13 0 (-1) = h1 := ⟨_, rfl⟩
  rw [hh1]
  have n1 : ∀ c i j, ¬ (c = 9 ∧ 2 ≤ j) → h1 c i j = h c i j := fun c i j nn => by rw [← hh1, up_j (by omega), up_j (by omega), up_j (by omega), up_j (by omega), up_j (by omega)]
  have v2 : h1 9 0 2 0 = n := by rw [← hh1, up_j (by omega), up_j (by omega), up_j (by omega), up_j (by omega), up_at]
  have v3 : h1 9 0 3 0 = 0 := by rw [← hh1, up_j (by omega), up_j (by omega), up_j (by omega), up_at]
  have tc : txC h1 b n := ⟨by omega, v2, fun j j0 j1 => by rw [n1 9 0 0 (by omega)]; exact (hb j j0 (by omega)).1, bb, fun w hw => by rw [n1 90 0 0 (by omega)]; exact hi.2.2.2.2.1.1 w hw⟩
  have f1 : fr PBg h h1 := fun c i j nP => n1 c i j (fun e => nP (PB_up (by omega)))
  refine x_dText (a := a) (B := B) (X := fun j => h 7 0 0 (Int.toNat j)) (Y := fun j => h 12 0 22 (Int.toNat (7 * 0 + j))) n3 tc v3 (qx_fr hQ (by funext j; exact n1 7 0 j (by omega))) hW (fun j _ _ => by rw [n1 7 0 0 (by omega)]) (fun j j0 j1 => hi.1.2.2.2.1 j j0 j1) (fun e h2 g fg F => ?_) (fun ns nl D C h2 g fg t5 t6 t7 tC => ?_)
  · -- a fault
    dsimp only [qri]
    refine sX11_closeText_0 ⟨fun _ => ⟨fun _ => ⟨fun c => absurd rfl c, fun _ => sX11_answer_0 ?_⟩, fun c => absurd rfl c⟩, fun c => absurd rfl c⟩
    rw [F.1, F.2]
    obtain ⟨g1, hg1⟩ : ∃ g1, qup (qup (qup (qup g 9 0 1 0 0) 11 0 18 0 e.1) 11 0 19 0 e.2) 11 0 17 0 10 = g1 := ⟨_, rfl⟩
    dsimp only [qri]
    rw [hg1]
    have m1 : ∀ c i j, ¬ (c = 9 ∨ (c = 11 ∧ 17 ≤ j) ∨ (c = 1 ∧ i = 1) ∨ c = 2) → g1 c i j = h c i j := fun c i j nn => by rw [← hg1, up_j (by omega), up_j (by omega), up_j (by omega), up_j (by omega), fg c i j (by omega), n1 c i j (by omega)]
    have fA : fr PBg h g1 := by
      rw [← hg1]
      exact fr_trans f1 (fr_trans (fr_mono fg (fun c i j p => PB_Ds p)) (fr_trans (fr_up (PB_up (by decide))) (fr_trans (fr_up (PB_up (by decide))) (fr_trans (fr_up (PB_up (by decide))) (fr_up (PB_up (by decide)))))))
    refine hS _ _ (fr_91B fA) (m_decades (d := d + 25) (L := L) (b := b) (a := a) (Y := fun j => h 12 0 22 (Int.toNat (7 * 0 + j))) hW (by omega) (by omega) n3 L9.2 (by rw [m1 12 0 8 (by omega)]; exact e8.symm) (fun j j0 j1 => by rw [m1 12 0 7 (by omega)]; exact (hb j j0 (by omega)).2) bb (m_fr (iM0 hi) (m1 12 0 20 (by omega))) (fun j _ _ => by rw [m1 12 0 22 (by omega)]) (fun e' h3 g2 f2 t10 t11 t8 t0 tc2 => ?_) (fun ns nl D C h3 => by rw [h2] at h3; cases h3))
    rw [h2] at h3
    have ee : e = e' := by cases h3; rfl
    subst ee
    have fB := fr_trans fA (fr_mono f2 (fun c i j p => PB_Md p))
    refine okR (hK g2 a (Inv_g hi fB ?_ ?_ (pRel_0 ?_ t8) ?_ ?_ ?_) (fr_91B fB)) rfl
    · exact qRel_e2 (qRel_B hi.1 (by omega)) (by omega) (by funext j; rw [f2 7 0 j (by omega), m1 7 0 j (by omega)]) (by funext j; rw [f2 1 0 j (by omega), m1 1 0 j (by omega)]) (fun y y0 y1 => by rw [tc2 y (by omega) (by omega), m1 12 0 20 (by omega)]) (fun y y0 y1 => by rw [f2 12 0 22 (by omega), m1 12 0 22 (by omega)])
    · exact mRel_e2 (mRel_B hi.2.1 (by omega)) (fun i i2 => by funext j; rw [f2 7 i j (by omega), m1 7 i j (by omega)]) (fun i i2 => by funext j; rw [f2 1 i j (by omega), m1 1 i j (by omega)]) (fun y y0 y1 => by rw [tc2 y (by omega) (by omega), m1 12 0 20 (by omega)]) (fun y y0 y1 => by rw [f2 12 0 22 (by omega), m1 12 0 22 (by omega)]) (by rw [f2 11 0 16 (by omega), m1 11 0 16 (by omega)]) (by rw [f2 12 0 23 (by omega), m1 12 0 23 (by omega)])
    · rw [f2 9 0 1 (by omega), ← hg1, up_j (by omega), up_j (by omega), up_j (by omega), up_at]
    · rw [f2 11 0 17 (by omega), t0, ← hg1, up_at]
    · rw [f2 11 0 18 (by omega), t10, ← hg1, up_j (by omega), up_j (by omega), up_at]
    · rw [f2 11 0 19 (by omega), t11, ← hg1, up_j (by omega), up_at]
  · -- taken
    dsimp only [qri]
    obtain ⟨⟨kk, sg⟩, inv⟩ := dAll_seg w0.1 (by omega) h2
    have i1 := inv.1
    have i2 := inv.2.1
    have i3 : nl + (0 : Nat) ≤ 2 * ns := inv.2.2.1
    refine sX11_closeText_0 ⟨fun c => absurd c (by decide), fun _ => ⟨fun c => absurd c (by decide), fun _ => ⟨fun _ => ?_, fun c => absurd (by decide) c⟩⟩⟩
    obtain ⟨g1, hg1⟩ : ∃ g1, qup (qup (qup g 9 0 1 0 0) 11 0 18 0 0) 11 0 19 0 (-1) = g1 := ⟨_, rfl⟩
    rw [hg1]
    have m1 : ∀ c i j, ¬ (c = 9 ∨ (c = 11 ∧ 18 ≤ j) ∨ (c = 1 ∧ i = 1) ∨ c = 2) → g1 c i j = h c i j := fun c i j nn => by rw [← hg1, up_j (by omega), up_j (by omega), up_j (by omega), fg c i j (by omega), n1 c i j (by omega)]
    have m11 : ∀ j, g1 1 1 j = g 1 1 j := fun j => by rw [← hg1, up_j (by omega), up_j (by omega), up_j (by omega)]
    refine x_dTake (by decide) (by rw [m11]; exact Or.inr t5) (fun g2 f2 k1 k2 => ?_)
    have k6 : g2 1 0 6 0 = ns := by rw [k2 6 (by omega) (by omega), m11]; exact t6
    dsimp only [qrv]
    rw [k6]
    refine sX11_answer_0 ?_
    dsimp only [qri]
    obtain ⟨g3, hg3⟩ : ∃ g3, qup g2 11 0 17 0 0 = g3 := ⟨_, rfl⟩
    rw [hg3]
    have m3 : ∀ c i j, ¬ (c = 9 ∨ (c = 11 ∧ 17 ≤ j) ∨ (c = 1 ∧ i ≤ 1) ∨ c = 2) → g3 c i j = h c i j := fun c i j nn => by rw [← hg3, up_j (by omega), f2 c i (by omega), m1 c i j (by omega)]
    have fA : fr PBg h g3 := by
      intro c i j nP
      refine m3 c i j (fun e => nP ?_)
      rcases e with e | e | e | e
      · exact PB_up (by omega)
      · exact PB_up (by omega)
      · exact PB_up (by omega)
      · exact Or.inl (Or.inr (Or.inl e))
    have t9 : g3 9 0 1 0 = 0 := by rw [← hg3, up_j (by omega), f2 9 0 (by omega), ← hg1, up_j (by omega), up_j (by omega), up_at]
    have t18 : g3 11 0 18 0 = 0 := by rw [← hg3, up_j (by omega), f2 11 0 (by omega), ← hg1, up_j (by omega), up_at]
    have t19 : g3 11 0 19 0 = -1 := by rw [← hg3, up_j (by omega), f2 11 0 (by omega), ← hg1, up_at]
    have t17 : g3 11 0 17 0 = 0 := by rw [← hg3, up_at]
    have g31 : ∀ j, g3 1 0 j = g2 1 0 j := fun j => by rw [← hg3, up_j (by omega)]
    refine hS _ _ (fr_91B fA) (m_decades (d := d + 25) (L := L) (b := b) (a := a) (Y := fun j => h 12 0 22 (Int.toNat (7 * 0 + j))) hW (by omega) (by omega) n3 L9.2 (by rw [m3 12 0 8 (by omega)]; exact e8.symm) (fun j j0 j1 => by rw [m3 12 0 7 (by omega)]; exact (hb j j0 (by omega)).2) bb (m_fr (iM0 hi) (m3 12 0 20 (by omega))) (fun j _ _ => by rw [m3 12 0 22 (by omega)]) (fun e' h3 => by rw [h2] at h3; cases h3) (fun ns2 nl2 D2 C2 h3 g4 f4 t10 t11 t8 t0 I4 c100 c101 cD tc2 => ?_))
    rw [h2] at h3
    have ee : ns = ns2 ∧ nl = nl2 ∧ D = D2 ∧ C = C2 := by cases h3; exact ⟨rfl, rfl, rfl, rfl⟩
    obtain ⟨e1, e2, e3, e4⟩ := ee
    subst e1
    subst e2
    subst e3
    subst e4
    have fB := fr_trans fA (fr_mono f4 (fun c i j p => PB_Md p))
    have q1 : ∀ j, g4 1 0 j = g2 1 0 j := fun j => by rw [f4 1 0 j (by omega), g31]
    have q5 : g4 1 0 5 0 = 1 := by rw [q1, k2 5 (by omega) (by omega), m11]; exact t5
    have q6 : g4 1 0 6 0 = ns := by rw [q1]; exact k6
    have q7 : g4 1 0 7 0 = nl := by rw [q1, k2 7 (by omega) (by omega), m11]; exact t7
    refine okR (hK g4 a (Inv_g hi fB ⟨?_, ?_, wf_mono hW (by omega), fun j j0 j1 => ?_, ?_, ?_, ?_, ?_⟩ ?_ (pRel_0 ?_ t8) ?_ ?_ ?_) (fr_91B fB)) rfl
    · exact qx_fr hQ (by funext j; rw [f4 7 0 j (by omega), m3 7 0 j (by omega)])
    · intro x x0 x1
      rw [show 372 * 0 + x = x by omega, tc2 x x0 (by omega), m3 12 0 20 (by omega)]
      exact m_0 (iM0 hi) x0 x1
    · rw [f4 7 0 0 (by omega), m3 7 0 0 (by omega), f4 12 0 22 (by omega), m3 12 0 22 (by omega)]
      exact hi.1.2.2.2.1 j j0 j1
    · rw [q5]; exact c100.symm
    · rw [q6]; exact c101.symm
    · intro _
      rw [q6, q7]
      refine ⟨by omega, by omega, kk, dSeg_c _ _ sg (fun s s0 s1 => ?_) (fun j j5 l l0 l1 => ?_)⟩
      · have A := cD s s0 s1
        have e : ∀ x' : Int, 372 * 0 + 102 + 9 * s + x' = 102 + 9 * s + x' := fun x' => by omega
        refine ⟨?_, ?_⟩
        · have A1 := A.1
          unfold dAg at A1 ⊢
          dsimp only at A1 ⊢
          rw [e, e, e, e, e, e]
          exact A1
        · rw [e]; exact A.2
      · rw [q1, k1 j j5 _ (by omega), m11]
        exact tC j j5 l l0 l1
    · rw [q5]; exact Or.inr rfl
    · exact mRel_e2 (mRel_B hi.2.1 (by omega)) (fun i i2 => by funext j; rw [f4 7 i j (by omega), m3 7 i j (by omega)]) (fun i i2 => by funext j; rw [f4 1 i j (by omega), m3 1 i j (by omega)]) (fun y y0 y1 => by rw [tc2 y (by omega) (by omega), m3 12 0 20 (by omega)]) (fun y y0 y1 => by rw [f4 12 0 22 (by omega), m3 12 0 22 (by omega)]) (by rw [f4 11 0 16 (by omega), m3 11 0 16 (by omega)]) (by rw [f4 12 0 23 (by omega), m3 12 0 23 (by omega)])
    · rw [f4 9 0 1 (by omega)]; exact t9
    · rw [f4 11 0 17 (by omega), t0]; exact t17
    · rw [f4 11 0 18 (by omega), t10]; exact t18
    · rw [f4 11 0 19 (by omega), t11]; exact t19
