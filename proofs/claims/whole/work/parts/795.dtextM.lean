/-! the Model reads DECADES -/
def bfr (x1 : Int) (h h' : qH) : Prop := (∀ c i j, ¬ (c = 12 ∧ 12 ≤ j ∧ j ≤ 20) → h' c i j = h c i j) ∧ (∀ y : Int, 0 ≤ y → (y ≤ x1 ∨ x1 + 8 ≤ y) → h' 12 0 20 (Int.toNat y) = h 12 0 20 (Int.toNat y))
theorem bfr_rfl {x1 : Int} {h : qH} : bfr x1 h h := ⟨fun _ _ _ _ => rfl, fun _ _ _ => rfl⟩
theorem bfr_trans {x1 : Int} {h h' h'' : qH} (h1 : bfr x1 h h') (h2 : bfr x1 h' h'') : bfr x1 h h'' := ⟨fun c i j k => (h2.1 c i j k).trans (h1.1 c i j k), fun y y0 y1 => (h2.2 y y0 y1).trans (h1.2 y y0 y1)⟩
theorem bfr_r {x1 : Int} {h h' : qH} (hf : fr PMr h h') : bfr x1 h h' := ⟨fun c i j k => hf c i j (by omega), fun y _ _ => by rw [hf 12 0 20 (by omega)]⟩
theorem bfr_u {x1 y v : Int} {h : qH} (x0 : 0 ≤ x1) (h0 : x1 < y) (h1 : y < x1 + 8) : bfr x1 h (qup h 12 0 20 (Int.toNat y) v) := ⟨fun c i j k => up_j (by omega), fun z _ _ => by rw [up_k (by omega)]⟩
def dAv (f : Int → Int) (w : Int) (v : dLn) : Prop := f 0 = stW w ∧ (w ≠ 12 → w ≠ 18 → f 1 = v.2.2.1) ∧ (w = 11 ∨ (w = 13 ∧ v.2.1 = 15) → f 2 = v.2.2.2.1) ∧ (w = 13 → f 5 = tsW v.2.1) ∧ (w = 13 → v.2.1 = 5 ∨ v.2.1 = 3 → f 6 = v.2.2.2.1 ∧ f 7 = v.2.2.2.2)
def bM (h : qH) (b : Int → Int) (n : Int) (a : qB) (Y : Int → Int) : Prop := txM h b n ∧ qM h 0 a ∧ nmM h 0 Y (a 0)
theorem bM_fr {x1 : Int} {h h' : qH} {b : Int → Int} {n : Int} {a : qB} {Y : Int → Int} (hb : bM h b n a Y) (hf : bfr x1 h h') (hx : 1590 ≤ x1) : bM h' b n a Y := by
  obtain ⟨h1, h2, h3⟩ := hb
  refine ⟨?_, fun x x0 x1 => ?_, ?_, h3.2.1, h3.2.2.1, fun j j0 j1 => ?_⟩
  · unfold txM at *; rw [hf.1 12 0 9 (by omega), hf.1 12 0 7 (by omega)]; exact h1
  · rw [hf.2 _ (by omega) (by omega)]; exact h2 x x0 x1
  · rw [hf.2 _ (by omega) (by omega)]; exact h3.1
  · rw [hf.1 12 0 22 (by omega)]; exact h3.2.2.2 j j0 j1
theorem mF_20 {h : qH} {e : Int × Int} {k : Nat} {v : Int} (hF : mF h e) : mF (qup h 12 0 20 k v) e := ⟨by rw [up_j (by omega)]; exact hF.1, by rw [up_j (by omega)]; exact hF.2.1, hF.2.2⟩
theorem mK_20 {h : qH} {b : Int → Int} {n p : Int} {k : Nat} {v : Int} (hk : mK h b n p) : mK (qup h 12 0 20 k v) b n p := mK_fr hk (fun j j0 j1 => up_j (by omega))
def mOwe (h : qH) (x1 : Int) (b : Int → Int) (n w : Int) (r : Rs dLn) (R : Option qV → qH → Prop) : Prop := (∀ e, r = .inl e → ∀ h', bfr x1 h h' → mF h' e → R none h') ∧ (∀ v : dLn, r = .inr v → ∀ h', bfr x1 h h' → mK h' b n v.1 → dAv (fun x => h' 12 0 20 (Int.toNat (x1 + x))) w v → R none h')
section Dm
variable {d : Nat} {R : Option qV → qH → Prop} {h : qH} {b : Int → Int} {n p x1 q B : Int} {a : qB} {Y : Int → Int}
theorem m_readTest (hx : 1590 ≤ x1 ∧ x1 ≤ 1851) (hb : bM h b n a Y) (hk : mK h b n q) (q0 : 0 ≤ q) (qn : q ≤ n) (hW : qwf B a) (h0 : h 12 0 20 (Int.toNat x1) = 5) (ho : mOwe h x1 b n 13 (dsT b n Y (a 0) (a 1) q) R) : qT (d + 8) 235 0 [qo 12 0, qi x1, qu] [] h R := by
  have w0 := wf_n hW
  have w1 := wf_m hW
  have hE := tkE_b (b := b) (n := n) (p := q) qn
  have hs := tkS_b (b := b) (n := n) (p := q) qn
  have hE1 := tkE_b (b := b) (n := n) (p := tkE b n q) hE.2.1
  have hs1 := tkS_b (b := b) (n := n) (p := tkE b n q) hE.2.1
  obtain ⟨r, hr⟩ : ∃ r, dsT b n Y (a 0) (a 1) q = r := ⟨_, rfl⟩
  rw [hr] at ho
  unfold dsT at hr
  have bad79 : ∀ g e x, bfr x1 h g → mF g e → r = .inl e → qT (d + 8) 235 79 [qo 12 0, qi x1, qi x] [] g R := fun g e x hf hF hr => tX12_readTest_79 ⟨fun _ => ho.1 e hr g hf hF, fun c => absurd (by rw [hF.1]; exact hF.2.2) c⟩
  have bad61 : ∀ g e x, bfr x1 h g → mF g e → r = .inl e → qT (d + 8) 235 61 [qo 12 0, qi x1, qi x] [] g R := fun g e x hf hF hr => tX12_readTest_61 ⟨fun _ => bad79 g e x hf hF hr, fun _ => ⟨qR_of (by omega) (by omega), m_readToldB hF ⟨by omega, bad79 _ e x (bfr_trans hf (bfr_u (by omega) (by omega) (by omega))) (mF_20 hF) hr⟩⟩⟩
  -- behind the first: sign and number
  have cmp : ∀ g t x q', bfr x1 h g → mK g b n q' → 0 ≤ q' → q' ≤ n → 2 ≤ tsW t → (t = 5 ∨ t = 3) → r = dsK b n t x q' → g 12 0 20 (Int.toNat (x1 + 5)) = tsW t → g 12 0 20 (Int.toNat (x1 + 1)) = x → qT (d + 8) 235 61 [qo 12 0, qi x1, qi (tsW t)] [] g R := by
    intro g t x q' hf hkg q0' qn' ht ht2 er g5 g1
    have hE2 := tkE_b (b := b) (n := n) (p := q') qn'
    have hs2 := tkS_b (b := b) (n := n) (p := q') qn'
    unfold dsK at er
    refine tX12_readTest_61 ⟨fun _ => tX12_readTest_79 ⟨fun c => absurd c (by rw [hkg.1]; decide), fun _ => ⟨fun _ => tX12_readTest_92 ⟨qR_of (by omega) (by omega), ?_⟩, fun c => absurd ht c⟩⟩, fun c => absurd (by omega) c⟩
    have go : ∀ y, (tkK b n q' = 3 → y = b (tkS b n q')) → qT (d + 8) 235 117 [qo 12 0, qi x1, qi (tsW t)] [] (qup g 12 0 20 (Int.toNat (x1 + 7)) y) R := by
      intro y hy
      have hk2 : mK (qup g 12 0 20 (Int.toNat (x1 + 7)) y) b n q' := mK_20 hkg
      have f2 : bfr x1 h (qup g 12 0 20 (Int.toNat (x1 + 7)) y) := bfr_trans hf (bfr_u (by omega) (by omega) (by omega))
      have sg : ∀ z, (qup g 12 0 20 (Int.toNat (x1 + 7)) y) 12 0 14 0 = 3 → (qup g 12 0 20 (Int.toNat (x1 + 7)) y) 12 0 17 0 = z → tkG b n q' = z := by
        intro z z1 z2
        rw [hk2.2.2.1] at z1
        unfold tkG
        rw [if_pos z1, ← hk2.2.2.2.2.2.1 z1]; exact z2
      have sn : ∀ z, 0 < z → ¬ ((qup g 12 0 20 (Int.toNat (x1 + 7)) y) 12 0 14 0 = 3 ∧ (qup g 12 0 20 (Int.toNat (x1 + 7)) y) 12 0 17 0 = z) → tkG b n q' ≠ z := by
        intro z z0 zn e
        unfold tkG at e
        by_cases c3 : tkK b n q' = 3
        · rw [if_pos c3] at e
          exact zn ⟨by rw [hk2.2.2.1]; exact c3, by rw [hk2.2.2.2.2.2.1 c3]; exact e⟩
        · rw [if_neg c3] at e; omega
      have yes : (tkG b n q' = 60 ∨ tkG b n q' = 62 ∨ tkG b n q' = 61) → qT (d + 7) 212 0 [qo 12 0, qi 1] [] (qup g 12 0 20 (Int.toNat (x1 + 7)) y) (fun w4 g5 => qrv w4 (qT (d + 8) 235 153 [qo 12 0, qi x1, qi (tsW t)] [] g5 R)) := by
        intro hg
        rw [if_pos hg] at er
        have k3 : tkK b n q' = 3 := by
          unfold tkG at hg
          by_cases c3 : tkK b n q' = 3
          · exact c3
          · rw [if_neg c3] at hg; omega
        refine m_mustT (bM_fr hb f2 hx.1).1 hk2 q0' qn' (fun g3 hf3 hk3 => tX12_readTest_153 ⟨qR_of (by omega) (by omega), ?_⟩)
        have f3 := bfr_trans f2 (bfr_r hf3)
        refine m_count (bM_fr hb f3 hx.1).1 hk3 (by omega) (by omega) (fun e h1 g4 hf4 hF => ⟨by omega, ho.1 e (by rw [er]; exact rb_l h1) _ (bfr_trans f3 (bfr_trans (bfr_r hf4) (bfr_u (by omega) (by omega) (by omega)))) (mF_20 hF)⟩) (fun v p' h1 g4 hf4 hk4 => ⟨by omega, ?_⟩)
        refine ho.2 (p', t, x, v, tkG b n q') (by rw [er]; exact rb_r h1) _ (bfr_trans f3 (bfr_trans (bfr_r hf4) (bfr_u (by omega) (by omega) (by omega)))) (mK_20 hk4) ?_
        have c20 : g4 12 0 20 = (qup g 12 0 20 (Int.toNat (x1 + 7)) y) 12 0 20 := by rw [hf4 12 0 20 (by omega), hf3 12 0 20 (by omega)]
        refine ⟨?_, fun _ _ => ?_, fun c => by dsimp only at c; omega, fun _ => ?_, fun _ _ => ⟨up_at, ?_⟩⟩
        · show qup g4 12 0 20 (Int.toNat (x1 + 6)) v 12 0 20 (Int.toNat (x1 + 0)) = 5
          rw [up_k (by omega), c20, up_k (by omega), Int.add_zero, hf.2 _ (by omega) (by omega)]; exact h0
        · show qup g4 12 0 20 (Int.toNat (x1 + 6)) v 12 0 20 (Int.toNat (x1 + 1)) = x
          rw [up_k (by omega), c20, up_k (by omega)]; exact g1
        · show qup g4 12 0 20 (Int.toNat (x1 + 6)) v 12 0 20 (Int.toNat (x1 + 5)) = tsW t
          rw [up_k (by omega), c20, up_k (by omega)]; exact g5
        · show qup g4 12 0 20 (Int.toNat (x1 + 6)) v 12 0 20 (Int.toNat (x1 + 7)) = tkG b n q'
          rw [up_k (by omega), c20, up_at, hy k3]
          unfold tkG
          rw [if_pos k3]
      refine tX12_readTest_117 (m_isSign (fun s1 s2 => ⟨fun _ => yes (Or.inl (sg 60 s1 s2)), fun c => absurd (by decide) c⟩) (fun s1 => ⟨fun c => absurd rfl c, fun _ => m_isSign (fun s3 s4 => ⟨fun _ => yes (Or.inr (Or.inl (sg 62 s3 s4))), fun c => absurd (by decide) c⟩) (fun s3 => ⟨fun c => absurd rfl c, fun _ => m_isSign (fun s5 s6 => ⟨fun c => absurd c (by decide), fun _ => yes (Or.inr (Or.inr (sg 61 s5 s6)))⟩) (fun s5 => ⟨fun _ => ?_, fun c => absurd rfl c⟩)⟩)⟩))
      have ng : ¬ (tkG b n q' = 60 ∨ tkG b n q' = 62 ∨ tkG b n q' = 61) := by
        have a1 := sn 60 (by omega) s1
        have a2 := sn 62 (by omega) s3
        have a3 := sn 61 (by omega) s5
        omega
      rw [if_neg ng] at er
      refine m_mustF hk2 (fun g3 hf3 hF => tX12_readTest_153 ⟨qR_of (by omega) (by omega), m_countB hF ⟨by omega, ?_⟩⟩)
      exact ho.1 _ er _ (bfr_trans f2 (bfr_trans (bfr_r hf3) (bfr_u (by omega) (by omega) (by omega)))) (mF_20 hF)
    rw [hkg.2.2.1]
    refine ⟨fun c => ⟨by omega, go 0 (fun c3 => absurd c3 c)⟩, fun c => ⟨by omega, go _ (fun c3 => hkg.2.2.2.2.2.1 c3)⟩⟩
  refine tX12_readTest_0 (m_testWord ?_)
  rw [mT_W hk.2]
  obtain ⟨w, hw⟩ : ∃ w, tkW b n q = w := ⟨_, rfl⟩
  rw [hw] at hr ⊢
  -- no TEST's WORD
  have nope : w ≠ 14 → w ≠ 15 → w ≠ 5 → w ≠ 3 → tsW w < 0 ∧ r = .inl (amF b n q) := fun n14 n15 n5 n3 => by
    rw [if_neg n14, if_neg n15, if_neg n5, if_neg n3] at hr
    refine ⟨?_, hr.symm⟩
    unfold tsW
    rw [if_neg n14, if_neg n15, if_neg n5, if_neg n3]; omega
  refine ⟨fun neg => m_mustF hk (fun g hf hF => ?_), fun pos => m_mustT hb.1 hk q0 qn (fun g hf hk1 => ?_)⟩
  · have er : r = .inl (amF b n q) := by
      refine (nope ?_ ?_ ?_ ?_).2 <;> intro e <;> subst e <;> exact absurd neg (by decide)
    have f1 : bfr x1 h g := bfr_r hf
    refine tX12_readTest_18 ⟨qR_of (by omega) (by omega), by omega, qR_of (by omega) (by omega), fun _ => m_readToldB (mF_20 hF) ⟨by omega, bad61 _ _ _ (bfr_trans f1 (bfr_trans (bfr_u (by omega) (by omega) (by omega)) (bfr_u (by omega) (by omega) (by omega)))) (mF_20 (mF_20 hF)) er⟩, fun c => absurd (by omega) c⟩
  · have f1 : bfr x1 h (qup g 12 0 20 (Int.toNat (x1 + 5)) (tsW w)) := bfr_trans (bfr_r hf) (bfr_u (by omega) (by omega) (by omega))
    have hk2 : mK (qup g 12 0 20 (Int.toNat (x1 + 5)) (tsW w)) b n (tkE b n q) := mK_20 hk1
    have hb2 := bM_fr hb f1 hx.1
    have cas : w = 14 ∨ w = 15 ∨ w = 5 ∨ w = 3 := by
      by_cases c1 : w = 14
      · omega
      by_cases c2 : w = 15
      · omega
      by_cases c3 : w = 5
      · omega
      by_cases c4 : w = 3
      · omega
      exact absurd (nope c1 c2 c3 c4).1 pos
    have told : w ≠ 5 → (∀ i p', rdPer b n Y (a 0) (tkE b n q) = .inr (i, p') → (0 ≤ i ∧ i < a 0) → p' = tkE b n (tkE b n q) → ∀ g3, fr PMr (qup g 12 0 20 (Int.toNat (x1 + 5)) (tsW w)) g3 → mK g3 b n p' → qT (d + 8) 235 61 [qo 12 0, qi x1, qi (tsW w)] [] (qup g3 12 0 20 (Int.toNat (x1 + 1)) i) R) → (∀ e, rdPer b n Y (a 0) (tkE b n q) = .inl e → r = .inl e) → qT (d + 7) 223 0 [qo 12 0, qi 0, qu] [] (qup g 12 0 20 (Int.toNat (x1 + 5)) (tsW w)) (fun w1 g2 => qri w1 fun r3 => (0 ≤ (x1 + 1) ∧ (x1 + 1) < 1860) ∧ qT (d + 8) 235 61 [qo 12 0, qi x1, qi (tsW w)] [] (qup g2 12 0 20 (Int.toNat (x1 + 1)) r3) R) := by
      intro _ good badr
      exact m_readTold hb2.1 hk2 (by omega) hE.2.1 hb2.2.2 (fun e h1 g3 hf3 hF => ⟨by omega, bad61 _ e _ (bfr_trans f1 (bfr_trans (bfr_r hf3) (bfr_u (by omega) (by omega) (by omega)))) (mF_20 hF) (badr e h1)⟩) (fun i p' h1 hi g3 hf3 hk3 => ⟨by omega, good i p' h1 hi (rdPer_i w0.1 h1).2.1 g3 hf3 hk3⟩)
    have cells : ∀ g3 i, fr PMr (qup g 12 0 20 (Int.toNat (x1 + 5)) (tsW w)) g3 → bfr x1 h (qup g3 12 0 20 (Int.toNat (x1 + 1)) i) ∧ (qup g3 12 0 20 (Int.toNat (x1 + 1)) i) 12 0 20 (Int.toNat (x1 + 5)) = tsW w ∧ (qup g3 12 0 20 (Int.toNat (x1 + 1)) i) 12 0 20 (Int.toNat (x1 + 1)) = i ∧ (qup g3 12 0 20 (Int.toNat (x1 + 1)) i) 12 0 20 (Int.toNat x1) = 5 := by
      intro g3 i hf3
      have ff : bfr x1 h (qup g3 12 0 20 (Int.toNat (x1 + 1)) i) := bfr_trans f1 (bfr_trans (bfr_r hf3) (bfr_u (by omega) (by omega) (by omega)))
      refine ⟨ff, ?_, up_at, ?_⟩
      · rw [up_k (by omega), hf3 12 0 20 (by omega)]; exact up_at
      · rw [ff.2 _ (by omega) (by omega)]; exact h0
    refine tX12_readTest_18 ⟨qR_of (by omega) (by omega), by omega, qR_of (by omega) (by omega), fun n2 => ?_, fun e2 => ?_⟩
    · rcases cas with e | e | e | e
      · subst e
        rw [if_pos rfl] at hr
        refine told (by decide) (fun i p' h1 hi ep g3 hf3 hk3 => ?_) (fun e h1 => by rw [← hr]; exact rb_l h1)
        rw [rb_r h1] at hr
        obtain ⟨c1, c2, c3, c4⟩ := cells g3 i hf3
        refine tX12_readTest_61 ⟨fun _ => tX12_readTest_79 ⟨fun c => absurd c (by rw [(mK_20 hk3).1]; decide), fun _ => ⟨fun c => absurd c (by decide), fun _ => ?_⟩⟩, fun c => absurd (by decide) c⟩
        exact ho.2 (p', 14, i, 0, 0) hr.symm _ c1 (mK_20 hk3) ⟨by show qup g3 12 0 20 (Int.toNat (x1 + 1)) i 12 0 20 (Int.toNat (x1 + 0)) = 5; rw [Int.add_zero]; exact c4, fun _ _ => c3, fun c => by dsimp only at c; omega, fun _ => c2, fun _ c => by dsimp only at c; omega⟩
      · subst e
        rw [if_neg (by decide), if_pos rfl] at hr
        refine told (by decide) (fun i p' h1 hi ep g3 hf3 hk3 => ?_) (fun e h1 => by rw [← hr]; exact rb_l h1)
        rw [rb_r h1] at hr
        obtain ⟨c1, c2, c3, c4⟩ := cells g3 i hf3
        have hb3 := bM_fr hb c1 hx.1
        refine tX12_readTest_61 ⟨fun c => absurd (by decide) c, fun _ => ⟨qR_of (by omega) (by omega), m_readTold hb3.1 (mK_20 hk3) (by omega) (by omega) hb3.2.2 (fun e h2 g4 hf4 hF => ⟨by omega, bad79 _ e _ (bfr_trans c1 (bfr_trans (bfr_r hf4) (bfr_u (by omega) (by omega) (by omega)))) (mF_20 hF) (by rw [← hr]; exact rb_l h2)⟩) (fun j p2 h2 hj g4 hf4 hk4 => ⟨by omega, ?_⟩)⟩⟩
        rw [rb_r h2] at hr
        have hk5 : mK (qup g4 12 0 20 (Int.toNat (x1 + 2)) j) b n p2 := mK_20 hk4
        refine tX12_readTest_79 ⟨fun c => absurd c (by rw [hk5.1]; decide), fun _ => ⟨fun c => absurd c (by decide), fun _ => ?_⟩⟩
        refine ho.2 (p2, 15, i, j, 0) hr.symm _ (bfr_trans c1 (bfr_trans (bfr_r hf4) (bfr_u (by omega) (by omega) (by omega)))) hk5 ⟨?_, fun _ _ => ?_, fun c => up_at, fun _ => ?_, fun _ c => by dsimp only at c; omega⟩
        · show qup g4 12 0 20 (Int.toNat (x1 + 2)) j 12 0 20 (Int.toNat (x1 + 0)) = 5
          rw [up_k (by omega), hf4 12 0 20 (by omega), Int.add_zero]; exact c4
        · show qup g4 12 0 20 (Int.toNat (x1 + 2)) j 12 0 20 (Int.toNat (x1 + 1)) = i
          rw [up_k (by omega), hf4 12 0 20 (by omega)]; exact c3
        · show qup g4 12 0 20 (Int.toNat (x1 + 2)) j 12 0 20 (Int.toNat (x1 + 5)) = 1
          rw [up_k (by omega), hf4 12 0 20 (by omega)]; exact c2
      · subst e; exact absurd (by decide) n2
      · subst e
        rw [if_neg (by decide), if_neg (by decide), if_neg (by decide), if_pos rfl] at hr
        refine told (by decide) (fun i p' h1 hi ep g3 hf3 hk3 => ?_) (fun e h1 => by rw [← hr]; exact rb_l h1)
        rw [rb_r h1] at hr
        obtain ⟨c1, c2, c3, c4⟩ := cells g3 i hf3
        exact cmp _ 3 i p' c1 (mK_20 hk3) (by omega) (by omega) (by decide) (Or.inr rfl) hr.symm c2 c3
    · have e5 : w = 5 := by
        rcases cas with e | e | e | e <;> subst e
        · exact absurd (by decide) e2
        · exact absurd (by decide) e2
        · rfl
        · exact absurd (by decide) e2
      subst e5
      rw [if_neg (by decide), if_neg (by decide), if_pos rfl] at hr
      rw [m_0 hb2.2.1 (by omega) (by omega)]
      refine ⟨by omega, qR_of (by omega) (by omega), m_count hb2.1 hk2 (by omega) hE.2.1 (fun e h1 g3 hf3 hF => ⟨by omega, bad61 _ e _ (bfr_trans f1 (bfr_trans (bfr_r hf3) (bfr_u (by omega) (by omega) (by omega)))) (mF_20 hF) (by rw [← hr]; exact rb_l h1)⟩) (fun i p' h1 g3 hf3 hk3 => ⟨by omega, ?_⟩)⟩
      have ep := (rdNum_i h1).2.1
      rw [rb_r h1] at hr
      obtain ⟨c1, c2, c3, c4⟩ := cells g3 i hf3
      exact cmp _ 5 i p' c1 (mK_20 hk3) (by omega) (by omega) (by decide) (Or.inl rfl) hr.symm c2 c3
theorem m_numCell {lo hi w : Int} {r : Rs dLn} (hr : r = rb (rdNum b n lo hi q) (fun v => .inr (v.2, w, v.1, 0, 0))) (hw : w ≠ 11 ∧ w ≠ 13) (hx : 1590 ≤ x1 ∧ x1 ≤ 1851) (hb : bM h b n a Y) (hk : mK h b n q) (q0 : 0 ≤ q) (qn : q ≤ n) (h0 : h 12 0 20 (Int.toNat x1) = stW w) (ho : mOwe h x1 b n w r R) : qT (d + 3) 213 0 [qo 12 0, qi lo, qi hi, qu] [] h (fun w1 g2 => qri w1 fun r3 => (0 ≤ (x1 + 1) ∧ (x1 + 1) < 1860) ∧ R none (qup g2 12 0 20 (Int.toNat (x1 + 1)) r3)) := by
  refine m_count hb.1 hk q0 qn (fun e h1 g hf hF => ⟨by omega, ho.1 e (by rw [hr]; exact rb_l h1) _ (bfr_trans (bfr_r hf) (bfr_u (by omega) (by omega) (by omega))) (mF_20 hF)⟩) (fun v p' h1 g hf hk1 => ⟨by omega, ho.2 (p', w, v, 0, 0) (by rw [hr]; exact rb_r h1) _ (bfr_trans (bfr_r hf) (bfr_u (by omega) (by omega) (by omega))) (mK_20 hk1) ⟨?_, fun _ _ => up_at, fun c => by omega, fun c => by omega, fun c => by omega⟩⟩)
  show qup g 12 0 20 (Int.toNat (x1 + 1)) v 12 0 20 (Int.toNat (x1 + 0)) = stW w
  rw [up_k (by omega), hf 12 0 20 (by omega), Int.add_zero]; exact h0
theorem m_readRest {w : Int} (hw : 0 ≤ stW w) (hx : 1590 ≤ x1 ∧ x1 ≤ 1851) (hb : bM h b n a Y) (hk : mK h b n q) (q0 : 0 ≤ q) (qn : q ≤ n) (hW : qwf B a) (h0 : h 12 0 20 (Int.toNat x1) = stW w) (ho : mOwe h x1 b n w (dsB b n Y (a 0) (a 1) w q) R) : qT (d + 9) 236 0 [qo 12 0, qi x1, qu] [] h R := by
  have w0 := wf_n hW
  have w1 := wf_m hW
  have hE := tkE_b (b := b) (n := n) (p := q) qn
  have hs := tkS_b (b := b) (n := n) (p := q) qn
  have cas : w = 8 ∨ w = 9 ∨ w = 10 ∨ w = 11 ∨ w = 12 ∨ w = 13 ∨ w = 16 ∨ w = 18 := by
    unfold stW at hw
    by_cases q8 : w = 8
    · omega
    by_cases q9 : w = 9
    · omega
    by_cases q10 : w = 10
    · omega
    by_cases q11 : w = 11
    · omega
    by_cases q12 : w = 12
    · omega
    by_cases q13 : w = 13
    · omega
    by_cases q16 : w = 16
    · omega
    by_cases q18 : w = 18
    · omega
    rw [if_neg q8, if_neg q9, if_neg q10, if_neg q11, if_neg q12, if_neg q13, if_neg q16, if_neg q18] at hw
    omega
  obtain ⟨r, hr⟩ : ∃ r, dsB b n Y (a 0) (a 1) w q = r := ⟨_, rfl⟩
  rw [hr] at ho
  unfold dsB at hr
  refine sX12_readRest_0 ⟨by omega, ?_⟩
  rw [h0, m_0 hb.2.1 (by omega) (by omega)]
  have noop : (w = 12 ∨ w = 18) → R none h := fun e => by
    rw [if_neg (by omega), if_neg (by omega), if_neg (by omega), if_neg (by omega), if_neg (by omega)] at hr
    refine ho.2 (q, w, 0, 0, 0) hr.symm h bfr_rfl hk ⟨by show h 12 0 20 (Int.toNat (x1 + 0)) = stW w; rw [Int.add_zero]; exact h0, fun _ _ => by omega, fun c => by omega, fun c => by omega, fun c => by omega⟩
  rcases cas with e | e | e | e | e | e | e | e <;> subst e
  · rw [if_pos (by omega)] at hr
    exact ⟨fun _ => ⟨qR_of (by omega) (by omega), by omega, qR_of (by omega) (by omega), m_numCell hr.symm (by omega) hx hb hk q0 qn h0 ho⟩, fun c => absurd (by decide) c⟩
  · rw [if_pos (by omega)] at hr
    exact ⟨fun c => absurd c (by decide), fun _ => ⟨fun c => absurd (by decide) c, fun _ => ⟨qR_of (by omega) (by omega), by omega, qR_of (by omega) (by omega), m_numCell hr.symm (by omega) hx hb hk q0 qn h0 ho⟩⟩⟩
  · rw [if_neg (by omega), if_pos (by omega)] at hr
    exact ⟨fun c => absurd c (by decide), fun _ => ⟨fun _ => ⟨fun c => absurd (by decide) c, fun _ => ⟨qR_of (by omega) (by omega), m_numCell hr.symm (by omega) hx hb hk q0 qn h0 ho⟩⟩, fun c => absurd (by decide) c⟩⟩
  · rw [if_neg (by omega), if_neg (by omega), if_neg (by omega), if_pos (by omega)] at hr
    refine ⟨fun c => absurd c (by decide), fun _ => ⟨fun _ => ⟨fun _ => ⟨fun _ => ⟨fun _ => ⟨fun c => absurd (by decide) c, fun _ => ⟨qR_of (by omega) (by omega), ?_⟩⟩, fun c => absurd (by decide) c⟩, fun c => absurd (by decide) c⟩, fun c => absurd (by decide) c⟩, fun c => absurd (by decide) c⟩⟩
    refine m_readTold hb.1 hk q0 qn hb.2.2 (fun e h1 g hf hF => ⟨by omega, qR_of (by omega) (by omega), m_countB (mF_20 hF) ⟨by omega, ho.1 e (by rw [← hr]; exact rb_l h1) _ (bfr_trans (bfr_r hf) (bfr_trans (bfr_u (by omega) (by omega) (by omega)) (bfr_u (by omega) (by omega) (by omega)))) (mF_20 (mF_20 hF))⟩⟩) (fun i p' h1 hi g hf hk1 => ⟨by omega, qR_of (by omega) (by omega), ?_⟩)
    have ep := (rdPer_i w0.1 h1).2.1
    rw [rb_r h1] at hr
    have f1 : bfr x1 h (qup g 12 0 20 (Int.toNat (x1 + 1)) i) := bfr_trans (bfr_r hf) (bfr_u (by omega) (by omega) (by omega))
    refine m_count (bM_fr hb f1 hx.1).1 (mK_20 hk1) (by omega) (by omega) (fun e h2 g2 hf2 hF => ⟨by omega, ho.1 e (by rw [← hr]; exact rb_l h2) _ (bfr_trans f1 (bfr_trans (bfr_r hf2) (bfr_u (by omega) (by omega) (by omega)))) (mF_20 hF)⟩) (fun v p2 h2 g2 hf2 hk2 => ⟨by omega, ?_⟩)
    rw [rb_r h2] at hr
    refine ho.2 (p2, 11, i, v, 0) hr.symm _ (bfr_trans f1 (bfr_trans (bfr_r hf2) (bfr_u (by omega) (by omega) (by omega)))) (mK_20 hk2) ⟨?_, fun _ _ => ?_, fun _ => up_at, fun c => by omega, fun c => by omega⟩
    · show qup g2 12 0 20 (Int.toNat (x1 + 2)) v 12 0 20 (Int.toNat (x1 + 0)) = stW 11
      rw [up_k (by omega), hf2 12 0 20 (by omega), Int.add_zero, f1.2 _ (by omega) (by omega)]; exact h0
    · show qup g2 12 0 20 (Int.toNat (x1 + 2)) v 12 0 20 (Int.toNat (x1 + 1)) = i
      rw [up_k (by omega), hf2 12 0 20 (by omega)]; exact up_at
  · exact ⟨fun c => absurd c (by decide), fun _ => ⟨fun _ => ⟨fun _ => ⟨fun _ => ⟨fun _ => ⟨fun _ => noop (Or.inl rfl), fun c => absurd (by decide) c⟩, fun c => absurd (by decide) c⟩, fun c => absurd (by decide) c⟩, fun c => absurd (by decide) c⟩, fun c => absurd (by decide) c⟩⟩
  · rw [if_neg (by omega), if_neg (by omega), if_neg (by omega), if_neg (by omega), if_pos rfl] at hr
    exact ⟨fun c => absurd c (by decide), fun _ => ⟨fun _ => ⟨fun _ => ⟨fun _ => ⟨fun c => absurd (by decide) c, fun _ => m_readTest hx hb hk q0 qn hW h0 (by rw [hr]; exact ho)⟩, fun c => absurd (by decide) c⟩, fun c => absurd (by decide) c⟩, fun c => absurd (by decide) c⟩⟩
  · rw [if_neg (by omega), if_neg (by omega), if_pos rfl] at hr
    exact ⟨fun c => absurd c (by decide), fun _ => ⟨fun _ => ⟨fun _ => ⟨fun c => absurd (by decide) c, fun _ => ⟨qR_of (by omega) (by omega), m_numCell hr.symm (by omega) hx hb hk q0 qn h0 ho⟩⟩, fun c => absurd (by decide) c⟩, fun c => absurd (by decide) c⟩⟩
  · exact ⟨fun c => absurd c (by decide), fun _ => ⟨fun _ => ⟨fun _ => ⟨fun _ => ⟨fun _ => ⟨fun _ => noop (Or.inr rfl), fun c => absurd (by decide) c⟩, fun c => absurd (by decide) c⟩, fun c => absurd (by decide) c⟩, fun c => absurd (by decide) c⟩, fun c => absurd (by decide) c⟩⟩
end Dm
