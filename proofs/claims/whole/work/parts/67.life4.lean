section Lr
variable {d : Nat} {R : Option qV → qH → Prop} {h : qH} {B n m seed N : Int} {i q : Nat} {a : qB} {D : Int → Int → Int}
abbrev PR (i q : Nat) : Nat → Nat → Nat → Prop := fun c' i' j => (c' = 5 ∧ i' = i) ∨ (c' = 7 ∧ i' = q ∧ 1 ≤ j)
def lv0 (a : qB) (seed : Int) : lvS := (a, seed, 0, 0, 0, 0)
theorem lvOk_0 (hW : qwf B a) (hn : n ≤ a 0) (hm : m ≤ a 1) (s0 : 0 ≤ seed) (s1 : seed ≤ 9999) : lvOk B n m (lv0 a seed) := by
  refine ⟨?_, ⟨hn, hm⟩, ⟨s0, ?_⟩, ⟨?_, ?_⟩, ⟨?_, ?_⟩, Or.inl rfl, fun _ => rfl, Or.inl rfl⟩
  · show qwf (B + 0) a
    rw [Int.add_zero]; exact hW
  · show seed < 65536; omega
  · show (0 : Int) ≤ 0; omega
  · show (0 : Int) ≤ 300; omega
  · show (0 : Int) ≤ 0; omega
  · show (0 : Int) ≤ 0; omega
theorem x_run {k : Nat} (hQ : qQX h q a) (hW : qwf B a) (hB : B + 300 < 2000000000) (hn : n ≤ a 0) (hm : m ≤ a 1) (hl0 : 0 ≤ h 1 0 7 0) (hl6 : h 1 0 7 0 ≤ 60) (hd : dSeg n m D (fun j l => h 1 0 j (Int.toNat l)) k 3 0 N 0 (h 1 0 7 0)) (s0 : 0 ≤ seed) (s1 : seed ≤ 9999) (hR : ∀ h', lvX i q h' (lvAll D k 0 N (lv0 a seed)) → fr (PR i q) h h' → h' 5 i 1 0 = 1 → h' 5 i 6 0 = (lvAll D k 0 N (lv0 a seed)).1 4 - a 4 → h' 5 i 7 0 = (lvAll D k 0 N (lv0 a seed)).1 5 - a 5 → h' 5 i 8 0 = (lvAll D k 0 N (lv0 a seed)).1 6 - a 6 → R none h') : qT (d + 7) 29 0 [qo 5 i, qo 7 q, qo 1 0, qi seed, qu, qu] [] h R := by
  have ok := lvOk_0 (n := n) (m := m) hW hn hm s0 s1
  have okE := (lvAll_ok (B := B) k 3 hd ok).1
  have wE := okE.1
  have dE := okE.2.2.2.1
  have w4 := wf_night wE
  have w5 := wf_quar wE
  have w6 := wf_made wE
  have v4 := wf_night hW
  have v5 := wf_quar hW
  have v6 := wf_made hW
  refine tX5_run_0 ⟨by omega, by omega, ?_⟩
  rw [qx_night hQ, qx_quar hQ, qx_made hQ]
  generalize hg : (qup (qup (qup (qup (qup (qup (qup (qup h 5 i 6 0 (a 4)) 5 i 7 0 (a 5)) 5 i 8 0 (a 6)) 5 i 1 0 1) 5 i 2 0 0) 5 i 3 0 seed) 5 i 4 0 0) 5 i 5 0 0) = g
  have fg : fr (PR i q) h g := by
    rw [← hg]
    exact fr_trans (fr_up (Or.inl ⟨rfl, rfl⟩)) (fr_trans (fr_up (Or.inl ⟨rfl, rfl⟩)) (fr_trans (fr_up (Or.inl ⟨rfl, rfl⟩)) (fr_trans (fr_up (Or.inl ⟨rfl, rfl⟩)) (fr_trans (fr_up (Or.inl ⟨rfl, rfl⟩)) (fr_trans (fr_up (Or.inl ⟨rfl, rfl⟩)) (fr_trans (fr_up (Or.inl ⟨rfl, rfl⟩)) (fr_up (Or.inl ⟨rfl, rfl⟩))))))))
  have g6 : g 5 i 6 0 = a 4 := by rw [← hg, up_j (by omega), up_j (by omega), up_j (by omega), up_j (by omega), up_j (by omega), up_j (by omega), up_j (by omega), up_at]
  have g7 : g 5 i 7 0 = a 5 := by rw [← hg, up_j (by omega), up_j (by omega), up_j (by omega), up_j (by omega), up_j (by omega), up_j (by omega), up_at]
  have g8 : g 5 i 8 0 = a 6 := by rw [← hg, up_j (by omega), up_j (by omega), up_j (by omega), up_j (by omega), up_j (by omega), up_at]
  have g1 : g 5 i 1 0 = 1 := by rw [← hg, up_j (by omega), up_j (by omega), up_j (by omega), up_j (by omega), up_at]
  have g2 : g 5 i 2 0 = 0 := by rw [← hg, up_j (by omega), up_j (by omega), up_j (by omega), up_at]
  have g3 : g 5 i 3 0 = seed := by rw [← hg, up_j (by omega), up_j (by omega), up_at]
  have g4 : g 5 i 4 0 = 0 := by rw [← hg, up_j (by omega), up_at]
  have g5 : g 5 i 5 0 = 0 := by rw [← hg, up_at]
  have gl : ∀ j, g 1 0 j = h 1 0 j := fun j => fg 1 0 j (by omega)
  have X0 : lvX i q g (lv0 a seed) := ⟨qx_fr hQ (by funext j; rw [← hg, up_j (by omega), up_j (by omega), up_j (by omega), up_j (by omega), up_j (by omega), up_j (by omega), up_j (by omega), up_j (by omega)]), g3, g4, g5, g2⟩
  clear hg
  -- the end
  have fin : ∀ g' x mv', lvX i q g' (lvAll D k 0 N (lv0 a seed)) → fr (PLx i q) g g' → qT (d + 7) 29 151 [qo 5 i, qo 7 q, qo 1 0, qi seed, qi x, qi mv'] [] g' R := by
    intro g' x mv' X' f'
    refine tX5_run_151 ?_
    have k6 : g' 5 i 6 0 = a 4 := by rw [f' 5 i 6 (by omega)]; exact g6
    have k7 : g' 5 i 7 0 = a 5 := by rw [f' 5 i 7 (by omega)]; exact g7
    have k8 : g' 5 i 8 0 = a 6 := by rw [f' 5 i 8 (by omega)]; exact g8
    rw [qx_night X'.1, qx_quar X'.1, qx_made X'.1, k6, k7, k8]
    refine ⟨qR_of (by omega) (by omega), qR_of (by omega) (by omega), qR_of (by omega) (by omega), hR _ ⟨qx_fr X'.1 (by funext j; rw [up_j (by omega), up_j (by omega), up_j (by omega)]), ?_, ?_, ?_, ?_⟩ ?_ ?_ ?_ ?_ ?_⟩
    · rw [up_j (by omega), up_j (by omega), up_j (by omega)]; exact X'.2.1
    · rw [up_j (by omega), up_j (by omega), up_j (by omega)]; exact X'.2.2.1
    · rw [up_j (by omega), up_j (by omega), up_j (by omega)]; exact X'.2.2.2.1
    · rw [up_j (by omega), up_j (by omega), up_j (by omega)]; exact X'.2.2.2.2
    · refine fr_trans fg (fr_trans (fr_mono f' (fun c i' j hP => ?_)) (fr_trans (fr_up (Or.inl ⟨rfl, rfl⟩)) (fr_trans (fr_up (Or.inl ⟨rfl, rfl⟩)) (fr_up (Or.inl ⟨rfl, rfl⟩)))))
      rcases hP with hP | hP
      · exact Or.inl ⟨hP.1, hP.2.1⟩
      · exact Or.inr hP
    · rw [up_j (by omega), up_j (by omega), up_j (by omega), f' 5 i 1 (by omega)]; exact g1
    · rw [up_j (by omega), up_j (by omega), up_at]
    · rw [up_j (by omega), up_at]
    · rw [up_at]
  refine x_seg (B := B) (n := n) (m := m) (D := D) (C := fun j l => h 1 0 j (Int.toNat l)) (h0 := g) (lines := h 1 0 7 0) hB (fun j l => by rw [gl]) (by rw [gl]) hl6 k 3 0 N 0 (h 1 0 7 0) (lv0 a seed) g 0 hd (by omega) (Int.le_refl _) ok rfl X0 fr_rfl (by omega) (by show 0 + 3 * (300 - 0) ≤ (999000 : Int); omega) (fun g' mv' X' f' _ o' m0' m1' => ?_) (fun g' x mv' X' f' _ => fin g' x mv' X' f')
  have z0 : (lv0 a seed).2.2.1 = 0 := rfl
  have : (if (0 : Int) < N then (1 : Int) else 0) ≥ 0 := by split <;> omega
  refine tX5_run_55 ⟨fun c => absurd c (by omega), fun _ => ⟨fun c => absurd c (by omega), fun _ => ?_⟩⟩
  rw [f' 1 0 7 (by omega), gl]
  exact ⟨fun _ => fin g' _ _ X' f', fun c => absurd (Int.le_refl _) c⟩
end Lr
/-! the Model lives DECADES -/
def lvM (h : qH) (σ : lvS) : Prop := qM h 0 σ.1 ∧ h 12 0 42 0 = σ.2.1 ∧ h 12 0 43 0 = σ.2.2.1 ∧ h 12 0 44 0 = σ.2.2.2.1 ∧ h 12 0 41 0 = σ.2.2.2.2.1 ∧ h 12 0 48 0 = σ.2.2.2.2.2
def lvF (h h' : qH) : Prop := (∀ c i, c ≠ 12 → h' c i = h c i) ∧ (∀ j, (j ≠ 20 ∧ j ≠ 41 ∧ j ≠ 42 ∧ j ≠ 43 ∧ j ≠ 44 ∧ j ≠ 48) → h' 12 0 j = h 12 0 j) ∧ ∀ y : Int, 100 ≤ y → h' 12 0 20 (Int.toNat y) = h 12 0 20 (Int.toNat y)
theorem lvF_rfl {h : qH} : lvF h h := ⟨fun _ _ _ => rfl, fun _ _ => rfl, fun _ _ => rfl⟩
theorem lvF_trans {h h' h'' : qH} (h1 : lvF h h') (h2 : lvF h' h'') : lvF h h'' := ⟨fun c i n => (h2.1 c i n).trans (h1.1 c i n), fun j n => (h2.2.1 j n).trans (h1.2.1 j n), fun y hy => (h2.2.2 y hy).trans (h1.2.2 y hy)⟩
theorem lvF_M {h h' : qH} (hf : qfM 0 h h') : lvF h h' := ⟨hf.1, fun j n => hf.2.1 j n.1, fun y hy => hf.2.2 y (by omega) (by omega)⟩
theorem lvF_up {h : qH} {j : Nat} {v : Int} (hj : j = 41 ∨ j = 42 ∨ j = 43 ∨ j = 44 ∨ j = 48) : lvF h (qup h 12 0 j 0 v) := by
  refine ⟨fun c i n => ?_, fun j' n => up_j (by omega), fun y _ => by rw [up_j (by omega)]⟩
  funext j'
  exact up_j (by omega)
def lvDD (h : qH) (D : Int → Int → Int) : Prop := ∀ s x, 0 ≤ s → s < 30 → 0 ≤ x → x < 9 → h 12 0 20 (Int.toNat (102 + 9 * s + x)) = D s x
theorem lvDD_fr {h h' : qH} {D : Int → Int → Int} (hd : lvDD h D) (hf : lvF h h') : lvDD h' D := fun s x s0 s1 x0 x1 => by rw [hf.2.2 _ (by omega)]; exact hd s x s0 s1 x0 x1
theorem lvDD_at {h : qH} {D : Int → Int → Int} (hd : lvDD h D) {s x y : Int} (e : y = 102 + 9 * s + x) (s0 : 0 ≤ s) (s1 : s < 30) (x0 : 0 ≤ x) (x1 : x < 9) : h 12 0 20 (Int.toNat y) = D s x := by rw [e]; exact hd s x s0 s1 x0 x1
section Lm
variable {d : Nat} {R : Option qV → qH → Prop} {h : qH} {a : qB} {B : Int} {D : Int → Int → Int} {s r : Int}
theorem m_draw {m : Int} (h3 : h 12 0 42 0 = r) (r0 : 0 ≤ r) (r1 : r < 65536) (m0 : 0 < m) (hR : R (some (qi (lvDr r / 8 % m))) (qup h 12 0 42 0 (lvDr r))) : qT (d + 1) 314 0 [qo 12 0, qi m] [] h R := by
  have b := lvDr_b r
  refine sX12_draw_0 ?_
  rw [up_at, h3]
  have e : (r * 2971 + 10949) % 65536 = lvDr r := rfl
  rw [e]
  exact ⟨qR_of (by omega) (by omega), qR_of (by omega) (by omega), by omega, by omega, by omega, hR⟩
theorem m_isAny (hM : qM h 0 a) (hW : qwf B a) (hB : B < 2000000000) (h3 : h 12 0 42 0 = r) (r0 : 0 ≤ r) (r1 : r < 65536) (hR : ∀ h', qM h' 0 (lvY a r).1 → h' 12 0 42 0 = (lvY a r).2.1 → (∀ j, j ≠ 20 → j ≠ 42 → h' 12 0 j = h 12 0 j) → lvF h h' → R (some (qi (lvY a r).2.2)) h') : qT (d + 5) 317 0 [qo 12 0, qu] [] h R := by
  have hm := wf_m hW
  refine sX12_isAny_0 ?_
  rw [m_0 hM (by omega) (by omega)]
  unfold lvY at hR
  by_cases c : a 1 = 0
  · rw [if_pos c] at hR
    exact ⟨by omega, fun c2 => absurd c c2, fun _ => ⟨by omega, hR h hM h3 (fun _ _ _ => rfl) lvF_rfl⟩⟩
  · rw [if_neg c] at hR
    have b1 := lvDr_b r
    have sm := lv_mod (x := lvDr r / 8) (m := a 1) (by omega)
    refine ⟨by omega, fun _ => ⟨by omega, m_draw h3 r0 r1 (by omega) (m_draw up_at b1.1 b1.2 (by omega) ?_)⟩, fun c2 => absurd c c2⟩
    have hM' : qM (qup (qup h 12 0 42 0 (lvDr r)) 12 0 42 0 (lvDr (lvDr r))) 0 a := m_fr hM (by rw [up_j (by omega), up_j (by omega)])
    have f0 : lvF h (qup (qup h 12 0 42 0 (lvDr r)) 12 0 42 0 (lvDr (lvDr r))) := lvF_trans (lvF_up (by omega)) (lvF_up (by omega))
    have e7 : ∀ g, qfM 0 (qup (qup h 12 0 42 0 (lvDr r)) 12 0 42 0 (lvDr (lvDr r))) g → g 12 0 42 0 = lvDr (lvDr r) ∧ (∀ j, j ≠ 20 → j ≠ 42 → g 12 0 j = h 12 0 j) ∧ lvF h g := fun g hf => ⟨by rw [hf.2.1 42 (by omega)]; exact up_at, fun j n1 n2 => by rw [hf.2.1 j n1, up_j (by omega), up_j (by omega)], lvF_trans f0 (lvF_M hf)⟩
    dsimp only [qri]
    rw [m_0 hM' (by omega) (by omega)]
    refine ⟨by omega, fun c2 => ?_, fun c2 => ?_⟩
    · rw [if_neg (by omega)] at hR
      refine m_makes hM' hW hB sm.1 sm.2 (fun hq g hMg hf => ⟨by omega, ?_⟩) (fun hq => ⟨by omega, ?_⟩)
      · rw [lvK_t hq] at hR
        have e := e7 g hf
        exact hR g hMg e.1 e.2.1 e.2.2
      · rw [lvK_f hq] at hR
        have e := e7 _ qfM_rfl
        exact hR _ hM' e.1 e.2.1 e.2.2
    · rw [if_pos (by omega)] at hR
      refine m_quarrels hM' hW hB sm.1 sm.2 (fun hq g hMg hf => ⟨by omega, ?_⟩) (fun hq => ⟨by omega, ?_⟩)
      · rw [lvQ_t hq] at hR
        have e := e7 g hf
        exact hR g hMg e.1 e.2.1 e.2.2
      · rw [lvQ_f hq] at hR
        have e := e7 _ qfM_rfl
        exact hR _ hM' e.1 e.2.1 e.2.2
theorem m_nights {x : Int} (hM : qM h 0 a) (hW : qwf B a) (x0 : 0 ≤ x) (x9 : x ≤ 99) (h4 : a 4 + x ≤ 9999) (hR : ∀ h', qM h' 0 (aNights a x) → qfM 0 h h' → R (some (qi 1)) h') : qT (d + 4) 315 18 [qo 12 0, qi x, qi 0] [] h R := by
  refine q_up (n := x) (C := fun y => y ≤ x → ∀ g, qM g 0 (aNights a y) → qfM 0 h g → qT (d + 4) 315 18 [qo 12 0, qi x, qi y] [] g R) ?_ 0 (by omega) x0 h (by rw [nights_0 hW]; exact hM) qfM_rfl
  intro y hy ih hyx g hMg hf
  refine sX12_anyNights_18 ⟨fun c => ⟨by omega, ?_⟩, fun c => ?_⟩
  · rw [show y = x by omega] at hMg
    exact hR g hMg hf
  · refine m_passes hMg (wf_nights hW hy (by omega)) (fun g' hMg' hf' => ⟨qR_of (by omega) (by omega), ih (by omega) (by omega) g' ?_ (qfM_trans hf hf')⟩)
    rw [nights_s hW hy] at hMg'
    exact hMg'
theorem m_does (hM : qM h 0 a) (hW : qwf B a) (hB : B < 2000000000) (hD : lvDD h D) (s0 : 0 ≤ s) (s1 : s < 30) (hV : lvV a (D s 0) (D s 1) (D s 2)) (k0 : 0 ≤ D s 0) (k5 : D s 0 < 5) (h3 : h 12 0 42 0 = r) (r0 : 0 ≤ r) (r1 : r < 65536) (hR : ∀ h', qM h' 0 (lvD (D s 0) (D s 1) (D s 2) a r).1 → h' 12 0 42 0 = (lvD (D s 0) (D s 1) (D s 2) a r).2.1 → (∀ j, j ≠ 20 → j ≠ 42 → h' 12 0 j = h 12 0 j) → lvF h h' → R (some (qi (lvD (D s 0) (D s 1) (D s 2) a r).2.2)) h') : qT (d + 6) 318 0 [qo 12 0, qi (102 + 9 * s), qu, qu] [] h R := by
  have hN := wf_n hW
  have hm := wf_m hW
  have w4 := wf_night hW
  refine sX12_does_0 ?_
  rw [lvDD_at hD (s := s) (x := 0) (by omega) s0 s1 (by omega) (by omega), lvDD_at hD (s := s) (x := 1) (by omega) s0 s1 (by omega) (by omega), lvDD_at hD (s := s) (x := 2) (by omega) s0 s1 (by omega) (by omega)]
  have e7 : ∀ g, qfM 0 h g → g 12 0 42 0 = r ∧ (∀ j, j ≠ 20 → j ≠ 42 → g 12 0 j = h 12 0 j) ∧ lvF h g := fun g hf => ⟨by rw [hf.2.1 42 (by omega)]; exact h3, fun j n1 _ => hf.2.1 j n1, lvF_M hf⟩
  have e0 := e7 h qfM_rfl
  unfold lvD at hR
  refine ⟨by omega, qR_of (by omega) (by omega), by omega, ?_⟩
  by_cases c0 : D s 0 = 0
  · rw [if_pos c0] at hR
    have v := hV.1 (Or.inl c0)
    refine ⟨fun c => absurd c0 c, fun _ => m_quarrels hM hW hB v.1 v.2 (fun hq g hMg hf => ⟨by omega, ?_⟩) (fun hq => ⟨by omega, ?_⟩)⟩
    · rw [lvQ_t hq] at hR
      have e := e7 g hf
      exact hR g hMg e.1 e.2.1 e.2.2
    · rw [lvQ_f hq] at hR
      exact hR h hM e0.1 e0.2.1 e0.2.2
  · rw [if_neg c0] at hR
    refine ⟨fun _ => ?_, fun c => absurd c0 c⟩
    by_cases c1 : D s 0 = 1
    · rw [if_pos c1] at hR
      have v := hV.1 (Or.inr c1)
      refine ⟨fun c => absurd c1 c, fun _ => m_makes hM hW hB v.1 v.2 (fun hq g hMg hf => ⟨by omega, ?_⟩) (fun hq => ⟨by omega, ?_⟩)⟩
      · rw [lvK_t hq] at hR
        have e := e7 g hf
        exact hR g hMg e.1 e.2.1 e.2.2
      · rw [lvK_f hq] at hR
        exact hR h hM e0.1 e0.2.1 e0.2.2
    · rw [if_neg c1] at hR
      refine ⟨fun _ => ?_, fun c => absurd c1 c⟩
      by_cases c2 : D s 0 = 2
      · rw [if_pos c2] at hR
        have v := hV.2.1 c2
        refine ⟨fun c => absurd c2 c, fun _ => sX12_anyNights_0 ?_⟩
        rw [m_0 hM (by omega) (by omega)]
        unfold lvT at hR
        refine ⟨by omega, qR_of (by omega) (by omega), fun c => m_nights hM hW (by omega) (by omega) c (fun g hMg hf => ⟨by omega, ?_⟩), fun c => ⟨by omega, by omega, ?_⟩⟩
        · rw [if_pos c] at hR
          have e := e7 g hf
          exact hR g hMg e.1 e.2.1 e.2.2
        · rw [if_neg c] at hR
          exact hR h hM e0.1 e0.2.1 e0.2.2
      · rw [if_neg c2] at hR
        refine ⟨fun _ => ?_, fun c => absurd c2 c⟩
        by_cases c3 : D s 0 = 3
        · rw [if_pos c3] at hR
          have v := hV.2.2 c3
          refine ⟨fun c => absurd c3 c, fun _ => ⟨qR_of (by omega) (by omega), qR_of (by omega) (by omega), by omega, sX12_becomes_0 ?_⟩⟩
          rw [m_0 hM (by omega) (by omega)]
          unfold lvC at hR
          refine ⟨by omega, fun c => ⟨by omega, by omega, by omega, ?_⟩, fun c => ⟨by omega, by omega, ?_⟩⟩
          · rw [if_pos c] at hR
            have e := e7 _ (qfM_up (o := 0) (y := 7 + D s 1) (v := D s 2) (h := h) (by omega) (by omega) (by omega))
            exact hR _ (m_put hM (by omega) (by omega) (by omega) (by omega)) e.1 e.2.1 e.2.2
          · rw [if_neg c] at hR
            exact hR h hM e0.1 e0.2.1 e0.2.2
        · rw [if_neg c3] at hR
          refine ⟨fun _ => ?_, fun c => absurd c3 c⟩
          have g := (lvY_g hW r0 r1).1
          have ok : (lvY a r).2.2 = 0 ∨ (lvY a r).2.2 = 1 := g.2.2.2
          exact m_isAny hM hW hB h3 r0 r1 (fun g' k1 k2 k3 k4 => ⟨ok, hR g' k1 k2 k3 k4⟩)
theorem m_holds {n m l : Int} {C : Nat → Int → Int} (hM : qM h 0 a) (hW : qwf B a) (hD : lvDD h D) (s0 : 0 ≤ s) (s1 : s < 30) (hS : stepOK n m D C s l) (hn : n ≤ a 0) (hm : m ≤ a 1) (hk : D s 0 = 5) (h1 : lvHo (D s 5) (D s 1) (D s 2) (D s 6) (D s 7) a → R (some (qi 1)) h) (h0 : ¬ lvHo (D s 5) (D s 1) (D s 2) (D s 6) (D s 7) a → R (some (qi 0)) h) : qT (d + 1) 319 0 [qo 12 0, qi (102 + 9 * s), qu, qu, qu] [] h R := by
  have hN := wf_n hW
  have hm' := wf_m hW
  obtain ⟨⟨t0, t3⟩, z0, z1, z2, z3⟩ := hS.2.2.2.2.2.2.1 hk
  refine tX12_holds_0 ?_
  rw [lvDD_at hD (s := s) (x := 5) (by omega) s0 s1 (by omega) (by omega), lvDD_at hD (s := s) (x := 1) (by omega) s0 s1 (by omega) (by omega)]
  refine ⟨qR_of (by omega) (by omega), by omega, qR_of (by omega) (by omega), by omega, fun c0 => ?_, fun c0 => ?_⟩
  · refine tX12_holds_41 ⟨fun c1 => ?_, fun c1 => ?_⟩
    · have cmp : ∀ x4, (lvSt x4 (D s 7) (D s 6) → R (some (qi 1)) h) → (¬ lvSt x4 (D s 7) (D s 6) → R (some (qi 0)) h) → qT (d + 1) 319 100 [qo 12 0, qi (102 + 9 * s), qi (D s 5), qi (D s 1), qi x4] [] h R := by
        intro x4 k1 k0
        unfold lvSt at k1 k0
        refine tX12_holds_100 ?_
        rw [lvDD_at hD (s := s) (x := 7) (by omega) s0 s1 (by omega) (by omega), lvDD_at hD (s := s) (x := 6) (by omega) s0 s1 (by omega) (by omega)]
        refine ⟨qR_of (by omega) (by omega), by omega, fun c => ⟨qR_of (by omega) (by omega), by omega, fun c2 => ⟨qR_of (by omega) (by omega), by omega, fun c3 => ⟨by omega, k0 (by omega)⟩, fun c3 => ⟨by omega, k1 (by omega)⟩⟩, fun c2 => ⟨qR_of (by omega) (by omega), by omega, fun c3 => ⟨by omega, k0 (by omega)⟩, fun c3 => ⟨by omega, k1 (by omega)⟩⟩⟩, fun c => ⟨qR_of (by omega) (by omega), by omega, fun c3 => ⟨by omega, k0 (by omega)⟩, fun c3 => ⟨by omega, k1 (by omega)⟩⟩⟩
      refine tX12_holds_72 ⟨fun c2 => ?_, fun c2 => ?_⟩
      · have e : D s 5 = 3 := by omega
        obtain ⟨_, _, _, _, v1, v2⟩ := z3 e
        rw [m_0 hM (by omega) (by omega)]
        refine ⟨qR_of (by omega) (by omega), by omega, cmp _ (fun hs => h1 (Or.inr (Or.inr (Or.inr ⟨e, hs⟩)))) (fun hs => h0 ?_)⟩
        rintro (⟨e2, _⟩ | ⟨e2, _⟩ | ⟨e2, _⟩ | ⟨_, e2⟩)
        · omega
        · omega
        · omega
        · exact hs e2
      · have e : D s 5 = 2 := by omega
        obtain ⟨_, _, _, _, v1, v2⟩ := z2 e
        rw [m_0 hM (by omega) (by omega)]
        refine ⟨qR_of (by omega) (by omega), by omega, cmp _ (fun hs => h1 (Or.inr (Or.inr (Or.inl ⟨e, hs⟩)))) (fun hs => h0 ?_)⟩
        rintro (⟨e2, _⟩ | ⟨e2, _⟩ | ⟨_, e2⟩ | ⟨e2, _⟩)
        · omega
        · omega
        · exact hs e2
        · omega
    · have e : D s 5 = 1 := by omega
      obtain ⟨_, _, _, v1, v2⟩ := z1 e
      rw [m_0 hM (by omega) (by omega), lvDD_at hD (s := s) (x := 2) (by omega) s0 s1 (by omega) (by omega)]
      unfold lvHo at h1 h0
      exact ⟨qR_of (by omega) (by omega), by omega, qR_of (by omega) (by omega), by omega, fun c => ⟨by omega, h0 (by omega)⟩, fun c => ⟨by omega, h1 (by omega)⟩⟩
  · have e : D s 5 = 0 := by omega
    obtain ⟨_, _, v1, v2⟩ := z0 e
    rw [m_0 hM (by omega) (by omega)]
    unfold lvHo at h1 h0
    exact ⟨qR_of (by omega) (by omega), by omega, fun c => ⟨by omega, h0 (by omega)⟩, fun c => ⟨by omega, h1 (by omega)⟩⟩
end Lm
