abbrev PX : Nat → Nat → Nat → Prop := fun c i j => (c = 3 ∧ i = 0 ∧ (j = 2 ∨ j = 3 ∨ j = 4 ∨ j = 8)) ∨ (c = 7 ∧ i = 0 ∧ 1 ≤ j)
section FS
variable {B : Int} {per hou : Int → Int} {nn : Int} {wn : Int → Int} {n0 : Int}
/-- what a search of k stairs more brings: of the count c0, the tallies T, behind j stairs -/
def fPost (per hou : Int → Int) (nn fo c0 : Int) (T : Int → Int) (j : Int) (k : Nat) (b : qB) (h h' : qH) : Prop :=
  qQX h' 0 b ∧ fr PX h h' ∧ (c0 ≤ h' 3 0 8 0 ∧ h' 3 0 8 0 ≤ c0 + fN per hou nn k b) ∧
  (fo = 0 → h' 3 0 8 0 = c0 + fN per hou nn k b ∧ ∀ x, 0 ≤ x → x < 49 → h' 3 0 2 (Int.toNat x) = T x + fT per hou nn x k b) ∧
  (∀ x, 0 ≤ x → x < 49 → 0 ≤ h' 3 0 2 (Int.toNat x) ∧ h' 3 0 2 (Int.toNat x) ≤ h' 3 0 8 0) ∧
  (c0 = 0 → 0 < fN per hou nn k b → 0 < h' 3 0 8 0) ∧
  (∀ i, 0 ≤ i → i < j → h' 3 0 3 (Int.toNat i) = h 3 0 3 (Int.toNat i)) ∧
  (0 < c0 → h' 3 0 4 = h 3 0 4) ∧
  (c0 = 0 → 0 < fN per hou nn k b → (∀ i, 0 ≤ i → i < j → h' 3 0 4 (Int.toNat i) = h 3 0 3 (Int.toNat i)) ∧ fF per hou nn (fun i => h' 3 0 4 (Int.toNat i)) k b j)
theorem fPost_0 {fo c0 : Int} {T : Int → Int} {j : Int} {k : Nat} {b : qB} {h : qH} (hQ : qQX h 0 b) (hW : qwf B b) (hc : h 3 0 8 0 = c0) (hT : ∀ x, 0 ≤ x → x < 49 → h 3 0 2 (Int.toNat x) = T x ∧ 0 ≤ T x ∧ T x ≤ c0) (hz : fN per hou nn k b = 0) : fPost per hou nn fo c0 T j k b h h := by
  refine ⟨hQ, fr_rfl, by omega, fun _ => ⟨by omega, fun x x0 x1 => ?_⟩, fun x x0 x1 => ?_, fun _ c => absurd c (by omega), fun _ _ _ => rfl, fun _ => rfl, fun _ c => absurd c (by omega)⟩
  · have := fT_b (per := per) (hou := hou) (nn := nn) (x := x) k b hW
    have := hT x x0 x1
    omega
  · have := hT x x0 x1
    omega
theorem fF_one {row : Int → Int} {b : qB} {j s : Int} (e : row j = s) (s0 : 0 ≤ s) (hs : s < b 1) (hp : 0 < fN per hou nn 0 (aOn b s)) (hz : ∀ s', 0 ≤ s' → s' < s → ¬ 0 < fN per hou nn 0 (aOn b s')) : fF per hou nn row 1 b j := by
  refine ⟨?_, trivial⟩
  rw [e]
  exact ⟨s0, hs, hp, hz⟩
theorem x_seekLast {d : Nat} {R : Option qV → qH → Prop} {h : qH} {b : qB} {K fo c0 j : Int} {T : Int → Int} (hE : ∀ b', qwf B b' → b' 0 = n0 → (fB per hou nn b' = true ↔ fWr wn b' = 0)) (hn0 : b 0 = n0) (j0 : 0 ≤ j) (hj : j + 1 = K) (hK : K ≤ 5) (hQ : qQX h 0 b) (hW : qwf B b) (hm : fMT h wn) (hk : h 3 0 7 0 = K) (hc : h 3 0 8 0 = c0) (hT : ∀ x, 0 ≤ x → x < 49 → h 3 0 2 (Int.toNat x) = T x ∧ 0 ≤ T x ∧ T x ≤ c0) (c00 : 0 ≤ c0) (cb : c0 + 10 ≤ 200000) (hR : ∀ h', fPost per hou nn fo c0 T j 1 b h h' → R none h') : qT (d + 2) 24 0 [qo 3 0, qo 7 0, qi (fWr wn b), qu, qu] [] h R := by
  have hn := wf_n hW
  have hmm := wf_m hW
  refine sX3_seekLast_0 ?_
  rw [hc]
  have fr7 : ∀ g, fr (fun c i j => c = 3 ∧ i = 0 ∧ (j = 2 ∨ j = 3 ∨ j = 4 ∨ j = 8)) h g → qQX g 0 b := fun g hf => qx_fr hQ (by funext j; exact hf 7 0 j (by omega))
  refine q_up (n := b 1) (C := fun s => s ≤ b 1 → ∀ g, fr (fun c i j => c = 3 ∧ i = 0 ∧ (j = 2 ∨ j = 3 ∨ j = 4 ∨ j = 8)) h g → g 3 0 8 0 = c0 + qsum (fun s => fN per hou nn 0 (aOn b s)) s → (∀ x, 0 ≤ x → x < 49 → g 3 0 2 (Int.toNat x) + fDr b x (qsum (fun s => fN per hou nn 0 (aOn b s)) s) = T x + qsum (fun s => fT per hou nn x 0 (aOn b s)) s) → (∀ i, 0 ≤ i → i < j → g 3 0 3 (Int.toNat i) = h 3 0 3 (Int.toNat i)) → (0 < c0 → g 3 0 4 = h 3 0 4) → (c0 = 0 → 0 < qsum (fun s => fN per hou nn 0 (aOn b s)) s → (∀ i, 0 ≤ i → i < j → g 3 0 4 (Int.toNat i) = h 3 0 3 (Int.toNat i)) ∧ fF per hou nn (fun i => g 3 0 4 (Int.toNat i)) 1 b j) → (c0 = 0 → ¬ 0 < qsum (fun s => fN per hou nn 0 (aOn b s)) s → ∀ s', 0 ≤ s' → s' < s → ¬ 0 < fN per hou nn 0 (aOn b s')) → qT (d + 2) 24 8 [qo 3 0, qo 7 0, qi (fWr wn b), qi c0, qi s] [] g R) ?_ 0 (by omega) (by omega) h fr_rfl (by rw [qsum_0, hc]; omega) (fun x x0 x1 => by rw [qsum_0, qsum_0, (hT x x0 x1).1]; unfold fDr; split <;> omega) (fun _ _ _ => rfl) (fun _ => rfl) (fun _ c => absurd c (by rw [qsum_0]; omega)) (fun _ _ s' s0 s1 => absurd s1 (by omega))
  intro s hs ih hsm g hf h8 h2 h3 h4 hF hZ
  have hQ' := fr7 g hf
  have NB : ∀ y, 0 ≤ y → y ≤ b 1 → 0 ≤ qsum (fun s => fN per hou nn 0 (aOn b s)) y ∧ qsum (fun s => fN per hou nn 0 (aOn b s)) y ≤ y := by
    intro y y0 y1
    have := qsum_b (f := fun s => fN per hou nn 0 (aOn b s)) (V := 1) y y0 (fun x x0 x1 => fN_b (per := per) (hou := hou) (nn := nn) 0 _ (aOn_wf hW x0 (by omega)))
    omega
  have nb := NB s hs hsm
  have TB : ∀ x, 0 ≤ x → x < 49 → -20 ≤ g 3 0 2 (Int.toNat x) ∧ g 3 0 2 (Int.toNat x) ≤ 200000 := by
    intro x x0 x1
    have e1 := h2 x x0 x1
    have e2 := fT_to (per := per) (hou := hou) (nn := nn) (x := x) 0 hW hs hsm
    have e3 := hT x x0 x1
    unfold fDr at e1
    split at e1 <;> omega
  refine sX3_seekLast_8 ?_
  rw [qx_m hQ', h8]
  refine ⟨fun c => ?_, fun c => ?_⟩
  · have es : s = b 1 := by omega
    subst es
    have eN : fN per hou nn 1 b = qsum (fun s => fN per hou nn 0 (aOn b s)) (b 1) := rfl
    have eT : ∀ x, fT per hou nn x 1 b = qsum (fun s => fT per hou nn x 0 (aOn b s)) (b 1) := fun _ => rfl
    have fin : ∀ g', fr (fun c i j => c = 3 ∧ i = 0 ∧ (j = 2 ∨ j = 3 ∨ j = 4 ∨ j = 8)) h g' → g' 3 0 8 = g 3 0 8 → g' 3 0 3 = g 3 0 3 → g' 3 0 4 = g 3 0 4 → (∀ x, 0 ≤ x → x < 49 → g' 3 0 2 (Int.toNat x) = T x + qsum (fun s => fT per hou nn x 0 (aOn b s)) (b 1)) → R none g' := by
      intro g' hf' k8 k3 k4 k2
      refine hR g' ⟨fr7 g' hf', fr_mono hf' (fun c i j hP => Or.inl hP), ?_, fun _ => ⟨?_, fun x x0 x1 => ?_⟩, fun x x0 x1 => ?_, fun c1 c2 => ?_, fun i i0 i1 => ?_, fun c1 => ?_, fun c1 c2 => ?_⟩
      · rw [k8, h8, eN]; omega
      · rw [k8, h8, eN]
      · rw [k2 x x0 x1, eT]
      · have e2 := fT_to (per := per) (hou := hou) (nn := nn) (x := x) 0 hW hmm.1 (Int.le_refl _)
        have e3 := hT x x0 x1
        rw [k2 x x0 x1, k8, h8]
        omega
      · rw [k8, h8]; rw [eN] at c2; omega
      · rw [k3]; exact h3 i i0 i1
      · rw [k4]; exact h4 c1
      · rw [k4]; exact hF c1 c2
    refine ⟨fun c2 => fin g hf rfl rfl rfl (fun x x0 x1 => ?_), fun c2 => ⟨qR_of (by omega) (by omega), x_addToTally (T := fun x => g 3 0 2 (Int.toNat x)) hQ' hW (fun x x0 x1 => ⟨rfl, by have := TB x x0 x1; omega⟩) (by omega) (by omega) (fun g' hf' k2 => fin g' (fr_trans hf (fr_mono hf' (fun c i j hP => ⟨hP.1, hP.2.1, Or.inl hP.2.2⟩))) (hf' 3 0 8 (by omega)) (hf' 3 0 3 (by omega)) (hf' 3 0 4 (by omega)) (fun x x0 x1 => ?_))⟩⟩
    · have e1 := h2 x x0 x1
      unfold fDr at e1
      split at e1 <;> omega
    · have e1 := h2 x x0 x1
      rw [k2 x x0 x1, show c0 + qsum (fun s => fN per hou nn 0 (aOn b s)) (b 1) - c0 = qsum (fun s => fN per hou nn 0 (aOn b s)) (b 1) by omega]
      exact e1
  · have hsm' : s < b 1 := by omega
    have W1 := aOn_wf hW hs hsm'
    have fitE := hE (aOn b s) W1 (by rw [aOn_hi hW hs hsm' (by omega)]; exact hn0)
    have h3s := wf_st hW hs hsm'
    have wrB : ∀ b', qwf B b' → 0 ≤ fWr wn b' ∧ fWr wn b' ≤ 7 := by
      intro b' hW'
      have := qsum_b (f := fun p => fMis wn p (b' (14 + p))) (V := 1) (b' 0) (wf_n hW').1 (fun x _ _ => fMis_b wn x _)
      have := wf_n hW'
      show 0 ≤ qsum (fun p => fMis wn p (b' (14 + p))) (b' 0) ∧ qsum (fun p => fMis wn p (b' (14 + p))) (b' 0) ≤ 7
      omega
    have w1 := wrB b hW
    have w2 := wrB _ W1
    refine x_change hQ' hW (fMT_fr hm (hf 3 0 1 (by omega))) hs hsm' ⟨qR_of (by omega) (by omega), ?_⟩
    rw [show fWr wn b + (fWr wn (aOn b s) - fWr wn b) = fWr wn (aOn b s) by omega, h8]
    refine ⟨fun c2 => ⟨qR_of (by omega) (by omega), ?_⟩, fun c2 => ?_⟩
    · have z1 : fN per hou nn 0 (aOn b s) = 0 := if_neg (fun e => c2 (fitE.mp e))
      have z2 : ∀ x, fT per hou nn x 0 (aOn b s) = 0 := fun x => if_neg (fun e => c2 (fitE.mp e))
      refine ih hsm' (by omega) g hf ?_ ?_ h3 h4 ?_ ?_
      · rw [qsum_s hs, z1, h8]; omega
      · intro x x0 x1
        rw [qsum_s hs, qsum_s hs, z1, z2, Int.add_zero, Int.add_zero]
        exact h2 x x0 x1
      · rw [qsum_s hs, z1, Int.add_zero]; exact hF
      · rw [qsum_s hs, z1, Int.add_zero]
        intro c3 c4 s' s0 s1
        by_cases e : s' = s
        · rw [e]; omega
        · exact hZ c3 c4 s' s0 (by omega)
    · have fit : fB per hou nn (aOn b s) = true := fitE.mpr (by omega)
      have z1 : fN per hou nn 0 (aOn b s) = 1 := if_pos fit
      have z2 : ∀ x, fT per hou nn x 0 (aOn b s) = fD (aOn b s) x := fun x => if_pos fit
      -- from a heap whose count is one more, rows and firsts told, on
      have go : ∀ g1, fr (fun c i j => c = 3 ∧ i = 0 ∧ (j = 2 ∨ j = 3 ∨ j = 4 ∨ j = 8)) h g1 → g1 3 0 2 = g 3 0 2 → g1 3 0 8 0 = c0 + qsum (fun s => fN per hou nn 0 (aOn b s)) s + 1 → (∀ i, 0 ≤ i → i < j → g1 3 0 3 (Int.toNat i) = h 3 0 3 (Int.toNat i)) → (0 < c0 → g1 3 0 4 = h 3 0 4) → (c0 = 0 → (∀ i, 0 ≤ i → i < j → g1 3 0 4 (Int.toNat i) = h 3 0 3 (Int.toNat i)) ∧ fF per hou nn (fun i => g1 3 0 4 (Int.toNat i)) 1 b j) → qT (d + 1) 25 0 [qo 3 0, qo 7 0, qi (g1 7 0 4 (Int.toNat s)), qi (g1 7 0 5 (Int.toNat s))] [] g1 (fun w6 g7 => qrv w6 ((0 ≤ s ∧ s < 10) ∧ (0 ≤ s ∧ s < 10) ∧ qT (d + 1) 25 0 [qo 3 0, qo 7 0, qi (g7 7 0 5 (Int.toNat s)), qi (g7 7 0 4 (Int.toNat s))] [] g7 (fun w8 g9 => qrv w8 (qR (s + 1) ∧ qT (d + 2) 24 8 [qo 3 0, qo 7 0, qi (fWr wn b), qi c0, qi (s + 1)] [] g9 R)))) := by
        intro g1 hf1 q2 q8 q3 q4 qF
        have hQ1 := fr7 g1 hf1
        rw [qx_one hQ1 hW hs hsm', qx_two hQ1 hW hs hsm']
        refine x_moveTally (T := fun x => g 3 0 2 (Int.toNat x)) hQ1 hW h3s.1.1 h3s.1.2 h3s.2.1.1 h3s.2.1.2 (fun x x0 x1 => ⟨by rw [q2], by have := TB x x0 x1; omega⟩) (fun g2 hf2 k2 => ⟨by omega, by omega, ?_⟩)
        have f2 := fr_trans hf1 (fr_mono hf2 (fun c i j (hP : c = 3 ∧ i = 0 ∧ j = 2) => (⟨hP.1, hP.2.1, Or.inl hP.2.2⟩ : c = 3 ∧ i = 0 ∧ (j = 2 ∨ j = 3 ∨ j = 4 ∨ j = 8))))
        have hQ2 := fr7 g2 f2
        rw [qx_one hQ2 hW hs hsm', qx_two hQ2 hW hs hsm']
        refine x_moveTally (T := fun x => g 3 0 2 (Int.toNat x) - (if x = b (70 + s) * 7 + b (14 + b (70 + s)) then 1 else 0) + (if x = b (70 + s) * 7 + b (14 + b (80 + s)) then 1 else 0)) hQ2 hW h3s.2.1.1 h3s.2.1.2 h3s.1.1 h3s.1.2 (fun x x0 x1 => ⟨k2 x x0 x1, ?_⟩) (fun g3 hf3 k3 => ⟨qR_of (by omega) (by omega), ?_⟩)
        · have := TB x x0 x1
          split <;> split <;> omega
        · have f3 := fr_trans f2 (fr_mono hf3 (fun c i j (hP : c = 3 ∧ i = 0 ∧ j = 2) => (⟨hP.1, hP.2.1, Or.inl hP.2.2⟩ : c = 3 ∧ i = 0 ∧ (j = 2 ∨ j = 3 ∨ j = 4 ∨ j = 8))))
          have r8 : g3 3 0 8 = g1 3 0 8 := by rw [hf3 3 0 8 (by omega), hf2 3 0 8 (by omega)]
          have r3 : g3 3 0 3 = g1 3 0 3 := by rw [hf3 3 0 3 (by omega), hf2 3 0 3 (by omega)]
          have r4 : g3 3 0 4 = g1 3 0 4 := by rw [hf3 3 0 4 (by omega), hf2 3 0 4 (by omega)]
          refine ih hsm' (by omega) g3 f3 ?_ ?_ ?_ ?_ ?_ ?_
          · rw [qsum_s hs, z1, r8, q8]; omega
          · intro x x0 x1
            rw [qsum_s hs, qsum_s hs, z1, z2, k3 x x0 x1, fD_on hW hs hsm' x0 x1]
            have e1 := h2 x x0 x1
            have e2 : fDr b x (qsum (fun s => fN per hou nn 0 (aOn b s)) s + 1) = fDr b x (qsum (fun s => fN per hou nn 0 (aOn b s)) s) + fD b x := by
              unfold fDr fD
              split <;> omega
            rw [e2]
            omega
          · intro i i0 i1; rw [r3]; exact q3 i i0 i1
          · intro c3; rw [r4]; exact q4 c3
          · intro c3 _; rw [r4]; exact qF c3
          · intro c3 c4; rw [qsum_s hs, z1] at c4; omega
      refine ⟨fun c3 => ⟨qR_of (by omega) (by omega), by omega, by omega, ?_⟩, fun c3 => ?_⟩
      · have gg := go (qup g 3 0 8 0 (c0 + qsum (fun s => fN per hou nn 0 (aOn b s)) s + 1)) (fr_trans hf (fr_up ⟨rfl, rfl, by omega⟩)) (up_j (by omega)) up_at (fun i i0 i1 => by rw [up_j (by omega)]; exact h3 i i0 i1) (fun c4 => by rw [up_j (by omega)]; exact h4 c4) (fun c4 => by rw [up_j (by omega)]; exact hF c4 (by omega))
        rw [up_j (by omega), up_j (by omega)] at gg
        exact gg
      · rw [hf 3 0 7 (by omega), hk]
        refine ⟨qR_of (by omega) (by omega), by omega, by omega, qR_of (by omega) (by omega), by omega, by omega, ?_⟩
        have cz : c0 = 0 ∧ qsum (fun s => fN per hou nn 0 (aOn b s)) s = 0 := by omega
        have e4 : ∀ i, 0 ≤ i → i < 5 → (qup (qcp (qup g 3 0 3 (Int.toNat (K - 1)) s) 3 0 3 (Int.toNat 0) 3 0 4 (Int.toNat 0) (Int.toNat 5)) 3 0 8 0 (c0 + qsum (fun s => fN per hou nn 0 (aOn b s)) s + 1)) 3 0 4 (Int.toNat i) = if i = K - 1 then s else g 3 0 3 (Int.toNat i) := by
          intro i i0 i1
          rw [up_j (by omega)]
          show (if 4 = 4 ∧ 3 = 3 ∧ (Int.toNat 0 ≤ Int.toNat i ∧ Int.toNat i < Int.toNat 0 + Int.toNat 5) ∧ 0 = 0 then (qup g 3 0 3 (Int.toNat (K - 1)) s) 3 0 3 (Int.toNat 0 + (Int.toNat i - Int.toNat 0)) else _) = _
          rw [if_pos ⟨rfl, rfl, ⟨by omega, by omega⟩, rfl⟩, show Int.toNat 0 + (Int.toNat i - Int.toNat 0) = Int.toNat i by omega, up_I i0 (by omega)]
        have q34 : ∀ i, 0 ≤ i → i < j → (qup (qcp (qup g 3 0 3 (Int.toNat (K - 1)) s) 3 0 3 (Int.toNat 0) 3 0 4 (Int.toNat 0) (Int.toNat 5)) 3 0 8 0 (c0 + qsum (fun s => fN per hou nn 0 (aOn b s)) s + 1)) 3 0 3 (Int.toNat i) = h 3 0 3 (Int.toNat i) := by
          intro i i0 i1
          rw [up_j (by omega)]
          show (if 3 = 4 ∧ _ then _ else (qup g 3 0 3 (Int.toNat (K - 1)) s) 3 0 3 (Int.toNat i)) = _
          rw [if_neg (fun e => absurd e.1 (by decide)), up_I i0 (by omega), if_neg (by omega)]
          exact h3 i i0 i1
        have gg := go (qup (qcp (qup g 3 0 3 (Int.toNat (K - 1)) s) 3 0 3 (Int.toNat 0) 3 0 4 (Int.toNat 0) (Int.toNat 5)) 3 0 8 0 (c0 + qsum (fun s => fN per hou nn 0 (aOn b s)) s + 1)) (fr_trans hf (fr_trans (fr_up ⟨rfl, rfl, by omega⟩) (fr_trans (fr_cp ⟨rfl, rfl, by omega⟩) (fr_up ⟨rfl, rfl, by omega⟩)))) ?_ up_at q34 (fun c4 => absurd c4 (by omega)) (fun c4 => ⟨fun i i0 i1 => ?_, ?_⟩)
        · exact gg
        · rw [up_j (by omega)]
          funext k'
          show (if 2 = 4 ∧ _ then _ else (qup g 3 0 3 (Int.toNat (K - 1)) s) 3 0 2 k') = _
          rw [if_neg (fun e => absurd e.1 (by decide)), up_j (by omega)]
        · rw [e4 i i0 (by omega), if_neg (by omega)]
          exact h3 i i0 i1
        · exact fF_one ((e4 j j0 (by omega)).trans (if_pos (by omega))) hs hsm' (by omega) (fun s' s0 s1 => hZ cz.1 (by omega) s' s0 s1)
end FS
