section FT
variable {B : Int} {per hou : Int → Int} {nn : Int}
theorem m_triesEnd {d : Nat} {R : Option qV → qH → Prop} {h : qH} {a b : qB} {K t c0 : Int} {T : Int → Int} (hM : qM h 0 a) (hA : bA a b) (hW : qwf B b) (hr : rQ h b) (hc : h 12 0 30 0 = c0) (hT : ∀ x, 0 ≤ x → x < 49 → h 12 0 33 (Int.toNat x) = T x ∧ 0 ≤ T x ∧ T x ≤ c0) (c00 : 0 ≤ c0) (hb : c0 ≤ 200000) (hR : ∀ h', fr PF h h' → h' 12 0 28 = h 12 0 28 → h' 12 0 32 = h 12 0 32 → h' 12 0 31 = h 12 0 31 → h' 12 0 30 0 = c0 + 1 → (∀ x, 0 ≤ x → x < 49 → h' 12 0 33 (Int.toNat x) = T x + fD b x) → R none h') : qT (d + 1) 293 108 [qo 12 0, qi t, qi nn, qi K, qi K, qi 0] [] h R := by
  have hn := wf_n hW
  have e0 : b 0 = a 0 := hA 0 (by omega)
  refine q_up (n := b 0) (C := fun y => y ≤ b 0 → ∀ g, fr PF h g → g 12 0 20 = h 12 0 20 → g 12 0 28 = h 12 0 28 → g 12 0 32 = h 12 0 32 → g 12 0 31 = h 12 0 31 → g 12 0 30 = h 12 0 30 → (∀ x, 0 ≤ x → x < 49 → g 12 0 33 (Int.toNat x) = T x + (if x / 7 < y then fD b x else 0)) → qT (d + 1) 293 108 [qo 12 0, qi t, qi nn, qi K, qi K, qi y] [] g R) ?_ 0 (by omega) (by omega) h fr_rfl rfl rfl rfl rfl rfl (fun x x0 x1 => by rw [if_neg (by omega), (hT x x0 x1).1]; omega)
  intro y hy ih hyn g hf e20 e28 e32 e31 e30 hg
  have hM' := m_fr hM e20
  refine sX12_tries_108 ?_
  rw [m_0 hM' (by omega) (by omega), ← e0, e30, hc]
  refine ⟨by omega, fun c => ⟨qR_of (by omega) (by omega), hR _ (fr_trans hf (fr_up ⟨rfl, by omega⟩)) ?_ ?_ ?_ up_at ?_⟩, fun c => ?_⟩
  · rw [up_j (by omega)]; exact e28
  · rw [up_j (by omega)]; exact e32
  · rw [up_j (by omega)]; exact e31
  · intro x x0 x1
    rw [up_j (by omega), hg x x0 x1]
    by_cases c2 : x / 7 < y
    · rw [if_pos c2]
    · rw [if_neg c2]
      have : fD b x = 0 := if_neg (by omega)
      rw [this]
  · have hl := wf_live hW hy (by omega : y < b 0)
    have er : g 12 0 28 (Int.toNat y) = b (14 + y) := by rw [e28]; exact hr y hy (by omega)
    have h2 := hg (7 * y + b (14 + y)) (by omega) (by omega)
    have h3 := hT (7 * y + b (14 + y)) (by omega) (by omega)
    rw [if_neg (by omega)] at h2
    rw [er, h2]
    refine ⟨qR_of (by omega) (by omega), by omega, qR_of (by omega) (by omega), by omega, qR_of (by omega) (by omega), by omega, qR_of (by omega) (by omega), ih (by omega) (by omega) _ (fr_trans hf (fr_up ⟨rfl, by omega⟩)) ?_ ?_ ?_ ?_ ?_ ?_⟩
    · rw [up_j (by omega)]; exact e20
    · rw [up_j (by omega)]; exact e28
    · rw [up_j (by omega)]; exact e32
    · rw [up_j (by omega)]; exact e31
    · rw [up_j (by omega)]; exact e30
    · intro x x0 x1
      rw [up_I x0 (by omega)]
      by_cases c2 : x = 7 * y + b (14 + y)
      · rw [if_pos c2, if_pos (by omega)]
        have : fD b x = 1 := by
          unfold fD
          have e7 : x / 7 = y := by omega
          have e8 : x % 7 = b (14 + y) := by omega
          rw [e7, e8, if_pos ⟨rfl, by omega⟩]
        rw [this, c2]
        omega
      · rw [if_neg c2, hg x x0 x1]
        by_cases c3 : x / 7 = y
        · rw [if_neg (by omega), if_pos (by omega)]
          have : fD b x = 0 := by
            unfold fD
            rw [c3, if_neg (by omega)]
          rw [this]
        · by_cases c4 : x / 7 < y
          · rw [if_pos c4, if_pos (by omega)]
          · rw [if_neg c4, if_neg (by omega)]
theorem m_tries {a : qB} {K t : Int} (hK : K ≤ 5) : ∀ (k : Nat) {d : Nat} {R : Option qV → qH → Prop} {h : qH} {b : qB} {c0 : Int} {T : Int → Int} (j : Int), 0 ≤ j → j + k = K → qM h 0 a → bA a b → qwf B b → rQ h b → fW h t (b 0) per hou nn → h 12 0 30 0 = c0 → (∀ x, 0 ≤ x → x < 49 → h 12 0 33 (Int.toNat x) = T x ∧ 0 ≤ T x ∧ T x ≤ c0) → 0 ≤ c0 → c0 + ((10 ^ k : Nat) : Int) ≤ 200000 → (∀ h', rQ h' b → fr PF h h' → h' 12 0 30 0 = c0 + fN per hou nn k b → (∀ x, 0 ≤ x → x < 49 → h' 12 0 33 (Int.toNat x) = T x + fT per hou nn x k b) → (∀ i, 0 ≤ i → i < j → h' 12 0 32 (Int.toNat i) = h 12 0 32 (Int.toNat i)) → (0 < c0 → h' 12 0 31 = h 12 0 31) → (c0 = 0 → 0 < fN per hou nn k b → (∀ i, 0 ≤ i → i < j → h' 12 0 31 (Int.toNat i) = h 12 0 32 (Int.toNat i)) ∧ fF per hou nn (fun i => h' 12 0 31 (Int.toNat i)) k b j) → R none h') → qT (d + k + 3) 293 0 [qo 12 0, qi t, qi nn, qi K, qi j, qu] [] h R := by
  intro k
  induction k with
  | zero =>
    intro d R h b c0 T j j0 hjK hM hA hW hr hw hc hT c00 hb hR
    have ej : j = K := by omega
    subst ej
    refine sX12_tries_0 ⟨fun _ => m_isFit hw hW hr (fun hfit => ⟨fun _ => ?_, fun c => absurd (by decide) c⟩) (fun hfit => ⟨fun c => absurd rfl c, fun _ => ?_⟩), fun c => absurd (Int.le_refl _) c⟩
    · have eN : fN per hou nn 0 b = 1 := if_pos hfit
      have eT : ∀ x, fT per hou nn x 0 b = fD b x := fun x => if_pos hfit
      have fin : ∀ g : qH, fr PF h g → g 12 0 20 = h 12 0 20 → g 12 0 28 = h 12 0 28 → g 12 0 32 = h 12 0 32 → g 12 0 30 = h 12 0 30 → g 12 0 33 = h 12 0 33 → (0 < c0 → g 12 0 31 = h 12 0 31) → (c0 = 0 → ∀ i, 0 ≤ i → i < j → g 12 0 31 (Int.toNat i) = h 12 0 32 (Int.toNat i)) → qT (d + 0 + 3) 293 108 [qo 12 0, qi t, qi nn, qi j, qi j, qi 0] [] g R := by
        intro g hf e20 e28 e32 e30 e33 e31 e31'
        refine m_triesEnd (c0 := c0) (T := T) (m_fr hM e20) hA hW (rQ_fr hr e28) (by rw [e30]; exact hc) (fun x x0 x1 => by rw [e33]; exact hT x x0 x1) c00 (by omega) (fun h' hf' k28 k32 k31 k30 k33 => ?_)
        refine hR h' (rQ_fr (rQ_fr hr e28) k28) (fr_trans hf hf') (by rw [k30, eN]) (fun x x0 x1 => by rw [k33 x x0 x1, eT]) (fun i _ _ => by rw [k32, e32]) (fun c => k31.trans (e31 c)) (fun c _ => ⟨fun i i0 i1 => by rw [k31]; exact e31' c i i0 i1, trivial⟩)
      refine q_up (n := j) (C := fun y => y ≤ j → ∀ g, fr PF h g → g 12 0 20 = h 12 0 20 → g 12 0 28 = h 12 0 28 → g 12 0 32 = h 12 0 32 → g 12 0 30 = h 12 0 30 → g 12 0 33 = h 12 0 33 → (0 < c0 → g 12 0 31 = h 12 0 31) → (c0 = 0 → ∀ i, 0 ≤ i → i < y → g 12 0 31 (Int.toNat i) = h 12 0 32 (Int.toNat i)) → qT (d + 0 + 3) 293 72 [qo 12 0, qi t, qi nn, qi j, qi j, qi y] [] g R) ?_ 0 (by omega) (by omega) h fr_rfl rfl rfl rfl rfl rfl (fun _ => rfl) (fun _ i i0 i1 => absurd i1 (by omega))
      intro y hy ih hyj g hf e20 e28 e32 e30 e33 e31 e31'
      refine sX12_tries_72 ?_
      rw [e30, hc]
      refine ⟨fun c => fin g hf e20 e28 e32 e30 e33 e31 (fun c0' i i0 i1 => e31' c0' i i0 (by omega)), fun c => ⟨fun c2 => fin g hf e20 e28 e32 e30 e33 e31 (fun c0' => absurd c0' c2), fun c2 => ⟨by omega, by omega, qR_of (by omega) (by omega), ih (by omega) (by omega) _ (fr_trans hf (fr_up ⟨rfl, by omega⟩)) ?_ ?_ ?_ ?_ ?_ (fun c3 => absurd c3 (by omega)) ?_⟩⟩⟩
      · rw [up_j (by omega)]; exact e20
      · rw [up_j (by omega)]; exact e28
      · rw [up_j (by omega)]; exact e32
      · rw [up_j (by omega)]; exact e30
      · rw [up_j (by omega)]; exact e33
      · intro c3 i i0 i1
        rw [up_I i0 hy]
        by_cases e : i = y
        · rw [if_pos e, e, e32]
        · rw [if_neg e]; exact e31' c3 i i0 (by omega)
    · have eN : fN per hou nn 0 b = 0 := if_neg hfit
      refine hR h hr fr_rfl (by rw [eN, hc]; omega) (fun x x0 x1 => ?_) (fun _ _ _ => rfl) (fun _ => rfl) (fun _ c => absurd c (by omega))
      have : fT per hou nn x 0 b = 0 := if_neg hfit
      rw [this, (hT x x0 x1).1]; omega
  | succ k ih =>
    intro d R h b c0 T j j0 hjK hM hA hW hr hw hc hT c00 hb hR
    have hm := wf_m hW
    have e1 : b 1 = a 1 := hA 1 (by omega)
    refine sX12_tries_0 ⟨fun c => absurd c (by omega), fun _ => ?_⟩
    refine q_up (n := b 1) (C := fun s => s ≤ b 1 → ∀ g, rQ g b → fr PF h g → g 12 0 30 0 = c0 + qsum (fun s => fN per hou nn k (aOn b s)) s → (∀ x, 0 ≤ x → x < 49 → g 12 0 33 (Int.toNat x) = T x + qsum (fun s => fT per hou nn x k (aOn b s)) s) → (∀ i, 0 ≤ i → i < j → g 12 0 32 (Int.toNat i) = h 12 0 32 (Int.toNat i)) → (0 < c0 → g 12 0 31 = h 12 0 31) → (c0 = 0 → 0 < qsum (fun s => fN per hou nn k (aOn b s)) s → (∀ i, 0 ≤ i → i < j → g 12 0 31 (Int.toNat i) = h 12 0 32 (Int.toNat i)) ∧ fF per hou nn (fun i => g 12 0 31 (Int.toNat i)) (k + 1) b j) → (c0 = 0 → ¬ 0 < qsum (fun s => fN per hou nn k (aOn b s)) s → ∀ s', 0 ≤ s' → s' < s → ¬ 0 < fN per hou nn k (aOn b s')) → qT (d + (k + 1) + 3) 293 9 [qo 12 0, qi t, qi nn, qi K, qi j, qi s] [] g R) ?_ 0 (by omega) (by omega) h hr fr_rfl (by rw [qsum_0, hc]; omega) (fun x x0 x1 => by rw [qsum_0, (hT x x0 x1).1]; omega) (fun _ _ _ => rfl) (fun _ => rfl) (fun _ c => absurd c (by rw [qsum_0]; omega)) (fun _ _ s' s0 s1 => absurd s1 (by omega))
    intro s hs ihs hsm g hr' hf h30 h33 h32 h31 hF hZ
    have hM' : qM g 0 a := m_fr hM (hf 12 0 20 (by omega))
    refine sX12_tries_9 ?_
    rw [m_0 hM' (by omega) (by omega), ← e1]
    refine ⟨by omega, fun c => ?_, fun c => ⟨by omega, ?_⟩⟩
    · have es : s = b 1 := by omega
      subst es
      exact hR g hr' hf h30 h33 h32 h31 hF
    · have hsm' : s < b 1 := by omega
      have B1 := fN_to (per := per) (hou := hou) (nn := nn) k hW hs hsm'
      have B2 := fN_b (per := per) (hou := hou) (nn := nn) k _ (aOn_wf hW hs hsm')
      refine m_swapsRow (a := a) (b := b) (m_fr hM' (up_j (by omega))) hA hW (rQ_fr hr' (up_j (by omega))) hs hsm' (fun g1 hr1 hf1 => ⟨qR_of (by omega) (by omega), ?_⟩)
      have f1 : fr PF h g1 := fr_trans hf (fr_trans (fr_up ⟨rfl, by omega⟩) (fr_mono hf1 (fun c i j hP => ⟨hP.1, by omega⟩)))
      have q28 : ∀ j', j' ≠ 28 → j' ≠ 32 → g1 12 0 j' = g 12 0 j' := fun j' n1 n2 => by rw [hf1 12 0 j' (by omega), up_j (by omega)]
      have q32 : g1 12 0 32 = qup g 12 0 32 (Int.toNat j) s 12 0 32 := hf1 12 0 32 (by omega)
      have W1 : fW g1 t (aOn b s 0) per hou nn := by
        rw [aOn_hi hW hs hsm' (by omega)]
        exact fW_fr hw (f1 12 0 6 (by omega))
      refine ih (d := d) (c0 := c0 + qsum (fun s => fN per hou nn k (aOn b s)) s) (T := fun x => T x + qsum (fun s => fT per hou nn x k (aOn b s)) s) (j + 1) (by omega) (by omega) (m_fr hM' (q28 20 (by omega) (by omega))) (bA_on hA hW hs hsm') (aOn_wf hW hs hsm') hr1 W1 (by rw [q28 30 (by omega) (by omega)]; exact h30) (fun x x0 x1 => ?_) (by omega) (by omega) (fun g2 hr2 hf2 k30 k33 k32 k31 kF => ?_)
      · rw [q28 33 (by omega) (by omega), h33 x x0 x1]
        have := fT_to (per := per) (hou := hou) (nn := nn) (x := x) k hW hs (by omega : s ≤ b 1)
        have := hT x x0 x1
        omega
      · have hM2 : qM g2 0 a := m_fr hM ((fr_trans f1 hf2) 12 0 20 (by omega))
        have hm1 : s < aOn b s 1 := by rw [aOn_hi hW hs hsm' (by omega)]; exact hsm'
        refine m_swapsRow (a := a) hM2 (bA_on hA hW hs hsm') (aOn_wf hW hs hsm') hr2 hs hm1 (fun g3 hr3 hf3 => ⟨qR_of (by omega) (by omega), ?_⟩)
        rw [aOn_on hW hs hsm'] at hr3
        have f3 : fr PF h g3 := fr_trans f1 (fr_trans hf2 (fr_mono hf3 (fun c i j hP => ⟨hP.1, by omega⟩)))
        have q3 : ∀ j', j' ≠ 28 → g3 12 0 j' = g2 12 0 j' := fun j' n1 => hf3 12 0 j' (by omega)
        refine ihs hsm' (by omega) g3 hr3 f3 ?_ ?_ ?_ ?_ ?_ ?_
        · rw [q3 30 (by omega), k30, qsum_s hs]; omega
        · intro x x0 x1
          rw [q3 33 (by omega), k33 x x0 x1, qsum_s hs]; omega
        · intro i i0 i1
          rw [q3 32 (by omega), k32 i i0 (by omega), q32, up_if, if_neg (by omega)]
          exact h32 i i0 i1
        · intro c1
          rw [q3 31 (by omega), k31 (by omega), q28 31 (by omega) (by omega)]
          exact h31 c1
        · intro c1 c2
          rw [q3 31 (by omega)]
          by_cases c3 : 0 < qsum (fun s => fN per hou nn k (aOn b s)) s
          · rw [k31 (by omega), q28 31 (by omega) (by omega)]
            exact hF c1 c3
          · rw [qsum_s hs] at c2
            have kk := kF (by omega) (by omega)
            have kj : g2 12 0 31 (Int.toNat j) = s := by rw [kk.1 j j0 (by omega), q32, up_at]
            refine ⟨fun i i0 i1 => ?_, ?_⟩
            · rw [kk.1 i i0 (by omega), q32, up_if, if_neg (by omega)]
              exact h32 i i0 i1
            · refine ⟨?_, ?_⟩
              · show 0 ≤ g2 12 0 31 (Int.toNat j) ∧ g2 12 0 31 (Int.toNat j) < b 1 ∧ 0 < fN per hou nn k (aOn b (g2 12 0 31 (Int.toNat j))) ∧ ∀ s', 0 ≤ s' → s' < g2 12 0 31 (Int.toNat j) → ¬ 0 < fN per hou nn k (aOn b s')
                rw [kj]
                exact ⟨hs, hsm', by omega, fun s' s0 s1 => hZ c1 c3 s' s0 s1⟩
              · show fF per hou nn (fun i => g2 12 0 31 (Int.toNat i)) k (aOn b (g2 12 0 31 (Int.toNat j))) (j + 1)
                rw [kj]
                exact kk.2
        · intro c1 c2 s' s0 s1
          rw [qsum_s hs] at c2
          by_cases e : s' = s
          · rw [e]; omega
          · exact hZ c1 (by omega) s' s0 (by omega)
end FT
