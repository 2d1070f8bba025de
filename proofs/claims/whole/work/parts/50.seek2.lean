section FS2
variable {B : Int} {per hou : Int → Int} {nn : Int} {wn : Int → Int} {n0 : Int}
theorem fWr_b {b : qB} (hW : qwf B b) : 0 ≤ fWr wn b ∧ fWr wn b ≤ 7 := by
  have := qsum_b (f := fun p => fMis wn p (b (14 + p))) (V := 1) (b 0) (wf_n hW).1 (fun x _ _ => fMis_b wn x _)
  have := wf_n hW
  show 0 ≤ qsum (fun p => fMis wn p (b (14 + p))) (b 0) ∧ qsum (fun p => fMis wn p (b (14 + p))) (b 0) ≤ 7
  omega
theorem fF_more {row : Int → Int} {k : Nat} {b : qB} {j s : Int} (e : row j = s) (s0 : 0 ≤ s) (hs : s < b 1) (hp : 0 < fN per hou nn k (aOn b s)) (hz : ∀ s', 0 ≤ s' → s' < s → ¬ 0 < fN per hou nn k (aOn b s')) (hF : fF per hou nn row k (aOn b s) (j + 1)) : fF per hou nn row (k + 1) b j := by
  refine ⟨?_, ?_⟩
  · rw [e]
    exact ⟨s0, hs, hp, hz⟩
  · rw [e]
    exact hF
theorem x_seekOn {K fo : Int} (hE : ∀ b', qwf B b' → b' 0 = n0 → (fB per hou nn b' = true ↔ fWr wn b' = 0)) (hK : K ≤ 5) : ∀ (k : Nat) {d : Nat} {R : Option qV → qH → Prop} {h : qH} {b : qB} {c0 : Int} {T : Int → Int} (j : Int), 0 ≤ j → j + (k + 1 : Nat) = K → b 0 = n0 → qQX h 0 b → qwf B b → fMT h wn → h 3 0 7 0 = K → h 3 0 6 0 = fo → h 3 0 8 0 = c0 → (∀ x, 0 ≤ x → x < 49 → h 3 0 2 (Int.toNat x) = T x ∧ 0 ≤ T x ∧ T x ≤ c0) → 0 ≤ c0 → c0 + ((10 ^ (k + 1) : Nat) : Int) ≤ 200000 → (fo ≠ 0 → c0 = 0) → (∀ h', fPost per hou nn fo c0 T j (k + 1) b h h' → R none h') → qT (d + k + 5) 22 0 [qo 3 0, qo 7 0, qi ((k + 1 : Nat) : Int), qi (fWr wn b), qu, qu] [] h R := by
  intro k
  induction k with
  | zero =>
    intro d R h b c0 T j j0 hj hn0 hQ hW hm hk hfo hc hT c00 cb hf0 hR
    have w1 := fWr_b (wn := wn) hW
    refine sX3_seekOn_0 ?_
    rw [hk]
    refine ⟨fun c => absurd c (by omega), fun _ => ⟨fun c => absurd c (by omega), fun _ => ⟨qR_of (by omega) (by omega), fun c => ⟨fun c2 => absurd (by decide) c2, fun _ => ?_⟩, fun c => ?_⟩⟩⟩
    · exact x_seekLast (fo := fo) (T := T) hE hn0 j0 (by omega) hK hQ hW hm hk hc hT c00 (by omega) hR
    · exact hR h (fPost_0 hQ hW hc hT (fN_zero hE 1 b hW hn0 (by omega)))
  | succ k ih =>
    intro d R h b c0 T j j0 hj hn0 hQ hW hm hk hfo hc hT c00 cb hf0 hR
    have w1 := fWr_b (wn := wn) hW
    have hmm := wf_m hW
    refine sX3_seekOn_0 ?_
    rw [hk]
    refine ⟨fun c => absurd c (by omega), fun _ => ⟨fun c => absurd c (by omega), fun _ => ⟨qR_of (by omega) (by omega), fun c => ⟨fun _ => ?_, fun c2 => absurd (by omega) c2⟩, fun c => ?_⟩⟩⟩
    · refine q_up (n := b 1) (C := fun s => s ≤ b 1 → ∀ g z, qQX g 0 b → fr PX h g → g 3 0 8 0 = c0 + qsum (fun s => fN per hou nn (k + 1) (aOn b s)) s → (∀ x, 0 ≤ x → x < 49 → g 3 0 2 (Int.toNat x) = T x + qsum (fun s => fT per hou nn x (k + 1) (aOn b s)) s) → (∀ i, 0 ≤ i → i < j → g 3 0 3 (Int.toNat i) = h 3 0 3 (Int.toNat i)) → (0 < c0 → g 3 0 4 = h 3 0 4) → (c0 = 0 → 0 < qsum (fun s => fN per hou nn (k + 1) (aOn b s)) s → (∀ i, 0 ≤ i → i < j → g 3 0 4 (Int.toNat i) = h 3 0 3 (Int.toNat i)) ∧ fF per hou nn (fun i => g 3 0 4 (Int.toNat i)) (k + 2) b j) → (c0 = 0 → ¬ 0 < qsum (fun s => fN per hou nn (k + 1) (aOn b s)) s → ∀ s', 0 ≤ s' → s' < s → ¬ 0 < fN per hou nn (k + 1) (aOn b s')) → (fo ≠ 0 → qsum (fun s => fN per hou nn (k + 1) (aOn b s)) s = 0) → qT (d + (k + 1) + 5) 22 36 [qo 3 0, qo 7 0, qi ((k + 1 + 1 : Nat) : Int), qi (fWr wn b), qi s, z] [] g R) ?_ 0 (by omega) (by omega) h _ hQ fr_rfl (by rw [qsum_0, hc]; omega) (fun x x0 x1 => by rw [qsum_0, (hT x x0 x1).1]; omega) (fun _ _ _ => rfl) (fun _ => rfl) (fun _ c => absurd c (by rw [qsum_0]; omega)) (fun _ _ s' s0 s1 => absurd s1 (by omega)) (fun _ => rfl)
      intro s hs ihs hsm g z hQ' hf h8 h2 h3 h4 hF hZ hO
      refine sX3_seekOn_36 ?_
      rw [qx_m hQ']
      refine ⟨fun c => ?_, fun c => ?_⟩
      · have es : s = b 1 := by omega
        subst es
        refine hR g ⟨hQ', hf, ?_, fun _ => ⟨h8, h2⟩, fun x x0 x1 => ?_, fun c1 c2 => ?_, h3, h4, hF⟩
        · have := fN_b (per := per) (hou := hou) (nn := nn) (k + 2) b hW
          have e : fN per hou nn (k + 2) b = qsum (fun s => fN per hou nn (k + 1) (aOn b s)) (b 1) := rfl
          rw [h8, e]
          omega
        · have := fT_to (per := per) (hou := hou) (nn := nn) (x := x) (k + 1) hW hmm.1 (Int.le_refl _)
          have := hT x x0 x1
          rw [h2 x x0 x1, h8]
          omega
        · have e : fN per hou nn (k + 2) b = qsum (fun s => fN per hou nn (k + 1) (aOn b s)) (b 1) := rfl
          rw [h8]
          rw [e] at c2
          omega
      · have hsm' : s < b 1 := by omega
        have W1 := aOn_wf hW hs hsm'
        have w2 := fWr_b (wn := wn) W1
        have B1 := fN_to (per := per) (hou := hou) (nn := nn) (k + 1) hW hs hsm'
        have B2 := fN_b (per := per) (hou := hou) (nn := nn) (k + 1) _ W1
        have en : aOn b s 0 = b 0 := aOn_hi hW hs hsm' (by omega)
        have e1 : aOn b s 1 = b 1 := aOn_hi hW hs hsm' (by omega)
        refine x_change hQ' hW (fMT_fr hm (hf 3 0 1 (by omega))) hs hsm' ⟨qR_of (by omega) (by omega), ?_⟩
        rw [show fWr wn b + (fWr wn (aOn b s) - fWr wn b) = fWr wn (aOn b s) by omega, hf 3 0 7 (by omega), hk]
        refine ⟨qR_of (by omega) (by omega), by omega, ?_⟩
        have ej : K - ((k + 1 + 1 : Nat) : Int) = j := by omega
        rw [ej]
        have hQ1 : qQX (qup g 3 0 3 (Int.toNat j) s) 0 b := qx_fr hQ' (by funext j'; exact up_j (by omega))
        refine x_exchangeOn hQ1 hW hs hsm' (fun g1 hQg1 hf1 => ⟨qR_of (by omega) (by omega), ?_⟩)
        have f1 : fr PX h g1 := fr_trans hf (fr_trans (fr_up (Or.inl ⟨rfl, rfl, by omega⟩)) (fr_f7 hf1 (fun j' hj' => Or.inr ⟨rfl, rfl, hj'⟩)))
        have q3 : ∀ j', g1 3 0 j' = (qup g 3 0 3 (Int.toNat j) s) 3 0 j' := fun j' => by rw [hf1.1 3 0 (by omega)]
        have q3n : ∀ j', j' ≠ 3 → g1 3 0 j' = g 3 0 j' := fun j' hj' => by rw [q3, up_j (by omega)]
        rw [show ((k + 1 + 1 : Nat) : Int) - 1 = ((k + 1 : Nat) : Int) by omega]
        have back : ∀ g2, qQX g2 0 (aOn b s) → fr PX g1 g2 → ∀ R3 : Option qV → qH → Prop, (∀ g3, qQX g3 0 b → fr PX h g3 → (∀ j', g3 3 0 j' = g2 3 0 j') → R3 none g3) → qT (d + (k + 1) + 4) 65 0 [qo 7 0, qi s] [] g2 R3 := by
          intro g2 hQ2 hf2 R3 H3
          refine x_exchangeOn hQ2 W1 hs (by omega) (fun g3 hQ3 hf3 => H3 g3 ?_ (fr_trans f1 (fr_trans hf2 (fr_f7 hf3 (fun j' hj' => Or.inr ⟨rfl, rfl, hj'⟩)))) (fun j' => by rw [hf3.1 3 0 (by omega)]))
          have e := aOn_on hW hs hsm'
          unfold aOn at e hQ3
          rw [e] at hQ3
          exact hQ3
        have recu := fun (R2 : Option qV → qH → Prop) (H : ∀ g2, fPost per hou nn fo (c0 + qsum (fun s => fN per hou nn (k + 1) (aOn b s)) s) (fun x => T x + qsum (fun s => fT per hou nn x (k + 1) (aOn b s)) s) (j + 1) (k + 1) (aOn b s) g1 g2 → R2 none g2) => ih (d := d) (R := R2) (h := g1) (b := aOn b s) (c0 := c0 + qsum (fun s => fN per hou nn (k + 1) (aOn b s)) s) (T := fun x => T x + qsum (fun s => fT per hou nn x (k + 1) (aOn b s)) s) (j + 1) (by omega) (by omega) (by rw [en]; exact hn0) hQg1 W1 (fMT_fr hm (by rw [q3n 1 (by omega)]; exact hf 3 0 1 (by omega))) (by rw [q3n 7 (by omega), hf 3 0 7 (by omega)]; exact hk) (by rw [q3n 6 (by omega), hf 3 0 6 (by omega)]; exact hfo) (by rw [q3n 8 (by omega)]; exact h8) (fun x x0 x1 => by
          have := fT_to (per := per) (hou := hou) (nn := nn) (x := x) (k + 1) hW hs (by omega : s ≤ b 1)
          have := hT x x0 x1
          rw [q3n 2 (by omega), h2 x x0 x1]
          omega) (by omega) (by omega) (fun c2 => by have := hf0 c2; have := hO c2; omega) H
        refine recu _ (fun g2 hP => ?_)
        obtain ⟨pQ, pf, pb, pz, pt, pp, p3, p4, pF⟩ := hP
        refine back g2 pQ pf _ (fun g3 hQ3 hf3 e3 => ?_)
        have r3 : ∀ i, 0 ≤ i → i < j → g3 3 0 3 (Int.toNat i) = h 3 0 3 (Int.toNat i) := by
          intro i i0 i1
          rw [e3, p3 i i0 (by omega), q3, up_I i0 j0, if_neg (by omega)]
          exact h3 i i0 i1
        have r4 : 0 < c0 → g3 3 0 4 = h 3 0 4 := by
          intro c1
          rw [e3, p4 (by omega), q3n 4 (by omega)]
          exact h4 c1
        have rF : c0 = 0 → 0 < qsum (fun s => fN per hou nn (k + 1) (aOn b s)) s + fN per hou nn (k + 1) (aOn b s) → (∀ i, 0 ≤ i → i < j → g3 3 0 4 (Int.toNat i) = h 3 0 3 (Int.toNat i)) ∧ fF per hou nn (fun i => g3 3 0 4 (Int.toNat i)) (k + 2) b j := by
          intro c1 c2
          rw [e3]
          by_cases c3 : 0 < qsum (fun s => fN per hou nn (k + 1) (aOn b s)) s
          · rw [p4 (by omega), q3n 4 (by omega)]
            exact hF c1 c3
          · have kk := pF (by omega) (by omega)
            have kj : g2 3 0 4 (Int.toNat j) = s := by rw [kk.1 j j0 (by omega), q3, up_I j0 j0, if_pos rfl]
            refine ⟨fun i i0 i1 => ?_, fF_more kj hs hsm' (by omega) (fun s' s0 s1 => hZ c1 c3 s' s0 s1) kk.2⟩
            rw [kk.1 i i0 (by omega), q3, up_I i0 j0, if_neg (by omega)]
            exact h3 i i0 i1
        -- how it goes on
        have on : (fo ≠ 0 → True → fN per hou nn (k + 1) (aOn b s) = 0) → (fo ≠ 0 → g3 3 0 8 0 = 0) → qT (d + (k + 1) + 5) 22 36 [qo 3 0, qo 7 0, qi ((k + 1 + 1 : Nat) : Int), qi (fWr wn b), qi (s + 1), qi (fWr wn (aOn b s))] [] g3 R := by
          intro hz h80
          have bothN : g3 3 0 8 0 = c0 + qsum (fun s => fN per hou nn (k + 1) (aOn b s)) s + fN per hou nn (k + 1) (aOn b s) := by
            by_cases cf : fo = 0
            · rw [e3, (pz cf).1]
            · rw [h80 cf, hz cf trivial, hO cf, hf0 cf]; rfl
          have bothT : ∀ x, 0 ≤ x → x < 49 → g3 3 0 2 (Int.toNat x) = T x + (qsum (fun s => fT per hou nn x (k + 1) (aOn b s)) s + fT per hou nn x (k + 1) (aOn b s)) := by
            intro x x0 x1
            by_cases cf : fo = 0
            · have pzz := (pz cf).2 x x0 x1
              dsimp only at pzz
              rw [e3, pzz]; omega
            · have a1 := pt x x0 x1
              have a2 := hT x x0 x1
              have a3 := fT_to (per := per) (hou := hou) (nn := nn) (x := x) (k + 1) hW hs (by omega : s ≤ b 1)
              have a4 := fT_b (per := per) (hou := hou) (nn := nn) (x := x) (k + 1) _ W1
              have a5 := hz cf trivial
              have a6 := hO cf
              have a7 := hf0 cf
              have a8 := h80 cf
              rw [e3] at a8 ⊢
              omega
          refine ihs hsm' (by omega) g3 _ hQ3 hf3 ?_ ?_ r3 r4 ?_ ?_ ?_
          · rw [qsum_s hs, bothN]; omega
          · intro x x0 x1; rw [qsum_s hs]; exact bothT x x0 x1
          · rw [qsum_s hs]; exact rF
          · rw [qsum_s hs]
            intro c1 c2 s' s0 s1
            by_cases e : s' = s
            · rw [e]; omega
            · exact hZ c1 (by omega) s' s0 (by omega)
          · intro cf; rw [qsum_s hs, hO cf, hz cf trivial]; rfl
        have e6 : g3 3 0 6 0 = fo := by rw [hf3 3 0 6 (by omega)]; exact hfo
        show (g3 3 0 6 0 = 0 → _) ∧ (¬ (g3 3 0 6 0 = 0) → _)
        rw [e6]
        refine ⟨fun c1 => ⟨qR_of (by omega) (by omega), on (fun c2 => absurd c1 c2) (fun c2 => absurd c1 c2)⟩, fun c1 => ⟨fun c2 => ⟨qR_of (by omega) (by omega), on (fun c3 _ => ?_) (fun _ => ?_)⟩, fun c2 => ?_⟩⟩
        · have z0 := hf0 c1
          have z1 := hO c1
          rw [e3] at c2
          by_cases cz : 0 < fN per hou nn (k + 1) (aOn b s)
          · have := pp (by omega) cz
            omega
          · omega
        · have := hf0 c1
          have := hO c1
          rw [e3] at c2 ⊢
          omega
        · have z0 := hf0 c1
          have z1 := hO c1
          have em : qsum (fun s => fN per hou nn (k + 1) (aOn b s)) s + fN per hou nn (k + 1) (aOn b s) ≤ fN per hou nn (k + 1 + 1) b := by
            have e : fN per hou nn (k + 1 + 1) b = qsum (fun s => fN per hou nn (k + 1) (aOn b s)) (b 1) := rfl
            rw [e]
            have := qsum_mono (f := fun s => fN per hou nn (k + 1) (aOn b s)) (s := s + 1) (by omega) (b 1 - (s + 1)) (by omega) (fun x x0 x1 => (fN_b (per := per) (hou := hou) (nn := nn) (k + 1) _ (aOn_wf hW (by omega) (by omega))).1)
            rw [qsum_s hs, show s + 1 + (b 1 - (s + 1)) = b 1 by omega] at this
            exact this
          rw [e3] at c2
          refine hR g3 ⟨hQ3, hf3, ?_, fun cf => absurd cf c1, fun x x0 x1 => ?_, fun _ _ => ?_, r3, r4, fun c3 _ => rF c3 (by omega)⟩
          · rw [e3]; omega
          · rw [e3, e3]; exact pt x x0 x1
          · rw [e3]; omega
    · exact hR h (fPost_0 hQ hW hc hT (fN_zero hE (k + 2) b hW hn0 (by omega)))
end FS2
