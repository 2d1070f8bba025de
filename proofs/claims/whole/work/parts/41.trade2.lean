section Trd2
variable {d : Nat} {R : Option qV → qH → Prop} {h : qH} {i : Nat} {a : qB} {B : Int}
theorem m_likedMost (hM : qM h 0 a) (hW : qwf B a) {L : Nat} (hL : L < 128) {p : Int} (p0 : 0 ≤ p) (hp : p < a 0) (hR : R (some (qi (tF a L p))) h) : qT (d + 2) 298 0 [qo 12 0, qi p, qi (L : Int), qu, qu] [] h R := by
  have hn := wf_n hW
  refine sX12_likedMost_0 ?_
  refine q_up (n := a 0) (C := fun x => x ≤ a 0 → qT (d + 2) 298 5 [qo 12 0, qi p, qi (L : Int), qi (tFto a L p x), qi x] [] h R) ?_ 0 (by omega) (by omega)
  intro x hx ih hxn
  have ht := (tFto_in a L p x hx).1
  refine sX12_likedMost_5 ?_
  rw [m_0 hM (by omega) (by omega)]
  refine ⟨by omega, fun c => ?_, fun c => ?_⟩
  · rw [show x = a 0 by omega]; exact hR
  · have hxn' : x < a 0 := by omega
    have K := ih hxn' (by omega)
    rw [tFto_s hx] at K
    refine m_has (by omega) hx (by omega) (fun hb => ⟨fun c2 => absurd c2 (by decide), fun _ => ⟨fun c3 => ⟨qR_of (by omega) (by omega), ?_⟩, fun c3 => m_likeOf hM hW p0 hp hx hxn' (m_likeOf hM hW p0 hp (by omega) (by omega) ⟨fun c4 => ⟨qR_of (by omega) (by omega), ?_⟩, fun c4 => ⟨qR_of (by omega) (by omega), ?_⟩⟩)⟩⟩) (fun hb => ⟨fun _ => ⟨qR_of (by omega) (by omega), ?_⟩, fun c2 => absurd rfl c2⟩)
    · rw [hb, if_pos rfl, if_pos (Or.inl c3)] at K; exact K
    · rw [hb, if_pos rfl, if_neg (by omega)] at K; exact K
    · rw [hb, if_pos rfl, if_pos (Or.inr (by omega))] at K; exact K
    · rw [hb, if_neg (by decide)] at K; exact K
abbrev PT : Nat → Nat → Nat → Prop := fun c _ j => c = 12 ∧ (j = 34 ∨ j = 35)
theorem m_laysTrade (hM : qM h 0 a) (hW : qwf B a) (hR : ∀ h', fr PT h h' → (∀ p, 0 ≤ p → p < a 0 → tG a p (h' 12 0 34 (Int.toNat p))) → R none h') : qT (d + 3) 299 0 [qo 12 0, qu, qu, qu, qu, qu] [] h R := by
  have hn := wf_n hW
  obtain ⟨e1, e2, e3⟩ := q_all hn.1 hn.2
  have q12 : ∀ g, fr PT h g → qM g 0 a := fun g hf => m_fr hM (hf 12 0 20 (fun e => by rcases e.2 with e | e <;> cases e))
  refine sX12_laysTrade_0 ?_
  rw [m_0 hM (by omega) (by omega), e1]
  refine ⟨by omega, qR_of (by omega) (by omega), ?_⟩
  have loop : ∀ e k : Nat, sPop (tLs a k) ≤ e → ∀ g z2 z3 z4 z5, fr PT h g → (∀ p, 0 ≤ p → p < a 0 → (tLs a k).testBit p.toNat = false → tG a p (g 12 0 34 (Int.toNat p))) → qT (d + 3) 299 11 [qo 12 0, qi ((tLs a k : Nat) : Int), z2, z3, z4, z5] [] g R := by
    intro e
    induction e with
    | zero =>
      intro k hk g z2 z3 z4 z5 hf hG
      have hz : tLs a k = 0 := by
        apply Classical.byContradiction
        intro hne
        have h2 := tLs_dec hn.1 hn.2 k hne
        have h3 := sPopTo_b (tLs a (k + 1)) 10
        have e : sPop (tLs a (k + 1)) = sPopTo (tLs a (k + 1)) 10 := rfl
        omega
      refine sX12_laysTrade_11 ⟨fun _ => hR g hf (fun p p0 hp => hG p p0 hp ?_), fun c => absurd (by rw [hz]; rfl) c⟩
      rw [hz]
      exact Nat.zero_testBit _
    | succ e ih =>
      intro k hk g z2 z3 z4 z5 hf hG
      have hLk := tLs_lt hn.1 hn.2 k
      refine sX12_laysTrade_11 ⟨fun c => hR g hf (fun p p0 hp => hG p p0 hp ?_), fun c => ?_⟩
      · rw [show tLs a k = 0 by omega]
        exact Nat.zero_testBit _
      have hne := tLs_ex hn.1 hn.2 k (by omega)
      have hdec := tLs_dec hn.1 hn.2 k (by omega)
      -- the second loop
      have second : ∀ g1 z4 z5, fr PT h g1 → g1 12 0 34 = g 12 0 34 → (∀ q, 0 ≤ q → q < a 0 → g1 12 0 35 (Int.toNat q) = if (tLs a k).testBit q.toNat then tF a (tLs a k) q else q) → qT (d + 3) 299 61 [qo 12 0, qi ((tLs a k : Nat) : Int), qi 0, qi 0, z4, z5] [] g1 R := by
        intro g1 z4 z5 hf1 hg0 hP
        refine q_up (n := a 0) (C := fun x => x ≤ a 0 → ∀ g2 z4 z5, fr PT h g2 → (∀ q, 0 ≤ q → q < a 0 → g2 12 0 35 (Int.toNat q) = if (tLs a k).testBit q.toNat then tF a (tLs a k) q else q) → (∀ p, 0 ≤ p → p < a 0 → ((tLs a k).testBit p.toNat = false ∨ (p < x ∧ (tGo a (tLs a k) x).testBit p.toNat = true)) → tG a p (g2 12 0 34 (Int.toNat p))) → qT (d + 3) 299 61 [qo 12 0, qi ((tLs a k : Nat) : Int), qi ((tGo a (tLs a k) x : Nat) : Int), qi x, z4, z5] [] g2 R) ?_ 0 (by omega) (by omega) g1 z4 z5 hf1 hP ?_
        · intro x hx ih2 hxn g2 z4 z5 hf2 hP2 hG2
          have hgo := tGo_bit a (tLs a k) x hx
          refine sX12_laysTrade_61 ?_
          rw [m_0 (q12 g2 hf2) (by omega) (by omega)]
          refine ⟨by omega, fun c2 => ?_, fun c2 => ⟨by omega, ?_⟩⟩
          · have ex : x = a 0 := by omega
            subst ex
            rw [(tSub_q hLk (hgo.1 hn.2)).1]
            refine ih (k + 1) (by omega) g2 _ _ _ _ hf2 ?_
            intro p p0 hp hb
            have hb : (tSub (tLs a k) (tGo a (tLs a k) (a 0))).testBit p.toNat = false := hb
            rw [tSub_bit (by omega)] at hb
            refine hG2 p p0 hp ?_
            cases h1 : (tLs a k).testBit p.toNat with
            | false => left; rfl
            | true =>
              right
              rw [h1, Bool.true_and] at hb
              cases h2 : (tGo a (tLs a k) (a 0)).testBit p.toNat with
              | true => exact ⟨hp, rfl⟩
              | false => rw [h2] at hb; cases hb
          · have hxn' : x < a 0 := by omega
            have hgl := hgo.1 (by omega)
            have keep : ¬ ((tLs a k).testBit x.toNat = true ∧ tRing (tF a (tLs a k)) x) → ∀ z4 z5, qT (d + 3) 299 61 [qo 12 0, qi ((tLs a k : Nat) : Int), qi ((tGo a (tLs a k) x : Nat) : Int), qi (x + 1), z4, z5] [] g2 R := by
              intro hc z4 z5
              have K := ih2 hxn' (by omega) g2 z4 z5 hf2 hP2 ?_
              · rw [tGo_f hx hc] at K; exact K
              · intro p p0 hp hb
                refine hG2 p p0 hp ?_
                rcases hb with hb | ⟨hb1, hb2⟩
                · left; exact hb
                · right
                  rw [tGo_f hx hc] at hb2
                  have := (hgo.2 p.toNat).mp hb2
                  exact ⟨by omega, hb2⟩
            have take : (tLs a k).testBit x.toNat = true → tRing (tF a (tLs a k)) x → ∀ z4 z5, qT (d + 3) 299 61 [qo 12 0, qi ((tLs a k : Nat) : Int), qi (qor ((tGo a (tLs a k) x : Nat) : Int) (qshl 1 x)), qi (x + 1), z4, z5] [] (qup g2 12 0 34 (Int.toNat x) (g2 12 0 35 (Int.toNat x))) R := by
              intro hb hr z4 z5
              have hp2 : 2 ^ x.toNat < 128 := Nat.lt_of_lt_of_le (q_pow_lt (n := 7) hx (by omega)) (by decide)
              rw [q_oneI hx (by omega), q_or (by omega) (by omega), ← tGo_t hx hb hr, hP2 x hx hxn', hb, if_pos rfl]
              refine ih2 hxn' (by omega) _ _ _ (fr_trans hf2 (fr_up ⟨rfl, Or.inl rfl⟩)) ?_ ?_
              · intro q q0 q1
                rw [up_j (by decide)]
                exact hP2 q q0 q1
              · intro p p0 hp hbb
                rw [up_if]
                by_cases e : p.toNat = x.toNat
                · rw [if_pos e]
                  have : p = x := by omega
                  rw [this]
                  exact ⟨k, hb, hr, rfl⟩
                · rw [if_neg e]
                  refine hG2 p p0 hp ?_
                  rcases hbb with hbb | ⟨hb1, hb2⟩
                  · left; exact hbb
                  · right
                    refine ⟨by omega, ?_⟩
                    rw [tGo_t hx hb hr, q_setbit, Bool.or_eq_true, decide_eq_true_iff] at hb2
                    rcases hb2 with hb2 | hb2
                    · exact hb2
                    · exact absurd hb2.symm e
            rw [hP2 x hx hxn']
            cases hb : (tLs a k).testBit x.toNat with
            | false =>
              rw [if_neg (by decide)]
              refine sX12_laysTrade_82 ⟨fun c3 => absurd c3 (by omega), fun _ => ⟨fun _ => ⟨fun c4 => absurd rfl c4, fun _ => m_has (by omega) hx (by omega) (fun c5 => by rw [hb] at c5; cases c5) (fun _ => ⟨fun c6 => absurd rfl c6, fun _ => ⟨qR_of (by omega) (by omega), keep (fun e => by rw [hb] at e; cases e.1) _ _⟩⟩)⟩, fun c4 => absurd rfl c4⟩⟩
            | true =>
              rw [if_pos rfl]
              have hit : ∀ k', (0 ≤ tIt (tF a (tLs a k)) x k' ∧ tIt (tF a (tLs a k)) x k' < a 0) ∧ (tLs a k).testBit (tIt (tF a (tLs a k)) x k').toNat = true := fun k' => tIt_in hn.1 hne hx hxn' hb k'
              have ring : ∀ e m : Nat, m + e = 7 → (∀ j, 1 ≤ j → j ≤ m → tIt (tF a (tLs a k)) x j ≠ x) → qT (d + 3) 299 82 [qo 12 0, qi ((tLs a k : Nat) : Int), qi ((tGo a (tLs a k) x : Nat) : Int), qi x, qi (tIt (tF a (tLs a k)) x (m + 1)), qi (m : Int)] [] g2 R := by
                intro e
                induction e with
                | zero =>
                  intro m hm hno
                  have hnr : ¬ tRing (tF a (tLs a k)) x := by
                    intro hr
                    obtain ⟨m', m1, m2, m3⟩ := tRing_small hn.1 (fun k' => (hit k').1) hr
                    exact hno m' m1 (by omega) m3
                  have hq : tIt (tF a (tLs a k)) x (m + 1) ≠ x := fun e => hnr ⟨m + 1, by omega, e⟩
                  refine sX12_laysTrade_82 ⟨fun _ => ⟨fun _ => ⟨qR_of (by omega) (by omega), keep (fun e => hnr e.2) _ _⟩, fun c3 => absurd hq c3⟩, fun c3 => absurd (by omega) c3⟩
                | succ e ih3 =>
                  intro m hm hno
                  have hm1 := hit (m + 1)
                  refine sX12_laysTrade_82 ⟨fun c3 => absurd c3 (by omega), fun _ => ⟨fun c3 => ⟨fun c4 => absurd c3 c4, fun _ => m_has (by omega) hx (by omega) (fun _ => ⟨fun _ => ⟨by omega, by omega, qR_of (by omega) (by omega), take hb ⟨m + 1, by omega, c3⟩ _ _⟩, fun c6 => absurd (by decide) c6⟩) (fun c5 => by rw [hb] at c5; cases c5)⟩, fun c3 => ⟨by omega, qR_of (by omega) (by omega), ?_⟩⟩⟩
                  rw [hP2 _ hm1.1.1 hm1.1.2, hm1.2, if_pos rfl]
                  refine ih3 (m + 1) (by omega) ?_
                  intro j j1 j2
                  by_cases ej : j = m + 1
                  · rw [ej]; exact c3
                  · exact hno j j1 (by omega)
              exact ring 7 0 rfl (fun j j1 j2 => absurd j1 (by omega))
        · intro p p0 hp hb
          rw [hg0]
          refine hG p p0 hp ?_
          rcases hb with hb | ⟨hb1, hb2⟩
          · exact hb
          · omega
      refine q_up (n := a 0) (C := fun x => x ≤ a 0 → ∀ g1 z3 z4 z5, fr PT h g1 → g1 12 0 34 = g 12 0 34 → (∀ q, 0 ≤ q → q < x → g1 12 0 35 (Int.toNat q) = if (tLs a k).testBit q.toNat then tF a (tLs a k) q else q) → qT (d + 3) 299 17 [qo 12 0, qi ((tLs a k : Nat) : Int), qi x, z3, z4, z5] [] g1 R) ?_ 0 (by omega) (by omega) g _ _ _ hf rfl (fun q q0 q1 => absurd q1 (by omega))
      intro x hx ih2 hxn g1 z3 z4 z5 hf1 hg0 hP
      refine sX12_laysTrade_17 ?_
      rw [m_0 (q12 g1 hf1) (by omega) (by omega)]
      refine ⟨by omega, fun c2 => second g1 _ _ hf1 hg0 (fun q q0 q1 => hP q q0 (by omega)), fun c2 => ?_⟩
      have hxn' : x < a 0 := by omega
      have go : ∀ v, v = (if (tLs a k).testBit x.toNat then tF a (tLs a k) x else x) → qT (d + 3) 299 17 [qo 12 0, qi ((tLs a k : Nat) : Int), qi (x + 1), z3, z4, z5] [] (qup g1 12 0 35 (Int.toNat x) v) R := by
        intro v hv
        refine ih2 hxn' (by omega) _ _ _ _ (fr_trans hf1 (fr_up ⟨rfl, Or.inr rfl⟩)) (by rw [up_j (by decide)]; exact hg0) ?_
        intro q q0 q1
        rw [up_if]
        by_cases e : q.toNat = x.toNat
        · rw [if_pos e, hv, show q = x by omega]
        · rw [if_neg e]
          exact hP q q0 (by omega)
      refine m_has (by omega) hx (by omega) (fun hb => ⟨fun c3 => absurd c3 (by decide), fun _ => m_likedMost (q12 g1 hf1) hW hLk hx hxn' ⟨by omega, qR_of (by omega) (by omega), go _ (by rw [hb, if_pos rfl])⟩⟩) (fun hb => ⟨fun _ => ⟨by omega, qR_of (by omega) (by omega), go _ (by rw [hb, if_neg (by decide)])⟩, fun c3 => absurd rfl c3⟩)
  have hs0 := sPopTo_b (tLs a 0) 10
  have es0 : sPop (tLs a 0) = sPopTo (tLs a 0) 10 := rfl
  refine loop 10 0 (by omega) h _ _ _ _ fr_rfl ?_
  intro p p0 hp hb
  exfalso
  have hb : (2 ^ (a 0).toNat - 1).testBit p.toNat = false := hb
  rw [all_bit (by omega) (by omega), decide_eq_false_iff_not] at hb
  omega
end Trd2
