theorem nF_mono : ∀ m, m < 8 → ∀ k, k < 8 → k ≤ m → nF k ≤ nF m := by decide
theorem sPop_count {J : Nat} : ∀ k : Nat, sPopTo J k = (((List.range k).countP (fun v => J.testBit v) : Nat) : Int) := by
  intro k
  induction k with
  | zero => rfl
  | succ k ih =>
    rw [List.range_succ, List.countP_append, List.countP_singleton]
    show sPopTo J k + (if J.testBit k then 1 else 0) = _
    rw [ih]
    split <;> omega
theorem countP_hi {J : Nat} {N : Nat} (h : ∀ v, N ≤ v → v < 10 → J.testBit v = false) : ∀ k, N + k ≤ 10 → (List.range (N + k)).countP (fun v => J.testBit v) = (List.range N).countP (fun v => J.testBit v) := by
  intro k
  induction k with
  | zero => intro _; rfl
  | succ k ih =>
    intro hk
    rw [← Nat.add_assoc, List.range_succ, List.countP_append, List.countP_singleton, ih (by omega), h (N + k) (by omega) (by omega)]
    rfl
theorem bit_two {o w v : Nat} : (2 ^ o ||| 2 ^ w).testBit v = (decide (o = v) || decide (w = v)) := by
  rw [Nat.testBit_or, Nat.testBit_two_pow, Nat.testBit_two_pow]
theorem and_two {J o w : Nat} : J &&& (2 ^ o ||| 2 ^ w) = 0 ↔ J.testBit o = false ∧ J.testBit w = false := by
  constructor
  · intro e
    have h1 := congrArg (fun x => x.testBit o) e
    have h2 := congrArg (fun x => x.testBit w) e
    simp only [Nat.testBit_and, bit_two, Nat.zero_testBit] at h1 h2
    simp at h1 h2
    exact ⟨h1, h2⟩
  · rintro ⟨h1, h2⟩
    apply Nat.eq_of_testBit_eq
    intro i
    rw [Nat.testBit_and, bit_two, Nat.zero_testBit]
    by_cases c1 : o = i
    · rw [← c1, h1, Bool.false_and]
    · by_cases c2 : w = i
      · rw [← c2, h2, Bool.false_and]
      · rw [decide_eq_false c1, decide_eq_false c2, Bool.or_self, Bool.and_false]
/-- whom stairs join with p, found by ways up to r -/
def jS (a : qB) (p : Int) (J : Nat) (r : Nat) : Prop := J < 128 ∧ (∀ v : Nat, v < 7 → J.testBit v = true → (v : Int) < a 0 ∧ gC a (allP (a 0)) p v) ∧ ∀ (k : Nat) (v : Int), k ≤ r → gP' a (allP (a 0)) k p v → J.testBit v.toNat = true
section Wm
variable {d : Nat} {R : Option qV → qH → Prop} {h : qH} {a : qB} {B : Int}
theorem x_joinedWith (hQ : qQX h 0 a) (hW : qwf B a) {p : Int} (p0 : 0 ≤ p) (hp : p < a 0) (hR : ∀ J : Nat, J < 128 → (∀ v : Nat, v < 7 → (J.testBit v = true ↔ ((v : Int) < a 0 ∧ gC a (allP (a 0)) p v))) → R (some (qi (J : Int))) h) : qT (d + 1) 47 0 [qo 6 0, qo 7 0, qi p, qu, qu, qu, qu] [] h R := by
  have hn := wf_n hW
  have hm := wf_m hW
  have am : ∀ v : Int, v ∈ allP (a 0) ↔ 0 ≤ v ∧ v < a 0 := fun v => allP_mem hn.1
  have pv : (2 : Nat) ^ p.toNat < 2 ^ 7 := Nat.pow_lt_pow_right (by decide) (by omega)
  refine sX6_joinedWith_0 ?_
  rw [q_oneI p0 (by omega)]
  refine q_up (n := a 0) (C := fun r => 1 ≤ r → r ≤ a 0 ∨ r = 1 → ∀ (J : Nat) z1 z2, jS a p J (r - 1).toNat → qT (d + 1) 47 7 [qo 6 0, qo 7 0, qi p, qi (J : Int), qi r, z1, z2] [] h R) ?_ 1 (by omega) (by omega) (Or.inr rfl) _ _ _ ⟨by omega, fun v hv hb => ?_, fun k v hk hP => ?_⟩
  · intro r hr ih r1 rn J z1 z2 hJ
    refine sX6_joinedWith_7 ?_
    rw [qx_n hQ]
    refine ⟨fun c => hR J hJ.1 (fun v hv => ⟨hJ.2.1 v hv, fun hc => ?_⟩), fun c => ?_⟩
    · obtain ⟨k, k1, k2⟩ := g_short (a := a) (a 0).toNat (allP (a 0)) allP_len allP_nodup p v hc.2
      have := hJ.2.2 k v (by omega) k2
      rwa [show ((v : Int)).toNat = v by omega] at this
    · -- a round over all stairs
      refine q_up (n := a 1) (C := fun s => s ≤ a 1 → ∀ (J' : Nat) z2, J' < 128 → (∀ v : Nat, v < 7 → J'.testBit v = true → (v : Int) < a 0 ∧ gC a (allP (a 0)) p v) → (∀ v : Nat, J.testBit v = true → J'.testBit v = true) → (∀ s', 0 ≤ s' → s' < s → (J.testBit (a (70 + s')).toNat = true ∨ J.testBit (a (80 + s')).toNat = true) → J'.testBit (a (70 + s')).toNat = true ∧ J'.testBit (a (80 + s')).toNat = true) → qT (d + 1) 47 19 [qo 6 0, qo 7 0, qi p, qi (J' : Int), qi r, qi s, z2] [] h R) ?_ 0 (by omega) hm.1 J _ hJ.1 hJ.2.1 (fun _ e => e) (fun s' s0 s1 => absurd s1 (by omega))
      intro s hs ihs hsm J' z2 j1 j2 j3 j4
      refine sX6_joinedWith_19 ?_
      rw [qx_m hQ]
      refine ⟨fun c2 => ⟨qR_of (by omega) (by omega), ih (by omega) (by omega) (Or.inl (by omega)) J' _ _ ⟨j1, j2, fun k v hk hP => ?_⟩⟩, fun c2 => ?_⟩
      · rw [show (r + 1 - 1).toNat = (r - 1).toNat + 1 by omega] at hk
        by_cases e : k ≤ (r - 1).toNat
        · exact j3 _ (hJ.2.2 k v e hP)
        · have ek : k = (r - 1).toNat + 1 := by omega
          subst ek
          obtain ⟨w, w1, w2, w3⟩ := gP_snoc _ hP
          have hw := hJ.2.2 _ w (Nat.le_refl _) w1
          obtain ⟨s', t0, t1, t2⟩ := w2
          rcases t2 with ⟨e1, e2⟩ | ⟨e1, e2⟩
          · have := (j4 s' t0 (by omega) (Or.inl (by rw [e1]; exact hw))).2
            rwa [e2] at this
          · have := (j4 s' t0 (by omega) (Or.inr (by rw [e2]; exact hw))).1
            rwa [e1] at this
      · have hs' : s < a 1 := by omega
        have h3 := wf_st hW hs hs'
        rw [qx_one hQ hW hs hs', qx_two hQ hW hs hs', q_oneI h3.1.1 (by omega), q_oneI h3.2.1.1 (by omega)]
        have po : (2 : Nat) ^ (a (70 + s)).toNat < 2 ^ 7 := Nat.pow_lt_pow_right (by decide) (by omega)
        have pw : (2 : Nat) ^ (a (80 + s)).toNat < 2 ^ 7 := Nat.pow_lt_pow_right (by decide) (by omega)
        have px : 2 ^ (a (70 + s)).toNat ||| 2 ^ (a (80 + s)).toNat < 2 ^ 7 := Nat.or_lt_two_pow po pw
        rw [q_or (by omega) (by omega), q_and (by omega), q_or (by omega) (by omega)]
        have ez := and_two (J := J') (o := (a (70 + s)).toNat) (w := (a (80 + s)).toNat)
        have ed : gE a (a (70 + s)) (a (80 + s)) := ⟨s, hs, hs', Or.inl ⟨rfl, rfl⟩⟩
        have m1 : a (70 + s) ∈ allP (a 0) := (am _).mpr ⟨h3.1.1, by omega⟩
        have m2 : a (80 + s) ∈ allP (a 0) := (am _).mpr ⟨h3.2.1.1, by omega⟩
        refine ⟨by omega, by omega, fun c3 => ⟨qR_of (by omega) (by omega), ihs hs' (by omega) J' _ j1 j2 j3 (fun s' t0 t1 ht => ?_)⟩, fun c3 => ⟨qR_of (by omega) (by omega), ihs hs' (by omega) _ _ ?_ (fun v hv hb => ?_) (fun v hv => ?_) (fun s' t0 t1 ht => ?_)⟩⟩
        · by_cases e : s' = s
          · rw [e] at ht
            have := ez.mp (by omega)
            rcases ht with ht | ht
            · have := j3 _ ht; simp_all
            · have := j3 _ ht; simp_all
          · exact j4 s' t0 (by omega) ht
        · exact Nat.or_lt_two_pow (n := 7) (by omega) px
        · rw [Nat.testBit_or, bit_two, Bool.or_eq_true, Bool.or_eq_true, decide_eq_true_eq, decide_eq_true_eq] at hb
          -- one of the two is joined
          have one : gC a (allP (a 0)) p (a (70 + s)) ∧ gC a (allP (a 0)) p (a (80 + s)) := by
            by_cases c4 : J'.testBit (a (70 + s)).toNat = true
            · have := (j2 _ (by omega) c4).2
              rw [show (((a (70 + s)).toNat : Nat) : Int) = a (70 + s) by omega] at this
              exact ⟨this, gC_trans this ⟨1, gP_one m1 m2 ed⟩⟩
            · by_cases c5 : J'.testBit (a (80 + s)).toNat = true
              · have := (j2 _ (by omega) c5).2
                rw [show (((a (80 + s)).toNat : Nat) : Int) = a (80 + s) by omega] at this
                exact ⟨gC_trans this ⟨1, gP_one m2 m1 (gE_sym ed)⟩, this⟩
              · exact absurd (by rw [ez.mpr ⟨Bool.eq_false_iff.mpr c4, Bool.eq_false_iff.mpr c5⟩]; rfl) c3
          rcases hb with hb | hb | hb
          · exact j2 v hv hb
          · rw [show (v : Int) = a (70 + s) by omega]; exact ⟨by omega, one.1⟩
          · rw [show (v : Int) = a (80 + s) by omega]; exact ⟨by omega, one.2⟩
        · rw [Nat.testBit_or, j3 v hv, Bool.true_or]
        · rw [Nat.testBit_or, bit_two, Nat.testBit_or (i := (a (80 + s')).toNat) |> fun H => H, bit_two]
          by_cases e : s' = s
          · rw [e, decide_eq_true rfl, decide_eq_true rfl, Bool.true_or, Bool.or_true, Bool.or_true, Bool.or_true]
            exact ⟨rfl, rfl⟩
          · have := j4 s' t0 (by omega) ht
            rw [this.1, this.2, Bool.true_or, Bool.true_or]
            exact ⟨rfl, rfl⟩
  · rw [Nat.testBit_two_pow, decide_eq_true_eq] at hb
    rw [show (v : Int) = p by omega]
    exact ⟨hp, 0, rfl, (am p).mpr ⟨p0, hp⟩⟩
  · have : k = 0 := by omega
    subst this
    have := hP.1
    rw [← this, Nat.testBit_two_pow, decide_eq_true rfl]
/-- of each the first of those joined with him -/
def wF (a : qB) (f : Nat → Nat) : Prop := (∀ p r : Nat, (p : Int) < a 0 → (r : Int) < a 0 → (gC a (allP (a 0)) p r ↔ f p = f r)) ∧ (∀ p : Nat, (p : Int) < a 0 → f p ≤ p ∧ (f p ≠ p → ∃ q : Nat, q < p ∧ gC a (allP (a 0)) q p) ∧ (f p = p → ∀ q : Nat, q < p → ¬ gC a (allP (a 0)) q p)) ∧ wX f (a 0).toNat (a 0).toNat = wY f (a 0).toNat (a 0).toNat ∧ ∀ p, p ≤ (a 0).toNat → wY f (a 0).toNat p ≤ 5040
theorem wF_ex (hW : qwf B a) : ∃ f, wF a f := by
  have hn := wf_n hW
  have am : ∀ v : Int, v ∈ allP (a 0) ↔ 0 ≤ v ∧ v < a 0 := fun v => allP_mem hn.1
  have hx : ∀ p : Nat, ∃ q : Nat, (p : Int) < a 0 → gC a (allP (a 0)) p q ∧ ∀ j : Nat, j < q → ¬ gC a (allP (a 0)) p j := by
    intro p
    by_cases c : (p : Int) < a 0
    · obtain ⟨q, q1, q2⟩ := q_least (P := fun q : Nat => gC a (allP (a 0)) p q) ⟨p, 0, rfl, (am _).mpr ⟨by omega, c⟩⟩
      exact ⟨q, fun _ => ⟨q1, q2⟩⟩
    · exact ⟨0, fun c2 => absurd c2 c⟩
  have hF := fun p : Nat => (hx p).choose_spec
  generalize hFe : (fun p : Nat => (hx p).choose) = F at hF
  have hF : ∀ p : Nat, (p : Int) < a 0 → gC a (allP (a 0)) p (F p) ∧ ∀ j : Nat, j < F p → ¬ gC a (allP (a 0)) p j := by
    intro p hp
    have := (hx p).choose_spec hp
    rw [← hFe]
    exact this
  have Fle : ∀ p : Nat, (p : Int) < a 0 → F p ≤ p := by
    intro p hp
    by_cases c : F p ≤ p
    · exact c
    · exact absurd ⟨0, rfl, (am _).mpr ⟨by omega, hp⟩⟩ ((hF p hp).2 p (by omega))
  have Feq : ∀ p r : Nat, (p : Int) < a 0 → (r : Int) < a 0 → (gC a (allP (a 0)) p r ↔ F p = F r) := by
    intro p r hp hr
    constructor
    · intro hc
      rcases Nat.lt_trichotomy (F p) (F r) with c | c | c
      · exact absurd (gC_trans (gC_sym hc) (hF p hp).1) ((hF r hr).2 _ c)
      · exact c
      · exact absurd (gC_trans hc (hF r hr).1) ((hF p hp).2 _ c)
    · intro e
      have := (hF p hp).1
      rw [e] at this
      exact gC_trans this (gC_sym (hF r hr).1)
  obtain ⟨l, l1, l2, l3⟩ := wG_ex F (a 0).toNat (fun p hp => Fle p (by omega))
  have le : ∀ p : Nat, (p : Int) < a 0 → l.getD p 0 = F p := fun p hp => l3 p (by omega)
  have xy := wXY (N := (a 0).toNat) (by omega) l1 (fun p hp => by
    have f1 := Fle p (by omega)
    rw [le p (by omega), le (F p) (by omega)]
    exact ((Feq p (F p) (by omega) (by omega)).mp (hF p (by omega)).1).symm)
  refine ⟨fun i => l.getD i 0, fun p r hp hr => ?_, fun p hp => ?_, xy.1, xy.2⟩
  · show gC a (allP (a 0)) p r ↔ l.getD p 0 = l.getD r 0
    rw [le p hp, le r hr]; exact Feq p r hp hr
  · show l.getD p 0 ≤ p ∧ (l.getD p 0 ≠ p → _) ∧ (l.getD p 0 = p → _)
    rw [le p hp]
    have f1 := Fle p hp
    refine ⟨f1, fun c => ⟨F p, by omega, gC_sym (hF p hp).1⟩, fun c q hq hc => ?_⟩
    exact (hF p hp).2 q (by omega) (gC_sym hc)
theorem x_countWays {f : Nat → Nat} (hQ : qQX h 0 a) (hW : qwf B a) (hf : wF a f) (hR : R (some (qi ((wY f (a 0).toNat (a 0).toNat : Nat) : Int))) h) : qT (d + 2) 46 0 [qo 6 0, qo 7 0, qu, qu, qu, qu, qu] [] h R := by
  have hn := wf_n hW
  obtain ⟨f1, f2, _, f4⟩ := hf
  have am : ∀ v : Int, v ∈ allP (a 0) ↔ 0 ≤ v ∧ v < a 0 := fun v => allP_mem hn.1
  refine sX6_countWays_0 ?_
  refine q_up (n := a 0) (C := fun p => p ≤ a 0 → ∀ (S : Nat) z1 z2, S < 128 → (∀ v : Nat, v < 7 → (S.testBit v = true ↔ ((v : Int) < a 0 ∧ ∃ q : Nat, (q : Int) < p ∧ gC a (allP (a 0)) q v))) → qT (d + 2) 46 7 [qo 6 0, qo 7 0, qi ((wY f (a 0).toNat p.toNat : Nat) : Int), qi (S : Int), qi p, z1, z2] [] h R) ?_ 0 (by omega) hn.1 0 _ _ (by omega) (fun v hv => ?_)
  · intro p hp ih hpn S z1 z2 hS hb
    refine sX6_countWays_7 ?_
    rw [qx_n hQ]
    refine ⟨fun c => ?_, fun c => ?_⟩
    · rw [show p = a 0 by omega]; exact hR
    · have hp' : p < a 0 := by omega
      have hpN : ((p.toNat : Nat) : Int) = p := by omega
      rw [q_bitI (by omega) hp (by omega)]
      have hbp := hb p.toNat (by omega)
      rw [hpN] at hbp
      have ff := f2 p.toNat (by omega)
      have wY1 : wY f (a 0).toNat (p + 1).toNat = if f p.toNat = p.toNat then wY f (a 0).toNat p.toNat * nF (wC f (a 0).toNat p.toNat) else wY f (a 0).toNat p.toNat := by
        rw [show (p + 1).toNat = p.toNat + 1 by omega]
        rfl
      refine ⟨fun c2 => ⟨qR_of (by omega) (by omega), ?_⟩, fun c2 => ?_⟩
      · have yb : S.testBit p.toNat = true := by
          by_cases e : S.testBit p.toNat = true
          · exact e
          · rw [if_neg e] at c2; exact absurd rfl c2
        obtain ⟨_, q, q1, q2⟩ := hbp.mp yb
        have nf : f p.toNat ≠ p.toNat := fun e => ff.2.2 e q (by omega) (by rw [hpN]; exact q2)
        have := ih hp' (by omega) S z1 z2 hS (fun v hv => ?_)
        · rw [wY1, if_neg nf] at this
          exact this
        · rw [hb v hv]
          constructor
          · rintro ⟨c3, q', q3, q4⟩; exact ⟨c3, q', by omega, q4⟩
          · rintro ⟨c3, q', q3, q4⟩
            refine ⟨c3, ?_⟩
            by_cases e : (q' : Int) = p
            · rw [e] at q4
              exact ⟨q, q1, gC_trans q2 q4⟩
            · exact ⟨q', by omega, q4⟩
      · have nb : ¬ S.testBit p.toNat = true := fun e => c2 (by rw [if_pos e]; decide)
        have nq : ∀ q : Nat, q < p.toNat → ¬ gC a (allP (a 0)) q p := fun q hq hc => nb (hbp.mpr ⟨hp', q, by omega, hc⟩)
        have fp : f p.toNat = p.toNat := by
          by_cases e : f p.toNat = p.toNat
          · exact e
          · obtain ⟨q, q1, q2⟩ := ff.2.1 e
            rw [hpN] at q2
            exact absurd q2 (nq q q1)
        rw [if_pos fp] at wY1
        refine x_joinedWith hQ hW hp hp' (fun J hJ hJb => ?_)
        dsimp only [qri]
        rw [q_or (by omega) (by omega)]
        have cnt : sPop J = ((wC f (a 0).toNat p.toNat : Nat) : Int) := by
          have hz : ∀ v, (a 0).toNat ≤ v → v < 10 → J.testBit v = false := by
            intro v v1 v2
            by_cases c3 : v < 7
            · by_cases e : J.testBit v = true
              · have := (hJb v c3).mp e
                omega
              · exact Bool.eq_false_iff.mpr e
            · exact Nat.testBit_lt_two_pow (by
                have : (2 : Nat) ^ 7 ≤ 2 ^ v := Nat.pow_le_pow_right (by decide) (by omega)
                omega)
          have e10 := countP_hi (J := J) (N := (a 0).toNat) hz (10 - (a 0).toNat) (by omega)
          rw [show (a 0).toNat + (10 - (a 0).toNat) = 10 by omega] at e10
          unfold sPop
          rw [sPop_count, e10]
          unfold wC
          congr 1
          refine List.countP_congr (fun v hv => ?_)
          have hv := List.mem_range.mp hv
          rw [hJb v (by omega), beq_iff_eq]
          have := f1 p.toNat v (by omega) (by omega)
          rw [hpN] at this
          rw [this]
          exact ⟨fun e => e.2.symm, fun e => ⟨by omega, e.symm⟩⟩
        have c1 : 1 ≤ wC f (a 0).toNat p.toNat ∧ wC f (a 0).toNat p.toNat ≤ 7 := by
          refine ⟨?_, ?_⟩
          · exact List.countP_pos_iff.mpr ⟨p.toNat, List.mem_range.mpr (by omega), by rw [beq_iff_eq]⟩
          · have : wC f (a 0).toNat p.toNat ≤ (List.range (a 0).toNat).length := List.countP_le_length
            rw [List.length_range] at this
            omega
        have bd := f4 (p + 1).toNat (by omega)
        rw [wY1] at bd
        -- the factorial
        refine q_up (n := (wC f (a 0).toNat p.toNat : Int) - 1) (C := fun y => y ≤ (wC f (a 0).toNat p.toNat : Int) - 1 → qT (d + 2) 46 42 [qo 6 0, qo 7 0, qi ((wY f (a 0).toNat p.toNat * nF (y + 1).toNat : Nat) : Int), qi ((S ||| J : Nat) : Int), qi p, qi (J : Int), qi (y + 2)] [] h R) ?_ 0 (by omega) (by omega) |> fun H => (by
          have e1 : nF (0 + 1 : Int).toNat = 1 := rfl
          rw [e1, Nat.mul_one] at H
          exact H)
        intro y hy ihy hyc
        refine sX6_countWays_42 (j_bitCount hJ ?_)
        rw [cnt]
        refine ⟨fun c3 => ⟨qR_of (by omega) (by omega), ?_⟩, fun c3 => ?_⟩
        · have ey : (y + 1).toNat = wC f (a 0).toNat p.toNat := by omega
          rw [ey]
          have := ih hp' (by omega) (S ||| J) (qi (J : Int)) (qi (y + 2)) (Nat.or_lt_two_pow (n := 7) (by omega) (by omega)) (fun v hv => ?_)
          · rw [wY1] at this
            exact this
          · rw [Nat.testBit_or, Bool.or_eq_true, hb v hv, hJb v hv]
            constructor
            · rintro (⟨c4, q', q3, q4⟩ | ⟨c4, c5⟩)
              · exact ⟨c4, q', by omega, q4⟩
              · exact ⟨c4, p.toNat, by omega, by rw [hpN]; exact c5⟩
            · rintro ⟨c4, q', q3, q4⟩
              by_cases e : (q' : Int) = p
              · rw [e] at q4
                right; exact ⟨c4, q4⟩
              · left; exact ⟨c4, q', by omega, q4⟩
        · have em : ((wY f (a 0).toNat p.toNat * nF (y + 1).toNat : Nat) : Int) * (y + 2) = ((wY f (a 0).toNat p.toNat * nF (y + 1 + 1).toNat : Nat) : Int) := by
            rw [show (y + 1 + 1).toNat = (y + 1).toNat + 1 by omega]
            show _ = ((wY f (a 0).toNat p.toNat * (((y + 1).toNat + 1) * nF (y + 1).toNat) : Nat) : Int)
            rw [Nat.mul_comm ((y + 1).toNat + 1), ← Nat.mul_assoc, Int.natCast_mul (wY f (a 0).toNat p.toNat * nF (y + 1).toNat)]
            congr 1
            omega
          have mb : wY f (a 0).toNat p.toNat * nF (y + 1 + 1).toNat ≤ wY f (a 0).toNat p.toNat * nF (wC f (a 0).toNat p.toNat) := Nat.mul_le_mul_left _ (nF_mono _ (by omega) _ (by omega) (by omega))
          rw [em, show y + 2 + 1 = y + 1 + 2 by omega]
          exact ⟨qR_of (by omega) (by omega), qR_of (by omega) (by omega), ihy (by omega) (by omega)⟩
  · rw [Nat.zero_testBit]
    constructor
    · intro c; cases c
    · rintro ⟨_, q, q1, _⟩; omega
end Wm
