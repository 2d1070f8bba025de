/-! rings of keys -/
def aIt (a : qB) (p : Int) : Nat → Int
  | 0 => p
  | k + 1 => a (14 + aIt a p k)
theorem aIt_add (a : qB) (p : Int) (m k : Nat) : aIt a p (m + k) = aIt a (aIt a p m) k := by
  induction k with
  | zero => rfl
  | succ k ih => show a (14 + aIt a p (m + k)) = a (14 + aIt a (aIt a p m) k); rw [ih]
theorem aIt_in {B : Int} {a : qB} (hW : qwf B a) {p : Int} (p0 : 0 ≤ p) (hp : p < a 0) (k : Nat) : 0 ≤ aIt a p k ∧ aIt a p k < a 0 := by
  induction k with
  | zero => exact ⟨p0, hp⟩
  | succ k ih => exact wf_live hW ih.1 ih.2
/-- more than there is room for: two are alike -/
theorem q_pigeon (n : Nat) : ∀ f : Nat → Nat, (∀ i, i ≤ n → f i < n) → ∃ i j, i < j ∧ j ≤ n ∧ f i = f j := by
  induction n with
  | zero => intro f hf; exact absurd (hf 0 (Nat.le_refl _)) (Nat.not_lt_zero _)
  | succ n ih =>
    intro f hf
    by_cases hx : ∃ i, i ≤ n ∧ f i = f (n + 1)
    · obtain ⟨i, hi, e⟩ := hx
      exact ⟨i, n + 1, by omega, Nat.le_refl _, e⟩
    · have g : ∀ i, i ≤ n → (if f i = n then f (n + 1) else f i) < n := by
        intro i hi
        have h1 := hf i (by omega)
        have h2 := hf (n + 1) (Nat.le_refl _)
        have h3 : f i ≠ f (n + 1) := fun e => hx ⟨i, hi, e⟩
        split <;> omega
      obtain ⟨i, j, hij, hj, e⟩ := ih (fun i => if f i = n then f (n + 1) else f i) g
      refine ⟨i, j, hij, by omega, ?_⟩
      have h3 : f i ≠ f (n + 1) := fun e => hx ⟨i, by omega, e⟩
      have h4 : f j ≠ f (n + 1) := fun e => hx ⟨j, hj, e⟩
      split at e <;> split at e <;> omega
theorem aIt_back {B : Int} {a : qB} (hW : qwf B a) {p : Int} (p0 : 0 ≤ p) (hp : p < a 0) : ∃ k : Nat, 1 ≤ k ∧ (k : Int) ≤ a 0 ∧ aIt a p k = p := by
  obtain ⟨i, j, hij, hj, e⟩ := q_pigeon (a 0).toNat (fun k => (aIt a p k).toNat) (fun i _ => by have := aIt_in hW p0 hp i; omega)
  have hi := aIt_in hW p0 hp i
  have hjj := aIt_in hW p0 hp j
  have e2 : aIt a p i = aIt a p j := by omega
  have key : ∀ i k : Nat, aIt a p i = aIt a p (i + k) → aIt a p k = p := by
    intro i
    induction i with
    | zero => intro k e; rw [Nat.zero_add] at e; exact e.symm
    | succ i ih =>
      intro k e
      refine ih k ?_
      have h1 := aIt_in hW p0 hp i
      have h2 := aIt_in hW p0 hp (i + k)
      rw [Nat.add_right_comm i 1 k] at e
      exact wf_inj hW h1.1 h1.2 h2.1 h2.2 e
  exact ⟨j - i, by omega, by omega, key i (j - i) (by rw [Nat.add_sub_cancel' (by omega)]; exact e2)⟩
/-- the least such -/
theorem q_least {P : Nat → Prop} (h : ∃ k, P k) : ∃ k, P k ∧ ∀ j, j < k → ¬ P j := by
  obtain ⟨k, hk⟩ := h
  induction k using Nat.strongRecOn with
  | _ k ih =>
    by_cases hx : ∃ j, j < k ∧ P j
    · obtain ⟨j, hj, hp⟩ := hx
      exact ih j hj hp
    · exact ⟨k, hk, fun j hj hp => hx ⟨j, hj, hp⟩⟩
def aRing (a : qB) (p : Int) (k : Nat) : Prop := 1 ≤ k ∧ aIt a p k = p ∧ ∀ j, 1 ≤ j → j < k → aIt a p j ≠ p
theorem aRing_uniq {a : qB} {p : Int} {k k' : Nat} (h : aRing a p k) (h' : aRing a p k') : k = k' := by
  rcases Nat.lt_trichotomy k k' with hl | hl | hl
  · exact absurd h.2.1 (h'.2.2 k h.1 hl)
  · exact hl
  · exact absurd h'.2.1 (h.2.2 k' h'.1 hl)
theorem aRing_ex {B : Int} {a : qB} (hW : qwf B a) {p : Int} (p0 : 0 ≤ p) (hp : p < a 0) : ∃ k : Nat, aRing a p k ∧ (k : Int) ≤ a 0 := by
  obtain ⟨k, h1, h2, h3⟩ := aIt_back hW p0 hp
  obtain ⟨m, ⟨m1, m2⟩, m3⟩ := q_least (P := fun k => 1 ≤ k ∧ aIt a p k = p) ⟨k, h1, h3⟩
  refine ⟨m, ⟨m1, m2, fun j j1 j2 e => m3 j j2 ⟨j1, e⟩⟩, ?_⟩
  have : ¬ k < m := fun hlt => m3 k hlt ⟨h1, h3⟩
  omega
theorem aIt_mul {a : qB} {p : Int} {L : Nat} (h : aIt a p L = p) (m : Nat) : aIt a p (L * m) = p := by
  induction m with
  | zero => rfl
  | succ m ih => rw [Nat.mul_succ, aIt_add, ih, h]
theorem aIt_mod {a : qB} {p : Int} {L : Nat} (h : aIt a p L = p) (k : Nat) : aIt a p k = aIt a p (k % L) := by
  have e : k = L * (k / L) + k % L := (Nat.div_add_mod k L).symm
  rw [congrArg (aIt a p) e, aIt_add, aIt_mul h]
theorem aIt_sym {B : Int} {a : qB} (hW : qwf B a) {p : Int} (p0 : 0 ≤ p) (hp : p < a 0) (k : Nat) : ∃ m, aIt a (aIt a p k) m = p := by
  obtain ⟨L, h1, h2, h3⟩ := aIt_back hW p0 hp
  refine ⟨L * k - k, ?_⟩
  rw [← aIt_add, Nat.add_sub_cancel' (Nat.le_mul_of_pos_left k h1), aIt_mul h3]
def aMin (a : qB) (p : Int) : Prop := ∀ k, p ≤ aIt a p k
noncomputable def aRings (a : qB) (n : Int) : Int := by
  classical exact qfold (fun p s => if aMin a p then s + 1 else s) 0 n
theorem aRings_0 {a : qB} : aRings a 0 = 0 := rfl
theorem aRings_t {a : qB} {x : Int} (hx : 0 ≤ x) (h : aMin a x) : aRings a (x + 1) = aRings a x + 1 := by unfold aRings; rw [qfold_s hx, if_pos h]
theorem aRings_f {a : qB} {x : Int} (hx : 0 ≤ x) (h : ¬ aMin a x) : aRings a (x + 1) = aRings a x := by unfold aRings; rw [qfold_s hx, if_neg h]
theorem q_setbit {S k j : Nat} : (S ||| 2 ^ k).testBit j = (S.testBit j || decide (k = j)) := by
  rw [Nat.testBit_or, Nat.testBit_two_pow]
section Rg
variable {d : Nat} {R : Option qV → qH → Prop} {h : qH} {i : Nat} {a : qB} {B : Int}
theorem x_ringLength (hQ : qQX h i a) (hW : qwf B a) {p : Int} (p0 : 0 ≤ p) (hp : p < a 0) (hR : ∀ k : Nat, aRing a p k → R (some (qi k)) h) : qT (d + 1) 73 0 [qo 7 i, qi p, qu, qu] [] h R := by
  have hn := wf_n hW
  obtain ⟨L, hL, hLn⟩ := aRing_ex hW p0 hp
  refine sX7_ringLength_0 ?_
  rw [qx_live hQ hW p0 hp]
  refine ⟨by omega, ?_⟩
  have loop : ∀ m k : Nat, k + m = L → 1 ≤ k → qT (d + 1) 73 9 [qo 7 i, qi p, qi k, qi (aIt a p k)] [] h R := by
    intro m
    induction m with
    | zero =>
      intro k hk k1
      rw [show k = L by omega]
      exact sX7_ringLength_9 ⟨fun _ => hR L hL, fun c => absurd hL.2.1 c⟩
    | succ m ih =>
      intro k hk k1
      have hi := aIt_in hW p0 hp k
      refine sX7_ringLength_9 ?_
      rw [qx_n hQ, qx_live hQ hW hi.1 hi.2]
      refine ⟨fun c => absurd c (hL.2.2 k k1 (by omega)), fun _ => ⟨fun c => absurd c (by omega), fun _ => ⟨qR_of (by omega) (by omega), by omega, ?_⟩⟩⟩
      exact ih (k + 1) (by omega) (by omega)
  exact loop (L - 1) 1 (by have := hL.1; omega) (Nat.le_refl _)
theorem m_ringOf (hM : qM h 0 a) (hW : qwf B a) {p : Int} (p0 : 0 ≤ p) (hp : p < a 0) (hR : ∀ k : Nat, aRing a p k → R (some (qi k)) h) : qT (d + 1) 269 0 [qo 12 0, qi p, qu, qu] [] h R := by
  have hn := wf_n hW
  obtain ⟨L, hL, hLn⟩ := aRing_ex hW p0 hp
  refine sX12_ringOf_0 ?_
  rw [m_0 hM (by omega) (by omega)]
  refine ⟨qR_of (by omega) (by omega), by omega, ?_⟩
  have loop : ∀ m k : Nat, k + m = L → 1 ≤ k → qT (d + 1) 269 12 [qo 12 0, qi p, qi k, qi (aIt a p k)] [] h R := by
    intro m
    induction m with
    | zero =>
      intro k hk k1
      rw [show k = L by omega]
      exact sX12_ringOf_12 ⟨fun _ => hR L hL, fun c => absurd hL.2.1 c⟩
    | succ m ih =>
      intro k hk k1
      have hi := aIt_in hW p0 hp k
      refine sX12_ringOf_12 ?_
      rw [m_0 hM (by omega) (by omega)]
      refine ⟨fun c => absurd c (hL.2.2 k k1 (by omega)), fun _ => ⟨qR_of (by omega) (by omega), qR_of (by omega) (by omega), by omega, ?_⟩⟩
      exact ih (k + 1) (by omega) (by omega)
  exact loop (L - 1) 1 (by have := hL.1; omega) (Nat.le_refl _)
theorem m_ringMany (hM : qM h 0 a) (hW : qwf B a) (hR : R (some (qi (aRings a (a 0)))) h) : qT (d + 1) 272 0 [qo 12 0, qu, qu, qu] [] h R := by
  have hn := wf_n hW
  refine sX12_ringMany_0 ?_
  refine q_up (n := a 0) (C := fun x => x ≤ a 0 → ∀ z s, s = aRings a x → 0 ≤ s ∧ s ≤ x → qT (d + 1) 272 4 [qo 12 0, qi s, qi x, z] [] h R) ?_ 0 (by omega) (by omega) _ 0 rfl (by omega)
  intro x hx ih hxn z s hs hb
  refine sX12_ringMany_4 ?_
  rw [m_0 hM (by omega) (by omega)]
  refine ⟨by omega, fun c => ?_, fun c => ?_⟩
  · rwa [hs, show x = a 0 by omega]
  · have hxn' : x < a 0 := by omega
    rw [m_0 hM (by omega) (by omega)]
    refine ⟨qR_of (by omega) (by omega), by omega, ?_⟩
    obtain ⟨L, hL, hLn⟩ := aRing_ex hW hx hxn'
    obtain ⟨m, ⟨m1, m2⟩, m3⟩ := q_least (P := fun k => 1 ≤ k ∧ aIt a x k ≤ x) ⟨L, hL.1, by rw [hL.2.1]; exact Int.le_refl _⟩
    have hi := aIt_in hW hx hxn' m
    have loop : ∀ e k : Nat, k + e = m → 1 ≤ k → qT (d + 1) 272 24 [qo 12 0, qi s, qi x, qi (aIt a x k)] [] h R := by
      intro e
      induction e with
      | zero =>
        intro k hk k1
        rw [show k = m by omega]
        refine sX12_ringMany_24 ⟨fun _ => ⟨fun c2 => ?_, fun c2 => ?_⟩, fun c2 => absurd m2 c2⟩
        · refine ⟨qR_of (by omega) (by omega), qR_of (by omega) (by omega), ih hxn' (by omega) _ _ ?_ (by omega)⟩
          rw [aRings_f hx (fun hm => c2 (Int.le_antisymm m2 (hm m))), hs, Int.add_zero]
        · refine ⟨qR_of (by omega) (by omega), qR_of (by omega) (by omega), ih hxn' (by omega) _ _ ?_ (by omega)⟩
          have e : aIt a x m = x := by omega
          rw [aRings_t hx (fun k => ?_), hs]
          rw [aIt_mod e k]
          by_cases h0 : k % m = 0
          · rw [h0]; exact Int.le_refl _
          · have h1 : k % m < m := Nat.mod_lt _ (by omega)
            have := m3 (k % m) h1
            by_cases h2 : aIt a x (k % m) ≤ x
            · exact absurd ⟨by omega, h2⟩ this
            · omega
      | succ e ih2 =>
        intro k hk k1
        have hi := aIt_in hW hx hxn' k
        refine sX12_ringMany_24 ?_
        rw [m_0 hM (by omega) (by omega)]
        refine ⟨fun c2 => absurd ⟨k1, c2⟩ (m3 k (by omega)), fun _ => ⟨qR_of (by omega) (by omega), by omega, ih2 (k + 1) (by omega) (by omega)⟩⟩
    exact loop (m - 1) 1 (by omega) (Nat.le_refl _)
theorem x_countRings (hQ : qQX h i a) (hW : qwf B a) (hR : R (some (qi (aRings a (a 0)))) h) : qT (d + 1) 74 0 [qo 7 i, qu, qu, qu, qu, qu] [] h R := by
  have hn := wf_n hW
  refine sX7_countRings_0 ?_
  refine q_up (n := a 0) (C := fun x => x ≤ a 0 → ∀ z z' s (S : Nat), S < 128 → (∀ q : Nat, (q : Int) < a 0 → (S.testBit q = true ↔ ∃ p k, 0 ≤ p ∧ p < x ∧ aIt a p k = q)) → s = aRings a x → 0 ≤ s ∧ s ≤ x → qT (d + 1) 74 6 [qo 7 i, qi S, qi s, qi x, z, z'] [] h R) ?_ 0 (by omega) (by omega) _ _ 0 0 (by omega) (fun q _ => ⟨fun c => by simp at c, fun ⟨p, k, c1, c2, _⟩ => absurd c1 (by omega)⟩) rfl (by omega)
  intro x hx ih hxn z z' s S hS hbit hs hb
  refine sX7_countRings_6 ?_
  rw [qx_n hQ]
  refine ⟨fun c => ?_, fun c => ?_⟩
  · rwa [hs, show x = a 0 by omega]
  have hxn' : x < a 0 := by omega
  have ex : ((x.toNat : Nat) : Int) = x := by omega
  have eb : qand (qshr (S : Int) x) 1 = if S.testBit x.toNat then 1 else 0 := by
    have := q_bit (a := S) (k := x.toNat) (by omega) (by omega)
    rwa [ex] at this
  rw [eb]
  have hmin : S.testBit x.toNat = true ↔ ¬ aMin a x := by
    rw [hbit x.toNat (by omega), ex]
    constructor
    · rintro ⟨p, k, c1, c2, c3⟩ hm
      obtain ⟨m, hm'⟩ := aIt_sym hW c1 (by omega) k
      rw [c3] at hm'
      have := hm m
      omega
    · intro hm
      have : ∃ k, aIt a x k < x := by
        apply Classical.byContradiction
        intro hc
        exact hm (fun k => by
          by_cases h1 : x ≤ aIt a x k
          · exact h1
          · exact absurd ⟨k, by omega⟩ hc)
      obtain ⟨k, hk⟩ := this
      obtain ⟨m, hm'⟩ := aIt_sym hW hx hxn' k
      have := aIt_in hW hx hxn' k
      exact ⟨aIt a x k, m, this.1, hk, hm'⟩
  refine ⟨fun c2 => ?_, fun c2 => ?_⟩
  · have hb1 : S.testBit x.toNat = true := by
      cases hb : S.testBit x.toNat with
      | true => rfl
      | false => rw [hb] at c2; exact absurd rfl c2
    refine ⟨qR_of (by omega) (by omega), ih hxn' (by omega) _ _ _ S hS ?_ ?_ (by omega)⟩
    · intro q hq
      rw [hbit q hq]
      constructor
      · rintro ⟨p, k, c1, c2, c3⟩; exact ⟨p, k, c1, by omega, c3⟩
      · rintro ⟨p, k, c1, c2, c3⟩
        by_cases hpx : p = x
        · obtain ⟨p', k', d1, d2, d3⟩ := (hbit x.toNat (by omega)).1 hb1
          rw [ex] at d3
          exact ⟨p', k' + k, d1, d2, by rw [aIt_add, d3, ← hpx, c3]⟩
        · exact ⟨p, k, c1, by omega, c3⟩
    · rw [aRings_f hx (hmin.1 hb1), hs]
  · have hb0 : S.testBit x.toNat = false := by
      cases hb : S.testBit x.toNat with
      | false => rfl
      | true => rw [hb] at c2; exact absurd (by decide) c2
    have hmn : aMin a x := by
      apply Classical.byContradiction
      intro hc
      rw [hmin.2 hc] at hb0
      cases hb0
    refine ⟨qR_of (by omega) (by omega), ?_⟩
    obtain ⟨L, hL, hLn⟩ := aRing_ex hW hx hxn'
    have loop : ∀ e k : Nat, (k : Int) + e = a 0 → ∀ S' : Nat, S' < 128 → (∀ q : Nat, (q : Int) < a 0 → (S'.testBit q = true ↔ S.testBit q = true ∨ ∃ j, j < k ∧ aIt a x j = q)) → qT (d + 1) 74 31 [qo 7 i, qi S', qi (s + 1), qi x, qi (aIt a x k), qi k] [] h R := by
      intro e
      induction e with
      | zero =>
        intro k hk S' hS' hb'
        refine sX7_countRings_31 ?_
        rw [qx_n hQ]
        refine ⟨fun _ => ⟨qR_of (by omega) (by omega), ih hxn' (by omega) _ _ _ S' hS' ?_ ?_ (by omega)⟩, fun c => absurd (by omega) c⟩
        · intro q hq
          rw [hb' q hq, hbit q hq]
          constructor
          · rintro (⟨p, k', c1, c2, c3⟩ | ⟨j, c1, c2⟩)
            · exact ⟨p, k', c1, by omega, c3⟩
            · exact ⟨x, j, hx, by omega, c2⟩
          · rintro ⟨p, k', c1, c2, c3⟩
            by_cases hpx : p = x
            · right
              refine ⟨k' % L, ?_, ?_⟩
              · have := Nat.mod_lt k' (show 0 < L from hL.1)
                omega
              · rw [← aIt_mod hL.2.1, ← hpx, c3]
            · left; exact ⟨p, k', c1, by omega, c3⟩
        · rw [aRings_t hx hmn, hs]
      | succ e ih2 =>
        intro k hk S' hS' hb'
        have hi := aIt_in hW hx hxn' k
        refine sX7_countRings_31 ?_
        rw [qx_n hQ, qx_live hQ hW hi.1 hi.2]
        refine ⟨fun c => absurd c (by omega), fun _ => ⟨by omega, qR_of (by omega) (by omega), ?_⟩⟩
        have e1 : qshl 1 (aIt a x k) = ((2 ^ (aIt a x k).toNat : Nat) : Int) := by
          have := q_one (k := (aIt a x k).toNat) (by omega)
          rwa [show (((aIt a x k).toNat : Nat) : Int) = aIt a x k by omega] at this
        have hlt : 2 ^ (aIt a x k).toNat < 128 := Nat.lt_of_lt_of_le (Nat.pow_lt_pow_right (by decide) (by omega : (aIt a x k).toNat < 7)) (by decide)
        rw [e1, q_or (by omega) (by omega)]
        refine ih2 (k + 1) (by omega) (S' ||| 2 ^ (aIt a x k).toNat) ?_ ?_
        · exact Nat.or_lt_two_pow (n := 7) hS' hlt
        · intro q hq
          rw [q_setbit, Bool.or_eq_true, hb' q hq, decide_eq_true_iff]
          constructor
          · rintro ((c1 | ⟨j, c1, c2⟩) | c1)
            · left; exact c1
            · right; exact ⟨j, by omega, c2⟩
            · right; exact ⟨k, by omega, by omega⟩
          · rintro (c1 | ⟨j, c1, c2⟩)
            · left; left; exact c1
            · by_cases hjk : j = k
              · right; rw [hjk] at c2; omega
              · left; right; exact ⟨j, by omega, c2⟩
    exact loop (a 0).toNat 0 (by omega) S hS (fun q hq => ⟨fun c => Or.inl c, fun c => c.elim id (fun ⟨j, c1, _⟩ => absurd c1 (Nat.not_lt_zero _))⟩)
end Rg
