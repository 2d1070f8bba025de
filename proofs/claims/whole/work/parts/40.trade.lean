/-! TRADE -/
/-- the house that p points at, of those left -/
def tFto (a : qB) (L : Nat) (p x : Int) : Int := qfold (fun h b => if L.testBit h.toNat then (if b < 0 ∨ aLike a p b < aLike a p h then h else b) else b) (-1) x
def tF (a : qB) (L : Nat) (p : Int) : Int := tFto a L p (a 0)
theorem tFto_0 {a : qB} {L : Nat} {p : Int} : tFto a L p 0 = -1 := rfl
theorem tFto_s {a : qB} {L : Nat} {p x : Int} (hx : 0 ≤ x) : tFto a L p (x + 1) = if L.testBit x.toNat then (if tFto a L p x < 0 ∨ aLike a p (tFto a L p x) < aLike a p x then x else tFto a L p x) else tFto a L p x := by unfold tFto; rw [qfold_s hx]
theorem tFto_in (a : qB) (L : Nat) (p : Int) : ∀ x, 0 ≤ x → (-1 ≤ tFto a L p x ∧ tFto a L p x < x) ∧ (0 ≤ tFto a L p x → L.testBit (tFto a L p x).toNat = true) ∧ (tFto a L p x < 0 → ∀ h, 0 ≤ h → h < x → L.testBit h.toNat = false) := by
  apply q_ind
  · rw [tFto_0]
    exact ⟨⟨Int.le_refl _, by decide⟩, fun c => absurd c (by decide), fun _ h h0 h1 => absurd h1 (by omega)⟩
  · intro x hx ⟨h1, h2, h3⟩
    rw [tFto_s hx]
    cases hb : L.testBit x.toNat with
    | true =>
      rw [if_pos rfl]
      by_cases c : tFto a L p x < 0 ∨ aLike a p (tFto a L p x) < aLike a p x
      · rw [if_pos c]
        exact ⟨by omega, fun _ => hb, fun c2 => absurd c2 (by omega)⟩
      · rw [if_neg c]
        exact ⟨by omega, h2, fun c2 => absurd (Or.inl c2) c⟩
    | false =>
      rw [if_neg (by decide)]
      refine ⟨by omega, h2, fun c2 h h0 h1 => ?_⟩
      by_cases e : h = x
      · rw [e]; exact hb
      · exact h3 c2 h h0 (by omega)
theorem tF_in {a : qB} {L : Nat} (n0 : 0 ≤ a 0) (hL : ∃ h, 0 ≤ h ∧ h < a 0 ∧ L.testBit h.toNat = true) (p : Int) : 0 ≤ tF a L p ∧ tF a L p < a 0 ∧ L.testBit (tF a L p).toNat = true := by
  obtain ⟨h1, h2, h3⟩ := tFto_in a L p (a 0) n0
  have : 0 ≤ tF a L p := by
    by_cases c : tFto a L p (a 0) < 0
    · obtain ⟨h, h0, h4, h5⟩ := hL
      rw [h3 c h h0 h4] at h5
      cases h5
    · show 0 ≤ tFto a L p (a 0)
      omega
  exact ⟨this, h1.2, h2 this⟩
def tIt (f : Int → Int) (p : Int) : Nat → Int
  | 0 => p
  | k + 1 => f (tIt f p k)
theorem tIt_add (f : Int → Int) (p : Int) (m k : Nat) : tIt f p (m + k) = tIt f (tIt f p m) k := by
  induction k with
  | zero => rfl
  | succ k ih => show f (tIt f p (m + k)) = f (tIt f (tIt f p m) k); rw [ih]
def tRing (f : Int → Int) (p : Int) : Prop := ∃ k : Nat, 1 ≤ k ∧ tIt f p k = p
theorem tRing_small {f : Int → Int} {p n : Int} (n0 : 0 ≤ n) (hf : ∀ k, 0 ≤ tIt f p k ∧ tIt f p k < n) (h : tRing f p) : ∃ k : Nat, 1 ≤ k ∧ (k : Int) ≤ n ∧ tIt f p k = p := by
  obtain ⟨m, ⟨m1, m2⟩, m3⟩ := q_least (P := fun k => 1 ≤ k ∧ tIt f p k = p) h
  refine ⟨m, m1, ?_, m2⟩
  apply Classical.byContradiction
  intro hc
  obtain ⟨i, j, hij, hj, e⟩ := q_pigeon n.toNat (fun k => (tIt f p k).toNat) (fun i _ => by have := hf i; omega)
  have hi := hf i
  have hjj := hf j
  have e2 : tIt f p i = tIt f p j := by omega
  refine m3 (m - (j - i)) (by omega) ⟨by omega, ?_⟩
  have h1 : tIt f p (j + (m - j)) = p := by rw [Nat.add_sub_cancel' (by omega)]; exact m2
  rw [tIt_add, ← e2, ← tIt_add] at h1
  rw [show m - (j - i) = i + (m - j) by omega]
  exact h1
theorem tRing_ex {f : Int → Int} {p n : Int} (n0 : 0 ≤ n) (hf : ∀ k, 0 ≤ tIt f p k ∧ tIt f p k < n) : ∃ k, tRing f (tIt f p k) := by
  obtain ⟨i, j, hij, hj, e⟩ := q_pigeon n.toNat (fun k => (tIt f p k).toNat) (fun i _ => by have := hf i; omega)
  have hi := hf i
  have hjj := hf j
  refine ⟨i, j - i, by omega, ?_⟩
  rw [← tIt_add, Nat.add_sub_cancel' (by omega)]
  omega
noncomputable def tGo (a : qB) (L : Nat) (x : Int) : Nat := by
  classical exact qfold (fun p g => if L.testBit p.toNat = true ∧ tRing (tF a L) p then g ||| 2 ^ p.toNat else g) 0 x
theorem tGo_0 {a : qB} {L : Nat} : tGo a L 0 = 0 := rfl
theorem tGo_t {a : qB} {L : Nat} {x : Int} (hx : 0 ≤ x) (h1 : L.testBit x.toNat = true) (h2 : tRing (tF a L) x) : tGo a L (x + 1) = tGo a L x ||| 2 ^ x.toNat := by unfold tGo; rw [qfold_s hx, if_pos ⟨h1, h2⟩]
theorem tGo_f {a : qB} {L : Nat} {x : Int} (hx : 0 ≤ x) (h1 : ¬ (L.testBit x.toNat = true ∧ tRing (tF a L) x)) : tGo a L (x + 1) = tGo a L x := by unfold tGo; rw [qfold_s hx, if_neg h1]
theorem tGo_bit (a : qB) (L : Nat) : ∀ x, 0 ≤ x → (x ≤ 7 → tGo a L x < 128) ∧ ∀ j : Nat, (tGo a L x).testBit j = true ↔ ((j : Int) < x ∧ L.testBit j = true ∧ tRing (tF a L) j) := by
  apply q_ind
  · rw [tGo_0]
    exact ⟨fun _ => by decide, fun j => ⟨fun c => by simp at c, fun c => absurd c.1 (by omega)⟩⟩
  · intro x hx ⟨h1, h2⟩
    have ex : ((x.toNat : Nat) : Int) = x := by omega
    by_cases c : L.testBit x.toNat = true ∧ tRing (tF a L) x
    · rw [tGo_t hx c.1 c.2]
      refine ⟨fun h7 => ?_, fun j => ?_⟩
      · have hp := q_pow_lt (x := x) (n := 7) hx (by omega)
        exact Nat.or_lt_two_pow (n := 7) (h1 (by omega)) hp
      · rw [q_setbit, Bool.or_eq_true, h2 j, decide_eq_true_iff]
        constructor
        · rintro (c1 | c1)
          · exact ⟨by omega, c1.2⟩
          · rw [← c1, ex]; exact ⟨by omega, c⟩
        · rintro ⟨c1, c2⟩
          by_cases e : x.toNat = j
          · right; exact e
          · left; exact ⟨by omega, c2⟩
    · rw [tGo_f hx c]
      refine ⟨fun h7 => h1 (by omega), fun j => ?_⟩
      rw [h2 j]
      constructor
      · rintro ⟨c1, c2⟩; exact ⟨by omega, c2⟩
      · rintro ⟨c1, c2⟩
        refine ⟨?_, c2⟩
        by_cases e : (j : Int) = x
        · exfalso
          rw [← e, show ((j : Int)).toNat = j from Int.toNat_natCast j] at c
          exact c c2
        · omega
def tSub (L g : Nat) : Nat := L &&& (127 ^^^ g)
theorem tSub_q0 : (List.range 128).all (fun L => (List.range 128).all (fun g => decide (qand (L : Int) (qxor (g : Int) (-1)) = ((tSub L g : Nat) : Int)) && decide (tSub L g < 128) && (decide (L &&& g = 0) || decide (sPop (tSub L g) + 1 ≤ sPop L)))) = true := by decide +kernel
theorem tSub_q {L g : Nat} (hL : L < 128) (hg : g < 128) : qand (L : Int) (qxor (g : Int) (-1)) = ((tSub L g : Nat) : Int) ∧ tSub L g < 128 ∧ (L &&& g = 0 ∨ sPop (tSub L g) + 1 ≤ sPop L) := by
  have h1 := List.all_eq_true.mp tSub_q0 L (List.mem_range.mpr hL)
  have h2 := List.all_eq_true.mp h1 g (List.mem_range.mpr hg)
  simp only [Bool.and_eq_true, decide_eq_true_iff, Bool.or_eq_true] at h2
  exact ⟨h2.1.1, h2.1.2, h2.2⟩
theorem tSub_bit {L g j : Nat} (hj : j < 7) : (tSub L g).testBit j = (L.testBit j && !g.testBit j) := by
  unfold tSub
  rw [Nat.testBit_and, Nat.testBit_xor]
  have : (127 : Nat).testBit j = true := by
    have h : ∀ j, j < 7 → (127 : Nat).testBit j = true := by decide
    exact h j hj
  rw [this, Bool.true_xor]
/-- what is left behind k rounds -/
noncomputable def tLs (a : qB) : Nat → Nat
  | 0 => 2 ^ (a 0).toNat - 1
  | k + 1 => tSub (tLs a k) (tGo a (tLs a k) (a 0))
theorem tLs_lt {a : qB} (n0 : 0 ≤ a 0) (n7 : a 0 ≤ 7) (k : Nat) : tLs a k < 128 := by
  have h1 : 2 ^ (a 0).toNat ≤ 2 ^ 7 := Nat.pow_le_pow_right (by decide) (by omega)
  have h2 : 1 ≤ 2 ^ (a 0).toNat := Nat.one_le_two_pow
  induction k with
  | zero => show 2 ^ (a 0).toNat - 1 < 128; omega
  | succ k ih => exact (tSub_q ih ((tGo_bit a _ (a 0) n0).1 n7)).2.1
theorem tLs_sub {a : qB} (k m : Nat) {j : Nat} (hj : j < 7) (h : (tLs a (k + m)).testBit j = true) : (tLs a k).testBit j = true := by
  induction m with
  | zero => exact h
  | succ m ih =>
    refine ih ?_
    have h : (tSub (tLs a (k + m)) (tGo a (tLs a (k + m)) (a 0))).testBit j = true := h
    rw [tSub_bit hj, Bool.and_eq_true] at h
    exact h.1
theorem bit_pos : (List.range 128).all (fun S => decide (S = 0) || (List.range 7).any (fun j => S.testBit j)) = true := by decide +kernel
theorem bit_ex {S : Nat} (hS : S < 128) (h : S ≠ 0) : ∃ j, j < 7 ∧ S.testBit j = true := by
  have := List.all_eq_true.mp bit_pos S (List.mem_range.mpr hS)
  simp only [Bool.or_eq_true, decide_eq_true_iff, List.any_eq_true, List.mem_range] at this
  rcases this with h1 | h1
  · exact absurd h1 h
  · exact h1
theorem all_bit0 : (List.range 8).all (fun n => (List.range 7).all (fun j => ((2 ^ n - 1).testBit j == decide (j < n)))) = true := by decide +kernel
theorem all_bit {n j : Nat} (hn : n ≤ 7) (hj : j < 7) : (2 ^ n - 1).testBit j = decide (j < n) := by
  have h1 := List.all_eq_true.mp all_bit0 n (List.mem_range.mpr (by omega))
  exact eq_of_beq (List.all_eq_true.mp h1 j (List.mem_range.mpr hj))
theorem tLs_in {a : qB} (n0 : 0 ≤ a 0) (n7 : a 0 ≤ 7) (k : Nat) {j : Nat} (hj : j < 7) (h : (tLs a k).testBit j = true) : (j : Int) < a 0 := by
  have := tLs_sub 0 k hj (by rw [Nat.zero_add]; exact h)
  have : (2 ^ (a 0).toNat - 1).testBit j = true := this
  rw [all_bit (by omega) hj, decide_eq_true_iff] at this
  omega
theorem tLs_ex {a : qB} (n0 : 0 ≤ a 0) (n7 : a 0 ≤ 7) (k : Nat) (hne : tLs a k ≠ 0) : ∃ h, 0 ≤ h ∧ h < a 0 ∧ (tLs a k).testBit h.toNat = true := by
  obtain ⟨j, hj, hb⟩ := bit_ex (tLs_lt n0 n7 k) hne
  exact ⟨(j : Int), by omega, tLs_in n0 n7 k hj hb, by rw [Int.toNat_natCast]; exact hb⟩
/-- among those left, all point at those left -/
theorem tIt_in {a : qB} {L : Nat} (n0 : 0 ≤ a 0) (hL : ∃ h, 0 ≤ h ∧ h < a 0 ∧ L.testBit h.toNat = true) {p : Int} (p0 : 0 ≤ p) (hp : p < a 0) (hb : L.testBit p.toNat = true) (k : Nat) : (0 ≤ tIt (tF a L) p k ∧ tIt (tF a L) p k < a 0) ∧ L.testBit (tIt (tF a L) p k).toNat = true := by
  cases k with
  | zero => exact ⟨⟨p0, hp⟩, hb⟩
  | succ k =>
    have := tF_in n0 hL (tIt (tF a L) p k)
    exact ⟨⟨this.1, this.2.1⟩, this.2.2⟩
theorem tLs_dec {a : qB} (n0 : 0 ≤ a 0) (n7 : a 0 ≤ 7) (k : Nat) (hne : tLs a k ≠ 0) : sPop (tLs a (k + 1)) + 1 ≤ sPop (tLs a k) := by
  have hg := tGo_bit a (tLs a k) (a 0) n0
  rcases (tSub_q (tLs_lt n0 n7 k) (hg.1 n7)).2.2 with h | h
  · exfalso
    have hL := tLs_ex n0 n7 k hne
    obtain ⟨p, p0, hp, hb⟩ := id hL
    obtain ⟨m, hm⟩ := tRing_ex n0 (fun k' => (tIt_in n0 hL p0 hp hb k').1)
    have hi := tIt_in n0 hL p0 hp hb m
    have e : (((tIt (tF a (tLs a k)) p m).toNat : Nat) : Int) = tIt (tF a (tLs a k)) p m := by omega
    have h1 := (hg.2 (tIt (tF a (tLs a k)) p m).toNat).mpr ⟨by omega, hi.2, by rw [e]; exact hm⟩
    have h2 : (tLs a k &&& tGo a (tLs a k) (a 0)).testBit (tIt (tF a (tLs a k)) p m).toNat = true := by rw [Nat.testBit_and, hi.2, h1]; rfl
    rw [h, Nat.zero_testBit] at h2
    cases h2
  · exact h
theorem tLs_pop {a : qB} (n0 : 0 ≤ a 0) (n7 : a 0 ≤ 7) (k : Nat) : tLs a k = 0 ∨ sPop (tLs a k) + k ≤ 7 := by
  induction k with
  | zero =>
    right
    have h2 : 1 ≤ 2 ^ (a 0).toNat := Nat.one_le_two_pow
    have := (sPop_n (n := (a 0).toNat) (S := 2 ^ (a 0).toNat - 1) (by omega) (by omega)).1
    show sPop (2 ^ (a 0).toNat - 1) + ((0 : Nat) : Int) ≤ 7
    omega
  | succ k ih =>
    rcases ih with h | h
    · left
      show tSub (tLs a k) _ = 0
      rw [h]
      exact Nat.zero_and _
    · by_cases hz : tLs a k = 0
      · left
        show tSub (tLs a k) _ = 0
        rw [hz]
        exact Nat.zero_and _
      · right
        have := tLs_dec n0 n7 k hz
        omega
/-- what p gets -/
def tG (a : qB) (p r : Int) : Prop := ∃ k, (tLs a k).testBit p.toNat = true ∧ tRing (tF a (tLs a k)) p ∧ r = tF a (tLs a k) p
theorem tG_uniq {a : qB} (n0 : 0 ≤ a 0) (n7 : a 0 ≤ 7) {p r r' : Int} (p0 : 0 ≤ p) (hp : p < a 0) (h : tG a p r) (h' : tG a p r') : r = r' := by
  have key : ∀ k k' : Nat, k < k' → (tLs a k).testBit p.toNat = true → tRing (tF a (tLs a k)) p → (tLs a k').testBit p.toNat = true → False := by
    intro k k' hk h1 h2 h3
    have h4 := tLs_sub (k + 1) (k' - (k + 1)) (show p.toNat < 7 by omega) (by rw [Nat.add_sub_cancel' (by omega)]; exact h3)
    have h4 : (tSub (tLs a k) (tGo a (tLs a k) (a 0))).testBit p.toNat = true := h4
    rw [tSub_bit (by omega), Bool.and_eq_true] at h4
    have e : ((p.toNat : Nat) : Int) = p := by omega
    have h5 := ((tGo_bit a (tLs a k) (a 0) n0).2 p.toNat).mpr ⟨by omega, h1, by rw [e]; exact h2⟩
    rw [h5] at h4
    exact absurd h4.2 (by decide)
  obtain ⟨k, h1, h2, h3⟩ := h
  obtain ⟨k', g1, g2, g3⟩ := h'
  rcases Nat.lt_trichotomy k k' with hl | hl | hl
  · exact (key k k' hl h1 h2 g1).elim
  · subst hl
    rw [h3, g3]
  · exact (key k' k hl g1 g2 h1).elim
section Trd
variable {d : Nat} {R : Option qV → qH → Prop} {h : qH} {i : Nat} {a : qB} {B : Int}
theorem x_isInRing {f : Int → Int} {n p : Int} (n0 : 0 ≤ n) (n7 : n ≤ 7) (hf : ∀ k, 0 ≤ tIt f p k ∧ tIt f p k < n) (hP : ∀ q, 0 ≤ q → q < n → h 0 0 1 (Int.toNat q) = f q) (h1 : tRing f p → R (some (qi 1)) h) (h0 : ¬ tRing f p → R (some (qi 0)) h) : qT (d + 1) 2 0 [qo 0 0, qi p, qu, qu] [] h R := by
  refine sX0_isInRing_0 ?_
  have loop : ∀ e k : Nat, k + e = 7 → (∀ j, 1 ≤ j → j ≤ k → tIt f p j ≠ p) → qT (d + 1) 2 4 [qo 0 0, qi p, qi (tIt f p k), qi (k : Int)] [] h R := by
    intro e
    induction e with
    | zero =>
      intro k hk hn
      refine sX0_isInRing_4 ⟨fun _ => ⟨by omega, h0 (fun hr => ?_)⟩, fun c => absurd (by omega) c⟩
      obtain ⟨m, m1, m2, m3⟩ := tRing_small n0 hf hr
      exact hn m m1 (by omega) m3
    | succ e ih =>
      intro k hk hn
      have hk2 := hf k
      refine sX0_isInRing_4 ⟨fun c => absurd c (by omega), fun _ => ⟨by omega, ?_⟩⟩
      rw [hP _ hk2.1 hk2.2]
      refine ⟨fun c => ⟨qR_of (by omega) (by omega), ih (k + 1) (by omega) ?_⟩, fun c => ⟨by omega, h1 ⟨k + 1, by omega, Classical.not_not.mp c⟩⟩⟩
      intro j j1 j2
      by_cases ej : j = k + 1
      · rw [ej]; exact c
      · exact hn j j1 (by omega)
  exact loop 7 0 rfl (fun j j1 j2 => absurd j1 (by omega))
theorem x_pointAll (hQ : qQX h i a) (hW : qwf B a) {L : Nat} (hL : L < 128) (hne : ∃ h, 0 ≤ h ∧ h < a 0 ∧ L.testBit h.toNat = true) (hR : ∀ h', fr (fun c _ j => c = 0 ∧ j = 1) h h' → (∀ q, 0 ≤ q → q < a 0 → h' 0 0 1 (Int.toNat q) = tF a L q) → R none h') : qT (d + 2) 1 0 [qo 0 0, qo 7 i, qi (L : Int), qu, qu, qu] [] h R := by
  have hn := wf_n hW
  refine sX0_pointAll_0 ?_
  have q7 : ∀ g, fr (fun c _ j => c = 0 ∧ j = 1) h g → qQX g i a := fun g hf => qx_fr hQ (by funext j; exact hf 7 i j (fun e => absurd e.1 (by decide)))
  refine q_up (n := a 0) (C := fun x => x ≤ a 0 → ∀ g z z', fr (fun c _ j => c = 0 ∧ j = 1) h g → (∀ q, 0 ≤ q → q < x → g 0 0 1 (Int.toNat q) = tF a L q) → qT (d + 2) 1 2 [qo 0 0, qo 7 i, qi (L : Int), qi x, z, z'] [] g R) ?_ 0 (by omega) (by omega) h _ _ fr_rfl (fun q q0 q1 => absurd q1 (by omega))
  intro x hx ih hxn g z z' hf hP
  refine sX0_pointAll_2 ?_
  rw [qx_n (q7 g hf)]
  refine ⟨fun c => hR g hf (fun q q0 q1 => hP q q0 (by omega)), fun c => ?_⟩
  have hxn' : x < a 0 := by omega
  refine q_up (n := a 0) (C := fun y => y ≤ a 0 → ∀ (g : qH) (m : Int), fr (fun c _ j => c = 0 ∧ j = 1) h g → (∀ q, 0 ≤ q → q < x → g 0 0 1 (Int.toNat q) = tF a L q) → (tFto a L x y < 0 → m = -1) → (0 ≤ tFto a L x y → m = aLike a x (tFto a L x y) ∧ g 0 0 1 (Int.toNat x) = tFto a L x y) → qT (d + 2) 1 16 [qo 0 0, qo 7 i, qi (L : Int), qi x, qi m, qi y] [] g R) ?_ 0 (by omega) (by omega) g (-1) hf hP (fun _ => rfl) (fun c => by rw [tFto_0] at c; exact absurd c (by decide))
  intro y hy ih2 hyn g m hf hP hm1 hm2
  obtain ⟨t1, t2, t3⟩ := tFto_in a L x y hy
  refine sX0_pointAll_16 ?_
  rw [qx_n (q7 g hf)]
  refine ⟨fun c2 => ⟨qR_of (by omega) (by omega), ih hxn' (by omega) g _ _ hf ?_⟩, fun c2 => ?_⟩
  · intro q q0 q1
    by_cases e : q = x
    · rw [e]
      have ey : y = a 0 := by omega
      have := tF_in hn.1 hne x
      rw [ey] at hm2
      exact (hm2 this.1).2
    · exact hP q q0 (by omega)
  · have hyn' : y < a 0 := by omega
    have hs := tFto_s (a := a) (L := L) (p := x) hy
    have hl := wf_like hW hx hxn' hy hyn'
    have el : aLike a x y = a (21 + 7 * x + y) := rfl
    rw [q_bitI (by omega) hy (by omega)]
    cases hb : L.testBit y.toNat with
    | false =>
      rw [hb] at hs
      rw [if_neg (by decide)] at hs
      refine ⟨fun _ => ⟨qR_of (by omega) (by omega), ih2 hyn' (by omega) g m hf hP ?_ ?_⟩, fun c3 => absurd rfl c3⟩
      · rw [hs]; exact hm1
      · rw [hs]; exact hm2
    | true =>
      rw [hb] at hs
      rw [if_pos rfl] at hs
      refine ⟨fun c3 => absurd c3 (by decide), fun _ => x_liking (q7 g hf) hW hx hxn' hy hyn' ⟨fun c3 => ⟨qR_of (by omega) (by omega), ?_⟩, fun c3 => x_liking (q7 g hf) hW hx hxn' hy hyn' ⟨by omega, qR_of (by omega) (by omega), ?_⟩⟩⟩
      · have hge : 0 ≤ tFto a L x y := by
          by_cases c4 : tFto a L x y < 0
          · have := hm1 c4; omega
          · omega
        have := hm2 hge
        rw [if_neg (by omega)] at hs
        refine ih2 hyn' (by omega) g m hf hP ?_ ?_
        · rw [hs]; exact hm1
        · rw [hs]; exact hm2
      · have hc : tFto a L x y < 0 ∨ aLike a x (tFto a L x y) < aLike a x y := by
          by_cases c4 : tFto a L x y < 0
          · left; exact c4
          · right
            have := hm2 (by omega)
            omega
        rw [if_pos hc] at hs
        refine ih2 hyn' (by omega) _ _ (fr_trans hf (fr_up ⟨rfl, rfl⟩)) ?_ ?_ ?_
        · intro q q0 q1
          rw [up_k (by omega)]
          exact hP q q0 q1
        · rw [hs]; intro c4; exact absurd c4 (by omega)
        · rw [hs]; intro _; exact ⟨rfl, up_at⟩
theorem x_tradeAll (hQ : qQX h i a) (hW : qwf B a) (hR : ∀ h', fr P0 h h' → (∀ p, 0 ≤ p → p < a 0 → tG a p (h' 0 0 0 (Int.toNat p))) → R none h') : qT (d + 3) 0 0 [qo 0 0, qo 7 i, qu, qu, qu, qu] [] h R := by
  have hn := wf_n hW
  obtain ⟨e1, e2, e3⟩ := q_all hn.1 hn.2
  have q7 : ∀ g, fr P0 h g → qQX g i a := fun g hf => qx_fr hQ (by funext j; exact hf 7 i j (fun (e : (7 : Nat) = 0) => absurd e (by decide)))
  refine sX0_tradeAll_0 ?_
  rw [qx_n hQ, e1]
  refine ⟨qR_of (by omega) (by omega), ?_⟩
  have loop : ∀ e k : Nat, k + e = 7 → ∀ g z z', fr P0 h g → (∀ p, 0 ≤ p → p < a 0 → (tLs a k).testBit p.toNat = false → tG a p (g 0 0 0 (Int.toNat p))) → qT (d + 3) 0 11 [qo 0 0, qo 7 i, qi ((tLs a k : Nat) : Int), qi (k : Int), z, z'] [] g R := by
    intro e
    induction e with
    | zero =>
      intro k hk g z z' hf hG
      refine sX0_tradeAll_11 ⟨fun _ => hR g hf (fun p p0 hp => hG p p0 hp ?_), fun c => absurd (by omega) c⟩
      have hz : tLs a k = 0 := by
        rcases tLs_pop hn.1 hn.2 k with h1 | h1
        · exact h1
        · apply Classical.byContradiction
          intro hne
          have h2 := tLs_dec hn.1 hn.2 k hne
          have h3 := sPopTo_b (tLs a (k + 1)) 10
          have e : sPop (tLs a (k + 1)) = sPopTo (tLs a (k + 1)) 10 := rfl
          omega
      rw [hz]
      exact Nat.zero_testBit _
    | succ e ih =>
      intro k hk g z z' hf hG
      have hLk := tLs_lt hn.1 hn.2 k
      refine sX0_tradeAll_11 ⟨fun c => absurd c (by omega), fun _ => ⟨fun c => hR g hf (fun p p0 hp => hG p p0 hp ?_), fun c => ?_⟩⟩
      · rw [show tLs a k = 0 by omega]
        exact Nat.zero_testBit _
      have hne := tLs_ex hn.1 hn.2 k (by omega)
      refine x_pointAll (q7 g hf) hW hLk hne (fun g1 hf1 hP => ?_)
      have hf1' : fr P0 h g1 := fr_trans hf (fr_mono hf1 (fun c i j e => e.1))
      have hg0 : g1 0 0 0 = g 0 0 0 := hf1 0 0 0 (fun e => absurd e.2 (by decide))
      show qT _ _ _ _ _ _ _
      refine q_up (n := a 0) (C := fun x => x ≤ a 0 → ∀ g2, fr P0 h g2 → (∀ q, 0 ≤ q → q < a 0 → g2 0 0 1 (Int.toNat q) = tF a (tLs a k) q) → (∀ p, 0 ≤ p → p < a 0 → ((tLs a k).testBit p.toNat = false ∨ (p < x ∧ (tGo a (tLs a k) x).testBit p.toNat = true)) → tG a p (g2 0 0 0 (Int.toNat p))) → qT (d + 3) 0 33 [qo 0 0, qo 7 i, qi ((tLs a k : Nat) : Int), qi (k : Int), qi ((tGo a (tLs a k) x : Nat) : Int), qi x] [] g2 R) ?_ 0 (by omega) (by omega) g1 hf1' hP ?_
      · intro x hx ih2 hxn g2 hf2 hP2 hG2
        have hgo := tGo_bit a (tLs a k) x hx
        refine sX0_tradeAll_33 ?_
        rw [qx_n (q7 g2 hf2)]
        refine ⟨fun c2 => ⟨qR_of (by omega) (by omega), ?_⟩, fun c2 => ?_⟩
        · have ex : x = a 0 := by omega
          subst ex
          rw [(tSub_q hLk (hgo.1 hn.2)).1]
          refine ih (k + 1) (by omega) g2 _ _ hf2 ?_
          intro p p0 hp hb
          have hb : (tSub (tLs a k) (tGo a (tLs a k) (a 0))).testBit p.toNat = false := hb
          rw [tSub_bit (by omega)] at hb
          refine hG2 p p0 hp ?_
          cases h1 : (tLs a k).testBit p.toNat with
          | false => left; rfl
          | true =>
            right
            rw [h1, Bool.true_and] at hb
            cases h2 : (tGo a (tLs a k) (a 0)).testBit p.toNat with
            | true => exact ⟨hp, rfl⟩
            | false => rw [h2] at hb; cases hb
        · have hxn' : x < a 0 := by omega
          have hgl := hgo.1 (by omega)
          have keep : ¬ ((tLs a k).testBit x.toNat = true ∧ tRing (tF a (tLs a k)) x) → qT (d + 3) 0 33 [qo 0 0, qo 7 i, qi ((tLs a k : Nat) : Int), qi (k : Int), qi ((tGo a (tLs a k) x : Nat) : Int), qi (x + 1)] [] g2 R := by
            intro hc
            have K := ih2 hxn' (by omega) g2 hf2 hP2 ?_
            · rw [tGo_f hx hc] at K; exact K
            · intro p p0 hp hb
              refine hG2 p p0 hp ?_
              rcases hb with hb | ⟨hb1, hb2⟩
              · left; exact hb
              · right
                rw [tGo_f hx hc] at hb2
                have := (hgo.2 p.toNat).mp hb2
                exact ⟨by omega, hb2⟩
          rw [q_bitI (by omega) hx (by omega)]
          cases hb : (tLs a k).testBit x.toNat with
          | false => exact ⟨fun _ => ⟨qR_of (by omega) (by omega), keep (fun e => by rw [hb] at e; cases e.1)⟩, fun c3 => absurd rfl c3⟩
          | true =>
            refine ⟨fun c3 => absurd c3 (by decide), fun _ => x_isInRing hn.1 hn.2 (fun k' => (tIt_in hn.1 hne hx hxn' hb k').1) hP2 (fun hr => ⟨fun c3 => absurd c3 (by decide), fun _ => ⟨by omega, by omega, qR_of (by omega) (by omega), ?_⟩⟩) (fun hr => ⟨fun _ => ⟨qR_of (by omega) (by omega), keep (fun e => hr e.2)⟩, fun c3 => absurd rfl c3⟩)⟩
            have hp2 : 2 ^ x.toNat < 128 := Nat.lt_of_lt_of_le (q_pow_lt (n := 7) hx (by omega)) (by decide)
            rw [q_oneI hx (by omega), q_or (by omega) (by omega), ← tGo_t hx hb hr, hP2 x hx hxn']
            refine ih2 hxn' (by omega) _ (fr_trans hf2 (fr_up rfl)) ?_ ?_
            · intro q q0 q1
              rw [up_j (by decide)]
              exact hP2 q q0 q1
            · intro p p0 hp hbb
              rw [up_if]
              by_cases e : p.toNat = x.toNat
              · rw [if_pos e]
                have : p = x := by omega
                rw [this]
                exact ⟨k, hb, hr, rfl⟩
              · rw [if_neg e]
                refine hG2 p p0 hp ?_
                rcases hbb with hbb | ⟨hb1, hb2⟩
                · left; exact hbb
                · right
                  refine ⟨by omega, ?_⟩
                  rw [tGo_t hx hb hr, q_setbit, Bool.or_eq_true, decide_eq_true_iff] at hb2
                  rcases hb2 with hb2 | hb2
                  · exact hb2
                  · exact absurd hb2.symm e
      · intro p p0 hp hb
        rw [hg0]
        refine hG p p0 hp ?_
        rcases hb with hb | ⟨hb1, hb2⟩
        · exact hb
        · omega
  refine loop 7 0 rfl h _ _ fr_rfl ?_
  intro p p0 hp hb
  exfalso
  have hb : (2 ^ (a 0).toNat - 1).testBit p.toNat = false := hb
  rw [all_bit (by omega) (by omega), decide_eq_false_iff_not] at hb
  omega
end Trd
