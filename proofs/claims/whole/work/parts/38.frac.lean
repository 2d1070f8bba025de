/-! what may change; FRACTIONS -/
def fr (P : Nat → Nat → Nat → Prop) (h h' : qH) : Prop := ∀ c i j, ¬ P c i j → h' c i j = h c i j
theorem fr_rfl {P : Nat → Nat → Nat → Prop} {h : qH} : fr P h h := fun _ _ _ _ => rfl
theorem fr_trans {P : Nat → Nat → Nat → Prop} {h h' h'' : qH} (h1 : fr P h h') (h2 : fr P h' h'') : fr P h h'' := fun c i j n => (h2 c i j n).trans (h1 c i j n)
theorem fr_mono {P Q : Nat → Nat → Nat → Prop} {h h' : qH} (h1 : fr P h h') (hPQ : ∀ c i j, P c i j → Q c i j) : fr Q h h' := fun c i j n => h1 c i j (fun p => n (hPQ c i j p))
theorem fr_up {P : Nat → Nat → Nat → Prop} {h : qH} {c i j k : Nat} {v : Int} (hp : P c i j) : fr P h (qup h c i j k v) := by
  intro c' i' j' n
  funext k'
  exact if_neg (fun e => n (by rw [e.1, e.2.1, e.2.2.2]; exact hp))
theorem fr_cp {P : Nat → Nat → Nat → Prop} {h : qH} {c0 i0 j0 sp c i j dp n : Nat} (hp : P c i j) : fr P h (qcp h c0 i0 j0 sp c i j dp n) := by
  intro c' i' j' n
  funext k'
  exact if_neg (fun e => n (by rw [e.1, e.2.1, e.2.2.2]; exact hp))
theorem fr_f7 {P : Nat → Nat → Nat → Prop} {h h' : qH} {i : Nat} (hf : qf7 i h h') (hp : ∀ j, 1 ≤ j → P 7 i j) : fr P h h' := by
  intro c' i' j' n
  by_cases hc : c' = 7 ∧ i' = i
  · obtain ⟨rfl, rfl⟩ := hc
    cases j' with
    | zero => exact hf.2
    | succ j' => exact absurd (hp _ (by omega)) n
  · rw [hf.1 c' i' hc]
theorem fr_g7 {P : Nat → Nat → Nat → Prop} {h h' : qH} {i : Nat} (hf : qg7 i h h') (hp : ∀ j, P 7 i j) : fr P h h' := by
  intro c' i' j' n
  by_cases hc : c' = 7 ∧ i' = i
  · obtain ⟨rfl, rfl⟩ := hc
    exact absurd (hp _) n
  · rw [hf c' i' hc]
theorem up_at {h : qH} {c i j k : Nat} {v : Int} : qup h c i j k v c i j k = v := if_pos ⟨rfl, rfl, rfl, rfl⟩
theorem up_k {h : qH} {c i j k k' : Nat} {v : Int} (n : k' ≠ k) : qup h c i j k v c i j k' = h c i j k' := if_neg (fun e => n e.2.2.1)
theorem up_if {h : qH} {c i j k k' : Nat} {v : Int} : qup h c i j k v c i j k' = if k' = k then v else h c i j k' := by
  by_cases e : k' = k
  · rw [if_pos e, e, up_at]
  · rw [if_neg e, up_k e]
theorem up_j {h : qH} {c i j k c' i' j' : Nat} {v : Int} (n : ¬ (c' = c ∧ i' = i ∧ j' = j)) : qup h c i j k v c' i' j' = h c' i' j' := by
  funext k'
  exact if_neg (fun e => n ⟨e.2.1, e.2.2.2, e.1⟩)
theorem gcd_step {a b : Nat} : Nat.gcd b (a % b) = Nat.gcd a b := by
  rw [Nat.gcd_comm a b, Nat.gcd_rec b a, Nat.gcd_comm]
theorem gcd_half {a b : Nat} (hb : 0 < b) (h : b ≤ a) : 2 * (b * (a % b)) ≤ a * b := by
  have h1 : a % b < b := Nat.mod_lt _ hb
  have h2 : 2 * (a % b) ≤ a := by
    have h3 : b * (a / b) + a % b = a := Nat.div_add_mod a b
    have h4 : 1 ≤ a / b := (Nat.one_le_div_iff hb).mpr h
    have h5 : b * 1 ≤ b * (a / b) := Nat.mul_le_mul_left b h4
    omega
  calc 2 * (b * (a % b)) = b * (2 * (a % b)) := by rw [Nat.mul_left_comm]
    _ ≤ b * a := Nat.mul_le_mul_left b h2
    _ = a * b := Nat.mul_comm _ _
def fTop (t b : Nat) : Int := ((t / Nat.gcd t b : Nat) : Int)
def fBot (t b : Nat) : Int := ((b / Nat.gcd t b : Nat) : Int)
section Fr
variable {d : Nat} {R : Option qV → qH → Prop} {h : qH}
theorem x_fset {t b : Nat} (hb : 0 < b) (hb2 : b ≤ 100000) (ht : t ≤ b) (hR : R none (qup (qup h 4 0 0 0 (fTop t b)) 4 0 1 0 (fBot t b))) : qT (d + 1) 28 0 [qo 4 0, ql (t : Int), qu, ql (b : Int), qu, qu, qu, qu, qu, qu, qu, qu] [] h R := by
  refine sX4_set_0 ?_
  have hg : 0 < Nat.gcd t b := Nat.gcd_pos_of_pos_right t hb
  have fin : ∀ (x : Nat) (z : Int) (y : qV), x = Nat.gcd t b → ((z : Int) = 100 ∨ True) → (0 ≤ (t : Int) ∧ 0 < (x : Int)) ∧ (0 ≤ (b : Int) ∧ 0 < (x : Int)) ∧ R none (qup (qup h 4 0 0 0 ((t : Int) / x)) 4 0 1 0 ((b : Int) / x)) := by
    intro x z y hx _
    rw [hx]
    refine ⟨⟨by omega, by omega⟩, ⟨by omega, by omega⟩, ?_⟩
    exact hR
  have loop : ∀ n x y i : Nat, y ≤ x → x * y < 2 ^ n → i + n + 1 ≤ 100 → Nat.gcd x y = Nat.gcd t b → ∀ z, qT (d + 1) 28 9 [qo 4 0, ql (t : Int), qu, ql (b : Int), qu, ql (x : Int), qu, ql (y : Int), qu, qi (i : Int), z, qu] [] h R := by
    intro n
    induction n with
    | zero =>
      intro x y i hxy hp hi hgc z
      have hy : y = 0 := by
        rcases Nat.eq_zero_or_pos y with h0 | h0
        · exact h0
        · have h1 : 1 * 1 ≤ x * y := Nat.mul_le_mul (by omega) h0
          omega
      subst hy
      rw [Nat.gcd_zero_right] at hgc
      refine sX4_set_9 ⟨fun c => absurd c (by omega), fun _ => ⟨fun _ => ⟨fun c => ?_, fun _ => fin x 0 z hgc (Or.inr trivial)⟩, fun c => absurd (qlcmp_eq.mpr rfl) c⟩⟩
      have := qlcmp_eq.mp c
      omega
    | succ n ih =>
      intro x y i hxy hp hi hgc z
      rcases Nat.eq_zero_or_pos y with h0 | h0
      · subst h0
        rw [Nat.gcd_zero_right] at hgc
        refine sX4_set_9 ⟨fun c => absurd c (by omega), fun _ => ⟨fun _ => ⟨fun c => ?_, fun _ => fin x 0 z hgc (Or.inr trivial)⟩, fun c => absurd (qlcmp_eq.mpr rfl) c⟩⟩
        have := qlcmp_eq.mp c
        omega
      · refine sX4_set_9 ⟨fun c => absurd c (by omega), fun _ => ⟨fun c => ?_, fun c => ⟨⟨by omega, by omega⟩, qR_of (by omega) (by omega), ?_⟩⟩⟩
        · have := qlcmp_eq.mp c
          omega
        · have hh := gcd_half h0 hxy
          have hm : x % y < y := Nat.mod_lt _ h0
          have e : 2 ^ (n + 1) = 2 * 2 ^ n := by rw [Nat.pow_succ, Nat.mul_comm]
          exact ih y (x % y) (i + 1) (by omega) (by omega) (by omega) (by rw [gcd_step, hgc]) _
  have first : ∀ z, qT (d + 1) 28 9 [qo 4 0, ql (t : Int), qu, ql (b : Int), qu, ql (t : Int), qu, ql (b : Int), qu, qi 0, z, qu] [] h R := by
    intro z
    refine sX4_set_9 ⟨fun c => absurd c (by omega), fun _ => ⟨fun c => ?_, fun c => ⟨⟨by omega, by omega⟩, qR_of (by omega) (by omega), ?_⟩⟩⟩
    · have := qlcmp_eq.mp c
      omega
    · have hm : t % b ≤ 100000 := Nat.le_of_lt (Nat.lt_of_lt_of_le (Nat.mod_lt _ hb) hb2)
      have hm2 : t % b < b := Nat.mod_lt _ hb
      have hp : b * (t % b) ≤ 100000 * 100000 := Nat.mul_le_mul hb2 hm
      exact loop 34 b (t % b) 1 (by omega) (by omega) (by omega) gcd_step _
  exact first _
theorem m_fraction {t b : Nat} (hb : 0 < b) (hR : R (some (qi 1)) (qup (qup h 12 0 2 0 (fTop t b)) 12 0 3 0 (fBot t b))) : qT (d + 1) 178 0 [qo 12 0, ql (t : Int), qu, ql (b : Int), qu, qu, qu, qu, qu, qu, qu] [] h R := by
  refine sX12_fraction_0 ⟨by omega, ?_⟩
  have hg : 0 < Nat.gcd t b := Nat.gcd_pos_of_pos_right t hb
  have loop : ∀ n x y : Nat, y ≤ n → Nat.gcd x y = Nat.gcd t b → ∀ z, qT (d + 1) 178 9 [qo 12 0, ql (t : Int), qu, ql (b : Int), qu, ql (x : Int), qu, ql (y : Int), qu, z, qu] [] h R := by
    intro n
    induction n with
    | zero =>
      intro x y hy hgc z
      have hy : y = 0 := by omega
      subst hy
      rw [Nat.gcd_zero_right] at hgc
      refine sX12_fraction_9 ⟨fun _ => ⟨⟨by omega, by omega⟩, ⟨by omega, by omega⟩, by omega, ?_⟩, fun c => absurd (qlcmp_eq.mpr rfl) c⟩
      rw [hgc]
      exact hR
    | succ n ih =>
      intro x y hy hgc z
      rcases Nat.eq_zero_or_pos y with h0 | h0
      · subst h0
        rw [Nat.gcd_zero_right] at hgc
        refine sX12_fraction_9 ⟨fun _ => ⟨⟨by omega, by omega⟩, ⟨by omega, by omega⟩, by omega, ?_⟩, fun c => absurd (qlcmp_eq.mpr rfl) c⟩
        rw [hgc]
        exact hR
      · refine sX12_fraction_9 ⟨fun c => ?_, fun c => ⟨⟨by omega, by omega⟩, ?_⟩⟩
        · have := qlcmp_eq.mp c
          omega
        · have hm : x % y < y := Nat.mod_lt _ h0
          exact ih y (x % y) (by omega) (by rw [gcd_step, hgc]) _
  exact loop b t b (Nat.le_refl _) rfl _
end Fr
