/-! sums; DRIFT -/
def qsum (f : Int → Int) (n : Int) : Int := qfold (fun k s => s + f k) 0 n
theorem qsum_0 {f : Int → Int} : qsum f 0 = 0 := rfl
theorem qsum_n {f : Int → Int} {n : Int} (h : n ≤ 0) : qsum f n = 0 := qfold_n h
theorem qsum_s {f : Int → Int} {x : Int} (hx : 0 ≤ x) : qsum f (x + 1) = qsum f x + f x := by unfold qsum; rw [qfold_s hx]
theorem qsum_c {f g : Int → Int} {n : Int} (h : ∀ x, 0 ≤ x → x < n → f x = g x) : qsum f n = qsum g n := qfold_c (fun x r h0 h1 => by rw [h x h0 h1])
theorem qsum_add {f g : Int → Int} : ∀ n : Int, 0 ≤ n → qsum (fun x => f x + g x) n = qsum f n + qsum g n := by
  apply q_ind
  · rfl
  · intro x hx ih
    rw [qsum_s hx, qsum_s hx, qsum_s hx, ih]
    omega
theorem qsum_z : ∀ n : Int, 0 ≤ n → qsum (fun _ => 0) n = 0 := by
  apply q_ind
  · rfl
  · intro x hx ih
    rw [qsum_s hx, ih]; rfl
theorem qsum_comm {f : Int → Int → Int} {m : Int} (hm : 0 ≤ m) : ∀ n : Int, 0 ≤ n → qsum (fun x => qsum (fun y => f x y) m) n = qsum (fun y => qsum (fun x => f x y) n) m := by
  apply q_ind
  · rw [qsum_0]
    exact (qsum_z m hm).symm
  · intro x hx ih
    rw [qsum_s hx, ih, ← qsum_add m hm]
    refine qsum_c (fun y y0 y1 => ?_)
    rw [qsum_s hx]
theorem qsum_b {f : Int → Int} {V : Nat} : ∀ n : Int, 0 ≤ n → (∀ x, 0 ≤ x → x < n → 0 ≤ f x ∧ f x ≤ V) → 0 ≤ qsum f n ∧ qsum f n ≤ ((n.toNat * V : Nat) : Int) := by
  apply q_ind
  · intro _; exact ⟨Int.le_refl _, by simp [qsum_0]⟩
  · intro x hx ih hf
    have h1 := ih (fun y y0 y1 => hf y y0 (by omega))
    have h2 := hf x hx (by omega)
    rw [qsum_s hx, show (x + 1).toNat = x.toNat + 1 by omega, Nat.add_mul, Nat.one_mul]
    omega
theorem qsum_sub {f : Int → Int} {c : Int} : ∀ n : Int, 0 ≤ n → c * n + qsum (fun x => f x - c) n = qsum f n := by
  apply q_ind
  · rw [qsum_0, qsum_0]; omega
  · intro x hx ih
    rw [qsum_s hx, qsum_s hx, Int.mul_add, Int.mul_one]
    omega
theorem q_mul10 {x m V : Int} (x0 : 0 ≤ x) (hx : x ≤ V) (m0 : 0 ≤ m) (hm : m ≤ 10) : 0 ≤ x * m ∧ x * m ≤ 10 * V := by
  have : m = 0 ∨ m = 1 ∨ m = 2 ∨ m = 3 ∨ m = 4 ∨ m = 5 ∨ m = 6 ∨ m = 7 ∨ m = 8 ∨ m = 9 ∨ m = 10 := by omega
  rcases this with e | e | e | e | e | e | e | e | e | e | e <;> subst e <;> omega
/-- where the two of a stair stand, changed -/
def aSw (a : qB) (s p : Int) : Int := if p = a (70 + s) then a (80 + s) else if p = a (80 + s) then a (70 + s) else p
theorem aSw_sw (a : qB) (s p : Int) : aSw a s (aSw a s p) = p := by
  unfold aSw
  by_cases h1 : p = a (70 + s)
  · rw [if_pos h1]
    by_cases h2 : a (80 + s) = a (70 + s)
    · rw [if_pos h2]; omega
    · rw [if_neg h2, if_pos rfl, h1]
  · rw [if_neg h1]
    by_cases h2 : p = a (80 + s)
    · rw [if_pos h2, if_pos rfl, h2]
    · rw [if_neg h2, if_neg h1, if_neg h2]
theorem aSw_in {B : Int} {a : qB} (hW : qwf B a) {s p : Int} (s0 : 0 ≤ s) (hs : s < a 1) (p0 : 0 ≤ p) (hp : p < 7) : 0 ≤ aSw a s p ∧ aSw a s p < 7 := by
  have h3 := wf_st hW s0 hs
  have hn := wf_n hW
  unfold aSw
  split
  · omega
  · split <;> omega
def dE (i : Int) : Int → Int := fun p => if p = i then 1 else 0
def dV (a : qB) (v : Int → Int) : Nat → Int → Int
  | 0, p => v p
  | k + 1, p => qsum (fun s => dV a v k (aSw a s p)) (a 1)
theorem dV_com {a : qB} (m0 : 0 ≤ a 1) : ∀ (k : Nat) (i j : Int), qsum (fun s => dV a (dE i) k (aSw a s j)) (a 1) = qsum (fun s => dV a (dE (aSw a s i)) k j) (a 1) := by
  intro k
  induction k with
  | zero =>
    intro i j
    refine qsum_c (fun s s0 s1 => ?_)
    show dE i (aSw a s j) = dE (aSw a s i) j
    unfold dE
    by_cases h : aSw a s j = i
    · rw [if_pos h, if_pos (by rw [← h, aSw_sw])]
    · rw [if_neg h, if_neg (fun e => h (by rw [e, aSw_sw]))]
  | succ k ih =>
    intro i j
    show qsum (fun s => qsum (fun t => dV a (dE i) k (aSw a t (aSw a s j))) (a 1)) (a 1) = qsum (fun t => qsum (fun s => dV a (dE (aSw a t i)) k (aSw a s j)) (a 1)) (a 1)
    rw [qsum_c (fun s s0 s1 => ih i (aSw a s j))]
    exact qsum_comm m0 _ m0
theorem dV_sym {a : qB} (m0 : 0 ≤ a 1) : ∀ (k : Nat) (i j : Int), dV a (dE i) k j = dV a (dE j) k i := by
  intro k
  induction k with
  | zero =>
    intro i j
    show dE i j = dE j i
    unfold dE
    by_cases h : j = i
    · rw [if_pos h, if_pos h.symm]
    · rw [if_neg h, if_neg (fun e => h e.symm)]
  | succ k ih =>
    intro i j
    show qsum (fun s => dV a (dE i) k (aSw a s j)) (a 1) = qsum (fun s => dV a (dE j) k (aSw a s i)) (a 1)
    rw [dV_com m0 k i j]
    exact qsum_c (fun s s0 s1 => ih _ _)
theorem dV_b {a : qB} (m0 : 0 ≤ a 1) (i : Int) : ∀ (k : Nat) (p : Int), 0 ≤ dV a (dE i) k p ∧ dV a (dE i) k p ≤ (((a 1).toNat ^ k : Nat) : Int) := by
  intro k
  induction k with
  | zero =>
    intro p
    show 0 ≤ dE i p ∧ dE i p ≤ ((1 : Nat) : Int)
    unfold dE
    split <;> omega
  | succ k ih =>
    intro p
    have := qsum_b (f := fun s => dV a (dE i) k (aSw a s p)) (V := (a 1).toNat ^ k) (a 1) m0 (fun s s0 s1 => ih _)
    rw [Nat.pow_succ, Nat.mul_comm]
    exact this
theorem dPow {m k : Nat} (hm : m ≤ 10) (hk : k ≤ 5) : m ^ k ≤ 100000 := Nat.le_trans (Nat.pow_le_pow_left hm k) (Nat.le_trans (Nat.pow_le_pow_right (by decide) hk) (by decide))
theorem dPow4 {m k : Nat} (hm : m ≤ 10) (hk : k ≤ 4) : m ^ k ≤ 10000 := Nat.le_trans (Nat.pow_le_pow_left hm k) (Nat.le_trans (Nat.pow_le_pow_right (by decide) hk) (by decide))
theorem aLive_ex {B : Int} {a : qB} (hW : qwf B a) {p : Int} (p0 : 0 ≤ p) (hp : p < a 0) : ∃ w, 0 ≤ w ∧ w < a 0 ∧ a (14 + w) = p := by
  obtain ⟨k, k1, k2, k3⟩ := aIt_back hW p0 hp
  obtain ⟨k', rfl⟩ : ∃ k', k = k' + 1 := ⟨k - 1, by omega⟩
  have := aIt_in hW p0 hp k'
  exact ⟨aIt a p k', this.1, this.2, k3⟩
section Drf
variable {d : Nat} {R : Option qV → qH → Prop} {h : qH} {i : Nat} {a : qB} {B : Int}
theorem x_driftOnce (hQ : qQX h i a) (hW : qwf B a) {v : Int → Int} {V : Int} (hV : V ≤ 10000) (hv : ∀ p, 0 ≤ p → p < 7 → h 0 0 3 (Int.toNat p) = v p ∧ 0 ≤ v p ∧ v p ≤ V) (hR : ∀ h', fr P0 h h' → (∀ p, 0 ≤ p → p < 7 → h' 0 0 3 (Int.toNat p) = qsum (fun s => v (aSw a s p)) (a 1)) → R none h') : qT (d + 1) 7 0 [qo 0 0, qo 7 i, qu, qu, qu] [] h R := by
  have hn := wf_n hW
  have hm := wf_m hW
  have q7 : ∀ g, fr P0 h g → qQX g i a := fun g hf => qx_fr hQ (by funext j; exact hf 7 i j (fun (e : (7 : Nat) = 0) => absurd e (by decide)))
  refine sX0_driftOnce_0 ?_
  have second : ∀ g, fr P0 h g → g 0 0 3 = h 0 0 3 → (∀ p, 0 ≤ p → p < 7 → g 0 0 4 (Int.toNat p) = v p * a 1) → ∀ z z', qT (d + 1) 7 33 [qo 0 0, qo 7 i, qi 0, z, z'] [] g R := by
    intro g hf h3 h4 z z'
    refine q_up (n := a 1) (C := fun x => x ≤ a 1 → ∀ g z z', fr P0 h g → g 0 0 3 = h 0 0 3 → (∀ p, 0 ≤ p → p < 7 → g 0 0 4 (Int.toNat p) = v p * a 1 + qsum (fun s => v (aSw a s p) - v p) x) → qT (d + 1) 7 33 [qo 0 0, qo 7 i, qi x, z, z'] [] g R) ?_ 0 (by omega) (by omega) g z z' hf h3 (fun p p0 p1 => by rw [qsum_0, Int.add_zero]; exact h4 p p0 p1)
    intro x hx ih hxm g z z' hf h3 h4
    refine sX0_driftOnce_33 ?_
    rw [qx_m (q7 g hf)]
    refine ⟨fun c => ⟨by omega, hR _ (fr_trans hf (fr_cp rfl)) ?_⟩, fun c => ?_⟩
    · intro p p0 p1
      show (if 3 = 3 ∧ 0 = 0 ∧ ((0 : Int).toNat ≤ p.toNat ∧ p.toNat < (0 : Int).toNat + (7 : Int).toNat) ∧ 0 = 0 then g 0 0 4 ((0 : Int).toNat + (p.toNat - (0 : Int).toNat)) else g 0 0 3 p.toNat) = _
      rw [if_pos ⟨rfl, rfl, by omega, rfl⟩, show (0 : Int).toNat + (p.toNat - (0 : Int).toNat) = p.toNat by omega, h4 p p0 p1, show x = a 1 by omega]
      exact qsum_sub (a 1) hm.1
    · have hxm' : x < a 1 := by omega
      have h5 := wf_st hW hx hxm'
      rw [qx_one (q7 g hf) hW hx hxm', qx_two (q7 g hf) hW hx hxm', h3]
      generalize hA : a (70 + x) = A at *
      generalize hC : a (80 + x) = C at *
      have vA := hv A (by omega) (by omega)
      have vC := hv C (by omega) (by omega)
      have mA := h4 A (by omega) (by omega)
      have mC := h4 C (by omega) (by omega)
      have bnd : ∀ p, 0 ≤ p → p < 7 → -100000 ≤ v p * a 1 + qsum (fun s => v (aSw a s p) - v p) x ∧ v p * a 1 + qsum (fun s => v (aSw a s p) - v p) x ≤ 300000 := by
        intro p p0 p1
        have h6 := q_mul10 (V := V) (hv p p0 p1).2.1 (hv p p0 p1).2.2 hm.1 hm.2
        have h7 : ∀ y : Int, 0 ≤ y → y ≤ a 1 → -(V * y) ≤ qsum (fun s => v (aSw a s p) - v p) y ∧ qsum (fun s => v (aSw a s p) - v p) y ≤ V * y := by
          apply q_ind
          · intro _; rw [qsum_0]; omega
          · intro y hy ih7 hym
            have h8 := aSw_in hW hy (by omega) p0 p1
            have h9 := hv _ h8.1 h8.2
            have h10 := hv p p0 p1
            have := ih7 (by omega)
            rw [qsum_s hy, Int.mul_add, Int.mul_one]
            omega
        have h11 := h7 x hx hxm
        have h12 := q_mul10 (x := V) (m := x) (V := 10000) (by omega) hV hx (by omega)
        omega
      have bA := bnd A (by omega) (by omega)
      have bC := bnd C (by omega) (by omega)
      rw [vA.1, vC.1, mA]
      have eC : ∀ w, qup g 0 0 4 (Int.toNat A) w 0 0 4 (Int.toNat C) = g 0 0 4 (Int.toNat C) := fun w => up_k (by omega)
      rw [eC, mC]
      refine ⟨by omega, by omega, by omega, by omega, by omega, qR_of (by omega) (by omega), qR_of (by omega) (by omega), by omega, by omega, by omega, by omega, qR_of (by omega) (by omega), qR_of (by omega) (by omega), by omega, qR_of (by omega) (by omega), ih hxm' (by omega) _ _ _ (fr_trans hf (fr_trans (fr_up rfl) (fr_up rfl))) (by rw [up_j (by decide), up_j (by decide)]; exact h3) ?_⟩
      intro p p0 p1
      rw [qsum_s hx]
      have esw : aSw a x p = if p = A then C else if p = C then A else p := by unfold aSw; rw [hA, hC]
      rw [up_if]
      by_cases k1 : p = C
      · rw [if_pos (by rw [k1]), esw, if_neg (by omega), if_pos k1, k1]
        omega
      · rw [if_neg (by omega), up_if]
        by_cases k2 : p = A
        · rw [if_pos (by rw [k2]), esw, if_pos k2, k2]
          omega
        · rw [if_neg (by omega), esw, if_neg k2, if_neg k1, h4 p p0 p1]
          omega
  refine q_up (n := 7) (C := fun x => x ≤ 7 → ∀ g, fr P0 h g → g 0 0 3 = h 0 0 3 → (∀ p, 0 ≤ p → p < x → g 0 0 4 (Int.toNat p) = v p * a 1) → qT (d + 1) 7 2 [qo 0 0, qo 7 i, qi x, qu, qu] [] g R) ?_ 0 (by omega) (by omega) h fr_rfl rfl (fun p p0 p1 => absurd p1 (by omega))
  intro x hx ih hxn g hf h3 h4
  refine sX0_driftOnce_2 ?_
  refine ⟨fun c => second g hf h3 (fun p p0 p1 => h4 p p0 (by omega)) _ _, fun c => ?_⟩
  have vx := hv x hx (by omega)
  have h6 := q_mul10 (V := V) vx.2.1 vx.2.2 hm.1 hm.2
  rw [qx_m (q7 g hf), h3, vx.1]
  refine ⟨by omega, qR_of (by omega) (by omega), by omega, qR_of (by omega) (by omega), ih (by omega) (by omega) _ (fr_trans hf (fr_up rfl)) (by rw [up_j (by decide)]; exact h3) ?_⟩
  intro p p0 p1
  rw [up_if]
  by_cases e : p.toNat = x.toNat
  · rw [if_pos e, show p = x by omega]
  · rw [if_neg e]
    exact h4 p p0 (by omega)
theorem x_countDrift (hQ : qQX h i a) (hW : qwf B a) {p w house k : Int} (p0 : 0 ≤ p) (hp : p < a 0) (w0 : 0 ≤ w) (hw : w < a 0) (hl : a (14 + w) = house) (k0 : 0 ≤ k) (hk : k ≤ 5) (hR : ∀ h', fr P0 h h' → R (some (ql (dV a (dE w) k.toNat p))) h') : qT (d + 2) 6 0 [qo 0 0, qo 7 i, qi p, qi house, qi k, qu] [] h R := by
  have hn := wf_n hW
  have hm := wf_m hW
  have q7 : ∀ g, fr P0 h g → qQX g i a := fun g hf => qx_fr hQ (by funext j; exact hf 7 i j (fun (e : (7 : Nat) = 0) => absurd e (by decide)))
  refine sX0_countDrift_0 ?_
  have second : ∀ g, fr P0 h g → (∀ q, 0 ≤ q → q < 7 → g 0 0 3 (Int.toNat q) = dE w q) → qT (d + 2) 6 51 [qo 0 0, qo 7 i, qi p, qi house, qi k, qi 0] [] g R := by
    intro g hf h3
    refine q_up (n := k) (C := fun x => x ≤ k → ∀ g, fr P0 h g → (∀ q, 0 ≤ q → q < 7 → g 0 0 3 (Int.toNat q) = dV a (dE w) x.toNat q) → qT (d + 2) 6 51 [qo 0 0, qo 7 i, qi p, qi house, qi k, qi x] [] g R) ?_ 0 (by omega) (by omega) g hf h3
    intro x hx ih hxk g hf h3
    refine sX0_countDrift_51 ⟨fun c => ⟨by omega, ?_⟩, fun c => ?_⟩
    · rw [h3 p p0 (by omega), show x = k by omega]
      exact hR g hf
    · have hb := dPow4 (m := (a 1).toNat) (k := x.toNat) (by omega) (by omega)
      refine x_driftOnce (q7 g hf) hW (v := dV a (dE w) x.toNat) (V := (((a 1).toNat ^ x.toNat : Nat) : Int)) (by omega) (fun q q0 q1 => ⟨h3 q q0 q1, dV_b hm.1 w x.toNat q⟩) (fun g' hf' h3' => ?_)
      refine ⟨qR_of (by omega) (by omega), ih (by omega) (by omega) g' (fr_trans hf hf') (fun q q0 q1 => ?_)⟩
      rw [h3' q q0 q1, show (x + 1).toNat = x.toNat + 1 by omega]
      rfl
  refine q_up (n := 7) (C := fun x => x ≤ 7 → ∀ g, fr P0 h g → (∀ q, 0 ≤ q → q < x → g 0 0 3 (Int.toNat q) = dE w q) → qT (d + 2) 6 3 [qo 0 0, qo 7 i, qi p, qi house, qi k, qi x] [] g R) ?_ 0 (by omega) (by omega) h fr_rfl (fun q q0 q1 => absurd q1 (by omega))
  intro x hx ih hxn g hf h3
  have go : ∀ v, v = dE w x → x < 7 → qT (d + 2) 6 3 [qo 0 0, qo 7 i, qi p, qi house, qi k, qi (x + 1)] [] (qup g 0 0 3 (Int.toNat x) v) R := by
    intro v hv hx7
    refine ih hx7 (by omega) _ (fr_trans hf (fr_up rfl)) ?_
    intro q q0 q1
    rw [up_if]
    by_cases e : q.toNat = x.toNat
    · rw [if_pos e, hv, show q = x by omega]
    · rw [if_neg e]
      exact h3 q q0 (by omega)
  refine sX0_countDrift_3 ⟨fun c => second g hf (fun q q0 q1 => h3 q q0 (by omega)), fun c => x_hasPerson (q7 g hf) (fun c1 c2 => ⟨fun c3 => absurd c3 (by decide), fun _ => ⟨by omega, ?_⟩⟩) (fun c1 => ⟨fun _ => ⟨by omega, qR_of (by omega) (by omega), go 0 ?_ (by omega)⟩, fun c3 => absurd rfl c3⟩)⟩
  · rw [qx_live (q7 g hf) hW c1 c2]
    refine ⟨fun c3 => ⟨by omega, qR_of (by omega) (by omega), go 0 ?_ (by omega)⟩, fun c3 => ⟨by omega, qR_of (by omega) (by omega), go 1 ?_ (by omega)⟩⟩
    · unfold dE
      rw [if_neg (fun e => c3 (by rw [e, hl]))]
    · unfold dE
      rw [if_pos (wf_inj hW c1 c2 w0 hw (by rw [hl]; omega))]
  · unfold dE
    rw [if_neg (by omega)]
abbrev PD : Nat → Nat → Nat → Prop := fun c _ j => c = 12 ∧ (j = 37 ∨ j = 38)
theorem m_drifts (hM : qM h 0 a) (hW : qwf B a) {p k : Int} (p0 : 0 ≤ p) (hp : p < a 0) (k0 : 0 ≤ k) (hk : k ≤ 5) (hR : ∀ h', fr PD h h' → (∀ q, 0 ≤ q → q < 7 → h' 12 0 37 (Int.toNat q) = dV a (dE p) k.toNat q) → R none h') : qT (d + 1) 312 0 [qo 12 0, qi p, qi k, qu, qu, qu, qu, qu] [] h R := by
  have hn := wf_n hW
  have hm := wf_m hW
  have q12 : ∀ g, fr PD h g → qM g 0 a := fun g hf => m_fr hM (hf 12 0 20 (fun e => by rcases e.2 with e | e <;> cases e))
  refine sX12_drifts_0 ?_
  have second : ∀ g z4 z5 z6 z7, fr PD h g → (∀ q, 0 ≤ q → q < 7 → g 12 0 37 (Int.toNat q) = dE p q) → qT (d + 1) 312 30 [qo 12 0, qi p, qi k, qi 0, z4, z5, z6, z7] [] g R := by
    intro g z4 z5 z6 z7 hf h3
    refine q_up (n := k) (C := fun x => x ≤ k → ∀ g z4 z5 z6 z7, fr PD h g → (∀ q, 0 ≤ q → q < 7 → g 12 0 37 (Int.toNat q) = dV a (dE p) x.toNat q) → qT (d + 1) 312 30 [qo 12 0, qi p, qi k, qi x, z4, z5, z6, z7] [] g R) ?_ 0 (by omega) (by omega) g z4 z5 z6 z7 hf h3
    intro x hx ih hxk g z4 z5 z6 z7 hf h3
    have hb := dPow4 (m := (a 1).toNat) (k := x.toNat)
    refine sX12_drifts_30 ⟨fun c => hR g hf (fun q q0 q1 => by rw [h3 q q0 q1, show x = k by omega]), fun c => ?_⟩
    have hb := hb (by omega) (by omega)
    have hv : ∀ q, 0 ≤ dV a (dE p) x.toNat q ∧ dV a (dE p) x.toNat q ≤ 10000 := fun q => by have := dV_b hm.1 p x.toNat q; omega
    -- copy
    have copy : ∀ g z5 z6 z7, fr PD h g → (∀ q, 0 ≤ q → q < 7 → g 12 0 38 (Int.toNat q) = dV a (dE p) (x + 1).toNat q) → qT (d + 1) 312 163 [qo 12 0, qi p, qi k, qi x, qi 0, z5, z6, z7] [] g R := by
      intro g z5 z6 z7 hf h8
      refine q_up (n := 7) (C := fun y => y ≤ 7 → ∀ g, fr PD h g → (∀ q, 0 ≤ q → q < 7 → g 12 0 38 (Int.toNat q) = dV a (dE p) (x + 1).toNat q) → (∀ q, 0 ≤ q → q < y → g 12 0 37 (Int.toNat q) = dV a (dE p) (x + 1).toNat q) → qT (d + 1) 312 163 [qo 12 0, qi p, qi k, qi x, qi y, z5, z6, z7] [] g R) ?_ 0 (by omega) (by omega) g hf h8 (fun q q0 q1 => absurd q1 (by omega))
      intro y hy ihy hyn g hf h8 h7
      refine sX12_drifts_163 ⟨fun c2 => ⟨qR_of (by omega) (by omega), ih (by omega) (by omega) g _ _ _ _ hf (fun q q0 q1 => h7 q q0 (by omega))⟩, fun c2 => ⟨by omega, by omega, qR_of (by omega) (by omega), ihy (by omega) (by omega) _ (fr_trans hf (fr_up ⟨rfl, Or.inl rfl⟩)) (fun q q0 q1 => by rw [up_j (by decide)]; exact h8 q q0 q1) (fun q q0 q1 => ?_)⟩⟩
      rw [up_if]
      by_cases e : q.toNat = y.toNat
      · rw [if_pos e, show q = y by omega]
        exact h8 y hy (by omega)
      · rw [if_neg e]
        exact h7 q q0 (by omega)
    -- over the stairs
    have stairs : ∀ g z5 z6 z7, fr PD h g → (∀ q, 0 ≤ q → q < 7 → g 12 0 37 (Int.toNat q) = dV a (dE p) x.toNat q) → (∀ q, 0 ≤ q → q < 7 → g 12 0 38 (Int.toNat q) = 0) → qT (d + 1) 312 62 [qo 12 0, qi p, qi k, qi x, qi 0, z5, z6, z7] [] g R := by
      intro g z5 z6 z7 hf h3 h8
      refine q_up (n := a 1) (C := fun s => s ≤ a 1 → ∀ g z5 z6 z7, fr PD h g → (∀ q, 0 ≤ q → q < 7 → g 12 0 37 (Int.toNat q) = dV a (dE p) x.toNat q) → (∀ q, 0 ≤ q → q < 7 → g 12 0 38 (Int.toNat q) = qsum (fun t => dV a (dE p) x.toNat (aSw a t q)) s) → qT (d + 1) 312 62 [qo 12 0, qi p, qi k, qi x, qi s, z5, z6, z7] [] g R) ?_ 0 (by omega) (by omega) g z5 z6 z7 hf h3 h8
      intro s hs ihs hsm g z5 z6 z7 hf h3 h8
      refine sX12_drifts_62 ?_
      rw [m_0 (q12 g hf) (by omega) (by omega)]
      refine ⟨by omega, fun c2 => copy g _ _ _ hf (fun q q0 q1 => ?_), fun c2 => ?_⟩
      · rw [h8 q q0 q1, show s = a 1 by omega, show (x + 1).toNat = x.toNat + 1 by omega]
        rfl
      · have hsm' : s < a 1 := by omega
        have h5 := wf_st hW hs hsm'
        rw [m_0 (q12 g hf) (by omega : 0 ≤ 70 + s) (by omega), m_0 (q12 g hf) (by omega : 0 ≤ 80 + s) (by omega)]
        refine ⟨qR_of (by omega) (by omega), by omega, qR_of (by omega) (by omega), by omega, ?_⟩
        have bs : ∀ q, 0 ≤ qsum (fun t => dV a (dE p) x.toNat (aSw a t q)) s ∧ qsum (fun t => dV a (dE p) x.toNat (aSw a t q)) s ≤ 100000 := by
          intro q
          have h1 := qsum_b (f := fun t => dV a (dE p) x.toNat (aSw a t q)) (V := 10000) s hs (fun t t0 t1 => hv _)
          have h2 : s.toNat * 10000 ≤ 10 * 10000 := Nat.mul_le_mul_right _ (by omega)
          omega
        refine q_up (n := 7) (C := fun y => y ≤ 7 → ∀ g, fr PD h g → (∀ q, 0 ≤ q → q < 7 → g 12 0 37 (Int.toNat q) = dV a (dE p) x.toNat q) → (∀ q, 0 ≤ q → q < 7 → g 12 0 38 (Int.toNat q) = qsum (fun t => dV a (dE p) x.toNat (aSw a t q)) s + (if aSw a s q < y then dV a (dE p) x.toNat (aSw a s q) else 0)) → qT (d + 1) 312 100 [qo 12 0, qi p, qi k, qi x, qi s, qi (a (70 + s)), qi (a (80 + s)), qi y] [] g R) ?_ 0 (by omega) (by omega) g hf h3 (fun q q0 q1 => ?_)
        · intro y hy ihy hyn g hf h3 h8
          have step : ∀ w, 0 ≤ w → w < 7 → aSw a s w = y → y < 7 → qT (d + 1) 312 100 [qo 12 0, qi p, qi k, qi x, qi s, qi (a (70 + s)), qi (a (80 + s)), qi (y + 1)] [] (qup g 12 0 38 (Int.toNat w) (g 12 0 38 (Int.toNat w) + g 12 0 37 (Int.toNat y))) R := by
            intro w w0 w1 hw hy7
            refine ihy hy7 (by omega) _ (fr_trans hf (fr_up ⟨rfl, Or.inr rfl⟩)) (fun q q0 q1 => by rw [up_j (by decide)]; exact h3 q q0 q1) (fun q q0 q1 => ?_)
            rw [up_if]
            by_cases e : q = w
            · rw [if_pos (by rw [e]), h8 w w0 w1, h3 y hy hy7, e, hw, if_neg (by omega), if_pos (by omega)]
              omega
            · have ne : aSw a s q ≠ y := fun e2 => e (by rw [← aSw_sw a s q, e2, ← hw, aSw_sw])
              rw [if_neg (by omega), h8 q q0 q1]
              by_cases c4 : aSw a s q < y
              · rw [if_pos c4, if_pos (by omega)]
              · rw [if_neg c4, if_neg (by omega)]
          have rng : ∀ w, 0 ≤ w → w < 7 → y < 7 → qRL (g 12 0 38 (Int.toNat w) + g 12 0 37 (Int.toNat y)) := by
            intro w w0 w1 hy7
            rw [h8 w w0 w1, h3 y hy hy7]
            have b1 := bs w
            have b2 := hv (aSw a s w)
            have b3 := hv y
            split <;> exact qRL_of (by omega) (by omega)
          refine sX12_drifts_100 ⟨fun c3 => ⟨qR_of (by omega) (by omega), ihs hsm' (by omega) g _ _ _ hf h3 (fun q q0 q1 => ?_)⟩, fun c3 => ⟨fun c4 => ⟨fun c5 => ?_, fun c5 => ?_⟩, fun c4 => ?_⟩⟩
          · have h9 := aSw_in hW hs hsm' q0 q1
            rw [h8 q q0 q1, if_pos (by omega), qsum_s hs]
          · exact ⟨by omega, by omega, rng y hy (by omega) (by omega), by omega, qR_of (by omega) (by omega), step y hy (by omega) (by unfold aSw; rw [if_neg c4, if_neg c5]) (by omega)⟩
          · exact ⟨by omega, by omega, rng _ h5.1.1 (by omega) (by omega), by omega, qR_of (by omega) (by omega), step _ h5.1.1 (by omega) (by unfold aSw; rw [if_pos rfl]; omega) (by omega)⟩
          · refine ⟨by omega, by omega, rng _ h5.2.1.1 (by omega) (by omega), by omega, qR_of (by omega) (by omega), step _ h5.2.1.1 (by omega) ?_ (by omega)⟩
            unfold aSw
            rw [if_neg (fun e => h5.2.2.1 e.symm), if_pos rfl]
            omega
        · have h9 := aSw_in hW hs hsm' q0 q1
          rw [h8 q q0 q1, if_neg (by omega), Int.add_zero]
    refine q_up (n := 7) (C := fun y => y ≤ 7 → ∀ g, fr PD h g → (∀ q, 0 ≤ q → q < 7 → g 12 0 37 (Int.toNat q) = dV a (dE p) x.toNat q) → (∀ q, 0 ≤ q → q < y → g 12 0 38 (Int.toNat q) = 0) → qT (d + 1) 312 38 [qo 12 0, qi p, qi k, qi x, qi y, z5, z6, z7] [] g R) ?_ 0 (by omega) (by omega) g hf h3 (fun q q0 q1 => absurd q1 (by omega))
    intro y hy ihy hyn g hf h3 h8
    refine sX12_drifts_38 ⟨fun c2 => stairs g _ _ _ hf h3 (fun q q0 q1 => h8 q q0 (by omega)), fun c2 => ⟨by omega, qR_of (by omega) (by omega), ihy (by omega) (by omega) _ (fr_trans hf (fr_up ⟨rfl, Or.inr rfl⟩)) (fun q q0 q1 => by rw [up_j (by decide)]; exact h3 q q0 q1) (fun q q0 q1 => ?_)⟩⟩
    rw [up_if]
    by_cases e : q.toNat = y.toNat
    · rw [if_pos e]
    · rw [if_neg e]
      exact h8 q q0 (by omega)
  refine q_up (n := 7) (C := fun x => x ≤ 7 → ∀ g, fr PD h g → (∀ q, 0 ≤ q → q < x → g 12 0 37 (Int.toNat q) = 0) → qT (d + 1) 312 2 [qo 12 0, qi p, qi k, qi x, qu, qu, qu, qu] [] g R) ?_ 0 (by omega) (by omega) h fr_rfl (fun q q0 q1 => absurd q1 (by omega))
  intro x hx ih hxn g hf h3
  refine sX12_drifts_2 ⟨fun c => ⟨by omega, second _ _ _ _ _ (fr_trans hf (fr_up ⟨rfl, Or.inl rfl⟩)) (fun q q0 q1 => ?_)⟩, fun c => ⟨by omega, qR_of (by omega) (by omega), ih (by omega) (by omega) _ (fr_trans hf (fr_up ⟨rfl, Or.inl rfl⟩)) (fun q q0 q1 => ?_)⟩⟩
  · rw [up_if]
    unfold dE
    by_cases e : q = p
    · rw [if_pos (by rw [e]), if_pos e]
    · rw [if_neg (by omega), if_neg e]
      exact h3 q q0 (by omega)
  · rw [up_if]
    by_cases e : q.toNat = x.toNat
    · rw [if_pos e]
    · rw [if_neg e]
      exact h3 q q0 (by omega)
end Drf
