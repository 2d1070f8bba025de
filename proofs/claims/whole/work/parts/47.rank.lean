/-! rows of people as numbers -/
def cB (b : qB) (v p : Int) : Int := qsum (fun q => if b (14 + q) < v then 1 else 0) p
theorem cB_0 {b : qB} {v : Int} : cB b v 0 = 0 := rfl
theorem cB_s {b : qB} {v x : Int} (hx : 0 ≤ x) : cB b v (x + 1) = cB b v x + (if b (14 + x) < v then 1 else 0) := qsum_s hx
theorem cB_add {b : qB} {v p : Int} (p0 : 0 ≤ p) : ∀ k, 0 ≤ k → cB b v p ≤ cB b v (p + k) ∧ cB b v (p + k) ≤ cB b v p + k := by
  apply q_ind
  · rw [Int.add_zero]; omega
  · intro x hx ih
    rw [← Int.add_assoc, cB_s (by omega)]
    split <;> omega
theorem cB_le {b : qB} {v p p' : Int} (p0 : 0 ≤ p) (h : p ≤ p') : cB b v p ≤ cB b v p' ∧ cB b v p' ≤ cB b v p + (p' - p) := by
  have := cB_add (b := b) (v := v) p0 (p' - p) (by omega)
  rwa [show p + (p' - p) = p' by omega] at this
theorem cB_b {b : qB} {v p : Int} (p0 : 0 ≤ p) : 0 ≤ cB b v p ∧ cB b v p ≤ p := by
  have := cB_le (b := b) (v := v) (p := 0) (p' := p) (by omega) p0
  rw [cB_0] at this
  omega
theorem cB_out {b : qB} {v p : Int} (h : ∀ q, 0 ≤ q → q < p → b (14 + q) ≠ v) : cB b (v + 1) p = cB b v p := by
  refine qsum_c (fun q q0 q1 => ?_)
  have := h q q0 q1
  by_cases c : b (14 + q) < v
  · rw [if_pos c, if_pos (by omega)]
  · rw [if_neg c, if_neg (by omega)]
theorem cB_in {B : Int} {b : qB} (hW : qwf B b) {v p o : Int} (hp : p ≤ b 0) (o0 : 0 ≤ o) (ho : o < p) (ev : b (14 + o) = v) : cB b (v + 1) p = cB b v p + 1 := by
  have h1 : cB b (v + 1) p = qsum (fun q => if q = o then 1 else if b (14 + q) < v then 1 else 0) p := by
    refine qsum_c (fun q q0 q1 => ?_)
    by_cases e : q = o
    · rw [if_pos e, e, ev, if_pos (by omega)]
    · have : b (14 + q) ≠ v := fun e2 => e (wf_inj hW q0 (by omega) o0 (by omega) (by omega))
      rw [if_neg e]
      by_cases c : b (14 + q) < v
      · rw [if_pos c, if_pos (by omega)]
      · rw [if_neg c, if_neg (by omega)]
  have h2 := qsum_1 (f := fun q => if b (14 + q) < v then 1 else 0) (g := fun q => if q = o then 1 else if b (14 + q) < v then 1 else 0) o0 (fun q hq => if_neg hq) p (by omega)
  rw [h1, h2, if_pos ho]
  show _ + ((if o = o then (1 : Int) else if b (14 + o) < v then 1 else 0) - (if b (14 + o) < v then 1 else 0)) = _
  rw [if_pos rfl, ev, if_neg (by omega)]
  rfl
theorem cB_v {B : Int} {b : qB} (hW : qwf B b) {v p : Int} (p0 : 0 ≤ p) (hp : p ≤ b 0) : cB b v p ≤ cB b (v + 1) p ∧ cB b (v + 1) p ≤ cB b v p + 1 := by
  by_cases h : ∃ o, 0 ≤ o ∧ o < p ∧ b (14 + o) = v
  · obtain ⟨o, o0, o1, o2⟩ := h
    rw [cB_in hW hp o0 o1 o2]; omega
  · rw [cB_out (fun q q0 q1 e => h ⟨q, q0, q1, e⟩)]; omega
theorem cB_lip {B : Int} {b : qB} (hW : qwf B b) {v p : Int} (p0 : 0 ≤ p) (hp : p ≤ b 0) : ∀ k, 0 ≤ k → cB b v p ≤ cB b (v + k) p ∧ cB b (v + k) p ≤ cB b v p + k := by
  apply q_ind
  · rw [Int.add_zero]; omega
  · intro x hx ih
    have := cB_v hW (v := v + x) p0 hp
    rw [← Int.add_assoc]
    omega
theorem cB_n {B : Int} {b : qB} (hW : qwf B b) : ∀ v, 0 ≤ v → v ≤ b 0 → cB b v (b 0) = v := by
  have hn := wf_n hW
  apply q_ind
  · intro _
    have h1 : cB b 0 (b 0) = qsum (fun _ => 0) (b 0) := qsum_c (fun q q0 q1 => if_neg (by have := wf_live hW q0 q1; omega))
    rw [h1, qsum_z _ hn.1]
  · intro v hv ih hvn
    obtain ⟨w, w0, w1, w2⟩ := aLive_ex hW hv (by omega)
    rw [cB_in hW (Int.le_refl _) w0 w1 w2, ih (by omega)]
/-- the p-th digit of a row -/
def dg (b : qB) (p : Int) : Int := b (14 + p) - cB b (b (14 + p)) p
theorem dg_eq {B : Int} {b : qB} (hW : qwf B b) {p : Int} (p0 : 0 ≤ p) (hp : p < b 0) : dg b p = cB b (b (14 + p)) (b 0) - cB b (b (14 + p)) (p + 1) := by
  have hl := wf_live hW p0 hp
  unfold dg
  rw [cB_n hW _ hl.1 (by omega), cB_s p0, if_neg (by omega)]
  omega
theorem dg_b {B : Int} {b : qB} (hW : qwf B b) {p : Int} (p0 : 0 ≤ p) (hp : p < b 0) : 0 ≤ dg b p ∧ dg b p ≤ b 0 - 1 - p := by
  rw [dg_eq hW p0 hp]
  have := cB_le (b := b) (v := b (14 + p)) (p := p + 1) (p' := b 0) (by omega) (by omega)
  omega
def nF : Nat → Nat
  | 0 => 1
  | k + 1 => (k + 1) * nF k
theorem nF_b : ∀ k, k < 8 → 1 ≤ nF k ∧ nF k ≤ 5040 := by decide
theorem nF_s (k : Nat) : nF (k + 1) = k * nF k + nF k := by
  show (k + 1) * nF k = _
  rw [Nat.add_mul, Nat.one_mul]
def rS (b : qB) : Nat → Int
  | 0 => 0
  | k + 1 => dg b (b 0 - 1 - k) * (nF k : Int) + rS b k
theorem rS_b {B : Int} {b : qB} (hW : qwf B b) : ∀ k : Nat, (k : Int) ≤ b 0 → 0 ≤ rS b k ∧ rS b k < (nF k : Int) := by
  intro k
  induction k with
  | zero => intro _; exact ⟨Int.le_refl 0, (by decide : (0 : Int) < ((1 : Nat) : Int))⟩
  | succ k ih =>
    intro hk
    have h1 := ih (by omega)
    have h2 := dg_b hW (p := b 0 - 1 - k) (by omega) (by omega)
    obtain ⟨D, hD⟩ : ∃ D : Nat, dg b (b 0 - 1 - k) = D := ⟨_, (Int.toNat_of_nonneg h2.1).symm⟩
    show 0 ≤ dg b (b 0 - 1 - k) * (nF k : Int) + rS b k ∧ dg b (b 0 - 1 - k) * (nF k : Int) + rS b k < (nF (k + 1) : Int)
    rw [hD] at h2 ⊢
    have h3 : D * nF k ≤ k * nF k := Nat.mul_le_mul_right _ (by omega)
    rw [nF_s, show (D : Int) * (nF k : Int) = ((D * nF k : Nat) : Int) by rw [Int.natCast_mul]]
    omega
def rk (b : qB) : Int := rS b (b 0).toNat
theorem rk_b {B : Int} {b : qB} (hW : qwf B b) : 0 ≤ rk b ∧ rk b < 5040 := by
  have hn := wf_n hW
  have := rS_b hW (b 0).toNat (by omega)
  have := nF_b (b 0).toNat (by omega)
  unfold rk
  omega
/-- the same number: the same row -/
theorem rS_inj {B : Int} {b b' : qB} (hW : qwf B b) (hW' : qwf B b') (h0 : b' 0 = b 0) : ∀ k : Nat, (k : Int) ≤ b 0 → rS b k = rS b' k → ∀ j : Nat, j < k → dg b (b 0 - 1 - j) = dg b' (b 0 - 1 - j) := by
  intro k
  induction k with
  | zero => intro _ _ j hj; omega
  | succ k ih =>
    intro hk e j hj
    have a1 := rS_b hW k (by omega)
    have a2 := rS_b hW' k (by omega)
    have d1 := dg_b hW (p := b 0 - 1 - k) (by omega) (by omega)
    have d2 := dg_b hW' (p := b 0 - 1 - k) (by omega) (by omega)
    have e : dg b (b 0 - 1 - k) * (nF k : Int) + rS b k = dg b' (b' 0 - 1 - k) * (nF k : Int) + rS b' k := e
    rw [h0] at e
    have ed : dg b (b 0 - 1 - k) = dg b' (b 0 - 1 - k) := by
      have hp : (0 : Int) < (nF k : Int) := by have := nF_b k (by have := wf_n hW; omega); omega
      have q1 : (dg b (b 0 - 1 - k) * (nF k : Int) + rS b k) / (nF k : Int) = dg b (b 0 - 1 - k) := by
        rw [Int.add_comm, Int.add_mul_ediv_right _ _ (by omega), Int.ediv_eq_zero_of_lt a1.1 a1.2]; omega
      have q2 : (dg b' (b 0 - 1 - k) * (nF k : Int) + rS b' k) / (nF k : Int) = dg b' (b 0 - 1 - k) := by
        rw [Int.add_comm, Int.add_mul_ediv_right _ _ (by omega), Int.ediv_eq_zero_of_lt a2.1 a2.2]; omega
      rw [← q1, ← q2, e]
    by_cases c : j = k
    · rw [c]; exact ed
    · rw [ed] at e
      exact ih (by omega) (by omega) j (by omega)
theorem rk_inj {B : Int} {b b' : qB} (hW : qwf B b) (hW' : qwf B b') (h0 : b' 0 = b 0) (e : rk b = rk b') : ∀ p, 0 ≤ p → p < b 0 → b (14 + p) = b' (14 + p) := by
  have hn := wf_n hW
  have hd : ∀ p, 0 ≤ p → p < b 0 → dg b p = dg b' p := by
    intro p p0 hp
    unfold rk at e
    rw [h0] at e
    have := rS_inj hW hW' h0 (b 0).toNat (by omega) e (b 0 - 1 - p).toNat (by omega)
    rwa [show b 0 - 1 - ((b 0 - 1 - p).toNat : Int) = p by omega] at this
  have key : ∀ x, 0 ≤ x → x ≤ b 0 → ∀ p, 0 ≤ p → p < x → b (14 + p) = b' (14 + p) := by
    apply q_ind
    · intro _ p p0 p1; omega
    · intro x hx ih hxn p p0 p1
      by_cases c : p = x
      · subst c
        have ih := ih (by omega)
        have hc : ∀ v, cB b v p = cB b' v p := fun v => qsum_c (fun q q0 q1 => by rw [ih q q0 q1])
        have h1 := hd p p0 (by omega)
        unfold dg at h1
        rw [← hc] at h1
        have l1 := wf_live hW p0 (by omega : p < b 0)
        have l2 := wf_live hW' p0 (by omega : p < b' 0)
        have o1 : ∀ q, 0 ≤ q → q < p → b (14 + q) ≠ b (14 + p) := fun q q0 q1 e2 => by
          have := wf_inj hW q0 (by omega) p0 (by omega) e2
          omega
        have o2 : ∀ q, 0 ≤ q → q < p → b (14 + q) ≠ b' (14 + p) := fun q q0 q1 e2 => by
          rw [ih q q0 q1] at e2
          have := wf_inj hW' q0 (by omega) p0 (by omega) e2
          omega
        rcases Int.lt_trichotomy (b (14 + p)) (b' (14 + p)) with c | c | c
        · have e1 := cB_out o1
          have e2 := (cB_lip hW (v := b (14 + p) + 1) p0 (by omega) (b' (14 + p) - (b (14 + p) + 1)) (by omega)).2
          rw [show b (14 + p) + 1 + (b' (14 + p) - (b (14 + p) + 1)) = b' (14 + p) by omega] at e2
          omega
        · exact c
        · have e1 := cB_out o2
          have e2 := (cB_lip hW (v := b' (14 + p) + 1) p0 (by omega) (b (14 + p) - (b' (14 + p) + 1)) (by omega)).2
          rw [show b' (14 + p) + 1 + (b (14 + p) - (b' (14 + p) + 1)) = b (14 + p) by omega] at e2
          omega
      · exact ih (by omega) p p0 (by omega)
  exact key (b 0) hn.1 (Int.le_refl _)
/-- the number is of who lives where alone -/
theorem rk_c {b b' : qB} (h0 : b' 0 = b 0) (n0 : 0 ≤ b 0) (e : ∀ p, 0 ≤ p → p < b 0 → b' (14 + p) = b (14 + p)) : rk b' = rk b := by
  have hd : ∀ p, 0 ≤ p → p < b 0 → dg b' p = dg b p := by
    intro p p0 hp
    unfold dg
    rw [e p p0 hp]
    have : cB b' (b (14 + p)) p = cB b (b (14 + p)) p := qsum_c (fun q q0 q1 => by rw [e q q0 (by omega)])
    rw [this]
  have key : ∀ k : Nat, (k : Int) ≤ b 0 → rS b' k = rS b k := by
    intro k
    induction k with
    | zero => intro _; rfl
    | succ k ih =>
      intro hk
      show dg b' (b' 0 - 1 - k) * (nF k : Int) + rS b' k = dg b (b 0 - 1 - k) * (nF k : Int) + rS b k
      rw [h0, hd _ (by omega) (by omega), ih (by omega)]
  unfold rk
  rw [h0]
  exact key _ (by omega)
section Rk
variable {d : Nat} {R : Option qV → qH → Prop} {h : qH} {a b : qB} {B : Int}
theorem m_factorial {n : Int} (n0 : 0 ≤ n) (n6 : n ≤ 6) (hR : R (some (qi (nF n.toNat : Int))) h) : qT (d + 1) 275 0 [qi n, qu, qu] [] h R := by
  refine sX12_factorial_0 ?_
  refine q_up (n := n - 1) (C := fun y => (y + 1 ≤ n ∨ y = 0) → qT (d + 1) 275 4 [qi n, qi (nF (y + 1).toNat : Int), qi (y + 2)] [] h R) ?_ 0 (by omega) (by omega)
  intro y hy ih hyn
  refine sX12_factorial_4 ⟨fun c => ?_, fun c => ?_⟩
  · by_cases e : y + 1 = n
    · rw [e]; exact hR
    · have : y = 0 ∧ n = 0 := by omega
      rw [this.2] at hR
      rw [this.1]
      exact hR
  · have e : (nF (y + 1).toNat : Int) * (y + 2) = (nF (y + 1 + 1).toNat : Int) := by
      rw [show (y + 1 + 1).toNat = (y + 1).toNat + 1 by omega]
      show _ = ((((y + 1).toNat + 1) * nF (y + 1).toNat : Nat) : Int)
      rw [Int.natCast_mul, Int.mul_comm]
      congr 1
      omega
    have b1 := nF_b (y + 1 + 1).toNat (by omega)
    rw [e, show y + 2 + 1 = y + 1 + 2 by omega]
    exact ⟨qR_of (by omega) (by omega), qR_of (by omega) (by omega), ih (by omega) (by omega)⟩
theorem m_numberOfRow (hM : qM h 0 a) (hA : bA a b) (hW : qwf B b) (hr : rQ h b) (hR : R (some (qi (rk b))) h) : qT (d + 2) 276 0 [qo 12 0, qu, qu, qu, qu] [] h R := by
  have hn := wf_n hW
  have e0 : a 0 = b 0 := (hA 0 (by omega)).symm
  have hk := rk_b hW
  refine sX12_numberOfRow_0 ?_
  refine q_up (n := b 0) (C := fun p => p ≤ b 0 → ∀ z1 z2, qT (d + 2) 276 4 [qo 12 0, qi (rk b - rS b (b 0 - p).toNat), qi p, z1, z2] [] h R) ?_ 0 (by omega) (by omega) _ _ |> fun H => (by
    rw [show rk b - rS b (b 0 - 0).toNat = 0 by rw [Int.sub_zero]; unfold rk; omega] at H
    exact H)
  intro p hp ih hpn z1 z2
  refine sX12_numberOfRow_4 ?_
  rw [m_0 hM (by omega) (by omega), e0]
  refine ⟨by omega, fun c => ?_, fun c => ⟨qR_of (by omega) (by omega), ?_⟩⟩
  · rw [show (b 0 - p).toNat = 0 by omega]
    show R (some (qi (rk b - 0))) h
    rw [Int.sub_zero]
    exact hR
  · refine q_up (n := b 0) (C := fun q => p + 1 ≤ q → q ≤ b 0 → qT (d + 2) 276 21 [qo 12 0, qi (rk b - rS b (b 0 - p).toNat), qi p, qi (cB b (b (14 + p)) q - cB b (b (14 + p)) (p + 1)), qi q] [] h R) ?_ (p + 1) (by omega) (by omega) (by omega) |> fun H => (by
      rw [Int.sub_self] at H
      exact H)
    intro q hq ihq hpq hqn
    have bq := cB_le (b := b) (v := b (14 + p)) (p := p + 1) (p' := q) (by omega) hpq
    refine sX12_numberOfRow_21 ?_
    rw [m_0 hM (by omega) (by omega), e0]
    refine ⟨by omega, fun c2 => ⟨by omega, qR_of (by omega) (by omega), qR_of (by omega) (by omega), m_factorial (by omega) (by omega) ?_⟩, fun c2 => ⟨by omega, by omega, ?_⟩⟩
    · have eq : q = b 0 := by omega
      subst eq
      rw [← dg_eq hW hp (by omega)]
      have es : rS b (b 0 - p).toNat = dg b p * (nF (b 0 - 1 - p).toNat : Int) + rS b (b 0 - (p + 1)).toNat := by
        rw [show (b 0 - p).toNat = (b 0 - (p + 1)).toNat + 1 by omega]
        show dg b (b 0 - 1 - ((b 0 - (p + 1)).toNat : Int)) * (nF (b 0 - (p + 1)).toNat : Int) + _ = _
        rw [show b 0 - 1 - ((b 0 - (p + 1)).toNat : Int) = p by omega, show b 0 - (p + 1) = b 0 - 1 - p by omega]
      have b1 := rS_b hW (b 0 - p).toNat (by omega)
      have b2 := rS_b hW (b 0 - (p + 1)).toNat (by omega)
      have b3 := nF_b (b 0 - p).toNat (by omega)
      have b4 := nF_b (b 0 - (p + 1)).toNat (by omega)
      have := ih (by omega) (by omega) (qi (dg b p)) (qi (b 0))
      rw [show rk b - rS b (b 0 - (p + 1)).toNat = rk b - rS b (b 0 - p).toNat + dg b p * (nF (b 0 - 1 - p).toNat : Int) by omega] at this
      exact ⟨qR_of (by omega) (by omega), qR_of (by omega) (by omega), qR_of (by omega) (by omega), this⟩
    · rw [hr p hp (by omega), hr q (by omega) (by omega)]
      have := ihq (by omega) (by omega) (by omega)
      rw [cB_s (by omega)] at this
      refine ⟨fun c3 => ⟨qR_of (by omega) (by omega), qR_of (by omega) (by omega), ?_⟩, fun c3 => ⟨qR_of (by omega) (by omega), qR_of (by omega) (by omega), ?_⟩⟩
      · rw [if_neg (by omega)] at this
        rw [show cB b (b (14 + p)) q - cB b (b (14 + p)) (p + 1) + 0 = cB b (b (14 + p)) q + 0 - cB b (b (14 + p)) (p + 1) by omega]
        exact this
      · rw [if_pos (by omega)] at this
        rw [show cB b (b (14 + p)) q - cB b (b (14 + p)) (p + 1) + 1 = cB b (b (14 + p)) q + 1 - cB b (b (14 + p)) (p + 1) by omega]
        exact this
theorem m_rowNow (hM : qM h 0 a) (hW : qwf B a) (hR : ∀ h', rQ h' a → fr P28 h h' → R (some (qi (rk a))) h') : qT (d + 3) 280 0 [qo 12 0, qu] [] h R := by
  have hn := wf_n hW
  refine sX12_rowNow_0 ?_
  refine q_up (n := a 0) (C := fun p => p ≤ a 0 → ∀ g, fr P28 h g → (∀ q, 0 ≤ q → q < p → g 12 0 28 (Int.toNat q) = a (14 + q)) → qT (d + 3) 280 2 [qo 12 0, qi p] [] g R) ?_ 0 (by omega) (by omega) h fr_rfl (fun q q0 q1 => absurd q1 (by omega))
  intro p hp ih hpn g hf hq
  have hM' : qM g 0 a := m_fr hM (hf 12 0 20 (by omega))
  refine sX12_rowNow_2 ?_
  rw [m_0 hM' (by omega) (by omega)]
  refine ⟨by omega, fun c => ?_, fun c => ?_⟩
  · have hr : rQ g a := fun q q0 q1 => hq q q0 (by omega)
    exact m_numberOfRow hM' bA_rfl hW hr (hR g hr hf)
  · rw [m_0 hM' (by omega) (by omega)]
    refine ⟨qR_of (by omega) (by omega), by omega, by omega, qR_of (by omega) (by omega), ih (by omega) (by omega) _ (fr_trans hf (fr_up ⟨rfl, rfl⟩)) (fun q q0 q1 => ?_)⟩
    rw [up_I q0 hp]
    by_cases e : q = p
    · rw [if_pos e, e]
    · rw [if_neg e]; exact hq q q0 (by omega)
end Rk
