/-! goals -/
def gOK (num : Int → Int) (n : Int) : Prop := (∀ p, 0 ≤ p → p < n → 0 ≤ num p ∧ num p < n) ∧ ∀ p q, 0 ≤ p → p < q → q < n → num p ≠ num q
/-- a set of the first so many numbers -/
def sOf (S : Nat) (num : Int → Int) (p : Int) : Prop := S < 128 ∧ ∀ v : Nat, v < 7 → (S.testBit v = true ↔ ∃ q, 0 ≤ q ∧ q < p ∧ num q = v)
theorem sOf_0 {num : Int → Int} : sOf 0 num 0 := ⟨by omega, fun v _ => by
  rw [Nat.zero_testBit]
  constructor
  · intro c; cases c
  · rintro ⟨q, q0, q1, _⟩; omega⟩
theorem sOf_s {S : Nat} {num : Int → Int} {p : Int} (h : sOf S num p) (p0 : 0 ≤ p) (v0 : 0 ≤ num p) (v7 : num p < 7) : qor (S : Int) (qshl 1 (num p)) = ((S ||| 2 ^ (num p).toNat : Nat) : Int) ∧ sOf (S ||| 2 ^ (num p).toNat) num (p + 1) := by
  have pv : (2 : Nat) ^ (num p).toNat < 2 ^ 7 := Nat.pow_lt_pow_right (by decide) (by omega)
  have h1 := h.1
  refine ⟨?_, ?_, fun v hv => ?_⟩
  · rw [q_oneI v0 (by omega)]
    exact q_or (by omega) (by omega)
  · exact Nat.or_lt_two_pow (n := 7) (by omega) (by omega)
  · rw [q_setbit, Bool.or_eq_true, h.2 v hv, decide_eq_true_eq]
    constructor
    · rintro (⟨q, q0, q1, q2⟩ | e)
      · exact ⟨q, q0, by omega, q2⟩
      · exact ⟨p, p0, by omega, by omega⟩
    · rintro ⟨q, q0, q1, q2⟩
      by_cases e : q = p
      · right; rw [e] at q2; omega
      · left; exact ⟨q, q0, by omega, q2⟩
section Am
variable {d : Nat} {R : Option qV → qH → Prop} {h : qH} {a : qB} {B : Int} {num : Int → Int}
theorem x_aimAt {t : Nat} {n : Int} (n0 : 0 ≤ n) (n7 : n ≤ 7) (hnum : ∀ p, 0 ≤ p → p < n → h 10 t 0 (Int.toNat p) = num p) (h1 : gOK num n → ∀ h', fr (fun c _ j => c = 6 ∧ j = 4) h h' → (∀ p, 0 ≤ p → p < n → h' 6 0 4 (Int.toNat p) = num p) → R (some (qi 1)) h') (h0 : ¬ gOK num n → ∀ h', fr (fun c _ j => c = 6 ∧ j = 4) h h' → R (some (qi 0)) h') : qT (d + 1) 37 0 [qo 6 0, qo 10 t, qi n, qu, qu, qu, qu, qu] [] h R := by
  refine sX6_aimAt_0 ?_
  refine q_up (n := n) (C := fun p => p ≤ n → ∀ (S : Nat) g z1 z2, fr (fun c _ j => c = 6 ∧ j = 4) h g → sOf S num p → (∀ q, 0 ≤ q → q < p → g 6 0 4 (Int.toNat q) = num q ∧ 0 ≤ num q ∧ num q < n) → (∀ q r, 0 ≤ q → q < r → r < p → num q ≠ num r) → qT (d + 1) 37 5 [qo 6 0, qo 10 t, qi n, qi (S : Int), qi p, z1, qu, z2] [] g R) ?_ 0 (by omega) n0 0 h _ _ fr_rfl sOf_0 (fun q q0 q1 => absurd q1 (by omega)) (fun q r q0 q1 r1 => absurd r1 (by omega))
  intro p hp ih hpn S g z1 z2 hf hS hq hd
  refine sX6_aimAt_5 ⟨fun c => ⟨by omega, h1 ⟨fun q q0 q1 => (hq q q0 (by omega)).2, fun q r q0 qr r1 => hd q r q0 qr (by omega)⟩ g hf (fun q q0 q1 => (hq q q0 (by omega)).1)⟩, fun c => ⟨by omega, ?_⟩⟩
  have hp' : p < n := by omega
  rw [hf 10 t 0 (by omega), hnum p hp hp']
  have no : ¬ (0 ≤ num p ∧ num p < n) → R (some (qi 0)) g := fun e => h0 (fun e2 => e (e2.1 p hp hp')) g hf
  refine ⟨fun c1 => ⟨fun _ => ⟨by omega, no (by rw [qlcmp_lt] at c1; omega)⟩, fun c2 => absurd rfl c2⟩, fun c1 => ⟨fun c2 => ⟨fun _ => ⟨by omega, no (by rw [qlcmp_ge] at c2; omega)⟩, fun c3 => absurd rfl c3⟩, fun c2 => ?_⟩⟩
  rw [qlcmp_lt] at c1
  rw [qlcmp_ge] at c2
  have h7 : num p < 7 := by omega
  have h0p : 0 ≤ num p := by omega
  rw [ql2i_s h0p h7, q_bitI (by have := hS.1; omega) h0p (by omega)]
  have hb := hS.2 (num p).toNat (by omega)
  have ss := sOf_s hS hp h0p h7
  rw [show (((num p).toNat : Nat) : Int) = num p by omega] at hb
  refine ⟨fun c3 => absurd c3 (by omega), fun _ => ⟨fun c3 => ⟨by omega, qR_of (by omega) (by omega), ?_⟩, fun c3 => ⟨by omega, ?_⟩⟩⟩
  · have nb : ¬ S.testBit (num p).toNat = true := fun e => by rw [if_pos e] at c3; exact absurd c3 (by decide)
    rw [ss.1]
    refine ih hp' (by omega) _ _ _ _ (fr_trans hf (fr_up ⟨rfl, rfl⟩)) ss.2 (fun q q0 q1 => ?_) (fun q r q0 qr r1 => ?_)
    · rw [up_I q0 hp]
      by_cases e : q = p
      · rw [if_pos e, e]; exact ⟨rfl, h0p, by omega⟩
      · rw [if_neg e]; exact hq q q0 (by omega)
    · by_cases e : r = p
      · rw [e]
        intro e2
        exact nb (hb.mpr ⟨q, q0, by omega, e2⟩)
      · exact hd q r q0 qr (by omega)
  · have yb : S.testBit (num p).toNat = true := by
      by_cases e : S.testBit (num p).toNat = true
      · exact e
      · rw [if_neg e] at c3; exact absurd rfl c3
    obtain ⟨q, q0, q1, q2⟩ := hb.mp yb
    exact h0 (fun e2 => e2.2 q p q0 q1 hp' q2) g hf
theorem m_goalLoop {t : Int} (t0 : 0 ≤ t) (t4 : t < 4) (hM : qM h 0 a) (hW : qwf B a) (hnum : ∀ p, 0 ≤ p → p < a 0 → h 12 0 6 (Int.toNat (60 * t + p)) = num p) (h1 : gOK num (a 0) → ∀ h', fr (fun c _ j => c = 12 ∧ j = 29) h h' → (∀ p, 0 ≤ p → p < a 0 → h' 12 0 29 (Int.toNat p) = num p) → R (some (qi 0)) h') (h0 : ¬ gOK num (a 0) → ∀ h', fr (fun c _ j => c = 12 ∧ j = 29) h h' → R (some (qi 5)) h') : qT (d + 2) 287 42 [qo 12 0, qi t, qi 0, qi 0, qu, qu] [] h R := by
  have hn := wf_n hW
  refine q_up (n := a 0) (C := fun p => p ≤ a 0 → ∀ (S : Nat) g z1, fr (fun c _ j => c = 12 ∧ j = 29) h g → sOf S num p → (∀ q, 0 ≤ q → q < p → g 12 0 29 (Int.toNat q) = num q ∧ 0 ≤ num q ∧ num q < a 0) → (∀ q r, 0 ≤ q → q < r → r < p → num q ≠ num r) → qT (d + 2) 287 42 [qo 12 0, qi t, qi (S : Int), qi p, z1, qu] [] g R) ?_ 0 (by omega) hn.1 0 h _ fr_rfl sOf_0 (fun q q0 q1 => absurd q1 (by omega)) (fun q r q0 q1 r1 => absurd r1 (by omega))
  intro p hp ih hpn S g z1 hf hS hq hd
  have hM' := m_fr hM (hf 12 0 20 (by omega))
  refine sX12_whyNoGoal_42 ?_
  rw [m_0 hM' (by omega) (by omega)]
  refine ⟨by omega, fun c => h1 ⟨fun q q0 q1 => (hq q q0 (by omega)).2, fun q r q0 qr r1 => hd q r q0 qr (by omega)⟩ g hf (fun q q0 q1 => (hq q q0 (by omega)).1), fun c => m_numberOf t0 t4 hp (by omega) ?_⟩
  have hp' : p < a 0 := by omega
  dsimp only [qrl]
  rw [hf 12 0 6 (by omega), hnum p hp hp', m_0 hM' (by omega) (by omega)]
  refine ⟨by omega, qR_of (by omega) (by omega), m_isIn (fun c1 c2 => ⟨fun c3 => absurd c3 (by decide), fun _ => ?_⟩) (fun c1 => ⟨fun _ => h0 (fun e2 => c1 (by have := e2.1 p hp hp'; omega)) g hf, fun c3 => absurd rfl c3⟩)⟩
  have h7 : num p < 7 := by omega
  rw [ql2i_s c1 h7]
  have hb := hS.2 (num p).toNat (by omega)
  have ss := sOf_s hS hp c1 h7
  rw [show (((num p).toNat : Nat) : Int) = num p by omega] at hb
  refine m_has (by have := hS.1; omega) c1 (by omega) (fun yb => ⟨fun c3 => absurd c3 (by decide), fun _ => ?_⟩) (fun nb => ⟨fun _ => ⟨by omega, qR_of (by omega) (by omega), ?_⟩, fun c3 => absurd rfl c3⟩)
  · obtain ⟨q, q0, q1, q2⟩ := hb.mp yb
    exact h0 (fun e2 => e2.2 q p q0 q1 hp' q2) g hf
  · rw [ss.1]
    refine ih hp' (by omega) _ _ _ (fr_trans hf (fr_up ⟨rfl, rfl⟩)) ss.2 (fun q q0 q1 => ?_) (fun q r q0 qr r1 => ?_)
    · rw [up_I q0 hp]
      by_cases e : q = p
      · rw [if_pos e, e]; exact ⟨rfl, c1, by omega⟩
      · rw [if_neg e]; exact hq q q0 (by omega)
    · by_cases e : r = p
      · rw [e]
        intro e2
        have := hb.mpr ⟨q, q0, by omega, e2⟩
        rw [this] at nb
        cases nb
      · exact hd q r q0 qr (by omega)
/-- a goal that can be is a way to live -/
theorem gOK_row (hW : qwf B a) (hg : gOK num (a 0)) : qwf B (mix a (fun x => num (x - 14))) ∧ bA a (mix a (fun x => num (x - 14))) ∧ isG a num (mix a (fun x => num (x - 14))) := by
  have hn := wf_n hW
  have e : ∀ p : Int, num (14 + p - 14) = num p := fun p => by rw [show 14 + p - 14 = p by omega]
  refine ⟨mix_wf hW (fun p p0 p1 => ?_) (fun p q p0 p1 q0 q1 he => ?_), mix_A, fun p p0 p1 => ?_⟩
  · show 0 ≤ num (14 + p - 14) ∧ num (14 + p - 14) < a 0
    rw [e]; exact hg.1 p p0 p1
  · have he : num (14 + p - 14) = num (14 + q - 14) := he
    rw [e, e] at he
    rcases Int.lt_trichotomy p q with c | c | c
    · exact absurd he (hg.2 p q p0 c q1)
    · exact c
    · exact absurd he.symm (hg.2 q p q0 c p1)
  · rw [mix_l p0 (by omega)]
    exact e p
end Am
