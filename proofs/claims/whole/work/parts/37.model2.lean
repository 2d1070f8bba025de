/-! how many bits -/
def sPopTo (S : Nat) : Nat → Int
  | 0 => 0
  | k + 1 => sPopTo S k + (if S.testBit k then 1 else 0)
def sPop (S : Nat) : Int := sPopTo S 10
def bc1 (x : Int) : Int := x - qand (qushr x 1) 1431655765
def bc2 (x : Int) : Int := qand x 858993459 + qand (qushr x 2) 858993459
def bc3 (x : Int) : Int := x + qushr x 4
def bc4 (x : Int) : Int := qand x 252645135 + qushr (qand x 252645135) 8
def bc5 (x : Int) : Int := x + qushr x 16
def bcR (x : Int) : Bool := decide (-2147483648 ≤ x) && decide (x < 2147483648)
def bcA (S : Nat) : Bool := bcR (bc1 S) && bcR (bc2 (bc1 S)) && bcR (bc3 (bc2 (bc1 S))) && bcR (bc4 (bc3 (bc2 (bc1 S)))) && bcR (bc5 (bc4 (bc3 (bc2 (bc1 S))))) && decide (qand (bc5 (bc4 (bc3 (bc2 (bc1 S))))) 63 = sPop S)
theorem bcR_of {x : Int} (h : bcR x = true) : qR x := by
  unfold bcR at h
  rw [Bool.and_eq_true, decide_eq_true_iff, decide_eq_true_iff] at h
  exact h
set_option maxRecDepth 100000 in
theorem bc_all : ∀ S, S < 128 → bcA S = true := by decide
theorem j_bitCount {d : Nat} {R : Option qV → qH → Prop} {h : qH} {S : Nat} (hS : S < 128) (hR : R (some (qi (sPop S))) h) : qT (d + 1) 329 0 [qi (S : Int)] [] h R := by
  have hA := bc_all S hS
  unfold bcA at hA
  simp only [Bool.and_eq_true, decide_eq_true_iff] at hA
  obtain ⟨⟨⟨⟨⟨h1, h2⟩, h3⟩, h4⟩, h5⟩, h6⟩ := hA
  rw [← h6] at hR
  exact sJ6_bitCount_0f7a4_0 ⟨bcR_of h1, bcR_of h2, bcR_of h3, bcR_of h4, bcR_of h5, hR⟩
theorem sPopTo_b (S : Nat) (k : Nat) : 0 ≤ sPopTo S k ∧ sPopTo S k ≤ k := by
  induction k with
  | zero => exact ⟨Int.le_refl _, Int.le_refl _⟩
  | succ k ih =>
    show 0 ≤ sPopTo S k + (if S.testBit k then 1 else 0) ∧ sPopTo S k + (if S.testBit k then 1 else 0) ≤ ((k + 1 : Nat) : Int)
    split <;> omega
/-- the class's sets of few -/
theorem q_bitI {S : Nat} {x : Int} (hS : S < 2147483648) (h0 : 0 ≤ x) (h1 : x < 31) : qand (qshr (S : Int) x) 1 = if S.testBit x.toNat then 1 else 0 := by
  have := q_bit (a := S) (k := x.toNat) hS (by omega)
  rwa [show ((x.toNat : Nat) : Int) = x by omega] at this
theorem q_oneI {x : Int} (h0 : 0 ≤ x) (h1 : x < 31) : qshl 1 x = ((2 ^ x.toNat : Nat) : Int) := by
  have := q_one (k := x.toNat) (by omega)
  rwa [show ((x.toNat : Nat) : Int) = x by omega] at this
theorem q_pow_lt {x : Int} {n : Nat} (h0 : 0 ≤ x) (h1 : x < n) : 2 ^ x.toNat < 2 ^ n := Nat.pow_lt_pow_right (by decide) (by omega)
theorem aHome_nat {a : qB} {n : Int} (h0 : 0 ≤ n) (h7 : n ≤ 7) : ∃ S : Nat, aHome a n = S ∧ S < 128 := by
  refine qfold_inv (fun (x : Int) (r : Int) => ∃ S : Nat, r = (S : Int) ∧ S < 128) ⟨0, rfl, by decide⟩ ?_ h0
  rintro x r hx hxn ⟨S, rfl, hS⟩
  split
  · have hp := q_pow_lt (x := x) (n := 7) hx (by omega)
    rw [q_oneI hx (by omega), q_or (by omega) (by omega)]
    exact ⟨_, rfl, Nat.or_lt_two_pow (n := 7) hS hp⟩
  · exact ⟨S, rfl, hS⟩
section M2
variable {d : Nat} {R : Option qV → qH → Prop} {h : qH} {a : qB} {B o : Int}
theorem m_has {S : Nat} {x : Int} (hS : S < 2147483648) (h0 : 0 ≤ x) (h1 : x < 31) (ht : S.testBit x.toNat = true → R (some (qi 1)) h) (hf : S.testBit x.toNat = false → R (some (qi 0)) h) : qT (d + 1) 188 0 [qi (S : Int), qi x] [] h R := by
  refine sX12_has_0 ?_
  rw [q_bitI hS h0 h1]
  cases hb : S.testBit x.toNat with
  | true => exact ⟨fun c => absurd rfl c, fun _ => ⟨by omega, ht hb⟩⟩
  | false => exact ⟨fun _ => ⟨by omega, hf hb⟩, fun c => absurd (by decide) c⟩
theorem m_sizeOf {S : Nat} (hS : S < 2147483648) (hR : R (some (qi (sPop S))) h) : qT (d + 2) 244 0 [qi (S : Int), qu, qu] [] h R := by
  refine sX12_sizeOf_0 ?_
  refine q_up (n := 10) (C := fun x => x ≤ 10 → ∀ s, s = sPopTo S x.toNat → qT (d + 2) 244 4 [qi (S : Int), qi s, qi x] [] h R) ?_ 0 (by omega) (by omega) 0 rfl
  intro x hx ih hxn s hs
  have hb := sPopTo_b S x.toNat
  refine sX12_sizeOf_4 ⟨fun c => ?_, fun c => ?_⟩
  · rw [show x = 10 by omega] at hs
    rw [hs]
    exact hR
  · have e : sPopTo S (x + 1).toNat = sPopTo S x.toNat + (if S.testBit x.toNat then 1 else 0) := by rw [show (x + 1).toNat = x.toNat + 1 by omega]; rfl
    refine m_has hS hx (by omega) (fun hb1 => ⟨fun c2 => absurd c2 (by decide), fun _ => ⟨qR_of (by omega) (by omega), qR_of (by omega) (by omega), ih (by omega) (by omega) _ ?_⟩⟩) (fun hb1 => ⟨fun _ => ⟨qR_of (by omega) (by omega), qR_of (by omega) (by omega), ih (by omega) (by omega) _ ?_⟩, fun c2 => absurd rfl c2⟩)
    · rw [e, if_pos hb1, hs]
    · rw [e, hb1, hs]; rfl
def aTemps (a : qB) (n k : Int) : qB := fun x => if 7 ≤ x ∧ x < 7 + k then aTemp a n (x - 7) else a x
theorem wf_temps (hW : qwf B a) {n k : Int} (n0 : 0 ≤ n) (hk0 : 0 ≤ k) (hk : k ≤ a 0) : qwf B (aTemps a n k) := by
  have hn7 := wf_n hW
  have hm := wf_m hW
  have e : ∀ x, ¬ (7 ≤ x ∧ x < 7 + k) → aTemps a n k x = a x := by
    intro x n1
    unfold aTemps
    rw [if_neg n1]
  unfold qwf
  rw [e 0 (by omega), e 1 (by omega), e 2 (by omega), e 3 (by omega), e 4 (by omega), e 5 (by omega), e 6 (by omega)]
  refine ⟨wf_n hW, wf_m hW, wf_odds hW, wf_cool hW, wf_night hW, wf_quar hW, wf_made hW, ?_, ?_, ?_, ?_, ?_⟩
  · intro x hx hxn
    have := wf_temp hW hx hxn
    unfold aTemps
    split
    · rw [show 7 + x - 7 = x by omega]; unfold aTemp; split <;> omega
    · omega
  · intro x hx hxn
    rw [e _ (by omega)]
    exact wf_live hW hx hxn
  · intro x y hx hxn hy hyn he
    rw [e _ (by omega), e _ (by omega)] at he
    exact wf_inj hW hx hxn hy hyn he
  · intro x y hx hxn hy hyn
    rw [e _ (by omega)]
    exact wf_like hW hx hxn hy hyn
  · intro s hs hsm
    rw [e _ (by omega), e _ (by omega), e _ (by omega)]
    exact wf_st hW hs hsm
theorem m_passes (hM : qM h 0 a) (hW : qwf B a) (hR : ∀ h', qM h' 0 (aNights a 1) → qfM 0 h h' → R none h') : qT (d + 3) 261 0 [qo 12 0, qu] [] h R := by
  have hn := wf_n hW
  have h4 := wf_night hW
  refine sX12_passes_0 ?_
  have start : qM h 0 (aTemps a 1 0) := by
    intro x x0 x1
    unfold aTemps
    rw [if_neg (by omega)]
    exact hM x x0 x1
  refine q_up (n := a 0) (C := fun x => x ≤ a 0 → ∀ h', qM h' 0 (aTemps a 1 x) → qfM 0 h h' → qT (d + 3) 261 2 [qo 12 0, qi x] [] h' R) ?_ 0 (by omega) (by omega) _ start qfM_rfl
  intro x hx ih hxn h' hM' hf
  have hW' := wf_temps hW (n := 1) (by omega) hx hxn
  have e0 : aTemps a 1 x 0 = a 0 := by unfold aTemps; rw [if_neg (by omega)]
  refine sX12_passes_2 ?_
  rw [m_0 hM' (by omega) (by omega), e0]
  refine ⟨by omega, fun c => ⟨by omega, ?_⟩, fun c => ⟨qR_of (by omega) (by omega), ?_⟩⟩
  · have e4 : aTemps a 1 x 4 = a 4 := by unfold aTemps; rw [if_neg (by omega)]
    rw [m_0 hM' (by omega) (by omega), e4]
    refine ⟨qR_of (by omega) (by omega), by omega, hR _ ?_ (qfM_trans hf (qfM_up (by omega) (by omega) (by omega)))⟩
    have := m_put (v := a 4 + 1) hM' (by omega) (by omega : (4 : Int) = 0 + 4) (by omega) (by omega)
    intro y y0 y1
    rw [this y y0 y1]
    unfold aNights aNightsTo aSet aTemps
    rw [show x = a 0 by omega]
  · have hx7 : x < a 0 := by omega
    have hl := wf_live hW hx hx7
    have ht := wf_temp hW hx hx7
    have el : ∀ p q, 0 ≤ p → p < a 0 → 0 ≤ q → q < a 0 → aLike (aTemps a 1 x) p q = aLike a p q := by
      intro p q p0 hp q0 hq
      unfold aLike aTemps
      rw [if_neg (by omega)]
    have e14 : aTemps a 1 x (14 + x) = a (14 + x) := by unfold aTemps; rw [if_neg (by omega)]
    have e7 : aTemps a 1 x (7 + x) = a (7 + x) := by unfold aTemps; rw [if_neg (by omega)]
    refine m_likeNow hM' hW' hx (by omega) (m_likeOf hM' hW' hx (by omega) hx (by omega) ?_)
    rw [e14, el x _ hx hx7 hl.1 hl.2, el x x hx hx7 hx hx7]
    dsimp only [qri]
    rw [m_0 hM' (by omega) (by omega), e7]
    have fin : ∀ v, v = aTemp a 1 x → qM (qup h' 12 0 20 (Int.toNat (7 + x)) v) 0 (aTemps a 1 (x + 1)) := by
      intro v hv
      have := m_put (v := v) hM' (by omega) (by omega : 7 + x = 0 + (7 + x)) (by omega) (by omega)
      intro y y0 y1
      rw [this y y0 y1]
      by_cases hy : y = 7 + x
      · rw [aSet_eq hy, hv]
        unfold aTemps
        rw [if_pos (by omega), show y - 7 = x by omega]
      · rw [aSet_ne hy]
        unfold aTemps
        by_cases yb : 7 ≤ y ∧ y < 7 + x
        · rw [if_pos yb, if_pos (by omega)]
        · rw [if_neg yb, if_neg (by omega)]
    refine ⟨fun c3 => ⟨qR_of (by omega) (by omega), by omega, qR_of (by omega) (by omega), by omega, qR_of (by omega) (by omega), ih hx7 (by omega) _ (fin _ ?_) (qfM_trans hf (qfM_up (by omega) (by omega) (by omega)))⟩, fun c3 => ⟨qR_of (by omega) (by omega), by omega, qR_of (by omega) (by omega), by omega, qR_of (by omega) (by omega), ih hx7 (by omega) _ (fin _ ?_) (qfM_trans hf (qfM_up (by omega) (by omega) (by omega)))⟩⟩
    · unfold aTemp; rw [if_neg (by omega)]
    · unfold aTemp; rw [if_pos (by omega)]
theorem nights_0 (hW : qwf B a) : aNights a 0 = a := by
  have hn := wf_n hW
  funext x
  unfold aNights aNightsTo
  by_cases h4 : x = 4
  · rw [if_pos h4, h4, Int.add_zero]
  rw [if_neg h4]
  split
  · have ht := wf_temp hW (by omega : 0 ≤ x - 7) (by omega)
    rw [show 7 + (x - 7) = x by omega] at ht
    unfold aTemp
    rw [show 7 + (x - 7) = x by omega]
    split <;> omega
  · rfl
theorem nights_s (hW : qwf B a) {n : Int} (n0 : 0 ≤ n) : aNights (aNights a n) 1 = aNights a (n + 1) := by
  have hn := wf_n hW
  have e : ∀ x, x ≠ 4 → ¬ (7 ≤ x ∧ x < 14) → aNights a n x = a x := by
    intro x h1 h2
    unfold aNights aNightsTo
    rw [if_neg h1, if_neg (by omega)]
  funext x
  by_cases h4 : x = 4
  · rw [h4]
    have : ∀ b m, aNights b m 4 = b 4 + m := fun b m => by unfold aNights aNightsTo; rw [if_pos rfl]
    rw [this, this, this]
    omega
  by_cases h7 : 7 ≤ x ∧ x < 7 + a 0
  · have key : ∀ b m, b 0 = a 0 → aNights b m x = aTemp b m (x - 7) := by
      intro b m hb
      unfold aNights aNightsTo
      rw [if_neg h4, hb, if_pos h7]
    have hl := wf_live hW (by omega : 0 ≤ x - 7) (by omega)
    rw [key _ 1 (e 0 (by omega) (by omega)), key a (n + 1) rfl]
    have ht := wf_temp hW (by omega : 0 ≤ x - 7) (by omega)
    unfold aTemp aLike
    rw [e (14 + (x - 7)) (by omega) (by omega), e (21 + 7 * (x - 7) + a (14 + (x - 7))) (by omega) (by omega), e (21 + 7 * (x - 7) + (x - 7)) (by omega) (by omega), show 7 + (x - 7) = x by omega, key a n rfl]
    rw [show 7 + (x - 7) = x by omega] at ht
    unfold aTemp aLike
    rw [show 7 + (x - 7) = x by omega]
    split <;> omega
  · have key : ∀ b m, b 0 = a 0 → aNights b m x = b x := by
      intro b m hb
      unfold aNights aNightsTo
      rw [if_neg h4, hb, if_neg h7]
    rw [key _ 1 (e 0 (by omega) (by omega)), key a _ rfl, key a _ rfl]
theorem wf_nights (hW : qwf B a) {n : Int} (n0 : 0 ≤ n) (h4 : a 4 + n ≤ 9999) : qwf B (aNights a n) := wf_nightsTo hW n0 h4 (wf_n hW).1 (Int.le_refl _)
def aComeTo (a : qB) (t y : Int) : qB := fun x => if x = 7 + a 0 then t else if x = 14 + a 0 then a 0 else if 21 ≤ x ∧ x < 70 ∧ (((x - 21) / 7 = a 0 ∧ (x - 21) % 7 < y) ∨ ((x - 21) % 7 = a 0 ∧ (x - 21) / 7 < y)) then 5 else a x
theorem m_comes {b t : Int} (hM : qM h (372 * b) a) (b0 : 0 ≤ b) (b4 : b ≤ 4) (n0 : 0 ≤ a 0) (n7 : a 0 < 7) (hR : ∀ h', qM h' (372 * b) (aCome a t) → qfM (372 * b) h h' → R none h') : qT (d + 1) 225 0 [qo 12 0, qi b, qi t, qu, qu, qu] [] h R := by
  refine sX12_comes_0 ?_
  rw [m_at hM (by omega : 372 * b = 372 * b + 0) (by omega) (by omega)]
  refine ⟨qR_of (by omega) (by omega), by omega, qR_of (by omega) (by omega), qR_of (by omega) (by omega), by omega, qR_of (by omega) (by omega), qR_of (by omega) (by omega), by omega, ?_⟩
  have start : qM (qup (qup h 12 0 20 (Int.toNat (372 * b + 7 + a 0)) t) 12 0 20 (Int.toNat (372 * b + 14 + a 0)) (a 0)) (372 * b) (aComeTo a t 0) := by
    have := m_put (v := a 0) (m_put (v := t) hM (by omega) (by omega : 372 * b + 7 + a 0 = 372 * b + (7 + a 0)) (by omega) (by omega)) (by omega) (by omega : 372 * b + 14 + a 0 = 372 * b + (14 + a 0)) (by omega) (by omega)
    intro x x0 x1
    rw [this x x0 x1]
    unfold aComeTo aSet
    by_cases k1 : x = 14 + a 0
    · rw [if_pos k1, if_neg (by omega), if_pos k1]
    rw [if_neg k1]
    by_cases k2 : x = 7 + a 0
    · rw [if_pos k2, if_pos k2]
    rw [if_neg k2, if_neg k2, if_neg k1, if_neg (by omega)]
  refine q_up (n := a 0 + 1) (C := fun y => y ≤ a 0 + 1 → ∀ h', qM h' (372 * b) (aComeTo a t y) → qfM (372 * b) h h' → qT (d + 1) 225 44 [qo 12 0, qi b, qi t, qi (372 * b), qi (a 0), qi y] [] h' R) ?_ 0 (by omega) (by omega) _ start (qfM_trans (qfM_up (by omega) (by omega) (by omega)) (qfM_up (by omega) (by omega) (by omega)))
  intro y hy ih hyn h' hM' hf
  refine sX12_comes_44 ⟨fun c => ?_, fun c => ?_⟩
  · have e0 : aComeTo a t y 0 = a 0 := by unfold aComeTo; rw [if_neg (by omega), if_neg (by omega), if_neg (by omega)]
    rw [m_at hM' (by omega : 372 * b = 372 * b + 0) (by omega) (by omega), e0]
    refine ⟨by omega, qR_of (by omega) (by omega), by omega, hR _ ?_ (qfM_trans hf (qfM_up (by omega) (by omega) (by omega)))⟩
    have := m_put (v := a 0 + 1) hM' (by omega) (by omega : 372 * b = 372 * b + 0) (by omega) (by omega)
    intro x x0 x1
    rw [this x x0 x1]
    unfold aCome aSet aComeTo
    by_cases k0 : x = 0
    · rw [if_pos k0, if_pos k0]
    rw [if_neg k0, if_neg k0, show y = a 0 + 1 by omega]
    by_cases k1 : x = 7 + a 0
    · rw [if_pos k1, if_pos k1]
    rw [if_neg k1, if_neg k1]
    by_cases k2 : x = 14 + a 0
    · rw [if_pos k2, if_pos k2]
    rw [if_neg k2, if_neg k2]
    by_cases k3 : 21 ≤ x ∧ x < 70 ∧ (((x - 21) / 7 = a 0 ∧ (x - 21) % 7 < a 0 + 1) ∨ ((x - 21) % 7 = a 0 ∧ (x - 21) / 7 < a 0 + 1))
    · rw [if_pos k3, if_pos (by omega)]
    · rw [if_neg k3, if_neg (by omega)]
  · refine ⟨qR_of (by omega) (by omega), qR_of (by omega) (by omega), qR_of (by omega) (by omega), qR_of (by omega) (by omega), by omega, qR_of (by omega) (by omega), qR_of (by omega) (by omega), qR_of (by omega) (by omega), qR_of (by omega) (by omega), by omega, qR_of (by omega) (by omega), ih (by omega) (by omega) _ ?_ (qfM_trans hf (qfM_trans (qfM_up (by omega) (by omega) (by omega)) (qfM_up (by omega) (by omega) (by omega))))⟩
    have := m_put (v := 5) (m_put (v := 5) hM' (by omega) (by omega : 372 * b + 21 + 7 * a 0 + y = 372 * b + (21 + 7 * a 0 + y)) (by omega) (by omega)) (by omega) (by omega : 372 * b + 21 + 7 * y + a 0 = 372 * b + (21 + 7 * y + a 0)) (by omega) (by omega)
    intro x x0 x1
    rw [this x x0 x1]
    unfold aSet
    by_cases k1 : x = 21 + 7 * y + a 0
    · rw [if_pos k1]
      unfold aComeTo
      rw [if_neg (by omega), if_neg (by omega), if_pos (by omega)]
    rw [if_neg k1]
    by_cases k2 : x = 21 + 7 * a 0 + y
    · rw [if_pos k2]
      unfold aComeTo
      rw [if_neg (by omega), if_neg (by omega), if_pos (by omega)]
    rw [if_neg k2]
    unfold aComeTo
    by_cases k3 : x = 7 + a 0
    · rw [if_pos k3, if_pos k3]
    rw [if_neg k3, if_neg k3]
    by_cases k4 : x = 14 + a 0
    · rw [if_pos k4, if_pos k4]
    rw [if_neg k4, if_neg k4]
    by_cases k5 : 21 ≤ x ∧ x < 70 ∧ (((x - 21) / 7 = a 0 ∧ (x - 21) % 7 < y) ∨ ((x - 21) % 7 = a 0 ∧ (x - 21) / 7 < y))
    · rw [if_pos k5, if_pos (by omega)]
    · rw [if_neg k5, if_neg (by omega)]
theorem m_builds {b p q g : Int} (hM : qM h (372 * b) a) (b0 : 0 ≤ b) (b4 : b ≤ 4) (n0 : 0 ≤ a 1) (n7 : a 1 < 10) (hR : ∀ h', qM h' (372 * b) (aBuild a p q g) → qfM (372 * b) h h' → R none h') : qT (d + 1) 228 0 [qo 12 0, qi b, qi p, qi q, qi g, qu, qu] [] h R := by
  refine sX12_builds_0 ?_
  have e1 := m_at hM (by omega : 372 * b + 1 = 372 * b + 1) (by omega) (by omega)
  rw [e1]
  have h1 := m_put (v := p) hM (by omega) (by omega : 372 * b + 70 + a 1 = 372 * b + (70 + a 1)) (by omega) (by omega)
  have h2 := m_put (v := q) h1 (by omega) (by omega : 372 * b + 80 + a 1 = 372 * b + (80 + a 1)) (by omega) (by omega)
  have h3 := m_put (v := g) h2 (by omega) (by omega : 372 * b + 90 + a 1 = 372 * b + (90 + a 1)) (by omega) (by omega)
  rw [m_at h3 (by omega : 372 * b + 1 = 372 * b + 1) (by omega) (by omega), aSet_ne (by omega), aSet_ne (by omega), aSet_ne (by omega)]
  refine ⟨qR_of (by omega) (by omega), qR_of (by omega) (by omega), by omega, qR_of (by omega) (by omega), qR_of (by omega) (by omega), by omega, qR_of (by omega) (by omega), qR_of (by omega) (by omega), by omega, qR_of (by omega) (by omega), qR_of (by omega) (by omega), by omega, qR_of (by omega) (by omega), by omega, qR_of (by omega) (by omega), by omega, hR _ ?_ ?_⟩
  · exact m_put h3 (by omega) (by omega) (by omega) (by omega)
  · exact qfM_trans (qfM_trans (qfM_trans (qfM_up (by omega) (by omega) (by omega)) (qfM_up (by omega) (by omega) (by omega))) (qfM_up (by omega) (by omega) (by omega))) (qfM_up (by omega) (by omega) (by omega))
theorem m_stairOf {b p q : Int} (hM : qM h (372 * b) a) (b0 : 0 ≤ b) (b4 : b ≤ 4) (n0 : 0 ≤ a 1) (n7 : a 1 ≤ 10) (hR : ∀ r, qfst (fun s => (a (70 + s) = p ∧ a (80 + s) = q) ∨ (a (70 + s) = q ∧ a (80 + s) = p)) (a 1) r → R (some (qi r)) h) : qT (d + 1) 227 0 [qo 12 0, qi b, qi p, qi q, qu, qu, qu, qu] [] h R := by
  refine sX12_stairOf_0 ⟨qR_of (by omega) (by omega), ?_⟩
  refine q_up (n := a 1) (C := fun x => x ≤ a 1 → (∀ s, 0 ≤ s → s < x → ¬ ((a (70 + s) = p ∧ a (80 + s) = q) ∨ (a (70 + s) = q ∧ a (80 + s) = p))) → ∀ z z', qT (d + 1) 227 10 [qo 12 0, qi b, qi p, qi q, qi (372 * b), qi x, z, z'] [] h R) ?_ 0 (by omega) (by omega) (fun y _ _ => absurd (by omega : y < 0) (by omega)) _ _
  intro x hx ih hxn hy z z'
  have step : ¬ ((a (70 + x) = p ∧ a (80 + x) = q) ∨ (a (70 + x) = q ∧ a (80 + x) = p)) → ∀ s, 0 ≤ s → s < x + 1 → ¬ ((a (70 + s) = p ∧ a (80 + s) = q) ∨ (a (70 + s) = q ∧ a (80 + s) = p)) := by
    intro c s s0 s1
    by_cases e : s = x
    · rw [e]; exact c
    · exact hy s s0 (by omega)
  refine sX12_stairOf_10 ?_
  rw [m_at hM (by omega : 372 * b + 1 = 372 * b + 1) (by omega) (by omega)]
  refine ⟨qR_of (by omega) (by omega), by omega, fun c => hR _ (Or.inr ⟨rfl, fun y y0 y1 => hy y y0 (by omega)⟩), fun c => ?_⟩
  rw [m_at hM (by omega : 372 * b + 70 + x = 372 * b + (70 + x)) (by omega) (by omega), m_at hM (by omega : 372 * b + 80 + x = 372 * b + (80 + x)) (by omega) (by omega)]
  have yes : ((a (70 + x) = p ∧ a (80 + x) = q) ∨ (a (70 + x) = q ∧ a (80 + x) = p)) → R (some (qi x)) h := fun c => hR _ (Or.inl ⟨hx, by omega, c, hy⟩)
  have go : ¬ ((a (70 + x) = p ∧ a (80 + x) = q) ∨ (a (70 + x) = q ∧ a (80 + x) = p)) → ∀ z z', qT (d + 1) 227 10 [qo 12 0, qi b, qi p, qi q, qi (372 * b), qi (x + 1), z, z'] [] h R := fun c2 z z' => ih (by omega) (by omega) (step c2) z z'
  repeat' (first | exact yes (by omega) | exact go (by omega) _ _ | assumption | (refine qR_of ?_ ?_ <;> omega) | omega | apply And.intro | intro _)
end M2
