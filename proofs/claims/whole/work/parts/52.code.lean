section Ly
variable {d : Nat} {R : Option qV → qH → Prop} {h : qH} {a b : qB} {B : Int}
theorem m_laysRow (hM : qM h 0 a) (hA : bA a b) (hW : qwf B b) (hR : ∀ h', rQ h' b → fr P28 h h' → R none h') : qT (d + 2) 277 0 [qo 12 0, qi (rk b), qu, qu, qu, qu, qu, qu] [] h R := by
  have hn := wf_n hW
  have e0 : a 0 = b 0 := (hA 0 (by omega)).symm
  have qa := q_all hn.1 hn.2
  refine sX12_laysRow_0 ?_
  rw [m_0 hM (by omega) (by omega), e0, qa.1]
  refine ⟨by omega, qR_of (by omega) (by omega), ?_⟩
  refine q_up (n := b 0) (C := fun p => p ≤ b 0 → ∀ g (S : Nat) z1 z2 z3, fr P28 h g → S < 128 → (∀ v : Nat, v < 7 → (S.testBit v = true ↔ ((v : Int) < b 0 ∧ ∀ q, 0 ≤ q → q < p → b (14 + q) ≠ v))) → (∀ q, 0 ≤ q → q < p → g 12 0 28 (Int.toNat q) = b (14 + q)) → qT (d + 2) 277 16 [qo 12 0, qi (rk b), qi (S : Int), qi (rS b (b 0 - p).toNat), qi p, z1, z2, z3] [] g R) ?_ 0 (by omega) (by omega) h _ _ _ _ fr_rfl (by omega) (fun v hv => ?_) (fun q q0 q1 => absurd q1 (by omega)) |> fun H => (by
    rw [Int.sub_zero] at H
    exact H)
  · intro p hp ih hpn g S z1 z2 z3 hf hS hb hq
    have hM' : qM g 0 a := m_fr hM (hf 12 0 20 (by omega))
    refine sX12_laysRow_16 ?_
    rw [m_0 hM' (by omega) (by omega), e0]
    refine ⟨by omega, fun c => hR g (fun q q0 q1 => hq q q0 (by omega)) hf, fun c => ⟨by omega, qR_of (by omega) (by omega), qR_of (by omega) (by omega), m_factorial (by omega) (by omega) ?_⟩⟩
    have hp' : p < b 0 := by omega
    have es : rS b (b 0 - p).toNat = dg b p * (nF (b 0 - 1 - p).toNat : Int) + rS b (b 0 - (p + 1)).toNat := by
      rw [show (b 0 - p).toNat = (b 0 - (p + 1)).toNat + 1 by omega]
      show dg b (b 0 - 1 - ((b 0 - (p + 1)).toNat : Int)) * (nF (b 0 - (p + 1)).toNat : Int) + _ = _
      rw [show b 0 - 1 - ((b 0 - (p + 1)).toNat : Int) = p by omega, show b 0 - (p + 1) = b 0 - 1 - p by omega]
    have b1 := rS_b hW (b 0 - p).toNat (by omega)
    have b2 := rS_b hW (b 0 - (p + 1)).toNat (by omega)
    have b4 := nF_b (b 0 - 1 - p).toNat (by omega)
    have b5 : b 0 - (p + 1) = b 0 - 1 - p := by omega
    rw [b5] at b2 es
    have ed : rS b (b 0 - p).toNat / (nF (b 0 - 1 - p).toNat : Int) = dg b p := by
      rw [es, Int.add_comm, Int.add_mul_ediv_right _ _ (by omega), Int.ediv_eq_zero_of_lt b2.1 b2.2]; omega
    have em : rS b (b 0 - p).toNat % (nF (b 0 - 1 - p).toNat : Int) = rS b (b 0 - 1 - p).toNat := by
      rw [es, Int.add_comm, Int.add_mul_emod_self_right, Int.emod_eq_of_lt b2.1 b2.2]
    refine ⟨⟨b1.1, by omega⟩, ⟨b1.1, by omega⟩, ?_⟩
    rw [ed, em]
    have l1 := wf_live hW hp hp'
    have dgb := dg_b hW hp hp'
    have edg : dg b p = b (14 + p) - cB b (b (14 + p)) p := rfl
    have unus : ∀ q, 0 ≤ q → q < p → b (14 + q) ≠ b (14 + p) := fun q q0 q1 e => by
      have := wf_inj hW q0 (by omega) hp hp' e
      omega
    refine q_up (n := b (14 + p)) (C := fun v => v ≤ b (14 + p) → qT (d + 2) 277 57 [qo 12 0, qi (rk b), qi (S : Int), qi (rS b (b 0 - 1 - p).toNat), qi p, qi (nF (b 0 - 1 - p).toNat : Int), qi (dg b p - (v - cB b v p)), qi v] [] g R) ?_ 0 (by omega) (by omega) |> fun H => (by
      have z : cB b 0 p = 0 := by
        have h1 : cB b 0 p = qsum (fun _ => 0) p := qsum_c (fun q q0 q1 => if_neg (by have := wf_live hW q0 (by omega : q < b 0); omega))
        rw [h1, qsum_z _ hp]
      rw [z, show dg b p - (0 - 0) = dg b p by omega] at H
      exact H)
    intro v hv ihv hvt
    have cb := cB_b (b := b) (v := v) hp
    have hvN : ((v.toNat : Nat) : Int) = v := by omega
    have hbv := hb v.toNat (by omega)
    rw [hvN] at hbv
    have lip := cB_lip hW (v := v) hp (by omega) (b (14 + p) - v) (by omega)
    rw [show v + (b (14 + p) - v) = b (14 + p) by omega] at lip
    refine sX12_laysRow_57 (m_has (by omega) hv (by omega) (fun ht => ⟨fun c2 => absurd c2 (by decide), fun _ => ?_⟩) (fun hfl => ⟨fun _ => ?_, fun c2 => absurd rfl c2⟩))
    · have hu := (hbv.mp ht).2
      have co := cB_out (b := b) (v := v) (p := p) hu
      refine ⟨fun c2 => ?_, fun c2 => m_has (by omega) hv (by omega) (fun _ => ⟨fun c3 => absurd c3 (by decide), fun _ => ?_⟩) (fun hfl => by rw [ht] at hfl; cases hfl)⟩
      · have ev : v = b (14 + p) := by
          by_cases e : v = b (14 + p)
          · exact e
          · have lip2 := cB_lip hW (v := v + 1) hp (by omega) (b (14 + p) - (v + 1)) (by omega)
            rw [show v + 1 + (b (14 + p) - (v + 1)) = b (14 + p) by omega] at lip2
            omega
        subst ev
        rw [clr_q hS (by omega) (by omega)]
        refine ⟨by omega, qR_of (by omega) (by omega), ?_⟩
        have := ih hp' (by omega) (qup g 12 0 28 (Int.toNat p) (b (14 + p))) (clr S (b (14 + p)).toNat) (qi (nF (b 0 - 1 - p).toNat : Int)) (qi (dg b p - (b (14 + p) - cB b (b (14 + p)) p))) (qi (b (14 + p))) (fr_trans hf (fr_up ⟨rfl, rfl⟩)) (clr_lt hS (by omega)) (fun v hv7 => ?_) (fun q q0 q1 => ?_)
        · rw [b5] at this
          exact this
        · rw [clr_bit hS (by omega) hv7, Bool.and_eq_true, hb v hv7, bne_iff_ne]
          constructor
          · rintro ⟨⟨c3, c4⟩, c5⟩
            refine ⟨c3, fun q q0 q1 => ?_⟩
            by_cases e : q = p
            · rw [e]; omega
            · exact c4 q q0 (by omega)
          · rintro ⟨c3, c4⟩
            refine ⟨⟨c3, fun q q0 q1 => c4 q q0 (by omega)⟩, ?_⟩
            have := c4 p hp (by omega)
            omega
        · rw [up_I q0 hp]
          by_cases e : q = p
          · rw [if_pos e, e]
          · rw [if_neg e]; exact hq q q0 (by omega)
      · have nv : v < b (14 + p) := by omega
        have := ihv nv (by omega)
        rw [show dg b p - (v + 1 - cB b (v + 1) p) = dg b p - (v - cB b v p) - 1 by rw [co]; omega] at this
        exact ⟨qR_of (by omega) (by omega), qR_of (by omega) (by omega), this⟩
    · refine m_has (by omega) hv (by omega) (fun ht => by rw [ht] at hfl; cases hfl) (fun _ => ⟨fun _ => ?_, fun c3 => absurd rfl c3⟩)
      have used : ∃ q, 0 ≤ q ∧ q < p ∧ b (14 + q) = v := by
        by_cases e : ∃ q, 0 ≤ q ∧ q < p ∧ b (14 + q) = v
        · exact e
        · have := hbv.mpr ⟨by omega, fun q q0 q1 e2 => e ⟨q, q0, q1, e2⟩⟩
          rw [this] at hfl
          cases hfl
      obtain ⟨q, q0, q1, q2⟩ := used
      have ci := cB_in hW (v := v) (p := p) (o := q) (by omega) q0 q1 q2
      have nv : v < b (14 + p) := by
        have := unus q q0 q1
        omega
      have := ihv nv (by omega)
      rw [show dg b p - (v + 1 - cB b (v + 1) p) = dg b p - (v - cB b v p) - 0 by rw [ci]; omega] at this
      exact ⟨qR_of (by omega) (by omega), qR_of (by omega) (by omega), this⟩
  · rw [all_bit (by omega) hv, decide_eq_true_eq]
    constructor
    · intro c; exact ⟨by omega, fun q q0 q1 => absurd q1 (by omega)⟩
    · rintro ⟨c, _⟩; omega
end Ly
/-! orders of the class: three bits each -/
theorem bit7 {j : Nat} : (7 : Nat).testBit j = decide (j < 3) := by
  by_cases h : j < 3
  · rw [decide_eq_true h]
    have : j = 0 ∨ j = 1 ∨ j = 2 := by omega
    rcases this with e | e | e <;> subst e <;> decide
  · rw [decide_eq_false h]
    refine Nat.testBit_lt_two_pow ?_
    have : (2 : Nat) ^ 3 ≤ 2 ^ j := Nat.pow_le_pow_right (by decide) (by omega)
    omega
theorem bit_hi {x j : Nat} (hx : x < 8) (hj : 3 ≤ j) : x.testBit j = false := by
  refine Nat.testBit_lt_two_pow ?_
  have : (2 : Nat) ^ 3 ≤ 2 ^ j := Nat.pow_le_pow_right (by decide) hj
  omega
theorem bit_mul {x k i : Nat} : (x * 2 ^ k).testBit i = (decide (i ≥ k) && x.testBit (i - k)) := by
  rw [← Nat.shiftLeft_eq, Nat.testBit_shiftLeft]
/-- the bits of a number below 8, moved by threes -/
theorem bit_three {u o p j : Nat} (hu : u < 8) (hj : j < 3) : (u * 2 ^ (3 * o)).testBit (3 * p + j) = (decide (p = o) && u.testBit j) := by
  rw [bit_mul]
  by_cases h : p = o
  · subst h
    rw [decide_eq_true rfl, decide_eq_true (by omega), show 3 * p + j - 3 * p = j by omega]
  · rw [decide_eq_false h]
    by_cases h2 : p < o
    · rw [decide_eq_false (by omega)]; rfl
    · rw [bit_hi hu (by omega), Bool.and_false, Bool.false_and]
def cdP (N : Nat) (b : qB) (p : Int) : Prop := N < 2 ^ (3 * p.toNat) ∧ ∀ p', 0 ≤ p' → p' < p → ∀ j, j < 3 → N.testBit (3 * p'.toNat + j) = (b (14 + p')).toNat.testBit j
def cdN (N : Nat) (b : qB) : Prop := N < 2097152 ∧ ∀ p, 0 ≤ p → p < b 0 → ∀ j, j < 3 → N.testBit (3 * p.toNat + j) = (b (14 + p)).toNat.testBit j
theorem cdP_0 {b : qB} : cdP 0 b 0 := ⟨by decide, fun p' p0 p1 => absurd p1 (by omega)⟩
theorem cdP_N {N : Nat} {b : qB} (h7 : b 0 ≤ 7) (h : cdP N b (b 0)) : cdN N b := by
  refine ⟨?_, h.2⟩
  have : (2 : Nat) ^ (3 * (b 0).toNat) ≤ 2 ^ 21 := Nat.pow_le_pow_right (by decide) (by omega)
  have := h.1
  omega
theorem pow_three {p : Int} (p0 : 0 ≤ p) (p7 : p < 7) : (2 : Nat) ^ (3 * p.toNat) ≤ 262144 ∧ 2 ^ (3 * (p + 1).toNat) = 8 * 2 ^ (3 * p.toNat) := by
  refine ⟨?_, ?_⟩
  · have : (2 : Nat) ^ (3 * p.toNat) ≤ 2 ^ 18 := Nat.pow_le_pow_right (by decide) (by omega)
    omega
  · rw [show 3 * (p + 1).toNat = 3 * p.toNat + 3 by omega, Nat.pow_add]
    omega
theorem cdP_add {N : Nat} {b : qB} {p : Int} (h : cdP N b p) (p0 : 0 ≤ p) (p7 : p < 7) (v0 : 0 ≤ b (14 + p)) (v7 : b (14 + p) < 8) : ∃ N' : Nat, qor (N : Int) (qshl (b (14 + p)) (3 * p)) = (N' : Int) ∧ cdP N' b (p + 1) := by
  have pt := pow_three p0 p7
  obtain ⟨u, hu⟩ : ∃ u : Nat, b (14 + p) = u := ⟨_, (Int.toNat_of_nonneg v0).symm⟩
  have hu8 : u < 8 := by omega
  have hm : u * 2 ^ (3 * p.toNat) < 8 * 2 ^ (3 * p.toNat) := Nat.mul_lt_mul_of_pos_right hu8 (Nat.two_pow_pos _)
  have h1 := h.1
  refine ⟨N ||| (u * 2 ^ (3 * p.toNat)), ?_, ?_, fun p' q0 q1 j hj => ?_⟩
  · rw [hu, show 3 * p = ((3 * p.toNat : Nat) : Int) by omega, q_shl (by omega) (by omega)]
    exact q_or (by omega) (by omega)
  · have e3 : 3 * (p + 1).toNat = 3 * p.toNat + 3 := by omega
    exact Nat.or_lt_two_pow (by omega) (by omega)
  · rw [Nat.testBit_or, bit_three hu8 hj]
    by_cases e : p' = p
    · subst e
      have z : N.testBit (3 * p'.toNat + j) = false := Nat.testBit_lt_two_pow (by
        have : (2 : Nat) ^ (3 * p'.toNat) ≤ 2 ^ (3 * p'.toNat + j) := Nat.pow_le_pow_right (by decide) (by omega)
        omega)
      rw [z, decide_eq_true rfl, Bool.false_or, Bool.true_and, hu]
      rfl
    · rw [h.2 p' q0 (by omega) j hj, decide_eq_false (by omega), Bool.false_and, Bool.or_false]
theorem cd_get {N : Nat} {B : Int} {b : qB} (hc : cdN N b) (hW : qwf B b) {p : Int} (p0 : 0 ≤ p) (hp : p < b 0) : qand (qshr (N : Int) (3 * p)) 7 = b (14 + p) := by
  have hn := wf_n hW
  have hl := wf_live hW p0 hp
  have h1 := hc.1
  rw [show 3 * p = ((3 * p.toNat : Nat) : Int) by omega, q_shr (by omega) (by omega), show (7 : Int) = ((7 : Nat) : Int) from rfl, q_and (Nat.lt_of_le_of_lt (Nat.div_le_self _ _) (by omega))]
  have : N / 2 ^ (3 * p.toNat) &&& 7 = (b (14 + p)).toNat := by
    apply Nat.eq_of_testBit_eq
    intro j
    rw [Nat.testBit_and, bit7, ← Nat.shiftRight_eq_div_pow, Nat.testBit_shiftRight]
    by_cases hj : j < 3
    · rw [decide_eq_true hj, Bool.and_true]
      exact hc.2 p p0 hp j hj
    · rw [decide_eq_false hj, Bool.and_false, bit_hi (by omega) (by omega)]
  rw [this]
  omega
theorem rank_bit0 : (List.range 128).all (fun U => (List.range 7).all (fun t => (List.range 7).all (fun v => U.testBit t || decide (sPop ((U ||| 2 ^ t) &&& (2 ^ v - 1)) = sPop (U &&& (2 ^ v - 1)) + (if t < v then 1 else 0))))) = true := by decide +kernel
theorem rank_bit {U t v : Nat} (hU : U < 128) (ht : t < 7) (hv : v < 7) (h : U.testBit t = false) : sPop ((U ||| 2 ^ t) &&& (2 ^ v - 1)) = sPop (U &&& (2 ^ v - 1)) + (if t < v then 1 else 0) := by
  have := List.all_eq_true.mp (List.all_eq_true.mp (List.all_eq_true.mp rank_bit0 U (List.mem_range.mpr hU)) t (List.mem_range.mpr ht)) v (List.mem_range.mpr hv)
  rw [h, Bool.false_or, decide_eq_true_eq] at this
  exact this
section Cd
variable {d : Nat} {R : Option qV → qH → Prop} {h : qH} {b : qB} {B : Int}
theorem x_exchangeIn {N : Nat} (hc : cdN N b) (hW : qwf B b) {s : Int} (s0 : 0 ≤ s) (hs : s < b 1) (hR : ∀ N' : Nat, cdN N' (aOn b s) → R (some (qi (N' : Int))) h) : qT (d + 1) 41 0 [qi (N : Int), qi (b (70 + s)), qi (b (80 + s)), qu] [] h R := by
  have hn := wf_n hW
  have h3 := wf_st hW s0 hs
  have h1 := hc.1
  obtain ⟨o, ho⟩ : ∃ o : Nat, b (70 + s) = o := ⟨_, (Int.toNat_of_nonneg h3.1.1).symm⟩
  obtain ⟨w, hw⟩ : ∃ w : Nat, b (80 + s) = w := ⟨_, (Int.toNat_of_nonneg h3.2.1.1).symm⟩
  rw [ho, hw] at h3
  refine sX6_exchangeIn_0 ?_
  rw [ho, hw]
  refine ⟨qR_of (by omega) (by omega), qR_of (by omega) (by omega), qR_of (by omega) (by omega), qR_of (by omega) (by omega), ?_⟩
  have d1 : N / 2 ^ (3 * o) < 2147483648 := Nat.lt_of_le_of_lt (Nat.div_le_self _ _) (by omega)
  have d2 : N / 2 ^ (3 * w) < 2147483648 := Nat.lt_of_le_of_lt (Nat.div_le_self _ _) (by omega)
  have x1 : N / 2 ^ (3 * o) ^^^ N / 2 ^ (3 * w) < 2 ^ 31 := Nat.xor_lt_two_pow (by omega) (by omega)
  obtain ⟨u, hu⟩ : ∃ u : Nat, u = (N / 2 ^ (3 * o) ^^^ N / 2 ^ (3 * w)) &&& 7 := ⟨_, rfl⟩
  have u8 : u < 8 := by
    have : u ≤ 7 := by rw [hu]; exact Nat.and_le_right
    omega
  have eu : qand (qxor (qshr (N : Int) (3 * (o : Int))) (qshr (N : Int) (3 * (w : Int)))) 7 = (u : Int) := by
    rw [show 3 * (o : Int) = ((3 * o : Nat) : Int) by omega, show 3 * (w : Int) = ((3 * w : Nat) : Int) by omega, q_shr (by omega) (by omega), q_shr (by omega) (by omega), q_xor d1 d2, show (7 : Int) = ((7 : Nat) : Int) from rfl, q_and (by omega), hu]
  have po : (2 : Nat) ^ (3 * o) ≤ 262144 := by
    have : (2 : Nat) ^ (3 * o) ≤ 2 ^ 18 := Nat.pow_le_pow_right (by decide) (by omega)
    omega
  have pw : (2 : Nat) ^ (3 * w) ≤ 262144 := by
    have : (2 : Nat) ^ (3 * w) ≤ 2 ^ 18 := Nat.pow_le_pow_right (by decide) (by omega)
    omega
  have uo : u * 2 ^ (3 * o) < 2097152 := by
    have := Nat.mul_le_mul (by omega : u ≤ 7) po
    omega
  have uw : u * 2 ^ (3 * w) < 2097152 := by
    have := Nat.mul_le_mul (by omega : u ≤ 7) pw
    omega
  have y1 : N ^^^ u * 2 ^ (3 * o) < 2 ^ 21 := Nat.xor_lt_two_pow (by omega) (by omega)
  have y2 : N ^^^ u * 2 ^ (3 * o) ^^^ u * 2 ^ (3 * w) < 2 ^ 21 := Nat.xor_lt_two_pow y1 (by omega)
  rw [eu, show 3 * (o : Int) = ((3 * o : Nat) : Int) by omega, show 3 * (w : Int) = ((3 * w : Nat) : Int) by omega, q_shl (by omega) (by omega), q_shl (by omega) (by omega), q_xor (by omega) (by omega), q_xor (by omega) (by omega)]
  refine hR _ ⟨by omega, fun p p0 hp j hj => ?_⟩
  rw [aOn_hi hW s0 hs (by omega)] at hp
  have ub : u.testBit j = (N.testBit (3 * o + j) ^^ N.testBit (3 * w + j)) := by
    rw [hu, Nat.testBit_and, bit7, decide_eq_true hj, Bool.and_true, Nat.testBit_xor, ← Nat.shiftRight_eq_div_pow, ← Nat.shiftRight_eq_div_pow, Nat.testBit_shiftRight, Nat.testBit_shiftRight]
  have bo := hc.2 o (by omega) (by omega) j hj
  have bw := hc.2 w (by omega) (by omega) j hj
  rw [show ((o : Int)).toNat = o by omega] at bo
  rw [show ((w : Int)).toNat = w by omega] at bw
  rw [Nat.testBit_xor, Nat.testBit_xor, bit_three u8 hj, bit_three u8 hj, ub, aOn_at hW s0 hs, ho, hw]
  by_cases c1 : p = w
  · rw [if_pos c1, decide_eq_false (by omega), decide_eq_true (by omega), Bool.false_and, Bool.true_and, Bool.xor_false, show 3 * p.toNat + j = 3 * w + j by omega, ← bo]
    cases N.testBit (3 * w + j) <;> cases N.testBit (3 * o + j) <;> rfl
  · rw [if_neg c1]
    by_cases c2 : p = o
    · rw [if_pos c2, decide_eq_true (by omega), decide_eq_false (by omega), Bool.false_and, Bool.true_and, Bool.xor_false, show 3 * p.toNat + j = 3 * o + j by omega, ← bw]
      cases N.testBit (3 * w + j) <;> cases N.testBit (3 * o + j) <;> rfl
    · rw [if_neg c2, decide_eq_false (by omega), decide_eq_false (by omega), Bool.false_and, Bool.xor_false, Bool.xor_false]
      exact hc.2 p p0 hp j hj
theorem x_rank {N : Nat} (hc : cdN N b) (hW : qwf B b) (hR : R (some (qi (rk b))) h) : qT (d + 2) 42 0 [qi (N : Int), qi (b 0), qu, qu, qu, qu, qu] [] h R := by
  have hn := wf_n hW
  have hk := rk_b hW
  refine sX6_rank_0 ?_
  refine q_up (n := b 0) (C := fun p => p ≤ b 0 → ∀ (U : Nat) (r : Int) z1 z2, U < 128 → (∀ v : Nat, v < 7 → sPop (U &&& (2 ^ v - 1)) = cB b v p) → (∀ v : Nat, v < 7 → (U.testBit v = true ↔ ∃ q, 0 ≤ q ∧ q < p ∧ b (14 + q) = v)) → 0 ≤ r → r * (nF (b 0 - p).toNat : Int) + rS b (b 0 - p).toNat = rk b → qT (d + 2) 42 7 [qi (N : Int), qi (b 0), qi (U : Int), qi r, qi p, z1, z2] [] h R) ?_ 0 (by omega) (by omega) 0 0 _ _ (by omega) (fun v hv => ?_) (fun v hv => ?_) (by omega) (by rw [Int.zero_mul, Int.zero_add, Int.sub_zero]; rfl)
  · intro p hp ih hpn U r z1 z2 hU hs hb hr er
    have nf := nF_b (b 0 - p).toNat (by omega)
    have rb := rS_b hW (b 0 - p).toNat (by omega)
    have rle : r ≤ rk b := by
      have : r * 1 ≤ r * (nF (b 0 - p).toNat : Int) := Int.mul_le_mul_of_nonneg_left (by omega) hr
      omega
    refine sX6_rank_7 ⟨fun c => ?_, fun c => ?_⟩
    · have e0 : (b 0 - p).toNat = 0 := by omega
      rw [e0] at er
      have er : r * 1 + 0 = rk b := er
      have er : r = rk b := by omega
      rw [er]
      exact ⟨fun c => absurd c (by omega), fun _ => ⟨fun c => absurd c (by omega), fun _ => hR⟩⟩
    · have hp' : p < b 0 := by omega
      have hl := wf_live hW hp hp'
      rw [cd_get hc hW hp hp']
      obtain ⟨v, hv⟩ : ∃ v : Nat, b (14 + p) = v := ⟨_, (Int.toNat_of_nonneg hl.1).symm⟩
      have hv7 : v < 7 := by omega
      have pv : (2 : Nat) ^ v < 2 ^ 7 := Nat.pow_lt_pow_right (by decide) hv7
      have pv1 : 1 ≤ (2 : Nat) ^ v := Nat.two_pow_pos v
      have e1 : qshl 1 (b (14 + p)) = ((2 ^ v : Nat) : Int) := by rw [hv]; exact q_one (by omega)
      have e2 : qand (U : Int) (qshl 1 (b (14 + p)) - 1) = ((U &&& (2 ^ v - 1) : Nat) : Int) := by
        rw [e1, show ((2 ^ v : Nat) : Int) - 1 = ((2 ^ v - 1 : Nat) : Int) by omega]
        exact q_and (by omega)
      have u7 : U &&& (2 ^ v - 1) < 128 := Nat.lt_of_le_of_lt Nat.and_le_left hU
      have es := hs v hv7
      have cb := cB_b (b := b) (v := v) hp
      have dgb := dg_b hW hp hp'
      have edg : dg b p = (v : Int) - cB b v p := by
        unfold dg
        rw [hv]
      have nb : U.testBit v = false := by
        by_cases e : U.testBit v = true
        · obtain ⟨q, q0, q1, q2⟩ := (hb v hv7).mp e
          have := wf_inj hW q0 (by omega) hp hp' (by omega)
          omega
        · exact Bool.eq_false_iff.mpr e
      have rm := q_mul10 hr rle (by omega : 0 ≤ b 0 - p) (by omega)
      have er2 : (r * (b 0 - p) + (v : Int) - cB b v p) * (nF (b 0 - (p + 1)).toNat : Int) + rS b (b 0 - (p + 1)).toNat = rk b := by
        rw [← er, show (b 0 - p).toNat = (b 0 - (p + 1)).toNat + 1 by omega]
        show _ = r * (((b 0 - (p + 1)).toNat + 1) * nF (b 0 - (p + 1)).toNat : Nat) + (dg b (b 0 - 1 - ((b 0 - (p + 1)).toNat : Int)) * (nF (b 0 - (p + 1)).toNat : Int) + rS b (b 0 - (p + 1)).toNat)
        rw [show b 0 - 1 - ((b 0 - (p + 1)).toNat : Int) = p by omega, edg, Int.natCast_mul, show (((b 0 - (p + 1)).toNat + 1 : Nat) : Int) = b 0 - p by omega, ← Int.add_assoc, ← Int.mul_assoc, ← Int.add_mul, Int.add_sub_assoc]
      rw [e2]
      refine ⟨qR_of (by omega) (by omega), ?_, j_bitCount u7 ?_⟩
      · rw [e1]; exact qR_of (by omega) (by omega)
      · rw [es, e1, hv]
        rw [show qor (U : Int) ((2 ^ v : Nat) : Int) = ((U ||| 2 ^ v : Nat) : Int) from q_or (by omega) (by omega)]
        refine ⟨qR_of (by omega) (by omega), qR_of (by omega) (by omega), qR_of (by omega) (by omega), qR_of (by omega) (by omega), qR_of (by omega) (by omega), ih hp' (by omega) (U ||| 2 ^ v) _ _ _ ?_ (fun w hw => ?_) (fun w hw => ?_) ?_ er2⟩
        · exact Nat.or_lt_two_pow (n := 7) (by omega) (by omega)
        · rw [rank_bit hU hv7 hw nb, hs w hw, cB_s hp, hv]
          by_cases c2 : v < w
          · rw [if_pos c2, if_pos (by omega)]
          · rw [if_neg c2, if_neg (by omega)]
        · rw [q_setbit, Bool.or_eq_true, hb w hw, decide_eq_true_eq]
          constructor
          · rintro (⟨q, q0, q1, q2⟩ | e)
            · exact ⟨q, q0, by omega, q2⟩
            · exact ⟨p, hp, by omega, by omega⟩
          · rintro ⟨q, q0, q1, q2⟩
            by_cases e : q = p
            · right; rw [e] at q2; omega
            · left; exact ⟨q, q0, by omega, q2⟩
        · have : 0 ≤ r * (b 0 - p) := rm.1
          omega
  · rw [Nat.zero_and]; rfl
  · rw [Nat.zero_testBit]
    constructor
    · intro c; cases c
    · rintro ⟨q, q0, q1, _⟩; omega
end Cd
