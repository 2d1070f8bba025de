/-! sets of few, BEST -/
def clr (S k : Nat) : Nat := S &&& (127 ^^^ 2 ^ k)
def cpl (n S : Nat) : Nat := (2 ^ n - 1) ^^^ S
theorem all2 {f : Nat → Nat → Bool} (h : (List.range 128).all (fun S => (List.range 7).all (fun k => f S k)) = true) {S k : Nat} (hS : S < 128) (hk : k < 7) : f S k = true := by
  have h1 := List.all_eq_true.mp h S (List.mem_range.mpr hS)
  exact List.all_eq_true.mp h1 k (List.mem_range.mpr hk)
theorem all3 {f : Nat → Nat → Nat → Bool} (h : (List.range 8).all (fun n => (List.range 128).all (fun S => (List.range 7).all (fun k => f n S k))) = true) {n S k : Nat} (hn : n ≤ 7) (hS : S < 128) (hk : k < 7) : f n S k = true := by
  have h1 := List.all_eq_true.mp h n (List.mem_range.mpr (by omega))
  exact all2 h1 hS hk
theorem clr_q0 : (List.range 128).all (fun S => (List.range 7).all (fun k => decide (qand (S : Int) (qxor (qshl 1 (k : Int)) (-1)) = ((clr S k : Nat) : Int)) && decide (clr S k < 128))) = true := by decide +kernel
theorem clr_q {S : Nat} {x : Int} (hS : S < 128) (h0 : 0 ≤ x) (h1 : x < 7) : qand (S : Int) (qxor (qshl 1 x) (-1)) = ((clr S x.toNat : Nat) : Int) := by
  have := all2 clr_q0 hS (show x.toNat < 7 by omega)
  rw [Bool.and_eq_true, decide_eq_true_iff, decide_eq_true_iff, show ((x.toNat : Nat) : Int) = x by omega] at this
  exact this.1
theorem clr_lt {S k : Nat} (hS : S < 128) (hk : k < 7) : clr S k < 128 := by
  have := all2 clr_q0 hS hk
  rw [Bool.and_eq_true, decide_eq_true_iff, decide_eq_true_iff] at this
  exact this.2
theorem clr_bit0 : (List.range 128).all (fun S => (List.range 7).all (fun k => (List.range 7).all (fun j => (clr S k).testBit j == (S.testBit j && j != k)))) = true := by decide +kernel
theorem clr_bit {S k j : Nat} (hS : S < 128) (hk : k < 7) (hj : j < 7) : (clr S k).testBit j = (S.testBit j && j != k) := by
  have := all2 clr_bit0 hS hk
  exact eq_of_beq (List.all_eq_true.mp this j (List.mem_range.mpr hj))
theorem cpl_or0 : (List.range 8).all (fun n => (List.range 128).all (fun S => (List.range 7).all (fun k => !(decide (S < 2 ^ n) && decide (k < n)) || (decide (cpl n (S ||| 2 ^ k) = clr (cpl n S) k) && decide (cpl n S < 128) && ((cpl n S).testBit k == !S.testBit k) && decide (S ||| 2 ^ k < 2 ^ n) && (S.testBit k || decide (sPop (S ||| 2 ^ k) = sPop S + 1 ∧ S < S ||| 2 ^ k)))))) = true := by decide +kernel
theorem cpl_or {n S k : Nat} (hn : n ≤ 7) (hS : S < 2 ^ n) (hk : k < n) : cpl n (S ||| 2 ^ k) = clr (cpl n S) k ∧ cpl n S < 128 ∧ (cpl n S).testBit k = !S.testBit k ∧ S ||| 2 ^ k < 2 ^ n ∧ (S.testBit k = false → sPop (S ||| 2 ^ k) = sPop S + 1 ∧ S < S ||| 2 ^ k) := by
  have h7 : 2 ^ n ≤ 2 ^ 7 := Nat.pow_le_pow_right (by decide) hn
  have := all3 cpl_or0 hn (show S < 128 by omega) (show k < 7 by omega)
  simp only [hS, hk, decide_true, Bool.and_true, Bool.not_true, Bool.false_or, Bool.and_eq_true, decide_eq_true_iff, beq_iff_eq, Bool.or_eq_true] at this
  obtain ⟨⟨⟨⟨h1, h2⟩, h3⟩, h4⟩, h5⟩ := this
  refine ⟨h1, h2, h3, h4, fun hb => ?_⟩
  rcases h5 with h5 | h5
  · rw [hb] at h5; cases h5
  · exact h5
theorem sPop_n0 : (List.range 8).all (fun n => (List.range 128).all (fun S => (List.range 7).all (fun _ => !(decide (S < 2 ^ n)) || (decide (0 ≤ sPop S ∧ sPop S ≤ n) && (decide (S = 2 ^ n - 1) == decide (sPop S = n)) && (decide (S = 2 ^ n - 1) || (List.range n).any (fun j => !S.testBit j)))))) = true := by decide +kernel
theorem sPop_n1 {n S : Nat} (hn : n ≤ 7) (hS : S < 2 ^ n) : (0 ≤ sPop S ∧ sPop S ≤ n) ∧ (S = 2 ^ n - 1 ↔ sPop S = n) ∧ (S ≠ 2 ^ n - 1 → ∃ j, j < n ∧ S.testBit j = false) := by
  have h7 : 2 ^ n ≤ 2 ^ 7 := Nat.pow_le_pow_right (by decide) hn
  have := all3 sPop_n0 hn (show S < 128 by omega) (show 0 < 7 by omega)
  simp only [hS, decide_true, Bool.not_true, Bool.false_or, Bool.and_eq_true, decide_eq_true_iff, beq_iff_eq, Bool.or_eq_true, List.any_eq_true, List.mem_range, Bool.not_eq_true'] at this
  obtain ⟨⟨h1, h2⟩, h3⟩ := this
  refine ⟨h1, ?_, fun hne => ?_⟩
  · rw [← decide_eq_true_iff (p := S = 2 ^ n - 1), ← decide_eq_true_iff (p := sPop S = n), h2]
  · rcases h3 with h3 | h3
    · exact absurd h3 hne
    · exact h3
theorem sPop_n {n S : Nat} (hn : n ≤ 7) (hS : S < 2 ^ n) : (0 ≤ sPop S ∧ sPop S ≤ n) ∧ (S = 2 ^ n - 1 ↔ sPop S = n) := ⟨(sPop_n1 hn hS).1, (sPop_n1 hn hS).2.1⟩
theorem sPop_ex {n S : Nat} (hn : n ≤ 7) (hS : S < 2 ^ n) (h : sPop S < n) : ∃ j, j < n ∧ S.testBit j = false := (sPop_n1 hn hS).2.2 (fun e => by have := (sPop_n1 hn hS).2.1.mp e; omega)
/-- the most from p on, of the houses left -/
def bMost (a : qB) : Nat → Int → Nat → Int
  | 0, _, _ => 0
  | k + 1, p, L => qfold (fun h s => if L.testBit h.toNat then max s (aLike a p h + bMost a k (p + 1) (clr L h.toNat)) else s) 0 (a 0)
def bVal (a : qB) (k : Nat) (p : Int) (L : Nat) (h : Int) : Int := aLike a p h + bMost a k (p + 1) (clr L h.toNat)
theorem bMost_b {B : Int} {a : qB} (hW : qwf B a) : ∀ (k : Nat) (p : Int) (L : Nat), 0 ≤ p → p + k ≤ a 0 → 0 ≤ bMost a k p L ∧ bMost a k p L ≤ 9 * k := by
  have hn := wf_n hW
  intro k
  induction k with
  | zero => intro p L _ _; exact ⟨Int.le_refl _, Int.le_refl _⟩
  | succ k ih =>
    intro p L p0 hp
    refine qfold_inv (fun (x : Int) (r : Int) => 0 ≤ r ∧ r ≤ 9 * ((k + 1 : Nat) : Int)) (by omega) ?_ hn.1
    intro x r hx hxn hr
    split
    · have h1 := ih (p + 1) (clr L x.toNat) (by omega) (by omega)
      have h2 := wf_like hW p0 (by omega) hx hxn
      show 0 ≤ max r (a (21 + 7 * p + x) + _) ∧ max r (a (21 + 7 * p + x) + _) ≤ _
      omega
    · exact hr
/-- the fold is the greatest -/
theorem bMost_max {B : Int} {a : qB} (hW : qwf B a) {k : Nat} {p : Int} {L : Nat} (p0 : 0 ≤ p) (hp : p + k + 1 ≤ a 0) : (∀ h, 0 ≤ h → h < a 0 → L.testBit h.toNat = true → bVal a k p L h ≤ bMost a (k + 1) p L) ∧ ((∃ h, 0 ≤ h ∧ h < a 0 ∧ L.testBit h.toNat = true) → ∃ h, 0 ≤ h ∧ h < a 0 ∧ L.testBit h.toNat = true ∧ bVal a k p L h = bMost a (k + 1) p L) := by
  have hn := wf_n hW
  have key := qfold_inv (f := fun h s => if L.testBit h.toNat then max s (aLike a p h + bMost a k (p + 1) (clr L h.toNat)) else s) (s := (0 : Int)) (n := a 0) (fun (x : Int) (r : Int) => 0 ≤ r ∧ (∀ h, 0 ≤ h → h < x → L.testBit h.toNat = true → bVal a k p L h ≤ r) ∧ ((∃ h, 0 ≤ h ∧ h < x ∧ L.testBit h.toNat = true) → ∃ h, 0 ≤ h ∧ h < x ∧ L.testBit h.toNat = true ∧ bVal a k p L h = r) ∧ ((¬ ∃ h, 0 ≤ h ∧ h < x ∧ L.testBit h.toNat = true) → r = 0)) ⟨Int.le_refl _, fun h h0 h1 => absurd h1 (by omega), fun ⟨h, h0, h1, _⟩ => absurd h1 (by omega), fun _ => rfl⟩ ?_ hn.1
  · exact ⟨key.2.1, key.2.2.1⟩
  intro x r hx hxn ⟨r0, r1, r2, r3⟩
  have hv : 0 ≤ bVal a k p L x := by
    have h1 := (bMost_b hW k (p + 1) (clr L x.toNat) (by omega) (by omega)).1
    have h2 := (wf_like hW p0 (by omega) hx hxn).1
    show 0 ≤ a (21 + 7 * p + x) + _
    omega
  cases hb : L.testBit x.toNat with
  | true =>
    rw [if_pos rfl]
    show 0 ≤ max r (bVal a k p L x) ∧ (∀ h, 0 ≤ h → h < x + 1 → L.testBit h.toNat = true → bVal a k p L h ≤ max r (bVal a k p L x)) ∧ ((∃ h, 0 ≤ h ∧ h < x + 1 ∧ L.testBit h.toNat = true) → ∃ h, 0 ≤ h ∧ h < x + 1 ∧ L.testBit h.toNat = true ∧ bVal a k p L h = max r (bVal a k p L x)) ∧ _
    refine ⟨by omega, ?_, ?_, ?_⟩
    · intro h h0 h1 hb2
      by_cases e : h = x
      · rw [e]; omega
      · have := r1 h h0 (by omega) hb2
        omega
    · intro _
      by_cases hc : r ≤ bVal a k p L x
      · exact ⟨x, hx, by omega, hb, by omega⟩
      · by_cases he : ∃ h, 0 ≤ h ∧ h < x ∧ L.testBit h.toNat = true
        · obtain ⟨h, h0, h1, h2, h3⟩ := r2 he
          exact ⟨h, h0, by omega, h2, by omega⟩
        · have := r3 he
          omega
    · intro hne
      exact absurd ⟨x, hx, by omega, hb⟩ hne
  | false =>
    rw [if_neg (by decide)]
    refine ⟨r0, ?_, ?_, ?_⟩
    · intro h h0 h1 hb2
      by_cases e : h = x
      · rw [e, hb] at hb2; cases hb2
      · exact r1 h h0 (by omega) hb2
    · rintro ⟨h, h0, h1, hb2⟩
      have e : h ≠ x := fun e => by rw [e, hb] at hb2; cases hb2
      obtain ⟨h', g0, g1, g2, g3⟩ := r2 ⟨h, h0, by omega, hb2⟩
      exact ⟨h', g0, by omega, g2, g3⟩
    · intro hne
      exact r3 (fun ⟨h, h0, h1, h2⟩ => hne ⟨h, h0, by omega, h2⟩)
/-- p, of the houses left L, takes r -/
def bH (a : qB) (p : Int) (L : Nat) (r : Int) : Prop := (0 ≤ r ∧ r < a 0 ∧ L.testBit r.toNat = true ∧ bVal a (a 0 - p - 1).toNat p L r = bMost a ((a 0 - p - 1).toNat + 1) p L) ∧ ∀ y, 0 ≤ y → y < r → ¬ (L.testBit y.toNat = true ∧ bVal a (a 0 - p - 1).toNat p L y = bMost a ((a 0 - p - 1).toNat + 1) p L)
theorem bH_uniq {a : qB} {p : Int} {L : Nat} {r r' : Int} (h : bH a p L r) (h' : bH a p L r') : r = r' := by
  rcases Int.lt_trichotomy r r' with hl | hl | hl
  · exact absurd ⟨h.1.2.2.1, h.1.2.2.2⟩ (h'.2 r h.1.1 hl)
  · exact hl
  · exact absurd ⟨h'.1.2.2.1, h'.1.2.2.2⟩ (h.2 r' h'.1.1 hl)
def bL (a : qB) : Nat → Nat → Prop
  | 0, L => L = 2 ^ (a 0).toNat - 1
  | q + 1, L => ∃ L' r, bL a q L' ∧ bH a q L' r ∧ L = clr L' r.toNat
theorem bL_uniq {a : qB} : ∀ (q : Nat) {L L' : Nat}, bL a q L → bL a q L' → L = L' := by
  intro q
  induction q with
  | zero => intro L L' h h'; exact h.trans h'.symm
  | succ q ih =>
    rintro L L' ⟨L1, r1, h1, h2, h3⟩ ⟨L2, r2, g1, g2, g3⟩
    have e := ih h1 g1
    subst e
    have e := bH_uniq h2 g2
    subst e
    rw [h3, g3]
/-- what person p gets -/
def bG (a : qB) (p r : Int) : Prop := ∃ L, bL a p.toNat L ∧ bH a p L r
theorem bG_uniq {a : qB} {p r r' : Int} (h : bG a p r) (h' : bG a p r') : r = r' := by
  obtain ⟨L, h1, h2⟩ := h
  obtain ⟨L', g1, g2⟩ := h'
  have e := bL_uniq _ h1 g1
  subst e
  exact bH_uniq h2 g2
theorem q_all {n : Int} (n0 : 0 ≤ n) (n7 : n ≤ 7) : qshl 1 n - 1 = ((2 ^ n.toNat - 1 : Nat) : Int) ∧ 2 ^ n.toNat ≤ 128 ∧ 1 ≤ 2 ^ n.toNat := by
  have h1 : 2 ^ n.toNat ≤ 2 ^ 7 := Nat.pow_le_pow_right (by decide) (by omega)
  have h2 : 1 ≤ 2 ^ n.toNat := Nat.one_le_two_pow
  rw [q_oneI n0 (by omega)]
  omega
section Bst
variable {d : Nat} {R : Option qV → qH → Prop} {h : qH} {i : Nat} {a : qB} {B : Int}
theorem m_mostFrom (hM : qM h 0 a) (hW : qwf B a) : ∀ (k : Nat) {d : Nat} {R : Option qV → qH → Prop} {p : Int} {L : Nat}, 0 ≤ p → p + k = a 0 → L < 128 → R (some (qi (bMost a k p L))) h → qT (d + k + 2) 301 0 [qo 12 0, qi p, qi (L : Int), qu, qu] [] h R := by
  have hn := wf_n hW
  intro k
  induction k with
  | zero =>
    intro d R p L p0 hp hL hR
    refine sX12_mostFrom_0 ?_
    rw [m_0 hM (by omega) (by omega)]
    exact ⟨by omega, fun c => absurd (by omega) c, fun _ => hR⟩
  | succ k ih =>
    intro d R p L p0 hp hL hR
    refine sX12_mostFrom_0 ?_
    rw [m_0 hM (by omega) (by omega)]
    refine ⟨by omega, fun _ => ?_, fun c => absurd (by omega) c⟩
    refine q_up (n := a 0) (C := fun x => x ≤ a 0 → ∀ s, s = qfold (fun h s => if L.testBit h.toNat then max s (aLike a p h + bMost a k (p + 1) (clr L h.toNat)) else s) 0 x → 0 ≤ s ∧ s ≤ 9 * (k + 1) → qT (d + (k + 1) + 2) 301 17 [qo 12 0, qi p, qi (L : Int), qi s, qi x] [] h R) ?_ 0 (by omega) (by omega) 0 rfl (by omega)
    intro x hx ih2 hxn s hs hb
    refine sX12_mostFrom_17 ?_
    rw [m_0 hM (by omega) (by omega)]
    refine ⟨by omega, fun c => ?_, fun c => ?_⟩
    · rw [hs, show x = a 0 by omega]; exact hR
    · have hxn' : x < a 0 := by omega
      refine m_has (by omega) hx (by omega) (fun hb1 => ⟨fun c2 => absurd c2 (by decide), fun _ => m_likeOf hM hW p0 (by omega) hx hxn' ⟨qR_of (by omega) (by omega), ?_⟩⟩) (fun hb1 => ⟨fun _ => ⟨qR_of (by omega) (by omega), ih2 hxn' (by omega) _ ?_ hb⟩, fun c2 => absurd rfl c2⟩)
      · have h1 := bMost_b hW k (p + 1) (clr L x.toNat) (by omega) (by omega)
        have h2 := wf_like hW p0 (by omega) hx hxn'
        have e3 : aLike a p x = a (21 + 7 * p + x) := rfl
        rw [clr_q (by omega) hx (by omega)]
        refine ih (by omega) (by omega) (clr_lt hL (by omega)) ?_
        refine ⟨qR_of (by omega) (by omega), qR_of (by omega) (by omega), ih2 hxn' (by omega) _ ?_ (by omega)⟩
        rw [qfold_s hx, if_pos hb1, hs]
      · rw [qfold_s hx, hb1, hs]; rfl
/-- the class's table -/
def bWorth (a : qB) (G : Nat) : Int := bMost a (a 0 - sPop G).toNat (sPop G) (cpl (a 0).toNat G)
theorem bWorth_s (hW : qwf B a) {G : Nat} (hG : G < 2 ^ (a 0).toNat) {x : Int} (x0 : 0 ≤ x) (hx : x < a 0) (hb : G.testBit x.toNat = false) : bWorth a (G ||| 2 ^ x.toNat) = bMost a (a 0 - sPop G - 1).toNat (sPop G + 1) (clr (cpl (a 0).toNat G) x.toNat) := by
  have hn := wf_n hW
  have h1 := cpl_or (by omega) hG (show x.toNat < (a 0).toNat by omega)
  unfold bWorth
  rw [h1.1, (h1.2.2.2.2 hb).1, show a 0 - (sPop G + 1) = a 0 - sPop G - 1 by omega]
theorem x_mostBehind (hQ : qQX h i a) (hW : qwf B a) {G : Nat} (hG : G < 2 ^ (a 0).toNat) (hne : G ≠ 2 ^ (a 0).toNat - 1) (hT : ∀ G' : Nat, G < G' → G' < 2 ^ (a 0).toNat → h 0 0 2 G' = bWorth a G') (hR : R (some (qi (bWorth a G))) h) : qT (d + 2) 4 0 [qo 0 0, qo 7 i, qi (G : Int), qu, qu, qu] [] h R := by
  have hn := wf_n hW
  have h128 : 2 ^ (a 0).toNat ≤ 2 ^ 7 := Nat.pow_le_pow_right (by decide) (by omega)
  have hs := sPop_n (n := (a 0).toNat) (by omega) hG
  have hlt : sPop G < a 0 := by
    have : ¬ sPop G = ((a 0).toNat : Int) := fun e => hne (hs.2.mpr e)
    omega
  have hk : (a 0 - sPop G).toNat = (a 0 - sPop G - 1).toNat + 1 := by omega
  refine sX0_mostBehind_0 (j_bitCount (by omega) ?_)
  refine q_up (n := a 0) (C := fun x => x ≤ a 0 → ∀ s, s = qfold (fun h s => if (cpl (a 0).toNat G).testBit h.toNat then max s (aLike a (sPop G) h + bMost a (a 0 - sPop G - 1).toNat (sPop G + 1) (clr (cpl (a 0).toNat G) h.toNat)) else s) 0 x → 0 ≤ s ∧ s ≤ 63 → qT (d + 2) 4 11 [qo 0 0, qo 7 i, qi (G : Int), qi (sPop G), qi s, qi x] [] h R) ?_ 0 (by omega) (by omega) 0 rfl (by omega)
  intro x hx ih hxn s hs2 hb
  refine sX0_mostBehind_11 ?_
  rw [qx_n hQ]
  refine ⟨fun c => ?_, fun c => ?_⟩
  · have : s = bWorth a G := by
      rw [hs2, show x = a 0 by omega]
      unfold bWorth
      rw [hk]
      rfl
    rw [this]
    exact hR
  · have hxn' : x < a 0 := by omega
    have h1 := cpl_or (by omega) hG (show x.toNat < (a 0).toNat by omega)
    rw [q_bitI (by omega) hx (by omega)]
    cases hbt : G.testBit x.toNat with
    | true =>
      refine ⟨fun _ => ⟨qR_of (by omega) (by omega), ih hxn' (by omega) _ ?_ hb⟩, fun c2 => absurd (by decide) c2⟩
      rw [qfold_s hx, h1.2.2.1, hbt, hs2]; rfl
    | false =>
      refine ⟨fun c2 => absurd rfl c2, fun _ => x_liking hQ hW hs.1.1 hlt hx hxn' ?_⟩
      have hp2 : 2 ^ x.toNat < 128 := Nat.lt_of_lt_of_le (q_pow_lt (n := 7) hx (by omega)) (by decide)
      dsimp only [qri]
      rw [q_oneI hx (by omega), q_or (by omega) (by omega), Int.toNat_natCast, hT _ (h1.2.2.2.2 hbt).2 h1.2.2.2.1, bWorth_s hW hG hx hxn' hbt]
      have h3 := bMost_b hW (a 0 - sPop G - 1).toNat (sPop G + 1) (clr (cpl (a 0).toNat G) x.toNat) (by omega) (by omega)
      have h4 := wf_like hW hs.1.1 hlt hx hxn'
      have e3 : aLike a (sPop G) x = a (21 + 7 * (sPop G) + x) := rfl
      refine ⟨by omega, qR_of (by omega) (by omega), qR_of (by omega) (by omega), ih hxn' (by omega) _ ?_ (by omega)⟩
      rw [qfold_s hx, h1.2.2.1, hbt, hs2]; rfl
theorem x_firstHouse (hQ : qQX h i a) (hW : qwf B a) {G : Nat} (hG : G < 2 ^ (a 0).toNat) (hne : sPop G < a 0) (hT : ∀ G' : Nat, G' < 2 ^ (a 0).toNat → h 0 0 2 G' = bWorth a G') (hR : ∀ r, bH a (sPop G) (cpl (a 0).toNat G) r → R (some (qi r)) h) : qT (d + 2) 5 0 [qo 0 0, qo 7 i, qi (sPop G), qi (G : Int), qu] [] h R := by
  have hn := wf_n hW
  have h128 : 2 ^ (a 0).toNat ≤ 2 ^ 7 := Nat.pow_le_pow_right (by decide) (by omega)
  have hs := sPop_n (n := (a 0).toNat) (by omega) hG
  have hk : (a 0 - sPop G).toNat = (a 0 - sPop G - 1).toNat + 1 := by omega
  have hex : ∃ r, 0 ≤ r ∧ r < a 0 ∧ (cpl (a 0).toNat G).testBit r.toNat = true ∧ bVal a (a 0 - sPop G - 1).toNat (sPop G) (cpl (a 0).toNat G) r = bMost a ((a 0 - sPop G - 1).toNat + 1) (sPop G) (cpl (a 0).toNat G) := by
    refine (bMost_max hW hs.1.1 (by omega)).2 ?_
    obtain ⟨j, hj, hb⟩ := sPop_ex (n := (a 0).toNat) (by omega) hG (by omega)
    have h1 := cpl_or (by omega) hG hj
    exact ⟨(j : Int), by omega, by omega, by rw [Int.toNat_natCast, h1.2.2.1, hb]; rfl⟩
  refine sX0_firstHouse_0 ?_
  refine q_up (n := a 0) (C := fun x => x ≤ a 0 → (∀ y, 0 ≤ y → y < x → ¬ ((cpl (a 0).toNat G).testBit y.toNat = true ∧ bVal a (a 0 - sPop G - 1).toNat (sPop G) (cpl (a 0).toNat G) y = bMost a ((a 0 - sPop G - 1).toNat + 1) (sPop G) (cpl (a 0).toNat G))) → qT (d + 2) 5 3 [qo 0 0, qo 7 i, qi (sPop G), qi (G : Int), qi x] [] h R) ?_ 0 (by omega) (by omega) (fun y y0 y1 => absurd y1 (by omega))
  intro x hx ih hxn hy
  have step : ¬ ((cpl (a 0).toNat G).testBit x.toNat = true ∧ bVal a (a 0 - sPop G - 1).toNat (sPop G) (cpl (a 0).toNat G) x = bMost a ((a 0 - sPop G - 1).toNat + 1) (sPop G) (cpl (a 0).toNat G)) → ∀ y, 0 ≤ y → y < x + 1 → ¬ ((cpl (a 0).toNat G).testBit y.toNat = true ∧ bVal a (a 0 - sPop G - 1).toNat (sPop G) (cpl (a 0).toNat G) y = bMost a ((a 0 - sPop G - 1).toNat + 1) (sPop G) (cpl (a 0).toNat G)) := by
    intro c y y0 y1
    by_cases e : y = x
    · rw [e]; exact c
    · exact hy y y0 (by omega)
  refine sX0_firstHouse_3 ?_
  rw [qx_n hQ]
  refine ⟨fun c => ?_, fun c => ?_⟩
  · obtain ⟨r, r0, r1, r2⟩ := hex
    exact absurd r2 (hy r r0 (by omega))
  · have hxn' : x < a 0 := by omega
    have h1 := cpl_or (by omega) hG (show x.toNat < (a 0).toNat by omega)
    rw [q_bitI (by omega) hx (by omega)]
    cases hbt : G.testBit x.toNat with
    | true =>
      exact ⟨fun _ => ⟨qR_of (by omega) (by omega), ih hxn' (by omega) (step (fun e => by have := e.1; rw [h1.2.2.1, hbt] at this; cases this))⟩, fun c2 => absurd (by decide) c2⟩
    | false =>
      refine ⟨fun c2 => absurd rfl c2, fun _ => x_liking hQ hW hs.1.1 hne hx hxn' ?_⟩
      have hp2 : 2 ^ x.toNat < 128 := Nat.lt_of_lt_of_le (q_pow_lt (n := 7) hx (by omega)) (by decide)
      have hb1 : (cpl (a 0).toNat G).testBit x.toNat = true := by rw [h1.2.2.1, hbt]; rfl
      dsimp only [qri]
      rw [q_oneI hx (by omega), q_or (by omega) (by omega), Int.toNat_natCast, Int.toNat_natCast, hT _ h1.2.2.2.1, hT G hG, bWorth_s hW hG hx hxn' hbt]
      have h3 := bMost_b hW (a 0 - sPop G - 1).toNat (sPop G + 1) (clr (cpl (a 0).toNat G) x.toNat) (by omega) (by omega)
      have h4 := wf_like hW hs.1.1 hne hx hxn'
      have e3 : aLike a (sPop G) x = a (21 + 7 * (sPop G) + x) := rfl
      have e4 : bWorth a G = bMost a ((a 0 - sPop G - 1).toNat + 1) (sPop G) (cpl (a 0).toNat G) := by unfold bWorth; rw [hk]
      rw [e4]
      exact ⟨by omega, qR_of (by omega) (by omega), by omega, fun c3 => ⟨qR_of (by omega) (by omega), ih hxn' (by omega) (step (fun e => c3 e.2))⟩, fun c3 => hR x ⟨⟨hx, hxn', hb1, Classical.not_not.mp c3⟩, hy⟩⟩
/-- nothing but the bargain -/
abbrev P0 : Nat → Nat → Nat → Prop := fun c _ _ => c = 0
theorem x_giveBest (hQ : qQX h i a) (hW : qwf B a) (hR : ∀ h', fr P0 h h' → (∀ p, 0 ≤ p → p < a 0 → bG a p (h' 0 0 0 (Int.toNat p))) → R (some (qi (bMost a (a 0).toNat 0 (2 ^ (a 0).toNat - 1)))) h') : qT (d + 3) 3 0 [qo 0 0, qo 7 i, qu, qu, qu] [] h R := by
  have hn := wf_n hW
  obtain ⟨e1, e2, e3⟩ := q_all hn.1 hn.2
  have q7 : ∀ g, fr P0 h g → qQX g i a := fun g hf => qx_fr hQ (by funext j; exact hf 7 i j (fun (e : (7 : Nat) = 0) => absurd e (by decide)))
  have sall := sPop_n (n := (a 0).toNat) (S := 2 ^ (a 0).toNat - 1) (by omega) (by omega)
  refine sX0_giveBest_0 ?_
  rw [qx_n hQ, e1]
  refine ⟨qR_of (by omega) (by omega), by omega, qR_of (by omega) (by omega), ?_⟩
  rw [Int.toNat_natCast]
  have second : ∀ g, fr P0 h g → (∀ G' : Nat, G' < 2 ^ (a 0).toNat → g 0 0 2 G' = bWorth a G') → qT (d + 3) 3 47 [qo 0 0, qo 7 i, qi ((2 ^ (a 0).toNat - 1 : Nat) : Int), qi 0, qi 0] [] g R := by
    intro g hf hT
    refine q_up (n := a 0) (C := fun x => x ≤ a 0 → ∀ (g : qH) (G : Nat), fr P0 h g → (∀ G' : Nat, G' < 2 ^ (a 0).toNat → g 0 0 2 G' = bWorth a G') → G < 2 ^ (a 0).toNat → sPop G = x → bL a x.toNat (cpl (a 0).toNat G) → (∀ p, 0 ≤ p → p < x → bG a p (g 0 0 0 (Int.toNat p))) → qT (d + 3) 3 47 [qo 0 0, qo 7 i, qi ((2 ^ (a 0).toNat - 1 : Nat) : Int), qi (G : Int), qi x] [] g R) ?_ 0 (by omega) (by omega) g 0 hf hT (by omega) rfl ?_ (fun p p0 p1 => absurd p1 (by omega))
    · intro x hx ih hxn g G hf hT hG hsG hL hB
      refine sX0_giveBest_47 ?_
      rw [qx_n (q7 g hf)]
      refine ⟨fun c => ⟨by omega, ?_⟩, fun c => ?_⟩
      · rw [show (Int.toNat 0) = 0 from rfl, hT 0 (by omega)]
        have : bWorth a 0 = bMost a (a 0).toNat 0 (2 ^ (a 0).toNat - 1) := by
          unfold bWorth cpl
          rw [show sPop 0 = 0 from by decide, Nat.xor_zero, Int.sub_zero]
        rw [this]
        exact hR g hf (fun p p0 p1 => hB p p0 (by omega))
      · have hxn' : x < a 0 := by omega
        have K := x_firstHouse (d := d) (R := fun w1 g2 => qri w1 fun r3 => (0 ≤ x ∧ x < 7) ∧ (0 ≤ x ∧ x < 7) ∧ qR (x + 1) ∧ qT (d + 3) 3 47 [qo 0 0, qo 7 i, qi ((2 ^ (a 0).toNat - 1 : Nat) : Int), qi (qor (G : Int) (qshl 1 ((qup g2 0 0 0 (Int.toNat x) r3) 0 0 0 (Int.toNat x)))), qi (x + 1)] [] (qup g2 0 0 0 (Int.toNat x) r3) R) (q7 g hf) hW hG (by omega) hT ?_
        · rw [hsG] at K
          exact K
        intro r hr
        rw [hsG] at hr
        have hr1 := hr.1
        have h1 := cpl_or (by omega) hG (show r.toNat < (a 0).toNat by omega)
        have hbt : G.testBit r.toNat = false := by
          have := hr1.2.2.1
          rw [h1.2.2.1] at this
          cases hq : G.testBit r.toNat with
          | true => rw [hq] at this; cases this
          | false => rfl
        have hp2 : 2 ^ r.toNat < 128 := Nat.lt_of_lt_of_le (q_pow_lt (n := 7) hr1.1 (by omega)) (by decide)
        refine ⟨by omega, by omega, qR_of (by omega) (by omega), ?_⟩
        rw [up_at, q_oneI hr1.1 (by omega), q_or (by omega) (by omega)]
        refine ih hxn' (by omega) _ _ (fr_trans hf (fr_up rfl)) ?_ h1.2.2.2.1 ?_ ?_ ?_
        · intro G' hG'
          rw [up_j (by decide)]
          exact hT G' hG'
        · rw [(h1.2.2.2.2 hbt).1, hsG]
        · rw [show (x + 1).toNat = x.toNat + 1 by omega]
          refine ⟨_, r, hL, ?_, h1.1⟩
          rw [show ((x.toNat : Nat) : Int) = x by omega]
          exact hr
        · intro p p0 p1
          rw [up_if]
          by_cases e : p.toNat = x.toNat
          · rw [if_pos e, show p = x by omega]
            exact ⟨_, hL, hr⟩
          · rw [if_neg e]
            exact hB p p0 (by omega)
    · show cpl (a 0).toNat 0 = 2 ^ (a 0).toNat - 1
      exact Nat.xor_zero _
  refine q_down (C := fun x => x ≤ ((2 ^ (a 0).toNat - 1 : Nat) : Int) - 1 → ∀ g, fr P0 h g → (∀ G' : Nat, x < (G' : Int) → G' < 2 ^ (a 0).toNat → g 0 0 2 G' = bWorth a G') → qT (d + 3) 3 20 [qo 0 0, qo 7 i, qi ((2 ^ (a 0).toNat - 1 : Nat) : Int), qi x, qu] [] g R) ?_ ?_ (((2 ^ (a 0).toNat - 1 : Nat) : Int) - 1) (Int.le_refl _) _ (fr_up rfl) ?_
  · intro x hx _ g hf hT
    refine sX0_giveBest_20 ⟨fun _ => second g hf (fun G' hG' => hT G' (by omega) hG'), fun c => absurd hx c⟩
  · intro x hx ih hxn g hf hT
    refine sX0_giveBest_20 ⟨fun c => absurd c (by omega), fun _ => ?_⟩
    have K := x_mostBehind (d := d) (R := fun w1 g2 => qri w1 fun r3 => (0 ≤ x ∧ x < 128) ∧ qR (x + (-1)) ∧ qT (d + 3) 3 20 [qo 0 0, qo 7 i, qi ((2 ^ (a 0).toNat - 1 : Nat) : Int), qi (x + (-1)), qu] [] (qup g2 0 0 2 (Int.toNat x) r3) R) (q7 g hf) hW (G := x.toNat) (by omega) (by omega) (fun G' h1 h2 => hT G' (by omega) h2) ?_
    · rw [show ((x.toNat : Nat) : Int) = x by omega] at K
      exact K
    refine ⟨by omega, qR_of (by omega) (by omega), ?_⟩
    rw [show x + (-1) = x - 1 by omega]
    refine ih (by omega) _ (fr_trans hf (fr_up rfl)) ?_
    intro G' h1 h2
    rw [up_if]
    by_cases e : G' = x.toNat
    · rw [if_pos e, e]
    · rw [if_neg e]
      exact hT G' (by omega) h2
  · intro G' h1 h2
    rw [up_if, if_pos (by omega), show G' = 2 ^ (a 0).toNat - 1 by omega]
    unfold bWorth
    rw [sall.2.mp rfl, show (a 0 - ((a 0).toNat : Int)).toNat = 0 by omega]
    rfl
/-- the Model's BEST, one by one -/
theorem m_bestWalk (hM : qM h 0 a) (hW : qwf B a) {p : Int} (p0 : 0 ≤ p) (hp : p < a 0) {z : qV} (hR : ∀ r, bG a p r → R (some (qi r)) h) : qT (d + 10) 303 40 [qo 12 0, qi p, qi ((2 ^ (a 0).toNat - 1 : Nat) : Int), qi 0, qi 0, z] [] h R := by
  have hn := wf_n hW
  obtain ⟨e1, e2, e3⟩ := q_all hn.1 hn.2
  refine q_up (n := p + 1) (C := fun x => x ≤ p + 1 → ∀ (G : Nat) (y : Int) (z : qV), G < 2 ^ (a 0).toNat → sPop G = x → bL a x.toNat (cpl (a 0).toNat G) → (1 ≤ x → bG a (x - 1) y) → qT (d + 10) 303 40 [qo 12 0, qi p, qi ((cpl (a 0).toNat G : Nat) : Int), qi y, qi x, z] [] h R) ?_ 0 (by omega) (by omega) 0 0 z (by omega) rfl (show cpl (a 0).toNat 0 = 2 ^ (a 0).toNat - 1 from Nat.xor_zero _) (fun c => absurd c (by omega)) |> (fun K => by rw [show cpl (a 0).toNat 0 = 2 ^ (a 0).toNat - 1 from Nat.xor_zero _] at K; exact K)
  intro x hx ih hxn G y z hG hsG hL hy
  refine sX12_bestOf_40 ⟨fun c => ?_, fun c => ?_⟩
  · have := hy (by omega)
    rw [show x - 1 = p by omega] at this
    exact hR y this
  · have hxn' : x < a 0 := by omega
    have hs := sPop_n (n := (a 0).toNat) (by omega) hG
    obtain ⟨j, hj, hbj⟩ := sPop_ex (n := (a 0).toNat) (by omega) hG (by omega)
    have hcl : cpl (a 0).toNat G < 128 := (cpl_or (by omega) hG hj).2.1
    have hk : (a 0 - x).toNat = (a 0 - x - 1).toNat + 1 := by omega
    have hex := (bMost_max (L := cpl (a 0).toNat G) (k := (a 0 - x - 1).toNat) hW hx (by omega)).2 ⟨(j : Int), by omega, by omega, by rw [Int.toNat_natCast, (cpl_or (by omega) hG hj).2.2.1, hbj]; rfl⟩
    have hmx := (bMost_max (L := cpl (a 0).toNat G) (k := (a 0 - x - 1).toNat) hW hx (by omega)).1
    have K := m_mostFrom (d := d + 9 - ((a 0 - x).toNat + 2)) (R := fun w1 g2 => qri w1 fun r3 => qT (d + 10) 303 57 [qo 12 0, qi p, qi ((cpl (a 0).toNat G : Nat) : Int), qi 0, qi x, qi r3] [] g2 R) hM hW (a 0 - x).toNat hx (by omega) hcl ?_
    · rw [show d + 9 - ((a 0 - x).toNat + 2) + (a 0 - x).toNat + 2 = d + 9 by omega] at K
      exact K
    show qT _ _ _ _ _ _ _
    rw [hk]
    refine q_up (n := a 0) (C := fun w => w ≤ a 0 → (∀ y, 0 ≤ y → y < w → ¬ ((cpl (a 0).toNat G).testBit y.toNat = true ∧ bVal a (a 0 - x - 1).toNat x (cpl (a 0).toNat G) y = bMost a ((a 0 - x - 1).toNat + 1) x (cpl (a 0).toNat G))) → qT (d + 10) 303 57 [qo 12 0, qi p, qi ((cpl (a 0).toNat G : Nat) : Int), qi w, qi x, qi (bMost a ((a 0 - x - 1).toNat + 1) x (cpl (a 0).toNat G))] [] h R) ?_ 0 (by omega) (by omega) (fun y y0 y1 => absurd y1 (by omega))
    intro w hw ih2 hwn hyy
    have hw' : w < a 0 := by
      obtain ⟨r, r0, r1, r2⟩ := hex
      by_cases c : w < a 0
      · exact c
      · exact absurd r2 (hyy r r0 (by omega))
    have step : ¬ ((cpl (a 0).toNat G).testBit w.toNat = true ∧ bVal a (a 0 - x - 1).toNat x (cpl (a 0).toNat G) w = bMost a ((a 0 - x - 1).toNat + 1) x (cpl (a 0).toNat G)) → ∀ y, 0 ≤ y → y < w + 1 → ¬ ((cpl (a 0).toNat G).testBit y.toNat = true ∧ bVal a (a 0 - x - 1).toNat x (cpl (a 0).toNat G) y = bMost a ((a 0 - x - 1).toNat + 1) x (cpl (a 0).toNat G)) := by
      intro c y y0 y1
      by_cases e : y = w
      · rw [e]; exact c
      · exact hyy y y0 (by omega)
    refine sX12_bestOf_57 (m_has (by omega) hw (by omega) (fun hb1 => ⟨fun c2 => absurd c2 (by decide), fun _ => m_likeOf hM hW hx hxn' hw hw' ⟨qR_of (by omega) (by omega), ?_⟩⟩) (fun hb1 => ⟨fun _ => ⟨qR_of (by omega) (by omega), ih2 hw' (by omega) (step (fun e => by rw [hb1] at e; cases e.1))⟩, fun c2 => absurd rfl c2⟩))
    have h1 := bMost_b hW (a 0 - x - 1).toNat (x + 1) (clr (cpl (a 0).toNat G) w.toNat) (by omega) (by omega)
    have h2 := wf_like hW hx hxn' hw hw'
    have e3 : aLike a x w = a (21 + 7 * x + w) := rfl
    have hc1 := cpl_or (by omega) hG (show w.toNat < (a 0).toNat by omega)
    have hbG : G.testBit w.toNat = false := by
      rw [hc1.2.2.1] at hb1
      cases hq : G.testBit w.toNat with
      | true => rw [hq] at hb1; cases hb1
      | false => rfl
    have hle := hmx w hw hw' hb1
    have ev : bVal a (a 0 - x - 1).toNat x (cpl (a 0).toNat G) w = aLike a x w + bMost a (a 0 - x - 1).toNat (x + 1) (clr (cpl (a 0).toNat G) w.toNat) := rfl
    rw [clr_q hcl hw (by omega)]
    have K2 := m_mostFrom (d := d + 9 - ((a 0 - x - 1).toNat + 2)) (R := fun w7 g8 => qri w7 fun r9 => qR (aLike a x w + r9) ∧ (bMost a ((a 0 - x - 1).toNat + 1) x (cpl (a 0).toNat G) ≤ aLike a x w + r9 → qR (x + 1) ∧ qT (d + 10) 303 40 [qo 12 0, qi p, qi ((clr (cpl (a 0).toNat G) w.toNat : Nat) : Int), qi w, qi (x + 1), qi (bMost a ((a 0 - x - 1).toNat + 1) x (cpl (a 0).toNat G))] [] g8 R) ∧ (¬ (bMost a ((a 0 - x - 1).toNat + 1) x (cpl (a 0).toNat G) ≤ aLike a x w + r9) → qR (w + 1) ∧ qT (d + 10) 303 57 [qo 12 0, qi p, qi ((cpl (a 0).toNat G : Nat) : Int), qi (w + 1), qi x, qi (bMost a ((a 0 - x - 1).toNat + 1) x (cpl (a 0).toNat G))] [] g8 R)) hM hW (a 0 - x - 1).toNat (p := x + 1) (by omega) (by omega) (clr_lt hcl (show w.toNat < 7 by omega)) ?_
    · rw [show d + 9 - ((a 0 - x - 1).toNat + 2) + (a 0 - x - 1).toNat + 2 = d + 9 by omega] at K2
      exact K2
    refine ⟨qR_of (by omega) (by omega), fun c3 => ⟨qR_of (by omega) (by omega), ?_⟩, fun c3 => ⟨qR_of (by omega) (by omega), ih2 hw' (by omega) (step (fun e => c3 (by rw [← ev, e.2]; exact Int.le_refl _)))⟩⟩
    have hbH : bH a x (cpl (a 0).toNat G) w := ⟨⟨hw, hw', hb1, by omega⟩, hyy⟩
    rw [← hc1.1]
    refine ih (by omega) (by omega) _ w _ hc1.2.2.2.1 ?_ ?_ ?_
    · rw [(hc1.2.2.2.2 hbG).1, hsG]
    · rw [show (x + 1).toNat = x.toNat + 1 by omega]
      refine ⟨_, w, hL, ?_, hc1.1⟩
      rw [show ((x.toNat : Nat) : Int) = x by omega]
      exact hbH
    · intro _
      rw [show x + 1 - 1 = x by omega]
      exact ⟨_, hL, hbH⟩
end Bst
