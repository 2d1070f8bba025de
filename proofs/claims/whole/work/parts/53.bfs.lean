/-! how far it is -/
def isG (a : qB) (gl : Int → Int) (b : qB) : Prop := ∀ p, 0 ≤ p → p < a 0 → b (14 + p) = gl p
def wk (a : qB) (gl : Int → Int) : Nat → qB → Prop
  | 0, b => isG a gl b
  | k + 1, b => ∃ s, 0 ≤ s ∧ s < a 1 ∧ wk a gl k (aOn b s)
/-- who lives where, alike -/
def sL (a b b' : qB) : Prop := ∀ p, 0 ≤ p → p < a 0 → b' (14 + p) = b (14 + p)
theorem sL_rfl {a b : qB} : sL a b b := fun _ _ _ => rfl
theorem sL_sym {a b b' : qB} (h : sL a b b') : sL a b' b := fun p p0 p1 => (h p p0 p1).symm
theorem sL_trans {a b b' b'' : qB} (h : sL a b b') (h2 : sL a b' b'') : sL a b b'' := fun p p0 p1 => (h2 p p0 p1).trans (h p p0 p1)
theorem sL_on {B : Int} {a b b' : qB} (hW : qwf B b) (hW' : qwf B b') (hA : bA a b) (hA' : bA a b') (h : sL a b b') {s : Int} (s0 : 0 ≤ s) (hs : s < a 1) : sL a (aOn b s) (aOn b' s) := by
  intro p p0 hp
  have e1 := hA 1 (by omega)
  have e1' := hA' 1 (by omega)
  have e0 := hA 0 (by omega)
  have h3 := wf_st hW s0 (by omega : s < b 1)
  rw [aOn_at hW' s0 (by omega), aOn_at hW s0 (by omega), hA' (70 + s) (by omega), hA' (80 + s) (by omega), hA (70 + s) (by omega), hA (80 + s) (by omega)]
  rw [hA (70 + s) (by omega), hA (80 + s) (by omega)] at h3
  rw [h _ h3.1.1 (by omega), h _ h3.2.1.1 (by omega), h p p0 hp]
theorem sL_rk {a b b' : qB} (hA : bA a b) (hA' : bA a b') (n0 : 0 ≤ a 0) (h : sL a b b') : rk b' = rk b := by
  have e0 := hA 0 (by omega)
  have e0' := hA' 0 (by omega)
  exact rk_c (by omega) (by omega) (fun p p0 p1 => h p p0 (by omega))
theorem rk_sL {B : Int} {a b b' : qB} (hW : qwf B b) (hW' : qwf B b') (hA : bA a b) (hA' : bA a b') (e : rk b' = rk b) : sL a b b' := by
  have e0 := hA 0 (by omega)
  have e0' := hA' 0 (by omega)
  exact fun p p0 p1 => (rk_inj hW hW' (by omega) e.symm p p0 (by omega)).symm
theorem on_wf {B : Int} {a b : qB} (hW : qwf B b) (hA : bA a b) {s : Int} (s0 : 0 ≤ s) (hs : s < a 1) : qwf B (aOn b s) ∧ bA a (aOn b s) ∧ aOn (aOn b s) s = b := by
  have e1 := hA 1 (by omega)
  exact ⟨aOn_wf hW s0 (by omega), bA_on hA hW s0 (by omega), aOn_on hW s0 (by omega)⟩
theorem wk_c {B : Int} {a : qB} {gl : Int → Int} : ∀ (k : Nat) {b b' : qB}, qwf B b → qwf B b' → bA a b → bA a b' → sL a b b' → wk a gl k b → wk a gl k b' := by
  intro k
  induction k with
  | zero => intro b b' _ _ _ _ h hw p p0 p1; rw [h p p0 p1]; exact hw p p0 p1
  | succ k ih =>
    intro b b' hW hW' hA hA' h hw
    obtain ⟨s, s0, s1, s2⟩ := hw
    have o1 := on_wf hW hA s0 s1
    have o2 := on_wf hW' hA' s0 s1
    exact ⟨s, s0, s1, ih o1.1 o2.1 o1.2.1 o2.2.1 (sL_on hW hW' hA hA' h s0 s1) s2⟩
/-- what determines how far all is -/
def rL (B : Int) (a : qB) (gl : Int → Int) (F : qB → Int) : Prop := ∀ b, qwf B b → bA a b → -1 ≤ F b ∧ (isG a gl b → F b = 0) ∧ (F b = 0 → isG a gl b) ∧ (0 ≤ F b → ∀ s, 0 ≤ s → s < a 1 → 0 ≤ F (aOn b s) ∧ F (aOn b s) ≤ F b + 1) ∧ (0 < F b → ∃ s, 0 ≤ s ∧ s < a 1 ∧ F (aOn b s) = F b - 1)
theorem rL_wk {B : Int} {a : qB} {gl : Int → Int} {F : qB → Int} (h : rL B a gl F) : ∀ (k : Nat) (b : qB), qwf B b → bA a b → wk a gl k b → 0 ≤ F b ∧ F b ≤ k := by
  intro k
  induction k with
  | zero => intro b hW hA hw; rw [(h b hW hA).2.1 hw]; exact ⟨by omega, by omega⟩
  | succ k ih =>
    intro b hW hA hw
    obtain ⟨s, s0, s1, s2⟩ := hw
    have o := on_wf hW hA s0 s1
    have i1 := ih _ o.1 o.2.1 s2
    have i2 := (h _ o.1 o.2.1).2.2.2.1 i1.1 s s0 s1
    rw [o.2.2] at i2
    omega
theorem wk_rL {B : Int} {a : qB} {gl : Int → Int} {F : qB → Int} (h : rL B a gl F) : ∀ (k : Nat) (b : qB), qwf B b → bA a b → F b = k → wk a gl k b := by
  intro k
  induction k with
  | zero => intro b hW hA hw; exact (h b hW hA).2.2.1 hw
  | succ k ih =>
    intro b hW hA hw
    obtain ⟨s, s0, s1, s2⟩ := (h b hW hA).2.2.2.2 (by omega)
    have o := on_wf hW hA s0 s1
    exact ⟨s, s0, s1, ih _ o.1 o.2.1 (by omega)⟩
theorem rL_uniq {B : Int} {a : qB} {gl : Int → Int} {F F' : qB → Int} (h : rL B a gl F) (h' : rL B a gl F') {b : qB} (hW : qwf B b) (hA : bA a b) : F b = F' b := by
  have m1 := (h b hW hA).1
  have m2 := (h' b hW hA).1
  by_cases c : 0 ≤ F b
  · have w1 := rL_wk h' (F b).toNat b hW hA (wk_rL h (F b).toNat b hW hA (by omega))
    have w2 := rL_wk h (F' b).toNat b hW hA (wk_rL h' (F' b).toNat b hW hA (by omega))
    omega
  · by_cases c' : 0 ≤ F' b
    · have w2 := rL_wk h (F' b).toNat b hW hA (wk_rL h' (F' b).toNat b hW hA (by omega))
      omega
    · omega
def BF (B : Int) (a : qB) (gl far : Int → Int) (q : Int → qB) (fl i0 s0 : Int) : Prop :=
  (1 ≤ fl ∧ fl ≤ 5040) ∧ (0 ≤ i0 ∧ i0 ≤ fl) ∧
  (∀ i, 0 ≤ i → i < fl → qwf B (q i) ∧ bA a (q i) ∧ 0 ≤ far (rk (q i))) ∧
  (∀ y, 0 ≤ y → y < 5040 → -1 ≤ far y ∧ (0 ≤ far y → ∃ i, 0 ≤ i ∧ i < fl ∧ rk (q i) = y)) ∧
  (∀ i j, 0 ≤ i → i < j → j < fl → rk (q i) ≠ rk (q j) ∧ far (rk (q i)) ≤ far (rk (q j))) ∧
  (isG a gl (q 0) ∧ far (rk (q 0)) = 0) ∧
  (∀ i, 0 < i → i < fl → 0 < far (rk (q i)) ∧ ∃ j s, 0 ≤ j ∧ j < fl ∧ 0 ≤ s ∧ s < a 1 ∧ rk (aOn (q j) s) = rk (q i) ∧ far (rk (q i)) = far (rk (q j)) + 1) ∧
  (∀ i s, 0 ≤ i → i < fl → (i < i0 ∨ (i = i0 ∧ s < s0)) → 0 ≤ s → s < a 1 → 0 ≤ far (rk (aOn (q i) s)) ∧ far (rk (aOn (q i) s)) ≤ far (rk (q i)) + 1) ∧
  (∀ i, 0 ≤ i → i < fl → i0 < fl → far (rk (q i)) ≤ far (rk (q i0)) + 1)
section Bf
variable {B : Int} {a : qB} {gl far : Int → Int} {q : Int → qB} {fl i0 s0 : Int}
theorem BF_one (hW : qwf B (q 0)) (hA : bA a (q 0)) (hg : isG a gl (q 0)) (hf : ∀ y, 0 ≤ y → y < 5040 → far y = if y = rk (q 0) then 0 else -1) : BF B a gl far q 1 0 0 := by
  have hk := rk_b hW
  have e : far (rk (q 0)) = 0 := by rw [hf _ hk.1 hk.2, if_pos rfl]
  refine ⟨by omega, by omega, fun i i0 i1 => ?_, fun y y0 y1 => ?_, fun i j i0 ij j1 => absurd j1 (by omega), ⟨hg, e⟩, fun i i0 i1 => absurd i1 (by omega), fun i s i0 i1 c t0 _ => absurd c (by omega), fun i i0 i1 _ => ?_⟩
  · rw [show i = 0 by omega]
    exact ⟨hW, hA, by omega⟩
  · rw [hf y y0 y1]
    by_cases c : y = rk (q 0)
    · rw [if_pos c]; exact ⟨by omega, fun _ => ⟨0, by omega, by omega, c.symm⟩⟩
    · rw [if_neg c]; exact ⟨by omega, fun c2 => absurd c2 (by omega)⟩
  · rw [show i = 0 by omega]; omega
theorem BF_skip (h : BF B a gl far q fl i0 s0) (hi : i0 < fl) (h0 : 0 ≤ s0) (hs : s0 < a 1) (hf : 0 ≤ far (rk (aOn (q i0) s0))) : BF B a gl far q fl i0 (s0 + 1) := by
  obtain ⟨b1, b2, b3, b4, b5, b6, b7, b8, b9⟩ := h
  refine ⟨b1, b2, b3, b4, b5, b6, b7, fun i s i1 i2 c t0 t1 => ?_, b9⟩
  by_cases e : i = i0 ∧ s = s0
  · obtain ⟨e1, e2⟩ := e
    subst e1 e2
    have w := b3 i i1 i2
    have o := on_wf w.1 w.2.1 t0 t1
    have k := rk_b o.1
    obtain ⟨j, j0, j1, j2⟩ := (b4 _ k.1 k.2).2 hf
    have := b9 j j0 j1 hi
    rw [j2] at this
    exact ⟨hf, this⟩
  · exact b8 i s i1 i2 (by omega) t0 t1
theorem BF_next (h : BF B a gl far q fl i0 s0) (hi : i0 < fl) (hs : a 1 ≤ s0) : BF B a gl far q fl (i0 + 1) 0 := by
  obtain ⟨b1, b2, b3, b4, b5, b6, b7, b8, b9⟩ := h
  refine ⟨b1, by omega, b3, b4, b5, b6, b7, fun i s i1 i2 c t0 t1 => b8 i s i1 i2 (by omega) t0 t1, fun i i1 i2 c => ?_⟩
  have h1 := b9 i i1 i2 hi
  have h2 := (b5 i0 (i0 + 1) b2.1 (by omega) c).2
  omega
theorem BF_new (h : BF B a gl far q fl i0 s0) (hi : i0 < fl) (h0 : 0 ≤ s0) (hs : s0 < a 1) (hf : far (rk (aOn (q i0) s0)) < 0) : fl < 5040 ∧ ∀ far' q', (∀ y, 0 ≤ y → y < 5040 → far' y = if y = rk (aOn (q i0) s0) then far (rk (q i0)) + 1 else far y) → (∀ i, 0 ≤ i → i < fl → q' i = q i) → q' fl = aOn (q i0) s0 → BF B a gl far' q' (fl + 1) i0 (s0 + 1) := by
  obtain ⟨b1, b2, b3, b4, b5, b6, b7, b8, b9⟩ := h
  have w := b3 i0 b2.1 hi
  have o := on_wf w.1 w.2.1 h0 hs
  have ko := rk_b o.1
  have nq : ∀ i, 0 ≤ i → i < fl → rk (q i) ≠ rk (aOn (q i0) s0) := fun i i1 i2 e => by
    have := (b3 i i1 i2).2.2
    rw [e] at this
    omega
  have hlt : fl < 5040 := by
    by_cases c : fl < 5040
    · exact c
    · obtain ⟨i, j, ij, j1, e⟩ := q_pigeon 5040 (fun i => if i < 5040 then (rk (q i)).toNat else (rk (aOn (q i0) s0)).toNat) (fun i hi5 => by
        show (if i < 5040 then (rk (q i)).toNat else (rk (aOn (q i0) s0)).toNat) < 5040
        by_cases c2 : i < 5040
        · rw [if_pos c2]
          have := rk_b (b3 i (by omega) (by omega)).1
          omega
        · rw [if_neg c2]; omega)
      have e : (if i < 5040 then (rk (q i)).toNat else (rk (aOn (q i0) s0)).toNat) = (if j < 5040 then (rk (q j)).toNat else (rk (aOn (q i0) s0)).toNat) := e
      have ki := rk_b (b3 i (by omega) (by omega)).1
      rw [if_pos (by omega)] at e
      by_cases c2 : j < 5040
      · rw [if_pos c2] at e
        have kj := rk_b (b3 j (by omega) (by omega)).1
        exact absurd (by omega) (b5 i j (by omega) (by omega) (by omega)).1
      · rw [if_neg c2] at e
        exact absurd (by omega) (nq i (by omega) (by omega))
  refine ⟨hlt, fun far' q' hf' hq' hq => ?_⟩
  · have fo : ∀ i, 0 ≤ i → i < fl → far' (rk (q i)) = far (rk (q i)) := fun i i1 i2 => by
      have k := rk_b (b3 i i1 i2).1
      rw [hf' _ k.1 k.2, if_neg (nq i i1 i2)]
    have fn : far' (rk (aOn (q i0) s0)) = far (rk (q i0)) + 1 := by rw [hf' _ ko.1 ko.2, if_pos rfl]
    have up : ∀ y, 0 ≤ y → y < 5040 → 0 ≤ far y → far' y = far y := fun y y0 y1 yf => by
      rw [hf' y y0 y1, if_neg (fun e => by rw [e] at yf; omega)]
    refine ⟨by omega, by omega, fun i i1 i2 => ?_, fun y y0 y1 => ?_, fun i j i1 ij j1 => ?_, ?_, fun i i1 i2 => ?_, fun i s i1 i2 c t0 t1 => ?_, fun i i1 i2 _ => ?_⟩
    · by_cases e : i = fl
      · rw [e, hq]
        exact ⟨o.1, o.2.1, by omega⟩
      · rw [hq' i i1 (by omega), fo i i1 (by omega)]
        exact b3 i i1 (by omega)
    · by_cases e : y = rk (aOn (q i0) s0)
      · rw [e, fn]
        exact ⟨by omega, fun _ => ⟨fl, by omega, by omega, by rw [hq]⟩⟩
      · rw [hf' y y0 y1, if_neg e]
        refine ⟨(b4 y y0 y1).1, fun c => ?_⟩
        obtain ⟨i, i1, i2, i3⟩ := (b4 y y0 y1).2 c
        exact ⟨i, i1, by omega, by rw [hq' i i1 i2]; exact i3⟩
    · rw [hq' i i1 (by omega), fo i i1 (by omega)]
      by_cases e : j = fl
      · rw [e, hq, fn]
        exact ⟨nq i i1 (by omega), b9 i i1 (by omega) hi⟩
      · rw [hq' j (by omega) (by omega), fo j (by omega) (by omega)]
        exact b5 i j i1 ij (by omega)
    · rw [hq' 0 (by omega) (by omega), fo 0 (by omega) (by omega)]
      exact b6
    · by_cases e : i = fl
      · rw [e, hq, fn]
        refine ⟨by omega, i0, s0, b2.1, by omega, h0, hs, ?_, ?_⟩
        · rw [hq' i0 b2.1 hi]
        · rw [hq' i0 b2.1 hi, fo i0 b2.1 hi]
      · rw [hq' i (by omega) (by omega), fo i (by omega) (by omega)]
        obtain ⟨c1, j, s, j0, j1, t0, t1, t2, t3⟩ := b7 i i1 (by omega)
        exact ⟨c1, j, s, j0, by omega, t0, t1, by rw [hq' j j0 j1]; exact t2, by rw [hq' j j0 j1, fo j j0 j1]; exact t3⟩
    · have hil : i < fl := by omega
      rw [hq' i i1 hil, fo i i1 hil]
      by_cases e : i = i0 ∧ s = s0
      · obtain ⟨e1, e2⟩ := e
        subst e1 e2
        rw [fn]; omega
      · have := b8 i s i1 hil (by omega) t0 t1
        have wi := b3 i i1 hil
        have oi := on_wf wi.1 wi.2.1 t0 t1
        have ki := rk_b oi.1
        rw [up _ ki.1 ki.2 this.1]
        exact this
    · rw [hq' i0 b2.1 hi, fo i0 b2.1 hi]
      by_cases e : i = fl
      · rw [e, hq, fn]; omega
      · rw [hq' i i1 (by omega), fo i i1 (by omega)]
        exact b9 i i1 (by omega) hi
theorem BF_end (h : BF B a gl far q fl fl 0) : rL B a gl (fun b => far (rk b)) := by
  obtain ⟨b1, b2, b3, b4, b5, b6, b7, b8, b9⟩ := h
  intro b hW hA
  have k := rk_b hW
  have hn : 0 ≤ a 0 := by
    have := wf_n hW
    rw [hA 0 (by omega)] at this
    omega
  refine ⟨(b4 _ k.1 k.2).1, fun hg => ?_, fun e => ?_, fun c s s0 s1 => ?_, fun c => ?_⟩
  · have w := b3 0 (by omega) (by omega)
    have : rk b = rk (q 0) := sL_rk w.2.1 hA hn (fun p p0 p1 => by rw [hg p p0 p1, b6.1 p p0 p1])
    show far (rk b) = 0
    rw [this]
    exact b6.2
  · have e : far (rk b) = 0 := e
    obtain ⟨i, i0, i1, i2⟩ := (b4 _ k.1 k.2).2 (by omega)
    by_cases c : i = 0
    · subst c
      have w := b3 0 i0 i1
      have := rk_sL w.1 hW w.2.1 hA i2.symm
      intro p p0 p1
      rw [this p p0 p1]
      exact b6.1 p p0 p1
    · have := (b7 i (by omega) i1).1
      rw [i2] at this
      omega
  · obtain ⟨i, i0, i1, i2⟩ := (b4 _ k.1 k.2).2 c
    have w := b3 i i0 i1
    have sl := rk_sL w.1 hW w.2.1 hA i2.symm
    have o1 := on_wf w.1 w.2.1 s0 s1
    have o2 := on_wf hW hA s0 s1
    have e := sL_rk o1.2.1 o2.2.1 hn (sL_on w.1 hW w.2.1 hA sl s0 s1)
    have := b8 i s i0 i1 (Or.inl i1) s0 s1
    show 0 ≤ far (rk (aOn b s)) ∧ far (rk (aOn b s)) ≤ far (rk b) + 1
    rw [e, ← i2]
    exact this
  · have c : 0 < far (rk b) := c
    obtain ⟨i, i0, i1, i2⟩ := (b4 _ k.1 k.2).2 (by omega)
    have ni : i ≠ 0 := fun e => by
      subst e
      rw [i2] at b6
      omega
    obtain ⟨_, j, s, j0, j1, s0, s1, s2, s3⟩ := b7 i (by omega) i1
    refine ⟨s, s0, s1, ?_⟩
    have wj := b3 j j0 j1
    have oj := on_wf wj.1 wj.2.1 s0 s1
    have ob := on_wf hW hA s0 s1
    have sl := rk_sL oj.1 hW oj.2.1 hA (by rw [s2, i2])
    have sl2 := sL_on oj.1 hW oj.2.1 hA sl s0 s1
    rw [oj.2.2] at sl2
    have e := sL_rk wj.2.1 ob.2.1 hn sl2
    show far (rk (aOn b s)) = far (rk b) - 1
    rw [e, ← i2]
    omega
/-- who was found comes to the goal by a row -/
theorem BF_wk (h : BF B a gl far q fl i0 s0) : ∀ (k : Nat) (i : Int), 0 ≤ i → i < fl → far (rk (q i)) = k → wk a gl k (q i) := by
  obtain ⟨b1, b2, b3, b4, b5, b6, b7, b8, b9⟩ := h
  intro k
  induction k with
  | zero =>
    intro i i1 i2 e
    by_cases c : i = 0
    · rw [c]; exact b6.1
    · have := (b7 i (by omega) i2).1
      omega
  | succ k ih =>
    intro i i1 i2 e
    have ni : i ≠ 0 := fun c => by rw [c] at e; omega
    obtain ⟨_, j, s, j0, j1, s0, s1, s2, s3⟩ := b7 i (by omega) i2
    have wi := b3 i i1 i2
    have wj := b3 j j0 j1
    have oj := on_wf wj.1 wj.2.1 s0 s1
    have oi := on_wf wi.1 wi.2.1 s0 s1
    have sl := rk_sL oj.1 wi.1 oj.2.1 wi.2.1 s2.symm
    have sl2 := sL_on oj.1 wi.1 oj.2.1 wi.2.1 sl s0 s1
    rw [oj.2.2] at sl2
    exact ⟨s, s0, s1, wk_c k wj.1 oi.1 wj.2.1 oi.2.1 sl2 (ih j j0 j1 (by omega))⟩
/-- what isn't found yet lies no nearer -/
theorem BF_depth (h : BF B a gl far q fl i0 s0) (hi : i0 < fl) : ∀ (k : Nat) (b : qB), qwf B b → bA a b → wk a gl k b → (k : Int) ≤ far (rk (q i0)) → 0 ≤ far (rk b) ∧ far (rk b) ≤ k := by
  obtain ⟨b1, b2, b3, b4, b5, b6, b7, b8, b9⟩ := h
  intro k
  induction k with
  | zero =>
    intro b hW hA hw _
    have hn : 0 ≤ a 0 := by
      have := wf_n hW
      rw [hA 0 (by omega)] at this
      omega
    have w := b3 0 (by omega) (by omega)
    have : rk b = rk (q 0) := sL_rk w.2.1 hA hn (fun p p0 p1 => by rw [hw p p0 p1, b6.1 p p0 p1])
    rw [this, b6.2]
    exact ⟨by omega, by omega⟩
  | succ k ih =>
    intro b hW hA hw hk
    have hn : 0 ≤ a 0 := by
      have := wf_n hW
      rw [hA 0 (by omega)] at this
      omega
    obtain ⟨s, s0, s1, s2⟩ := hw
    have ob := on_wf hW hA s0 s1
    have i1 := ih _ ob.1 ob.2.1 s2 (by omega)
    have ko := rk_b ob.1
    obtain ⟨i, t0, t1, t2⟩ := (b4 _ ko.1 ko.2).2 i1.1
    have li : i < i0 := by
      by_cases c : i < i0
      · exact c
      · exfalso
        by_cases e : i = i0
        · rw [← e, t2] at hk; omega
        · have := (b5 i0 i b2.1 (by omega) t1).2
          rw [t2] at this
          omega
    have wi := b3 i t0 t1
    have oi := on_wf wi.1 wi.2.1 s0 s1
    have sl := sL_on ob.1 wi.1 ob.2.1 wi.2.1 (rk_sL ob.1 wi.1 ob.2.1 wi.2.1 t2) s0 s1
    rw [ob.2.2] at sl
    have e := sL_rk hA oi.2.1 hn sl
    have := b8 i s t0 t1 (Or.inl li) s0 s1
    rw [e, t2] at this
    omega
end Bf
