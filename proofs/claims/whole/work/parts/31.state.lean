/-! THE QUARTER as numbers: cells 0.. of a block as the Model lays them -/
abbrev qB : Type := Nat → Int
def qwf (B : Int) (a : qB) : Prop :=
  (0 ≤ a 0 ∧ a 0 ≤ 7) ∧ (0 ≤ a 1 ∧ a 1 ≤ 10) ∧ (0 ≤ a 2 ∧ a 2 ≤ 16) ∧ (0 ≤ a 3 ∧ a 3 ≤ 30) ∧ (0 ≤ a 4 ∧ a 4 ≤ 9999) ∧ (0 ≤ a 5 ∧ a 5 ≤ B) ∧ (0 ≤ a 6 ∧ a 6 ≤ B) ∧
  (∀ p : Nat, (p : Int) < a 0 → 0 ≤ a (7 + p) ∧ a (7 + p) ≤ 9) ∧
  (∀ p : Nat, (p : Int) < a 0 → 0 ≤ a (14 + p) ∧ a (14 + p) < a 0) ∧
  (∀ p q : Nat, (p : Int) < a 0 → (q : Int) < a 0 → a (14 + p) = a (14 + q) → p = q) ∧
  (∀ p q : Nat, (p : Int) < a 0 → (q : Int) < a 0 → 0 ≤ a (21 + 7 * p + q) ∧ a (21 + 7 * p + q) ≤ 9) ∧
  (∀ s : Nat, (s : Int) < a 1 → (0 ≤ a (70 + s) ∧ a (70 + s) < a 0) ∧ (0 ≤ a (80 + s) ∧ a (80 + s) < a 0) ∧ a (70 + s) ≠ a (80 + s) ∧ 0 ≤ a (90 + s) ∧ a (90 + s) ≤ 9)
section WF
variable {B : Int} {a : qB}
theorem wf_n (h : qwf B a) : 0 ≤ a 0 ∧ a 0 ≤ 7 := h.1
theorem wf_m (h : qwf B a) : 0 ≤ a 1 ∧ a 1 ≤ 10 := h.2.1
theorem wf_odds (h : qwf B a) : 0 ≤ a 2 ∧ a 2 ≤ 16 := h.2.2.1
theorem wf_cool (h : qwf B a) : 0 ≤ a 3 ∧ a 3 ≤ 30 := h.2.2.2.1
theorem wf_night (h : qwf B a) : 0 ≤ a 4 ∧ a 4 ≤ 9999 := h.2.2.2.2.1
theorem wf_quar (h : qwf B a) : 0 ≤ a 5 ∧ a 5 ≤ B := h.2.2.2.2.2.1
theorem wf_made (h : qwf B a) : 0 ≤ a 6 ∧ a 6 ≤ B := h.2.2.2.2.2.2.1
theorem wf_temp (h : qwf B a) {p : Nat} (hp : (p : Int) < a 0) : 0 ≤ a (7 + p) ∧ a (7 + p) ≤ 9 := h.2.2.2.2.2.2.2.1 p hp
theorem wf_live (h : qwf B a) {p : Nat} (hp : (p : Int) < a 0) : 0 ≤ a (14 + p) ∧ a (14 + p) < a 0 := h.2.2.2.2.2.2.2.2.1 p hp
theorem wf_inj (h : qwf B a) {p q : Nat} (hp : (p : Int) < a 0) (hq : (q : Int) < a 0) (e : a (14 + p) = a (14 + q)) : p = q := h.2.2.2.2.2.2.2.2.2.1 p q hp hq e
theorem wf_like (h : qwf B a) {p q : Nat} (hp : (p : Int) < a 0) (hq : (q : Int) < a 0) : 0 ≤ a (21 + 7 * p + q) ∧ a (21 + 7 * p + q) ≤ 9 := h.2.2.2.2.2.2.2.2.2.2.1 p q hp hq
theorem wf_st (h : qwf B a) {s : Nat} (hs : (s : Int) < a 1) : (0 ≤ a (70 + s) ∧ a (70 + s) < a 0) ∧ (0 ≤ a (80 + s) ∧ a (80 + s) < a 0) ∧ a (70 + s) ≠ a (80 + s) ∧ 0 ≤ a (90 + s) ∧ a (90 + s) ≤ 9 := h.2.2.2.2.2.2.2.2.2.2.2 s hs
theorem wf_liveN (h : qwf B a) {p : Nat} (hp : (p : Int) < a 0) : ∃ q : Nat, a (14 + p) = q ∧ (q : Int) < a 0 := by
  have h1 := wf_live h hp
  obtain ⟨q, hq⟩ := Int.eq_ofNat_of_zero_le h1.1
  exact ⟨q, hq, by rw [← hq]; exact h1.2⟩
theorem wf_stN (h : qwf B a) {s : Nat} (hs : (s : Int) < a 1) : ∃ p q : Nat, a (70 + s) = p ∧ a (80 + s) = q ∧ (p : Int) < a 0 ∧ (q : Int) < a 0 ∧ p ≠ q := by
  obtain ⟨h1, h2, h3, -⟩ := wf_st h hs
  obtain ⟨p, hp⟩ := Int.eq_ofNat_of_zero_le h1.1
  obtain ⟨q, hq⟩ := Int.eq_ofNat_of_zero_le h2.1
  exact ⟨p, q, hp, hq, by rw [← hp]; exact h1.2, by rw [← hq]; exact h2.2, fun e => h3 (by rw [hp, hq, e])⟩
end WF
/-- the class's quarter i holds a -/
def qQX (h : qH) (i : Nat) (a : qB) : Prop :=
  h 7 i 7 0 = a 0 ∧ h 7 i 8 0 = a 1 ∧ h 7 i 9 0 = a 2 ∧ h 7 i 10 0 = a 3 ∧ h 7 i 11 0 = a 4 ∧ h 7 i 12 0 = a 5 ∧ h 7 i 13 0 = a 6 ∧
  (∀ p : Nat, (p : Int) < a 0 → h 7 i 1 p = a (7 + p)) ∧ (∀ p : Nat, (p : Int) < a 0 → h 7 i 2 p = a (14 + p)) ∧
  (∀ p q : Nat, (p : Int) < a 0 → (q : Int) < a 0 → h 7 i 3 (7 * p + q) = a (21 + 7 * p + q)) ∧
  (∀ s : Nat, (s : Int) < a 1 → h 7 i 4 s = a (70 + s) ∧ h 7 i 5 s = a (80 + s) ∧ h 7 i 6 s = a (90 + s))
section QX
variable {h : qH} {i : Nat} {a : qB}
theorem qx_n (hQ : qQX h i a) : h 7 i 7 0 = a 0 := hQ.1
theorem qx_m (hQ : qQX h i a) : h 7 i 8 0 = a 1 := hQ.2.1
theorem qx_odds (hQ : qQX h i a) : h 7 i 9 0 = a 2 := hQ.2.2.1
theorem qx_cool (hQ : qQX h i a) : h 7 i 10 0 = a 3 := hQ.2.2.2.1
theorem qx_night (hQ : qQX h i a) : h 7 i 11 0 = a 4 := hQ.2.2.2.2.1
theorem qx_quar (hQ : qQX h i a) : h 7 i 12 0 = a 5 := hQ.2.2.2.2.2.1
theorem qx_made (hQ : qQX h i a) : h 7 i 13 0 = a 6 := hQ.2.2.2.2.2.2.1
theorem qx_temp (hQ : qQX h i a) {p : Nat} (hp : (p : Int) < a 0) : h 7 i 1 p = a (7 + p) := hQ.2.2.2.2.2.2.2.1 p hp
theorem qx_live (hQ : qQX h i a) {p : Nat} (hp : (p : Int) < a 0) : h 7 i 2 p = a (14 + p) := hQ.2.2.2.2.2.2.2.2.1 p hp
theorem qx_like (hQ : qQX h i a) {p q : Nat} (hp : (p : Int) < a 0) (hq : (q : Int) < a 0) : h 7 i 3 (7 * p + q) = a (21 + 7 * p + q) := hQ.2.2.2.2.2.2.2.2.2.1 p q hp hq
theorem qx_one (hQ : qQX h i a) {s : Nat} (hs : (s : Int) < a 1) : h 7 i 4 s = a (70 + s) := (hQ.2.2.2.2.2.2.2.2.2.2 s hs).1
theorem qx_two (hQ : qQX h i a) {s : Nat} (hs : (s : Int) < a 1) : h 7 i 5 s = a (80 + s) := (hQ.2.2.2.2.2.2.2.2.2.2 s hs).2.1
theorem qx_grud (hQ : qQX h i a) {s : Nat} (hs : (s : Int) < a 1) : h 7 i 6 s = a (90 + s) := (hQ.2.2.2.2.2.2.2.2.2.2 s hs).2.2
end QX
/-- nothing outside a class's instance changes -/
def qfr (c i : Nat) (h h' : qH) : Prop := ∀ c' i' j k, ¬ (c' = c ∧ i' = i) → h' c' i' j k = h c' i' j k
/-! what is asked of a quarter -/
def aLike (a : qB) (p q : Nat) : Int := a (21 + 7 * p + q)
def aHeat (a : qB) (s : Nat) : Int := a (7 + (a (70 + s)).toNat) + a (7 + (a (80 + s)).toNat) + 2 * a (90 + s)
def aTouch (a : qB) (s : Nat) (p : Int) : Prop := a (70 + s) = p ∨ a (80 + s) = p
def aSum (a : qB) (o : Nat) : Nat → Int
  | 0 => 0
  | n + 1 => aSum a o n + a (o + n)
