/-! counting up, and rows of numbers -/
theorem q_up {n : Int} {C : Int → Prop} (h1 : ∀ x, 0 ≤ x → (x < n → C (x + 1)) → C x) : ∀ x, 0 ≤ x → C x := by
  intro x hx
  generalize hk : (n - x).toNat = k
  induction k generalizing x with
  | zero => exact h1 x hx (fun h => absurd h (by omega))
  | succ k ih => exact h1 x hx (fun h => ih (x + 1) (by omega) (by omega))
theorem q_down {C : Int → Prop} (h0 : ∀ x, x < 0 → C x) (h1 : ∀ x, 0 ≤ x → C (x - 1) → C x) : ∀ x, C x := by
  intro x
  by_cases hx : x < 0
  · exact h0 x hx
  generalize hk : x.toNat = k
  induction k generalizing x with
  | zero => exact h1 x (by omega) (h0 _ (by omega))
  | succ k ih => exact h1 x (by omega) (ih (x - 1) (by omega) (by omega))
theorem q_ind {C : Int → Prop} (h0 : C 0) (h1 : ∀ x, 0 ≤ x → C x → C (x + 1)) : ∀ x, 0 ≤ x → C x := by
  intro x hx
  generalize hk : x.toNat = k
  induction k generalizing x with
  | zero => rw [show x = 0 by omega]; exact h0
  | succ k ih =>
    have := h1 (x - 1) (by omega) (ih (x - 1) (by omega) (by omega))
    rwa [show x - 1 + 1 = x by omega] at this
def qfold {σ : Type} (f : Int → σ → σ) (s : σ) (n : Int) : σ := Nat.rec s (fun k r => f k r) n.toNat
theorem qfold_0 {σ : Type} {f : Int → σ → σ} {s : σ} : qfold f s 0 = s := rfl
theorem qfold_n {σ : Type} {f : Int → σ → σ} {s : σ} {n : Int} (h : n ≤ 0) : qfold f s n = s := by
  unfold qfold
  rw [show n.toNat = 0 by omega]
  rfl
theorem qfold_s {σ : Type} {f : Int → σ → σ} {s : σ} {x : Int} (hx : 0 ≤ x) : qfold f s (x + 1) = f x (qfold f s x) := by
  unfold qfold
  rw [show (x + 1).toNat = x.toNat + 1 by omega]
  show f (x.toNat : Int) _ = _
  rw [show (x.toNat : Int) = x by omega]
theorem qfold_c {σ : Type} {f g : Int → σ → σ} {s : σ} {n : Int} (h : ∀ x r, 0 ≤ x → x < n → f x r = g x r) : qfold f s n = qfold g s n := by
  by_cases hn : n ≤ 0
  · rw [qfold_n hn, qfold_n hn]
  have key : ∀ m : Int, 0 ≤ m → m ≤ n → qfold f s m = qfold g s m := by
    apply q_ind
    · intro _; rfl
    · intro x hx ih hxn
      rw [qfold_s hx, qfold_s hx, ih (by omega), h x _ hx (by omega)]
  exact key n (by omega) (by omega)
theorem qfold_inv {σ : Type} {f : Int → σ → σ} {s : σ} {n : Int} (P : Int → σ → Prop) (h0 : P 0 s) (h1 : ∀ x r, 0 ≤ x → x < n → P x r → P (x + 1) (f x r)) (hn : 0 ≤ n) : P n (qfold f s n) := by
  have key : ∀ m : Int, 0 ≤ m → m ≤ n → P m (qfold f s m) := by
    apply q_ind
    · intro _; exact h0
    · intro x hx ih hxn
      rw [qfold_s hx]
      exact h1 x _ hx (by omega) (ih (by omega))
  exact key n hn (by omega)
theorem q_tn {x y : Int} (hx : 0 ≤ x) (hy : 0 ≤ y) : (Int.toNat x = Int.toNat y) = (x = y) := by
  apply propext
  omega
theorem qR_qor (x y : Int) : qR (qor x y) := ⟨Int32.le_toInt _, Int32.toInt_lt _⟩
theorem qR_qand (x y : Int) : qR (qand x y) := ⟨Int32.le_toInt _, Int32.toInt_lt _⟩
theorem qor_0 {x : Int} (h : qR x) : qor x 0 = x := by
  unfold qor
  rw [show Int32.ofInt 0 = 0 from rfl, Int32.or_zero]
  exact Int32.toInt_ofInt_of_le h.1 h.2
/-! THE QUARTER as numbers: cells 0.. of a block as the Model lays them -/
abbrev qB : Type := Int → Int
def aSet (a : qB) (k v : Int) : qB := fun x => if x = k then v else a x
theorem aSet_eq {a : qB} {k v x : Int} (h : x = k) : aSet a k v x = v := if_pos h
theorem aSet_ne {a : qB} {k v x : Int} (h : x ≠ k) : aSet a k v x = a x := if_neg h
def qwf (B : Int) (a : qB) : Prop :=
  (0 ≤ a 0 ∧ a 0 ≤ 7) ∧ (0 ≤ a 1 ∧ a 1 ≤ 10) ∧ (0 ≤ a 2 ∧ a 2 ≤ 16) ∧ (0 ≤ a 3 ∧ a 3 ≤ 30) ∧ (0 ≤ a 4 ∧ a 4 ≤ 9999) ∧ (0 ≤ a 5 ∧ a 5 ≤ B) ∧ (0 ≤ a 6 ∧ a 6 ≤ B) ∧
  (∀ p, 0 ≤ p → p < a 0 → 0 ≤ a (7 + p) ∧ a (7 + p) ≤ 9) ∧
  (∀ p, 0 ≤ p → p < a 0 → 0 ≤ a (14 + p) ∧ a (14 + p) < a 0) ∧
  (∀ p q, 0 ≤ p → p < a 0 → 0 ≤ q → q < a 0 → a (14 + p) = a (14 + q) → p = q) ∧
  (∀ p q, 0 ≤ p → p < a 0 → 0 ≤ q → q < a 0 → 0 ≤ a (21 + 7 * p + q) ∧ a (21 + 7 * p + q) ≤ 9) ∧
  (∀ s, 0 ≤ s → s < a 1 → (0 ≤ a (70 + s) ∧ a (70 + s) < a 0) ∧ (0 ≤ a (80 + s) ∧ a (80 + s) < a 0) ∧ a (70 + s) ≠ a (80 + s) ∧ 0 ≤ a (90 + s) ∧ a (90 + s) ≤ 9)
section WF
variable {B : Int} {a : qB}
theorem wf_n (h : qwf B a) : 0 ≤ a 0 ∧ a 0 ≤ 7 := h.1
theorem wf_m (h : qwf B a) : 0 ≤ a 1 ∧ a 1 ≤ 10 := h.2.1
theorem wf_odds (h : qwf B a) : 0 ≤ a 2 ∧ a 2 ≤ 16 := h.2.2.1
theorem wf_cool (h : qwf B a) : 0 ≤ a 3 ∧ a 3 ≤ 30 := h.2.2.2.1
theorem wf_night (h : qwf B a) : 0 ≤ a 4 ∧ a 4 ≤ 9999 := h.2.2.2.2.1
theorem wf_quar (h : qwf B a) : 0 ≤ a 5 ∧ a 5 ≤ B := h.2.2.2.2.2.1
theorem wf_made (h : qwf B a) : 0 ≤ a 6 ∧ a 6 ≤ B := h.2.2.2.2.2.2.1
theorem wf_temp (h : qwf B a) {p : Int} (h0 : 0 ≤ p) (hp : p < a 0) : 0 ≤ a (7 + p) ∧ a (7 + p) ≤ 9 := h.2.2.2.2.2.2.2.1 p h0 hp
theorem wf_live (h : qwf B a) {p : Int} (h0 : 0 ≤ p) (hp : p < a 0) : 0 ≤ a (14 + p) ∧ a (14 + p) < a 0 := h.2.2.2.2.2.2.2.2.1 p h0 hp
theorem wf_inj (h : qwf B a) {p q : Int} (h0 : 0 ≤ p) (hp : p < a 0) (h1 : 0 ≤ q) (hq : q < a 0) (e : a (14 + p) = a (14 + q)) : p = q := h.2.2.2.2.2.2.2.2.2.1 p q h0 hp h1 hq e
theorem wf_like (h : qwf B a) {p q : Int} (h0 : 0 ≤ p) (hp : p < a 0) (h1 : 0 ≤ q) (hq : q < a 0) : 0 ≤ a (21 + 7 * p + q) ∧ a (21 + 7 * p + q) ≤ 9 := h.2.2.2.2.2.2.2.2.2.2.1 p q h0 hp h1 hq
theorem wf_st (h : qwf B a) {s : Int} (h0 : 0 ≤ s) (hs : s < a 1) : (0 ≤ a (70 + s) ∧ a (70 + s) < a 0) ∧ (0 ≤ a (80 + s) ∧ a (80 + s) < a 0) ∧ a (70 + s) ≠ a (80 + s) ∧ 0 ≤ a (90 + s) ∧ a (90 + s) ≤ 9 := h.2.2.2.2.2.2.2.2.2.2.2 s h0 hs
end WF
/-- which cells stand for something -/
def alv (a : qB) (x : Int) : Prop :=
  (0 ≤ x ∧ x < 7) ∨ (7 ≤ x ∧ x < 14 ∧ x - 7 < a 0) ∨ (14 ≤ x ∧ x < 21 ∧ x - 14 < a 0) ∨ (21 ≤ x ∧ x < 70 ∧ (x - 21) % 7 < a 0 ∧ (x - 21) / 7 < a 0) ∨
  (70 ≤ x ∧ x < 80 ∧ x - 70 < a 1) ∨ (80 ≤ x ∧ x < 90 ∧ x - 80 < a 1) ∨ (90 ≤ x ∧ x < 100 ∧ x - 90 < a 1)
/-- where the class keeps a cell: slot and place -/
def asl (x : Int) : Nat := if x < 7 then (7 + x).toNat else if x < 14 then 1 else if x < 21 then 2 else if x < 70 then 3 else if x < 80 then 4 else if x < 90 then 5 else 6
def apl (x : Int) : Nat := if x < 7 then 0 else if x < 14 then (x - 7).toNat else if x < 21 then (x - 14).toNat else if x < 70 then (x - 21).toNat else if x < 80 then (x - 70).toNat else if x < 90 then (x - 80).toNat else (x - 90).toNat
theorem aloc_inj {x y : Int} (hx : 0 ≤ x) (hy : 0 ≤ y) (h1 : asl x = asl y) (h2 : apl x = apl y) : x = y := by
  unfold asl at h1
  unfold apl at h2
  repeat' split at h1
  all_goals (simp only [*, if_true, if_false] at h2; omega)
/-- the class's quarter i holds a -/
def qQX (h : qH) (i : Nat) (a : qB) : Prop := ∀ x, alv a x → h 7 i (asl x) (apl x) = a x
section QX
variable {h : qH} {i : Nat} {a : qB}
theorem qx_at (hQ : qQX h i a) {x : Int} {j k : Nat} (hl : alv a x) (h1 : asl x = j) (h2 : apl x = k) : h 7 i j k = a x := by
  rw [← h1, ← h2]
  exact hQ x hl
theorem qx_n (hQ : qQX h i a) : h 7 i 7 0 = a 0 := qx_at hQ (Or.inl (by omega)) rfl rfl
theorem qx_m (hQ : qQX h i a) : h 7 i 8 0 = a 1 := qx_at hQ (Or.inl (by omega)) rfl rfl
theorem qx_odds (hQ : qQX h i a) : h 7 i 9 0 = a 2 := qx_at hQ (Or.inl (by omega)) rfl rfl
theorem qx_cool (hQ : qQX h i a) : h 7 i 10 0 = a 3 := qx_at hQ (Or.inl (by omega)) rfl rfl
theorem qx_night (hQ : qQX h i a) : h 7 i 11 0 = a 4 := qx_at hQ (Or.inl (by omega)) rfl rfl
theorem qx_quar (hQ : qQX h i a) : h 7 i 12 0 = a 5 := qx_at hQ (Or.inl (by omega)) rfl rfl
theorem qx_made (hQ : qQX h i a) : h 7 i 13 0 = a 6 := qx_at hQ (Or.inl (by omega)) rfl rfl
theorem asl_temp {p : Int} (h0 : 0 ≤ p) (h7 : p < 7) : asl (7 + p) = 1 ∧ apl (7 + p) = p.toNat := by
  unfold asl apl
  rw [if_neg (by omega), if_pos (by omega), if_neg (by omega), if_pos (by omega)]
  exact ⟨rfl, by omega⟩
theorem asl_live {p : Int} (h0 : 0 ≤ p) (h7 : p < 7) : asl (14 + p) = 2 ∧ apl (14 + p) = p.toNat := by
  unfold asl apl
  rw [if_neg (by omega), if_neg (by omega), if_pos (by omega), if_neg (by omega), if_neg (by omega), if_pos (by omega)]
  exact ⟨rfl, by omega⟩
theorem asl_like {p q : Int} (h0 : 0 ≤ p) (h7 : p < 7) (h1 : 0 ≤ q) (h8 : q < 7) : asl (21 + 7 * p + q) = 3 ∧ apl (21 + 7 * p + q) = (p * 7 + q).toNat := by
  unfold asl apl
  rw [if_neg (by omega), if_neg (by omega), if_neg (by omega), if_pos (by omega), if_neg (by omega), if_neg (by omega), if_neg (by omega), if_pos (by omega)]
  exact ⟨rfl, by omega⟩
theorem asl_one {s : Int} (h0 : 0 ≤ s) (h7 : s < 10) : asl (70 + s) = 4 ∧ apl (70 + s) = s.toNat := by
  unfold asl apl
  rw [if_neg (by omega), if_neg (by omega), if_neg (by omega), if_neg (by omega), if_pos (by omega), if_neg (by omega), if_neg (by omega), if_neg (by omega), if_neg (by omega), if_pos (by omega)]
  exact ⟨rfl, by omega⟩
theorem asl_two {s : Int} (h0 : 0 ≤ s) (h7 : s < 10) : asl (80 + s) = 5 ∧ apl (80 + s) = s.toNat := by
  unfold asl apl
  rw [if_neg (by omega), if_neg (by omega), if_neg (by omega), if_neg (by omega), if_neg (by omega), if_pos (by omega), if_neg (by omega), if_neg (by omega), if_neg (by omega), if_neg (by omega), if_neg (by omega), if_pos (by omega)]
  exact ⟨rfl, by omega⟩
theorem asl_grud {s : Int} (h0 : 0 ≤ s) (h7 : s < 10) : asl (90 + s) = 6 ∧ apl (90 + s) = s.toNat := by
  unfold asl apl
  rw [if_neg (by omega), if_neg (by omega), if_neg (by omega), if_neg (by omega), if_neg (by omega), if_neg (by omega), if_neg (by omega), if_neg (by omega), if_neg (by omega), if_neg (by omega), if_neg (by omega), if_neg (by omega)]
  exact ⟨rfl, by omega⟩
theorem qx_temp {B : Int} (hQ : qQX h i a) (hW : qwf B a) {p : Int} (h0 : 0 ≤ p) (hp : p < a 0) : h 7 i 1 (Int.toNat p) = a (7 + p) := by
  have hn := wf_n hW
  exact qx_at hQ (Or.inr (Or.inl (by omega))) (asl_temp h0 (by omega)).1 (asl_temp h0 (by omega)).2
theorem qx_live {B : Int} (hQ : qQX h i a) (hW : qwf B a) {p : Int} (h0 : 0 ≤ p) (hp : p < a 0) : h 7 i 2 (Int.toNat p) = a (14 + p) := by
  have hn := wf_n hW
  exact qx_at hQ (Or.inr (Or.inr (Or.inl (by omega)))) (asl_live h0 (by omega)).1 (asl_live h0 (by omega)).2
theorem qx_like {B : Int} (hQ : qQX h i a) (hW : qwf B a) {p q : Int} (h0 : 0 ≤ p) (hp : p < a 0) (h1 : 0 ≤ q) (hq : q < a 0) : h 7 i 3 (Int.toNat (p * 7 + q)) = a (21 + 7 * p + q) := by
  have hn := wf_n hW
  exact qx_at hQ (Or.inr (Or.inr (Or.inr (Or.inl (by omega))))) (asl_like h0 (by omega) h1 (by omega)).1 (asl_like h0 (by omega) h1 (by omega)).2
theorem qx_one {B : Int} (hQ : qQX h i a) (hW : qwf B a) {s : Int} (h0 : 0 ≤ s) (hs : s < a 1) : h 7 i 4 (Int.toNat s) = a (70 + s) := by
  have hm := wf_m hW
  exact qx_at hQ (Or.inr (Or.inr (Or.inr (Or.inr (Or.inl (by omega)))))) (asl_one h0 (by omega)).1 (asl_one h0 (by omega)).2
theorem qx_two {B : Int} (hQ : qQX h i a) (hW : qwf B a) {s : Int} (h0 : 0 ≤ s) (hs : s < a 1) : h 7 i 5 (Int.toNat s) = a (80 + s) := by
  have hm := wf_m hW
  exact qx_at hQ (Or.inr (Or.inr (Or.inr (Or.inr (Or.inr (Or.inl (by omega))))))) (asl_two h0 (by omega)).1 (asl_two h0 (by omega)).2
theorem qx_grud {B : Int} (hQ : qQX h i a) (hW : qwf B a) {s : Int} (h0 : 0 ≤ s) (hs : s < a 1) : h 7 i 6 (Int.toNat s) = a (90 + s) := by
  have hm := wf_m hW
  exact qx_at hQ (Or.inr (Or.inr (Or.inr (Or.inr (Or.inr (Or.inr (by omega))))))) (asl_grud h0 (by omega)).1 (asl_grud h0 (by omega)).2
/-- a quarter is its own part of the heap alone -/
theorem qx_fr {h' : qH} (hQ : qQX h i a) (e : h' 7 i = h 7 i) : qQX h' i a := by
  unfold qQX at *
  rw [e]
  exact hQ
theorem qx_put (hQ : qQX h i a) {k v : Int} {j q : Nat} (h0 : 0 ≤ k) (h1 : asl k = j) (h2 : apl k = q) (hl : ∀ x, alv (aSet a k v) x → x = k ∨ alv a x) : qQX (qup h 7 i j q v) i (aSet a k v) := by
  intro x hx
  show (if asl x = j ∧ 7 = 7 ∧ apl x = q ∧ i = i then v else h 7 i (asl x) (apl x)) = _
  have hx0 : 0 ≤ x := by unfold alv at hx; omega
  by_cases hk : x = k
  · rw [hk, if_pos ⟨h1, rfl, h2, rfl⟩, aSet_eq rfl]
  · rw [if_neg (fun e => hk (aloc_inj hx0 h0 (by rw [e.1, h1]) (by rw [e.2.2.1, h2]))), aSet_ne hk]
    exact hQ x ((hl x hx).resolve_left hk)
/-- a cell that isn't a count -/
theorem qx_put' (hQ : qQX h i a) {k v : Int} {j q : Nat} (h0 : 2 ≤ k) (h1 : asl k = j) (h2 : apl k = q) : qQX (qup h 7 i j q v) i (aSet a k v) := by
  refine qx_put hQ (by omega) h1 h2 (fun x hx => Or.inr ?_)
  unfold alv at *
  rw [aSet_ne (by omega), aSet_ne (by omega)] at hx
  exact hx
end QX
