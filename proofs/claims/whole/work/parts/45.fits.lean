/-! FITS: the rows that fit -/
theorem up_I {h : qH} {c i j : Nat} {x y v : Int} (hx : 0 ≤ x) (hy : 0 ≤ y) : qup h c i j (Int.toNat y) v c i j (Int.toNat x) = if x = y then v else h c i j (Int.toNat x) := by
  rw [up_if]
  by_cases e : x = y
  · rw [if_pos e, if_pos (by omega)]
  · rw [if_neg e, if_neg (by omega)]
theorem qsum_1 {f g : Int → Int} {o : Int} (o0 : 0 ≤ o) (hg : ∀ p, p ≠ o → g p = f p) : ∀ n : Int, 0 ≤ n → qsum g n = qsum f n + (if o < n then g o - f o else 0) := by
  apply q_ind
  · rw [qsum_0, qsum_0, if_neg (by omega)]; rfl
  · intro x hx ih
    rw [qsum_s hx, qsum_s hx, ih]
    by_cases e : x = o
    · subst e
      rw [if_neg (by omega), if_pos (by omega)]; omega
    · rw [hg x e]
      by_cases c : o < x
      · rw [if_pos c, if_pos (by omega)]; omega
      · rw [if_neg c, if_neg (by omega)]; omega
theorem qsum_2 {f g : Int → Int} {o w n : Int} (o0 : 0 ≤ o) (w0 : 0 ≤ w) (ow : o ≠ w) (ho : o < n) (hw : w < n) (hg : ∀ p, p ≠ o → p ≠ w → g p = f p) : qsum g n = qsum f n + (g o - f o) + (g w - f w) := by
  have h1 := qsum_1 (f := f) (g := fun p => if p = o then g o else f p) o0 (fun p hp => if_neg hp) n (by omega)
  have h2 := qsum_1 (f := fun p => if p = o then g o else f p) (g := g) w0 (fun p hp => by
    by_cases e : p = o
    · rw [e]; exact (if_pos rfl).symm
    · show g p = if p = o then g o else f p
      rw [if_neg e]; exact hg p e hp) n (by omega)
  rw [if_pos ho] at h1
  rw [if_pos hw] at h2
  rw [h2, h1]
  show qsum f n + ((if o = o then g o else f o) - f o) + (g w - (if w = o then g o else f w)) = _
  rw [if_pos rfl, if_neg (fun e => ow e.symm)]
theorem ql2i_s {x : Int} (h0 : 0 ≤ x) (h1 : x < 7) : ql2i x = x := by
  have : x = 0 ∨ x = 1 ∨ x = 2 ∨ x = 3 ∨ x = 4 ∨ x = 5 ∨ x = 6 := by omega
  rcases this with e | e | e | e | e | e | e <;> subst e <;> decide
theorem q_ten (k : Nat) : (10 : Nat) ^ (k + 1) = 10 * 10 ^ k := by rw [Nat.pow_succ, Nat.mul_comm]
def fB (per hou : Int → Int) (nn : Int) (b : qB) : Bool := qfold (fun i r => r && decide (b (14 + per i) = hou i)) true nn
theorem fB_iff {per hou : Int → Int} {b : qB} : ∀ nn : Int, 0 ≤ nn → (fB per hou nn b = true ↔ ∀ i, 0 ≤ i → i < nn → b (14 + per i) = hou i) := by
  apply q_ind
  · exact ⟨fun _ i i0 i1 => absurd i1 (by omega), fun _ => rfl⟩
  · intro x hx ih
    have e : fB per hou (x + 1) b = (fB per hou x b && decide (b (14 + per x) = hou x)) := by unfold fB; rw [qfold_s hx]
    rw [e, Bool.and_eq_true, ih, decide_eq_true_eq]
    constructor
    · rintro ⟨h1, h2⟩ i i0 i1
      by_cases c : i = x
      · rw [c]; exact h2
      · exact h1 i i0 (by omega)
    · intro h1
      exact ⟨fun i i0 i1 => h1 i i0 (by omega), h1 x hx (by omega)⟩
def fN (per hou : Int → Int) (nn : Int) : Nat → qB → Int
  | 0, b => if fB per hou nn b = true then 1 else 0
  | k + 1, b => qsum (fun s => fN per hou nn k (aOn b s)) (b 1)
def fD (b : qB) (x : Int) : Int := if b (14 + x / 7) = x % 7 ∧ x / 7 < b 0 then 1 else 0
def fT (per hou : Int → Int) (nn x : Int) : Nat → qB → Int
  | 0, b => if fB per hou nn b = true then fD b x else 0
  | k + 1, b => qsum (fun s => fT per hou nn x k (aOn b s)) (b 1)
def fF (per hou : Int → Int) (nn : Int) (row : Int → Int) : Nat → qB → Int → Prop
  | 0, _, _ => True
  | k + 1, b, j => (0 ≤ row j ∧ row j < b 1 ∧ 0 < fN per hou nn k (aOn b (row j)) ∧ ∀ s, 0 ≤ s → s < row j → ¬ 0 < fN per hou nn k (aOn b s)) ∧ fF per hou nn row k (aOn b (row j)) (j + 1)
theorem fF_c {per hou : Int → Int} {nn : Int} {row row' : Int → Int} : ∀ (k : Nat) (b : qB) (j : Int), (∀ i, j ≤ i → i < j + k → row' i = row i) → fF per hou nn row k b j → fF per hou nn row' k b j := by
  intro k
  induction k with
  | zero => intro _ _ _ _; trivial
  | succ k ih =>
    intro b j he hF
    have e := he j (by omega) (by omega)
    refine ⟨?_, ?_⟩
    · rw [e]; exact hF.1
    · rw [e]
      exact ih _ _ (fun i i0 i1 => he i (by omega) (by omega)) hF.2
theorem fF_uniq {per hou : Int → Int} {nn : Int} {row row' : Int → Int} : ∀ (k : Nat) (b : qB) (j : Int), fF per hou nn row k b j → fF per hou nn row' k b j → ∀ i, j ≤ i → i < j + k → row i = row' i := by
  intro k
  induction k with
  | zero => intro _ _ _ _ i i0 i1; omega
  | succ k ih =>
    intro b j hF hF' i i0 i1
    have e : row j = row' j := by
      rcases Int.lt_trichotomy (row j) (row' j) with c | c | c
      · exact absurd hF.1.2.2.1 (hF'.1.2.2.2 _ hF.1.1 c)
      · exact c
      · exact absurd hF'.1.2.2.1 (hF.1.2.2.2 _ hF'.1.1 c)
    by_cases c : i = j
    · rw [c]; exact e
    · have h2 := hF.2
      rw [e] at h2
      exact ih _ _ h2 hF'.2 i (by omega) (by omega)
theorem fD_b (b : qB) (x : Int) : 0 ≤ fD b x ∧ fD b x ≤ 1 := by unfold fD; split <;> omega
theorem qsum_le {f g : Int → Int} : ∀ n : Int, 0 ≤ n → (∀ s, 0 ≤ s → s < n → 0 ≤ f s ∧ f s ≤ g s) → 0 ≤ qsum f n ∧ qsum f n ≤ qsum g n := by
  apply q_ind
  · intro _; exact ⟨Int.le_refl _, Int.le_refl _⟩
  · intro x hx ih hf
    have h1 := ih (fun s s0 s1 => hf s s0 (by omega))
    have h2 := hf x hx (by omega)
    rw [qsum_s hx, qsum_s hx]
    omega
section FP
variable {per hou : Int → Int} {nn B : Int}
theorem fN_b : ∀ (k : Nat) (b : qB), qwf B b → 0 ≤ fN per hou nn k b ∧ fN per hou nn k b ≤ ((10 ^ k : Nat) : Int) := by
  intro k
  induction k with
  | zero => intro b _; unfold fN; split <;> exact ⟨by omega, by decide⟩
  | succ k ih =>
    intro b hW
    have hm := wf_m hW
    have := qsum_b (f := fun s => fN per hou nn k (aOn b s)) (V := 10 ^ k) (b 1) hm.1 (fun x x0 x1 => ih _ (aOn_wf hW x0 x1))
    have e : (b 1).toNat * 10 ^ k ≤ 10 * 10 ^ k := Nat.mul_le_mul_right _ (by omega)
    show 0 ≤ qsum (fun s => fN per hou nn k (aOn b s)) (b 1) ∧ qsum (fun s => fN per hou nn k (aOn b s)) (b 1) ≤ ((10 ^ (k + 1) : Nat) : Int)
    rw [q_ten]
    omega
theorem fT_b {x : Int} : ∀ (k : Nat) (b : qB), qwf B b → 0 ≤ fT per hou nn x k b ∧ fT per hou nn x k b ≤ fN per hou nn k b := by
  intro k
  induction k with
  | zero =>
    intro b _
    have := fD_b b x
    show 0 ≤ (if fB per hou nn b = true then fD b x else 0) ∧ (if fB per hou nn b = true then fD b x else 0) ≤ (if fB per hou nn b = true then 1 else 0)
    split <;> omega
  | succ k ih =>
    intro b hW
    exact qsum_le (b 1) (wf_m hW).1 (fun s s0 s1 => ih _ (aOn_wf hW s0 s1))
/-- sums up to a stair: bounds -/
theorem fN_to (k : Nat) {b : qB} (hW : qwf B b) {s : Int} (s0 : 0 ≤ s) (hs : s < b 1) : 0 ≤ qsum (fun s => fN per hou nn k (aOn b s)) s ∧ qsum (fun s => fN per hou nn k (aOn b s)) s + ((10 ^ k : Nat) : Int) ≤ ((10 ^ (k + 1) : Nat) : Int) := by
  have hm := wf_m hW
  have := qsum_b (f := fun s => fN per hou nn k (aOn b s)) (V := 10 ^ k) s s0 (fun x x0 x1 => fN_b k _ (aOn_wf hW x0 (by omega)))
  have e : (s.toNat + 1) * 10 ^ k ≤ 10 * 10 ^ k := Nat.mul_le_mul_right _ (by omega)
  rw [Nat.add_mul, Nat.one_mul] at e
  rw [q_ten]
  omega
theorem fT_to (k : Nat) {b : qB} (hW : qwf B b) {x s : Int} (s0 : 0 ≤ s) (hs : s ≤ b 1) : 0 ≤ qsum (fun s => fT per hou nn x k (aOn b s)) s ∧ qsum (fun s => fT per hou nn x k (aOn b s)) s ≤ qsum (fun s => fN per hou nn k (aOn b s)) s :=
  qsum_le s s0 (fun y y0 y1 => fT_b k _ (aOn_wf hW y0 (by omega)))
end FP
/-- the same but for who lives where -/
def bA (a b : qB) : Prop := ∀ x, (x < 14 ∨ 21 ≤ x) → b x = a x
theorem bA_rfl {a : qB} : bA a a := fun _ _ => rfl
theorem bA_on {B : Int} {a b : qB} (h : bA a b) (hW : qwf B b) {s : Int} (s0 : 0 ≤ s) (hs : s < b 1) : bA a (aOn b s) := fun x hx => by rw [aOn_hi hW s0 hs hx]; exact h x hx
/-- the Model's row -/
def rQ (h : qH) (b : qB) : Prop := ∀ p, 0 ≤ p → p < b 0 → h 12 0 28 (Int.toNat p) = b (14 + p)
theorem rQ_fr {h h' : qH} {b : qB} (hr : rQ h b) (e : h' 12 0 28 = h 12 0 28) : rQ h' b := by
  unfold rQ at *
  rw [e]
  exact hr
abbrev P28 : Nat → Nat → Nat → Prop := fun c _ j => c = 12 ∧ j = 28
section FM
variable {d : Nat} {R : Option qV → qH → Prop} {h : qH} {a b : qB} {B : Int} {per hou : Int → Int} {nn : Int}
theorem m_swapsRow (hM : qM h 0 a) (hA : bA a b) (hW : qwf B b) (hr : rQ h b) {s : Int} (s0 : 0 ≤ s) (hs : s < b 1) (hR : ∀ h', rQ h' (aOn b s) → fr P28 h h' → R none h') : qT (d + 1) 278 0 [qo 12 0, qi s, qu, qu, qu] [] h R := by
  have hm := wf_m hW
  have hn := wf_n hW
  have h3 := wf_st hW s0 hs
  refine sX12_swapsRow_0 ?_
  rw [m_0 hM (by omega) (by omega), m_0 hM (by omega) (by omega), ← hA (70 + s) (by omega), ← hA (80 + s) (by omega), hr _ h3.1.1 h3.1.2, hr _ h3.2.1.1 h3.2.1.2]
  refine ⟨qR_of (by omega) (by omega), by omega, qR_of (by omega) (by omega), by omega, by omega, by omega, by omega, by omega, hR _ ?_ (fr_trans (fr_up ⟨rfl, rfl⟩) (fr_up ⟨rfl, rfl⟩))⟩
  intro p p0 hp
  rw [aOn_hi hW s0 hs (by omega)] at hp
  rw [up_I p0 h3.2.1.1, up_I p0 h3.1.1, hr p p0 hp]
  show _ = aSet (aSet b (14 + b (70 + s)) (b (14 + b (80 + s)))) (14 + b (80 + s)) (b (14 + b (70 + s))) (14 + p)
  unfold aSet
  by_cases c1 : p = b (80 + s)
  · rw [if_pos c1, if_pos (show 14 + p = 14 + b (80 + s) by omega)]
  · rw [if_neg c1, if_neg (show ¬ (14 + p = 14 + b (80 + s)) by omega)]
    by_cases c2 : p = b (70 + s)
    · rw [if_pos c2, if_pos (show 14 + p = 14 + b (70 + s) by omega)]
    · rw [if_neg c2, if_neg (show ¬ (14 + p = 14 + b (70 + s)) by omega)]
theorem m_numberOf {t x : Int} (t0 : 0 ≤ t) (t4 : t < 4) (x0 : 0 ≤ x) (hx : x < 60) (hR : R (some (ql (h 12 0 6 (Int.toNat (60 * t + x))))) h) : qT (d + 1) 186 0 [qo 12 0, qi t, qi x] [] h R :=
  sX12_numberOf_0 ⟨qR_of (by omega) (by omega), qR_of (by omega) (by omega), by omega, hR⟩
/-- the twos of a TRAY -/
def fW (h : qH) (t n : Int) (per hou : Int → Int) (nn : Int) : Prop := (0 ≤ nn ∧ nn ≤ 20) ∧ (0 ≤ t ∧ t < 4) ∧ ∀ i, 0 ≤ i → i < nn → (h 12 0 6 (Int.toNat (60 * t + 2 * i)) = per i ∧ 0 ≤ per i ∧ per i < n) ∧ (h 12 0 6 (Int.toNat (60 * t + (2 * i + 1))) = hou i ∧ 0 ≤ hou i ∧ hou i < n)
theorem fW_fr {h' : qH} {t n : Int} (hw : fW h t n per hou nn) (e : h' 12 0 6 = h 12 0 6) : fW h' t n per hou nn := by
  unfold fW at *
  rw [e]
  exact hw
theorem m_isFit {t : Int} (hw : fW h t (b 0) per hou nn) (hW : qwf B b) (hr : rQ h b) (h1 : fB per hou nn b = true → R (some (qi 1)) h) (h0 : ¬ fB per hou nn b = true → R (some (qi 0)) h) : qT (d + 2) 292 0 [qo 12 0, qi t, qi nn, qu] [] h R := by
  obtain ⟨hnn, ht, hp⟩ := hw
  have hn := wf_n hW
  rw [fB_iff nn hnn.1] at h1 h0
  refine sX12_isFit_0 ?_
  refine q_up (n := nn) (C := fun x => x ≤ nn → (∀ i, 0 ≤ i → i < x → b (14 + per i) = hou i) → qT (d + 2) 292 2 [qo 12 0, qi t, qi nn, qi x] [] h R) ?_ 0 (by omega) (by omega) (fun y _ _ => absurd (by omega : y < 0) (by omega))
  intro x hx ih hxn hy
  refine sX12_isFit_2 ⟨fun c => ⟨by omega, h1 (fun i i0 i1 => hy i i0 (by omega))⟩, fun c => ⟨qR_of (by omega) (by omega), m_numberOf ht.1 ht.2 (by omega) (by omega) ?_⟩⟩
  have hx' := hp x hx (by omega)
  dsimp only [qrl]
  rw [hx'.1.1, ql2i_s hx'.1.2.1 (by omega)]
  refine ⟨by omega, qR_of (by omega) (by omega), qR_of (by omega) (by omega), m_numberOf ht.1 ht.2 (by omega) (by omega) ?_⟩
  dsimp only [qrl]
  rw [hx'.2.1, hr _ hx'.1.2.1 hx'.1.2.2]
  refine ⟨fun c2 => ⟨qR_of (by omega) (by omega), ih (by omega) (by omega) (fun i i0 i1 => ?_)⟩, fun c2 => ⟨by omega, h0 (fun e => c2 (qlcmp_eq.mpr (e x hx (by omega))))⟩⟩
  by_cases e : i = x
  · rw [e]; exact qlcmp_eq.mp c2
  · exact hy i i0 (by omega)
abbrev PF : Nat → Nat → Nat → Prop := fun c _ j => c = 12 ∧ (j = 28 ∨ j = 30 ∨ j = 31 ∨ j = 32 ∨ j = 33)
theorem fr_at {P : Nat → Nat → Nat → Prop} {h h' : qH} (hf : fr P h h') {c i j : Nat} (n : ¬ P c i j) : h' c i j = h c i j := hf c i j n
end FM
