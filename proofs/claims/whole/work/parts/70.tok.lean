/-! TOKENS -/
def scn (P : Int → Bool) : Nat → Int → Int
  | 0, p => p
  | k + 1, p => if P p = true then scn P k (p + 1) else p
def scT (P : Int → Bool) (n p : Int) : Int := scn P (n - p).toNat p
theorem scT_end {P : Int → Bool} {n p : Int} (h : n ≤ p) : scT P n p = p := by
  unfold scT
  rw [show (n - p).toNat = 0 by omega]
  rfl
theorem scT_go {P : Int → Bool} {n p : Int} (h : p < n) (hp : P p = true) : scT P n p = scT P n (p + 1) := by
  unfold scT
  rw [show (n - p).toNat = (n - (p + 1)).toNat + 1 by omega]
  exact if_pos hp
theorem scT_stop {P : Int → Bool} {n p : Int} (hp : ¬ P p = true) : scT P n p = p := by
  unfold scT
  generalize (n - p).toNat = k
  cases k with
  | zero => rfl
  | succ k => exact if_neg hp
theorem scT_b {P : Int → Bool} {n : Int} : ∀ (k : Nat) (p : Int), p ≤ n → (n - p).toNat = k → p ≤ scT P n p ∧ scT P n p ≤ n ∧ (∀ j, p ≤ j → j < scT P n p → P j = true) ∧ (scT P n p < n → ¬ P (scT P n p) = true) := by
  intro k
  induction k with
  | zero =>
    intro p hp hk
    rw [scT_end (by omega)]
    exact ⟨by omega, hp, fun j j0 j1 => absurd j1 (by omega), fun c => absurd c (by omega)⟩
  | succ k ih =>
    intro p hp hk
    by_cases c : P p = true
    · rw [scT_go (by omega) c]
      have := ih (p + 1) (by omega) (by omega)
      refine ⟨by omega, this.2.1, fun j j0 j1 => ?_, this.2.2.2⟩
      by_cases e : j = p
      · rw [e]; exact c
      · exact this.2.2.1 j (by omega) j1
    · rw [scT_stop c]
      exact ⟨by omega, hp, fun j j0 j1 => absurd j1 (by omega), fun _ => c⟩
def pBl (b : Int → Int) (j : Int) : Bool := decide (b j = 10 ∨ b j = 32)
def pLe (b : Int → Int) (j : Int) : Bool := decide (97 ≤ b j ∧ b j ≤ 122)
def pDi (b : Int → Int) (j : Int) : Bool := decide (48 ≤ b j ∧ b j ≤ 57)
/-- where the TOKEN from p on begins, ends; its kind: 0 the end, 1 WORD, 2 NUMBER, 3 SIGN, 4 none -/
def tkS (b : Int → Int) (n p : Int) : Int := scT (pBl b) n p
def tkE (b : Int → Int) (n p : Int) : Int := if n ≤ tkS b n p then tkS b n p else if pLe b (tkS b n p) = true then scT (pLe b) n (tkS b n p) else if pDi b (tkS b n p) = true then scT (pDi b) n (tkS b n p) else tkS b n p + 1
def bSg (x : Int) : Prop := x = 59 ∨ x = 60 ∨ x = 62 ∨ x = 61
def tkK (b : Int → Int) (n p : Int) : Int := if n ≤ tkS b n p then 0 else if pLe b (tkS b n p) = true then 1 else if pDi b (tkS b n p) = true then (if tkE b n p - tkS b n p ≤ 4 then 2 else 4) else if b (tkS b n p) = 59 ∨ b (tkS b n p) = 60 ∨ b (tkS b n p) = 62 ∨ b (tkS b n p) = 61 then 3 else 4
def fNu (b : Int → Int) (s k : Int) : Int := qfold (fun i r => if i < 4 then 10 * r + b (s + i) - 48 else r) 0 k
def fX (b : Int → Int) (s k : Int) : Int := qfold (fun i r => r * 256 + b (s + i)) 0 k
def fY (b : Int → Int) (s k : Int) : Int := qfold (fun i r => if i < 8 then r * 32 + b (s + i) - 96 else -1) 0 k
def tkN (b : Int → Int) (n p : Int) : Int := fNu b (tkS b n p) (tkE b n p - tkS b n p)
def tkX (b : Int → Int) (n p : Int) : Int := fX b (tkS b n p) (tkE b n p - tkS b n p)
def tkY (b : Int → Int) (n p : Int) : Int := fY b (tkS b n p) (tkE b n p - tkS b n p)
/-- one and the same NAME in both spellings -/
def nmP : Nat → Int → Int → Prop
  | 0, x, y => x = 0 ∧ y = 0
  | k + 1, x, y => ∃ x' y' c, nmP k x' y' ∧ (1 ≤ c ∧ c ≤ 26) ∧ x = x' * 256 + (96 + c) ∧ y = y' * 32 + c
theorem nmP_b : ∀ (k : Nat) {x y : Int}, nmP k x y → (0 ≤ x ∧ 2 * x < ((256 ^ k : Nat) : Int)) ∧ (0 ≤ y ∧ y < ((32 ^ k : Nat) : Int)) := by
  intro k
  induction k with
  | zero => intro x y h; have h : x = 0 ∧ y = 0 := h; rw [h.1, h.2]; exact ⟨⟨by omega, by decide⟩, by omega, by decide⟩
  | succ k ih =>
    intro x y h
    obtain ⟨x', y', c, h1, h2, h3, h4⟩ := h
    have := ih h1
    have e1 : (256 : Nat) ^ (k + 1) = 256 * 256 ^ k := by rw [Nat.pow_succ, Nat.mul_comm]
    have e2 : (32 : Nat) ^ (k + 1) = 32 * 32 ^ k := by rw [Nat.pow_succ, Nat.mul_comm]
    rw [e1, e2]
    omega
theorem nmP_eq : ∀ (k k' : Nat) {x y x' y' : Int}, nmP k x y → nmP k' x' y' → (x = x' ↔ y = y') := by
  intro k
  induction k with
  | zero =>
    intro k' x y x' y' h h'
    have h : x = 0 ∧ y = 0 := h
    cases k' with
    | zero => have h' : x' = 0 ∧ y' = 0 := h'; omega
    | succ k' =>
      obtain ⟨u, v, c, h1, h2, h3, h4⟩ := h'
      have := nmP_b _ h1
      omega
  | succ k ih =>
    intro k' x y x' y' h h'
    obtain ⟨u, v, c, h1, h2, h3, h4⟩ := h
    have b1 := nmP_b _ h1
    cases k' with
    | zero => have h' : x' = 0 ∧ y' = 0 := h'; omega
    | succ k' =>
      obtain ⟨u', v', c', h1', h2', h3', h4'⟩ := h'
      have := ih k' h1 h1'
      constructor
      · intro e
        have e1 : u = u' ∧ c = c' := by omega
        have := this.mp e1.1
        omega
      · intro e
        have e1 : v = v' ∧ c = c' := by omega
        have := this.mpr e1.1
        omega
theorem nmP_tok {b : Int → Int} {s : Int} : ∀ k : Int, 0 ≤ k → k ≤ 8 → (∀ j, s ≤ j → j < s + k → 97 ≤ b j ∧ b j ≤ 122) → nmP k.toNat (fX b s k) (fY b s k) := by
  apply q_ind
  · intro _ _; exact ⟨rfl, rfl⟩
  · intro k hk ih k8 hb
    have e := hb (s + k) (by omega) (by omega)
    rw [show (k + 1).toNat = k.toNat + 1 by omega]
    refine ⟨fX b s k, fY b s k, b (s + k) - 96, ih (by omega) (fun j j0 j1 => hb j j0 (by omega)), by omega, ?_, ?_⟩
    · unfold fX; rw [qfold_s hk]; omega
    · unfold fY; rw [qfold_s hk, if_pos (by omega)]; omega
theorem fY_long {b : Int → Int} {s k : Int} (h : 8 < k) : fY b s k = -1 := by
  unfold fY
  rw [show k = k - 1 + 1 by omega, qfold_s (by omega), if_neg (by omega)]
/-- the WORDS that are no NAMES -/
def kwL : List (List Nat) := [[15, 4, 4, 19], [3, 15, 15, 12], [16, 5, 18, 19, 15, 14], [20, 5, 13, 16, 5, 18], [19, 20, 1, 9, 18], [7, 18, 21, 4, 7, 5], [12, 9, 11, 5], [19, 23, 1, 16], [17, 21, 1, 18, 18, 5, 12], [13, 1, 11, 5], [14, 9, 7, 8, 20], [3, 1, 12, 13], [1, 14, 25], [23, 8, 5, 14], [8, 15, 13, 5], [12, 9, 22, 5, 19], [12, 15, 15, 16], [5, 14, 4], [19, 20, 15, 16]]
def kX (w : Nat) : Int := (kwL.getD w []).foldl (fun (x : Int) (c : Nat) => x * 256 + (96 + (c : Int))) 0
def kY (w : Nat) : Int := (kwL.getD w []).foldl (fun (y : Int) (c : Nat) => y * 32 + (c : Int)) 0
theorem nmP_l : ∀ (l : List Nat) (k : Nat) {x y : Int}, nmP k x y → (∀ c, c ∈ l → 1 ≤ c ∧ c ≤ 26) → nmP (k + l.length) (l.foldl (fun (x : Int) (c : Nat) => x * 256 + (96 + (c : Int))) x) (l.foldl (fun (y : Int) (c : Nat) => y * 32 + (c : Int)) y) := by
  intro l
  induction l with
  | nil => intro k x y h _; exact h
  | cons c l ih =>
    intro k x y h hl
    have hc := hl c List.mem_cons_self
    have := ih (k + 1) (x := x * 256 + (96 + (c : Int))) (y := y * 32 + (c : Int)) ⟨x, y, c, h, by omega, rfl, rfl⟩ (fun c' h' => hl c' (List.mem_cons_of_mem _ h'))
    rw [List.length_cons, show k + (l.length + 1) = k + 1 + l.length by omega]
    exact this
theorem kw_ok : ∀ w, w < 19 → ∀ c, c ∈ kwL.getD w [] → 1 ≤ c ∧ c ≤ 26 := by decide
theorem kw_nm {w : Nat} (h : w < 19) : nmP (kwL.getD w []).length (kX w) (kY w) := by
  have := nmP_l (kwL.getD w []) 0 (x := 0) (y := 0) ⟨rfl, rfl⟩ (kw_ok w h)
  rwa [Nat.zero_add] at this
theorem kY_pos : ∀ w, w < 19 → 0 < kY w := by decide
/-- which of them, or -1 -/
def wid (y : Int) : Int := qfold (fun w r => if y = kY w.toNat then w else r) (-1) 19
def widTo (y x : Int) : Int := qfold (fun w r => if y = kY w.toNat then w else r) (-1) x
theorem wid_b (y : Int) : (wid y = -1 ∧ ∀ w : Nat, w < 19 → y ≠ kY w) ∨ (0 ≤ wid y ∧ wid y < 19 ∧ y = kY (wid y).toNat) := by
  have key : ∀ x : Int, 0 ≤ x → (widTo y x = -1 ∧ ∀ w : Nat, (w : Int) < x → y ≠ kY w) ∨ (0 ≤ widTo y x ∧ widTo y x < x ∧ y = kY (widTo y x).toNat) := by
    apply q_ind
    · left; exact ⟨rfl, fun w hw => absurd hw (by omega)⟩
    · intro x hx ih
      have e : widTo y (x + 1) = if y = kY x.toNat then x else widTo y x := by unfold widTo; rw [qfold_s hx]
      by_cases c : y = kY x.toNat
      · rw [e, if_pos c]; right; exact ⟨hx, by omega, c⟩
      · rw [e, if_neg c]
        rcases ih with ⟨i1, i2⟩ | ⟨i1, i2, i3⟩
        · left
          refine ⟨i1, fun w hw => ?_⟩
          by_cases e2 : (w : Int) = x
          · rw [← e2] at c
            exact c
          · exact i2 w (by omega)
        · right; exact ⟨i1, by omega, i3⟩
  rcases key 19 (by omega) with ⟨k1, k2⟩ | k
  · left; exact ⟨k1, fun w hw => k2 w (by omega)⟩
  · right; exact k
theorem wid_kY : ∀ w, w < 19 → wid (kY w) = w := by decide
theorem wid_eq {y : Int} {w : Nat} (hw : w < 19) : wid y = w ↔ y = kY w := by
  constructor
  · intro e
    rcases wid_b y with ⟨k1, _⟩ | ⟨_, _, k⟩
    · omega
    · rw [e] at k; exact k
  · intro e; rw [e]; exact wid_kY w hw
/-- which WORD the TOKEN is -/
def tkW (b : Int → Int) (n p : Int) : Int := if tkK b n p = 1 then wid (tkY b n p) else -1
section Tk
variable {b : Int → Int} {n p : Int}
theorem tkS_b (p0 : p ≤ n) : p ≤ tkS b n p ∧ tkS b n p ≤ n := by
  have := scT_b (P := pBl b) (n := n) _ p p0 rfl
  exact ⟨this.1, this.2.1⟩
theorem tkE_b (p0 : p ≤ n) : tkS b n p ≤ tkE b n p ∧ tkE b n p ≤ n ∧ (tkS b n p < n → tkS b n p < tkE b n p) := by
  have hs := tkS_b (b := b) p0
  unfold tkE
  by_cases c1 : n ≤ tkS b n p
  · rw [if_pos c1]; omega
  · rw [if_neg c1]
    by_cases c2 : pLe b (tkS b n p) = true
    · rw [if_pos c2]
      have h1 := scT_go (P := pLe b) (n := n) (p := tkS b n p) (by omega) c2
      have h2 := scT_b (P := pLe b) (n := n) _ (tkS b n p + 1) (by omega) rfl
      rw [h1]; omega
    · rw [if_neg c2]
      by_cases c3 : pDi b (tkS b n p) = true
      · rw [if_pos c3]
        have h1 := scT_go (P := pDi b) (n := n) (p := tkS b n p) (by omega) c3
        have h2 := scT_b (P := pDi b) (n := n) _ (tkS b n p + 1) (by omega) rfl
        rw [h1]; omega
      · rw [if_neg c3]; omega
theorem tkK_b (b : Int → Int) (n p : Int) : 0 ≤ tkK b n p ∧ tkK b n p ≤ 4 := by
  unfold tkK
  split
  · omega
  · split
    · omega
    · split
      · split <;> omega
      · split <;> omega
theorem tkK_0 (p0 : p ≤ n) : tkK b n p = 0 ↔ tkS b n p = n := by
  have hs := tkS_b (b := b) p0
  unfold tkK
  by_cases c1 : n ≤ tkS b n p
  · rw [if_pos c1]; omega
  · rw [if_neg c1]
    constructor
    · split
      · intro e; omega
      · split
        · split <;> (intro e; omega)
        · split <;> (intro e; omega)
    · intro e; omega
theorem tkK_1 (h : tkK b n p = 1) : ¬ n ≤ tkS b n p ∧ pLe b (tkS b n p) = true := by
  unfold tkK at h
  by_cases c1 : n ≤ tkS b n p
  · rw [if_pos c1] at h; omega
  · rw [if_neg c1] at h
    by_cases c2 : pLe b (tkS b n p) = true
    · exact ⟨c1, c2⟩
    · rw [if_neg c2] at h
      split at h
      · split at h <;> omega
      · split at h <;> omega
/-- a WORD's NAME -/
theorem tk_nm (p0 : p ≤ n) (h : tkK b n p = 1) (h8 : tkE b n p - tkS b n p ≤ 8) : nmP (tkE b n p - tkS b n p).toNat (tkX b n p) (tkY b n p) := by
  obtain ⟨c1, c2⟩ := tkK_1 h
  have eE : tkE b n p = scT (pLe b) n (tkS b n p) := by unfold tkE; rw [if_neg c1, if_pos c2]
  have hs := tkS_b (b := b) p0
  have hb := scT_b (P := pLe b) (n := n) _ (tkS b n p) hs.2 rfl
  have he := tkE_b (b := b) p0
  refine nmP_tok _ (by omega) h8 (fun j j0 j1 => ?_)
  have := hb.2.2.1 j j0 (by omega)
  unfold pLe at this
  exact decide_eq_true_eq.mp this
theorem tk_long (h8 : 8 < tkE b n p - tkS b n p) : tkY b n p = -1 := fY_long h8
end Tk
theorem qand255_0 : (List.range 256).all (fun k => decide (qand ((k : Int) - 128) 255 = if (k : Int) - 128 < 0 then (k : Int) - 128 + 256 else (k : Int) - 128)) = true := by decide +kernel
theorem qand255 {x : Int} (h0 : -128 ≤ x) (h1 : x ≤ 127) : qand x 255 = if x < 0 then x + 256 else x := by
  have := List.all_eq_true.mp qand255_0 (x + 128).toNat (List.mem_range.mpr (by omega))
  rw [decide_eq_true_eq, show (((x + 128).toNat : Nat) : Int) - 128 = x by omega] at this
  exact this
theorem ql_app {x c : Nat} (hx : x < 36028797018963968) (hc : c < 256) : qlor (qlshl (x : Int) 8) (c : Int) = ((x * 256 + c : Nat) : Int) := by
  unfold qlor qlshl
  have e8 : (Int32.ofInt 8).toInt64 &&& 63 = (8 : Int64) := by decide
  rw [e8, Int64.ofInt_toInt]
  have e : (Int64.ofInt (x : Int) <<< (8 : Int64)) ||| Int64.ofInt (c : Int) = Int64.ofInt ((x * 256 + c : Nat) : Int) := by
    apply Int64.toBitVec.inj
    rw [Int64.toBitVec_or, Int64.toBitVec_shiftLeft, Int64.toBitVec_ofInt, Int64.toBitVec_ofInt, Int64.toBitVec_ofInt]
    apply BitVec.eq_of_toNat_eq
    have h8 : ((8 : Int64).toBitVec.smod 64) = BitVec.ofNat 64 8 := by decide
    rw [h8]
    simp only [BitVec.ofInt_natCast, BitVec.toNat_or, BitVec.shiftLeft_eq', BitVec.toNat_shiftLeft, BitVec.toNat_ofNat]
    have e1 : x % 2 ^ 64 = x := Nat.mod_eq_of_lt (by omega)
    have e2 : c % 2 ^ 64 = c := Nat.mod_eq_of_lt (by omega)
    have e3 : 8 % 2 ^ 64 = 8 := by decide
    rw [e1, e2, e3, Nat.shiftLeft_eq, Nat.mod_eq_of_lt (by omega : x * 2 ^ 8 < 2 ^ 64), Nat.mod_eq_of_lt (by omega : x * 256 + c < 2 ^ 64)]
    have := Nat.two_pow_add_eq_or_of_lt (i := 8) (b := c) (by omega) x
    rw [Nat.mul_comm] at this
    omega
  rw [e]
  exact Int64.toInt_ofInt_of_le (by omega) (by omega)
