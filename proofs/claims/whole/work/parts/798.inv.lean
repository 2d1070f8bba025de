/-! what holds between two calls -/
def Scr (c i j : Nat) : Prop := c = 0 ∨ c = 2 ∨ c = 3 ∨ c = 8 ∨ (c = 9 ∧ 2 ≤ j) ∨ ((c = 7 ∨ c = 1 ∨ c = 5) ∧ i = 1) ∨ (c = 5 ∧ i = 0 ∧ (j = 0 ∨ j = 3 ∨ j = 4)) ∨ (c = 12 ∧ (i ≠ 0 ∨ j = 1 ∨ j = 9 ∨ (12 ≤ j ∧ j ≤ 19) ∨ j = 21 ∨ (24 ≤ j ∧ j ≠ 39 ∧ j ≠ 40)))
/-- the DECADES of the class's instance and of the Model's block -/
def dRel (h : qH) (ic : Nat) (bl n m : Int) : Prop := h 1 ic 5 0 = h 12 0 20 (Int.toNat (372 * bl + 100)) ∧ h 1 ic 6 0 = h 12 0 20 (Int.toNat (372 * bl + 101)) ∧ (h 1 ic 5 0 ≠ 0 → (0 ≤ h 1 ic 6 0 ∧ h 1 ic 6 0 ≤ 30) ∧ (0 ≤ h 1 ic 7 0 ∧ h 1 ic 7 0 ≤ 60) ∧ ∃ k, dSeg n m (fun s x => h 12 0 20 (Int.toNat (372 * bl + 102 + 9 * s + x))) (fun j l => h 1 ic j (Int.toNat l)) k 3 0 (h 1 ic 6 0) 0 (h 1 ic 7 0)) ∧ (h 1 ic 5 0 = 0 ∨ h 1 ic 5 0 = 1)
/-- NAMES -/
def nRel (h : qH) (ic : Nat) (bl n : Int) : Prop := ∀ j, 0 ≤ j → j < n → ∃ k, nmP k (h 7 ic 0 (Int.toNat j)) (h 12 0 22 (Int.toNat (7 * bl + j)))
def qRel (B : Int) (h : qH) (ic : Nat) (bl : Int) (a : qB) : Prop := qQX h ic a ∧ qM h (372 * bl) a ∧ qwf B a ∧ nRel h ic bl (a 0) ∧ dRel h ic bl (a 0) (a 1)
def mRel (B : Int) (h : qH) : Prop := h 11 0 16 0 = h 12 0 23 0 ∧ (0 ≤ h 11 0 16 0 ∧ h 11 0 16 0 ≤ 3) ∧ ∀ k : Nat, (k : Int) < h 11 0 16 0 → ∃ a, qRel B h (2 + k) (k + 1) a
def tRel (h : qH) : Prop := ∀ t : Nat, t < 4 → (h 10 t 1 0 ≠ -1 → h 10 t 1 0 = h 12 0 4 t) ∧ (-1 ≤ h 10 t 1 0 ∧ h 10 t 1 0 ≤ 3) ∧ (h 10 t 1 0 = -1 ↔ h 12 0 5 t < 0) ∧ (h 10 t 1 0 ≠ -1 → h 10 t 2 0 = h 12 0 5 t ∧ h 10 t 2 0 ≤ 60 ∧ ∀ k, 0 ≤ k → k < h 10 t 2 0 → h 10 t 0 (Int.toNat k) = h 12 0 6 (Int.toNat (60 * t + k)))
def pRel (h : qH) : Prop := h 9 0 1 0 = h 12 0 8 0 ∧ (0 ≤ h 9 0 1 0 ∧ h 9 0 1 0 ≤ 900) ∧ ∀ j, 0 ≤ j → j < h 9 0 1 0 → h 9 0 0 (Int.toNat j) = h 12 0 7 (Int.toNat j) ∧ -128 ≤ h 9 0 0 (Int.toNat j) ∧ h 9 0 0 (Int.toNat j) ≤ 127
def oRel (h : qH) : Prop := (∀ w, w < 19 → h 90 0 0 w = kX w) ∧ (h 11 0 17 0 = h 12 0 0 0) ∧ (h 11 0 18 0 = h 12 0 10 0) ∧ (h 11 0 19 0 = h 12 0 11 0) ∧ (h 4 0 0 0 = h 12 0 2 0) ∧ (h 4 0 1 0 = h 12 0 3 0) ∧ (h 5 0 1 0 = h 12 0 40 0) ∧ (h 5 0 1 0 ≠ 0 → h 5 0 5 0 = h 12 0 39 0 ∧ h 5 0 6 0 = h 12 0 39 1 ∧ h 5 0 7 0 = h 12 0 39 2 ∧ h 5 0 8 0 = h 12 0 39 3 ∧ (if h 5 0 2 0 = 0 then 0 else 1) = h 12 0 39 4)
def Inv (B : Int) (h : qH) (a : qB) : Prop := qRel B h 0 0 a ∧ mRel B h ∧ tRel h ∧ pRel h ∧ oRel h ∧ tB h
section Iv
variable {B : Int} {h h' : qH} {a : qB}
theorem dRel_e {ic : Nat} {bl n m : Int} (hd : dRel h ic bl n m) (e1 : h' 1 ic = h 1 ic) (e2 : ∀ y, 372 * bl + 100 ≤ y → y < 372 * bl + 372 → h' 12 0 20 (Int.toNat y) = h 12 0 20 (Int.toNat y)) : dRel h' ic bl n m := by
  unfold dRel at *
  rw [e1, e2 _ (by omega) (by omega), e2 _ (by omega) (by omega)]
  refine ⟨hd.1, hd.2.1, fun c => ?_, hd.2.2.2⟩
  obtain ⟨g1, g2, k, g3⟩ := hd.2.2.1 c
  refine ⟨g1, g2, k, dSeg_c _ _ g3 (fun s s0 s1 => ?_) (fun j _ l _ _ => rfl)⟩
  have e : ∀ x, 0 ≤ x → x < 9 → h' 12 0 20 (Int.toNat (372 * bl + 102 + 9 * s + x)) = h 12 0 20 (Int.toNat (372 * bl + 102 + 9 * s + x)) := fun x x0 x9 => e2 _ (by omega) (by omega)
  refine ⟨?_, e 8 (by omega) (by omega)⟩
  unfold dAg
  dsimp only
  rw [e 0 (by omega) (by omega), e 1 (by omega) (by omega), e 2 (by omega) (by omega), e 5 (by omega) (by omega), e 6 (by omega) (by omega), e 7 (by omega) (by omega)]
  exact dAg_rfl (f := fun x => h 12 0 20 (Int.toNat (372 * bl + 102 + 9 * s + x)))
theorem nRel_e {ic : Nat} {bl n : Int} (hn : nRel h ic bl n) (e1 : h' 7 ic 0 = h 7 ic 0) (e2 : h' 12 0 22 = h 12 0 22) : nRel h' ic bl n := by
  unfold nRel at *; rw [e1, e2]; exact hn
theorem qRel_e {ic : Nat} {bl : Int} (hq : qRel B h ic bl a) (e1 : h' 7 ic = h 7 ic) (e2 : h' 1 ic = h 1 ic) (e3 : ∀ y, 372 * bl ≤ y → y < 372 * bl + 372 → h' 12 0 20 (Int.toNat y) = h 12 0 20 (Int.toNat y)) (e4 : h' 12 0 22 = h 12 0 22) : qRel B h' ic bl a :=
  ⟨qx_fr hq.1 e1, fun x x0 x1 => by rw [e3 _ (by omega) (by omega)]; exact hq.2.1 x x0 x1, hq.2.2.1, nRel_e hq.2.2.2.1 (by rw [e1]) e4, dRel_e hq.2.2.2.2 e2 (fun y y0 y1 => e3 y (by omega) y1)⟩
theorem qRel_B {ic : Nat} {bl B' : Int} (hq : qRel B h ic bl a) (hB : B ≤ B') : qRel B' h ic bl a := ⟨hq.1, hq.2.1, wf_mono hq.2.2.1 hB, hq.2.2.2⟩
theorem mRel_B {B' : Int} (hm : mRel B h) (hB : B ≤ B') : mRel B' h := ⟨hm.1, hm.2.1, fun k hk => by obtain ⟨a, ha⟩ := hm.2.2 k hk; exact ⟨a, qRel_B ha hB⟩⟩
theorem Inv_B {B' : Int} (hi : Inv B h a) (hB : B ≤ B') : Inv B' h a := ⟨qRel_B hi.1 hB, mRel_B hi.2.1 hB, hi.2.2⟩
theorem mRel_e (hm : mRel B h) (e1 : ∀ i, 2 ≤ i → h' 7 i = h 7 i) (e2 : ∀ i, 2 ≤ i → h' 1 i = h 1 i) (e3 : ∀ y : Int, 372 ≤ y → y < 1488 → h' 12 0 20 (Int.toNat y) = h 12 0 20 (Int.toNat y)) (e4 : h' 12 0 22 = h 12 0 22) (e5 : h' 11 0 16 = h 11 0 16) (e6 : h' 12 0 23 = h 12 0 23) : mRel B h' := by
  unfold mRel at *
  rw [e5, e6]
  refine ⟨hm.1, hm.2.1, fun k hk => ?_⟩
  obtain ⟨a, ha⟩ := hm.2.2 k hk
  have := hm.2.1
  exact ⟨a, qRel_e ha (e1 _ (by omega)) (e2 _ (by omega)) (fun y y0 y1 => e3 y (by omega) (by omega)) e4⟩
theorem tRel_e (ht : tRel h) (e1 : h' 10 = h 10) (e2 : h' 12 0 4 = h 12 0 4) (e3 : h' 12 0 5 = h 12 0 5) (e4 : h' 12 0 6 = h 12 0 6) : tRel h' := by
  unfold tRel at *; rw [e1, e2, e3, e4]; exact ht
theorem pRel_e (hp : pRel h) (e1 : h' 9 0 0 = h 9 0 0) (e2 : h' 9 0 1 = h 9 0 1) (e3 : h' 12 0 7 = h 12 0 7) (e4 : h' 12 0 8 = h 12 0 8) : pRel h' := by
  unfold pRel at *; rw [e1, e2, e3, e4]; exact hp
end Iv
