/-! the QUARTER from a text -/
abbrev PMq : Nat → Nat → Nat → Prop := fun c i j => c = 12 ∧ (i ≠ 0 ∨ j = 0 ∨ j = 1 ∨ (8 ≤ j ∧ j ≤ 20) ∨ j = 22 ∨ j = 24 ∨ j = 25)
section Mq
variable {d : Nat} {R : Option qV → qH → Prop} {g : qH} {b : Int → Int} {n L : Int}
theorem m_empties (hR : ∀ g', fr (fun c i j => c = 12 ∧ i = 0 ∧ j = 20) g g' → (∀ y, 0 ≤ y → y < 1488 → g' 12 0 20 (Int.toNat y) = g 12 0 20 (Int.toNat y)) → (∀ y, 0 ≤ y → y < 372 → g' 12 0 20 (Int.toNat (1488 + y)) = aEmpty y) → R none g') : qT (d + 1) 220 0 [qo 12 0, qi 4, qu] [] g R := by
  refine sX12_empties_0 ?_
  refine q_up (n := 372) (C := fun x => x ≤ 372 → ∀ g2, fr (fun c i j => c = 12 ∧ i = 0 ∧ j = 20) g g2 → (∀ y, 0 ≤ y → y < 1488 → g2 12 0 20 (Int.toNat y) = g 12 0 20 (Int.toNat y)) → (∀ y, 0 ≤ y → y < x → g2 12 0 20 (Int.toNat (1488 + y)) = 0) → qT (d + 1) 220 2 [qo 12 0, qi 4, qi x] [] g2 R) ?_ 0 (by omega) (by omega) g fr_rfl (fun _ _ _ => rfl) (fun y y0 y1 => by omega)
  intro x x0 ih x3 g2 f2 c2 z2
  refine sX12_empties_2 ⟨fun c => ⟨qR_of (by omega) (by omega), qR_of (by omega) (by omega), by omega, qR_of (by omega) (by omega), qR_of (by omega) (by omega), by omega, hR _ (fr_trans f2 (fr_trans (fr_up ⟨rfl, rfl, rfl⟩) (fr_up ⟨rfl, rfl, rfl⟩))) (fun y y0 y1 => ?_) (fun y y0 y1 => ?_)⟩, fun c => ⟨qR_of (by omega) (by omega), qR_of (by omega) (by omega), by omega, qR_of (by omega) (by omega), ih (by omega) (by omega) _ (fr_trans f2 (fr_up ⟨rfl, rfl, rfl⟩)) (fun y y0 y1 => ?_) (fun y y0 y1 => ?_)⟩⟩
  · rw [up_I y0 (by omega), if_neg (by omega), up_I y0 (by omega), if_neg (by omega)]; exact c2 y y0 y1
  · rw [up_I (by omega) (by omega), up_I (by omega) (by omega)]
    unfold aEmpty
    by_cases e3 : y = 3
    · rw [if_pos (by omega), if_neg (by omega), if_pos e3]
    · rw [if_neg (by omega)]
      by_cases e2 : y = 2
      · rw [if_pos (by omega), if_pos e2]
      · rw [if_neg (by omega), if_neg e2, if_neg e3]; exact z2 y y0 (by omega)
  · rw [up_I y0 (by omega), if_neg (by omega)]; exact c2 y y0 y1
  · rw [up_I (by omega) (by omega)]
    by_cases e : y = x
    · rw [if_pos (by omega)]
    · rw [if_neg (by omega)]; exact z2 y y0 (by omega)
theorem m_quarter (n0 : 0 ≤ n) (nL : n ≤ L) (L9 : L ≤ 900) (e8 : g 12 0 8 0 = L) (e7 : ∀ j, 0 ≤ j → j < n → g 12 0 7 (Int.toNat j) = b j) (bb : ∀ j, -128 ≤ b j ∧ b j ≤ 127)
    (he : ∀ e, qtAll b n = .inl e → ∀ g', fr PMq g g' → g' 12 0 10 0 = e.1 → g' 12 0 11 0 = e.2 → g' 12 0 8 0 = 0 → g' 12 0 0 0 = 10 → (∀ y : Int, 0 ≤ y → y < 1488 → g' 12 0 20 (Int.toNat y) = g 12 0 20 (Int.toNat y)) → (∀ y : Int, 0 ≤ y → y < 28 → g' 12 0 22 (Int.toNat y) = g 12 0 22 (Int.toNat y)) → R (some (qi (-1))) g')
    (hx : ∀ a X Y, qtAll b n = .inr (a, X, Y) → ∀ g', fr PMq g g' → g' 12 0 10 0 = 0 → g' 12 0 11 0 = -1 → g' 12 0 8 0 = 0 → g' 12 0 0 0 = 0 → qM g' 0 a → g' 12 0 20 (Int.toNat 100) = 0 → g' 12 0 20 (Int.toNat 101) = 0 → (∀ y : Int, 372 ≤ y → y < 1488 → g' 12 0 20 (Int.toNat y) = g 12 0 20 (Int.toNat y)) → (∀ j, 0 ≤ j → j < a 0 → g' 12 0 22 (Int.toNat j) = Y j) → (∀ y : Int, 7 ≤ y → y < 28 → g' 12 0 22 (Int.toNat y) = g 12 0 22 (Int.toNat y)) → R (some (qi (a 0))) g') : qT (d + 10) 234 0 [qo 12 0, qi n] [] g R := by
  obtain ⟨g1, hg1⟩ : ∃ g1, qup (qup (qup (qup (qup (qup g 12 0 1 0 0) 12 0 0 0 0) 12 0 9 0 n) 12 0 8 0 0) 12 0 16 0 0) 12 0 12 0 0 = g1 := ⟨_, rfl⟩
  have n1 : ∀ c i j, ¬ (c = 12 ∧ i = 0 ∧ (j = 0 ∨ j = 1 ∨ j = 8 ∨ j = 9 ∨ j = 16 ∨ j = 12)) → g1 c i j = g c i j := fun c i j nn => by rw [← hg1, up_j (by omega), up_j (by omega), up_j (by omega), up_j (by omega), up_j (by omega), up_j (by omega)]
  have s1 : g1 12 0 0 0 = 0 := by rw [← hg1, up_j (by omega), up_j (by omega), up_j (by omega), up_j (by omega), up_at]
  have s8 : g1 12 0 8 0 = 0 := by rw [← hg1, up_j (by omega), up_j (by omega), up_at]
  have s9 : g1 12 0 9 0 = n := by rw [← hg1, up_j (by omega), up_j (by omega), up_j (by omega), up_at]
  have s16 : g1 12 0 16 0 = 0 := by rw [← hg1, up_j (by omega), up_at]
  have s12 : g1 12 0 12 0 = 0 := by rw [← hg1, up_at]
  have tx1 : txM g1 b n := ⟨by omega, s9, fun j j0 j1 => by rw [n1 12 0 7 (by omega)]; exact e7 j j0 j1, bb⟩
  refine sX12_quarter_0 (sX12_starts_0 ?_)
  rw [show (qup (qup g 12 0 1 0 0) 12 0 0 0 0) 12 0 8 0 = L by rw [up_j (by omega), up_j (by omega)]; exact e8]
  refine ⟨fun c => absurd c (by omega), fun _ => ⟨fun c => absurd c (by omega), fun _ => ⟨fun _ => ?_, fun c => absurd (by omega) c⟩⟩⟩
  rw [hg1]
  refine m_advance tx1 s16 (by omega) n0 (fun g2 f2 t2 => ⟨by omega, ⟨fun _ => m_empties (fun g3 f3 c3 z3 => ?_), fun c => absurd (by decide) c⟩⟩)
  have fA : ∀ c i j, ¬ (c = 12 ∧ i = 0 ∧ (j = 20 ∨ j = 24)) → (qup g3 12 0 24 0 0) c i j = g2 c i j := fun c i j nn => by rw [up_j (by omega), f3 c i j (by omega)]
  have c20 : ∀ y : Int, 0 ≤ y → y < 1488 → (qup g3 12 0 24 0 0) 12 0 20 (Int.toNat y) = g 12 0 20 (Int.toNat y) := fun y y0 y1 => by rw [up_j (by omega), c3 y y0 y1, f2 12 0 20 (by omega), n1 12 0 20 (by omega)]
  have z20 : ∀ y : Int, 0 ≤ y → y < 372 → (qup g3 12 0 24 0 0) 12 0 20 (Int.toNat (1488 + y)) = aEmpty y := fun y y0 y1 => by rw [up_j (by omega)]; exact z3 y y0 y1
  have n22 : (qup g3 12 0 24 0 0) 12 0 22 = g 12 0 22 := by rw [fA 12 0 22 (by omega), f2 12 0 22 (by omega), n1 12 0 22 (by omega)]
  have nA : ∀ c i j, ¬ PMq c i j → (qup g3 12 0 24 0 0) c i j = g c i j := fun c i j nn => by rw [fA c i j (by omega), f2 c i j (by omega), n1 c i j (by omega)]
  have v0 : (qup g3 12 0 24 0 0) 12 0 0 0 = 0 := by rw [fA 12 0 0 (by omega), f2 12 0 0 (by omega)]; exact s1
  have v8 : (qup g3 12 0 24 0 0) 12 0 8 0 = 0 := by rw [fA 12 0 8 (by omega), f2 12 0 8 (by omega)]; exact s8
  have v24 : (qup g3 12 0 24 0 0) 12 0 24 0 = 0 := up_at
  have tx3 : txM (qup g3 12 0 24 0 0) b n := by
    unfold txM
    rw [fA 12 0 9 (by omega), fA 12 0 7 (by omega)]
    exact txM_fr tx1 (PMa_r f2)
  have k3 : mK (qup g3 12 0 24 0 0) b n 0 := by
    refine ⟨by rw [fA 12 0 12 (by omega), f2 12 0 12 (by omega)]; exact s12, ?_⟩
    unfold mT
    rw [fA 12 0 15 (by omega), fA 12 0 14 (by omega), fA 12 0 16 (by omega), fA 12 0 17 (by omega), fA 12 0 19 (by omega), fA 12 0 18 (by omega)]
    exact t2
  revert fA c20 z20 n22 nA v0 v8 v24 tx3 k3
  generalize qup g3 12 0 24 0 0 = g4
  intro fA c20 z20 n22 nA v0 v8 v24 tx3 k3
  refine m_readLoop (B := 0) (d := d) (by omega) 901 (p := 0) (o := 0) (c := 0) (a := aEmpty) (X := fun _ => 0) (Y := fun _ => 0) ⟨tx3, fun x x0 x1 => ?_, fun j j0 j1 => absurd j1 (by unfold aEmpty; omega), v24⟩ k3 (by omega) (by omega) (wf_empty (by omega)) (Or.inl rfl) (Or.inl rfl) (fun e h1 g5 f5 F5 => ?_) (fun a X Y h1 g5 f5 b5 k5 M5 Y5 => ?_)
  · rw [show 372 * 4 + x = 1488 + x by omega]; exact z20 x x0 (by omega)
  · have ne := mF_ne F5
    refine sX12_quarter_33 ⟨fun _ => sX12_isWell_0 ⟨fun _ => ⟨fun c => absurd c ne, fun _ => m_no ⟨fun _ => ⟨by omega, ⟨fun c => absurd rfl c, fun _ => ?_⟩⟩, fun c => absurd rfl c⟩⟩, fun c => absurd ne c⟩, fun c => absurd ne c⟩
    refine he e h1 _ (fun c i j nP => ?_) ?_ ?_ ?_ up_at (fun y y0 y1 => ?_) (fun y y0 y1 => ?_)
    · rw [up_j (by omega), up_j (by omega), up_j (by omega), f5.1 c i j (by omega), nA c i j nP]
    · rw [up_j (by omega), up_j (by omega), up_at]; exact F5.1
    · rw [up_j (by omega), up_at]; exact F5.2.1
    · rw [up_j (by omega), up_j (by omega), up_j (by omega), f5.1 12 0 8 (by omega)]; exact v8
    · rw [up_j (by omega), up_j (by omega), up_j (by omega), f5.2.1 y y0 (by omega)]; exact c20 y y0 y1
    · rw [up_j (by omega), up_j (by omega), up_j (by omega), f5.2.2 y y0 y1, n22]
  · refine sX12_quarter_33 ⟨fun c => absurd b5 c, fun _ => ⟨fun _ => sX12_isWell_0 ⟨fun c => absurd b5 c, fun _ => ⟨fun _ => ⟨by omega, ⟨fun _ => ?_, fun c => absurd (by decide) c⟩⟩, fun c => absurd b5 c⟩⟩, fun c => absurd k5 c⟩⟩
    refine m_copy (by omega) (by omega) (by omega) (by omega) (by omega) (fun g6 f6 c6 k6 => ?_)
    have q20 : ∀ y, 0 ≤ y → y < 372 → g6 12 0 20 (Int.toNat y) = g5 12 0 20 (Int.toNat (1488 + y)) := fun y y0 y1 => by
      rw [c6 y y0, if_pos (by omega), up_j (by omega), up_j (by omega), show y - 372 * 0 + 372 * 4 = 1488 + y by omega]
    have wn := wf_n (qtAll_i (B := 0) (by omega) n0 h1).1
    have M6 : qM g6 0 a := fun x x0 x1 => by
      rw [show 0 + x = x by omega, q20 x x0 (by omega)]
      have := M5 x x0 x1
      rw [show 372 * 4 + x = 1488 + x by omega] at this
      exact this
    refine ⟨by omega, ?_⟩
    rw [m_0 M6 (by omega) (by omega)]
    refine hx a X Y h1 g6 (fun c i j nP => ?_) ?_ ?_ ?_ ?_ M6 ?_ ?_ (fun y y0 y1 => ?_) (fun j j0 j1 => ?_) (fun y y0 y1 => ?_)
    · rw [f6 c i j (by omega), up_j (by omega), up_j (by omega), f5.1 c i j (by omega), nA c i j nP]
    · rw [f6 12 0 10 (by omega), up_j (by omega), up_at]; exact b5
    · rw [f6 12 0 11 (by omega), up_at]
    · rw [f6 12 0 8 (by omega), up_j (by omega), up_j (by omega), f5.1 12 0 8 (by omega)]; exact v8
    · rw [f6 12 0 0 (by omega), up_j (by omega), up_j (by omega), f5.1 12 0 0 (by omega)]; exact v0
    · rw [q20 100 (by omega) (by omega), f5.2.1 _ (by omega) (by omega), z20 100 (by omega) (by omega)]; rfl
    · rw [q20 101 (by omega) (by omega), f5.2.1 _ (by omega) (by omega), z20 101 (by omega) (by omega)]; rfl
    · rw [c6 y (by omega), if_neg (by omega), up_j (by omega), up_j (by omega), f5.2.1 y (by omega) (by omega)]; exact c20 y (by omega) y1
    · rw [k6 j j0, if_pos (by omega), up_j (by omega), up_j (by omega), show j - 7 * 0 + 7 * 4 = 7 * 4 + j by omega]; exact Y5 j j0 j1
    · rw [k6 y (by omega), if_neg (by omega), up_j (by omega), up_j (by omega), f5.2.2 y (by omega) y1, n22]
end Mq
theorem mRel_e2 {B : Int} {h h' : qH} (hm : mRel B h) (e1 : ∀ i, 2 ≤ i → h' 7 i = h 7 i) (e2 : ∀ i, 2 ≤ i → h' 1 i = h 1 i) (e3 : ∀ y : Int, 372 ≤ y → y < 1488 → h' 12 0 20 (Int.toNat y) = h 12 0 20 (Int.toNat y)) (e4 : ∀ y : Int, 7 ≤ y → y < 28 → h' 12 0 22 (Int.toNat y) = h 12 0 22 (Int.toNat y)) (e5 : h' 11 0 16 = h 11 0 16) (e6 : h' 12 0 23 = h 12 0 23) : mRel B h' := by
  unfold mRel at *
  rw [e5, e6]
  refine ⟨hm.1, hm.2.1, fun k hk => ?_⟩
  obtain ⟨a, ha⟩ := hm.2.2 k hk
  have := hm.2.1
  exact ⟨a, qRel_e2 ha (by omega) (e1 _ (by omega)) (e2 _ (by omega)) (fun y y0 y1 => e3 y (by omega) (by omega)) (fun y y0 y1 => e4 y (by omega) (by omega))⟩
theorem pRel_0 {h : qH} (e1 : h 9 0 1 0 = 0) (e2 : h 12 0 8 0 = 0) : pRel h := by
  unfold pRel
  rw [e1, e2]
  exact ⟨rfl, by omega, fun j j0 j1 => by omega⟩
