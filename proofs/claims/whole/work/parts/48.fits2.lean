section FL
variable {d : Nat} {R : Option qV → qH → Prop} {h : qH} {a b : qB} {B : Int} {per hou : Int → Int} {nn : Int}
theorem m_laysFits {K t : Int} {k : Nat} (hk : K = k) (hK : K ≤ 5) (hM : qM h 0 a) (hW : qwf B a) (hw : fW h t (a 0) per hou nn) (hR : ∀ h', fr PF h h' → h' 12 0 30 0 = fN per hou nn k a → (∀ x, 0 ≤ x → x < 49 → h' 12 0 33 (Int.toNat x) = fT per hou nn x k a) → (0 < fN per hou nn k a → fF per hou nn (fun i => h' 12 0 31 (Int.toNat i)) k a 0) → R none h') : qT (d + 9) 294 0 [qo 12 0, qi t, qi nn, qi K, qu] [] h R := by
  refine sX12_laysFits_0 ?_
  refine q_up (n := 49) (C := fun y => y ≤ 49 → ∀ g, fr PF h g → g 12 0 30 0 = 0 → (∀ x, 0 ≤ x → x < y → g 12 0 33 (Int.toNat x) = 0) → qT (d + 9) 294 8 [qo 12 0, qi t, qi nn, qi K, qi y] [] g R) ?_ 0 (by omega) (by omega) _ (fr_up ⟨rfl, by omega⟩) up_at (fun x x0 x1 => absurd x1 (by omega))
  intro y hy ih hy49 g hf h30 h33
  refine sX12_laysFits_8 ⟨fun c => ?_, fun c => ⟨by omega, qR_of (by omega) (by omega), ih (by omega) (by omega) _ (fr_trans hf (fr_up ⟨rfl, by omega⟩)) (by rw [up_j (by omega)]; exact h30) (fun x x0 x1 => ?_)⟩⟩
  · refine m_rowNow (m_fr hM (hf 12 0 20 (by omega))) hW (fun g1 hr hf1 => ?_)
    have f1 : fr PF h g1 := fr_trans hf (fr_mono hf1 (fun c i j hP => ⟨hP.1, by omega⟩))
    have p10 : (10 : Nat) ^ k ≤ 10 ^ 5 := Nat.pow_le_pow_right (by decide) (by omega)
    have T := m_tries (B := B) (per := per) (hou := hou) (nn := nn) (a := a) (K := K) (t := t) hK k (d := d + 5 - k) (R := fun v g => qrv v (R none g)) (h := g1) (b := a) (c0 := 0) (T := fun _ => 0) 0 (by omega) (by omega) (m_fr hM (f1 12 0 20 (by omega))) bA_rfl hW hr (fW_fr hw (f1 12 0 6 (by omega))) (by rw [hf1 12 0 30 (by omega)]; exact h30) (fun x x0 x1 => ⟨by rw [hf1 12 0 33 (by omega)]; exact h33 x x0 (by omega), by omega, by omega⟩) (by omega) (by omega) (fun g2 _ hf2 k30 k33 _ _ kF => ?_)
    · rw [show d + 5 - k + k + 3 = d + 8 by omega] at T
      exact T
    · refine hR g2 (fr_trans f1 hf2) (by rw [k30]; omega) (fun x x0 x1 => by rw [k33 x x0 x1]; omega) (fun c2 => (kF rfl c2).2)
  · rw [up_I x0 hy]
    by_cases e : x = y
    · rw [if_pos e]
    · rw [if_neg e]; exact h33 x x0 (by omega)
/-! the class's side -/
def fMis (wn : Int → Int) (p v : Int) : Int := if wn p = -1 ∨ wn p = v then 0 else 1
def fWr (wn : Int → Int) (b : qB) : Int := qsum (fun p => fMis wn p (b (14 + p))) (b 0)
theorem fMis_b (wn : Int → Int) (p v : Int) : 0 ≤ fMis wn p v ∧ fMis wn p v ≤ 1 := by unfold fMis; split <;> omega
theorem aOn_at (hW : qwf B b) {s p : Int} (s0 : 0 ≤ s) (hs : s < b 1) : aOn b s (14 + p) = if p = b (80 + s) then b (14 + b (70 + s)) else if p = b (70 + s) then b (14 + b (80 + s)) else b (14 + p) := by
  show aSet (aSet b (14 + b (70 + s)) (b (14 + b (80 + s)))) (14 + b (80 + s)) (b (14 + b (70 + s))) (14 + p) = _
  unfold aSet
  by_cases c1 : p = b (80 + s)
  · rw [if_pos c1, if_pos (show 14 + p = 14 + b (80 + s) by omega)]
  · rw [if_neg c1, if_neg (show ¬ (14 + p = 14 + b (80 + s)) by omega)]
    by_cases c2 : p = b (70 + s)
    · rw [if_pos c2, if_pos (show 14 + p = 14 + b (70 + s) by omega)]
    · rw [if_neg c2, if_neg (show ¬ (14 + p = 14 + b (70 + s)) by omega)]
theorem aOn_one (hW : qwf B b) {s : Int} (s0 : 0 ≤ s) (hs : s < b 1) : aOn b s (14 + b (70 + s)) = b (14 + b (80 + s)) := by
  rw [aOn_at hW s0 hs, if_neg (wf_st hW s0 hs).2.2.1, if_pos rfl]
theorem aOn_two (hW : qwf B b) {s : Int} (s0 : 0 ≤ s) (hs : s < b 1) : aOn b s (14 + b (80 + s)) = b (14 + b (70 + s)) := by
  rw [aOn_at hW s0 hs, if_pos rfl]
theorem fWr_on {wn : Int → Int} (hW : qwf B b) {s : Int} (s0 : 0 ≤ s) (hs : s < b 1) : fWr wn (aOn b s) = fWr wn b + (fMis wn (b (70 + s)) (b (14 + b (80 + s))) - fMis wn (b (70 + s)) (b (14 + b (70 + s)))) + (fMis wn (b (80 + s)) (b (14 + b (70 + s))) - fMis wn (b (80 + s)) (b (14 + b (80 + s)))) := by
  have h3 := wf_st hW s0 hs
  have := qsum_2 (f := fun p => fMis wn p (b (14 + p))) (g := fun p => fMis wn p (aOn b s (14 + p))) (o := b (70 + s)) (w := b (80 + s)) (n := b 0) h3.1.1 h3.2.1.1 h3.2.2.1 h3.1.2 h3.2.1.2 (fun p p1 p2 => by
    show fMis wn p (aOn b s (14 + p)) = _
    rw [aOn_at hW s0 hs, if_neg p2, if_neg p1])
  unfold fWr
  rw [aOn_hi hW s0 hs (by omega : (0 : Int) < 14 ∨ 21 ≤ (0 : Int)), this]
  show _ + (fMis wn (b (70 + s)) (aOn b s (14 + b (70 + s))) - _) + (fMis wn (b (80 + s)) (aOn b s (14 + b (80 + s))) - _) = _
  rw [aOn_one hW s0 hs, aOn_two hW s0 hs]
theorem qsum_zero {f : Int → Int} : ∀ n : Int, 0 ≤ n → (∀ x, 0 ≤ f x) → 0 ≤ qsum f n ∧ (qsum f n = 0 ↔ ∀ x, 0 ≤ x → x < n → f x = 0) := by
  apply q_ind
  · intro _; exact ⟨Int.le_refl _, fun _ x x0 x1 => absurd x1 (by omega), fun _ => rfl⟩
  · intro n hn ih hf
    have h1 := ih hf
    have h2 := hf n
    rw [qsum_s hn]
    refine ⟨by omega, fun e x x0 x1 => ?_, fun e => ?_⟩
    · by_cases c : x = n
      · rw [c]; omega
      · exact h1.2.mp (by omega) x x0 (by omega)
    · rw [h1.2.mpr (fun x x0 x1 => e x x0 (by omega)), e n hn (by omega)]; rfl
theorem qsum_mono {f : Int → Int} {s : Int} (s0 : 0 ≤ s) : ∀ k : Int, 0 ≤ k → (∀ x, s ≤ x → x < s + k → 0 ≤ f x) → qsum f s ≤ qsum f (s + k) := by
  apply q_ind
  · intro _; rw [Int.add_zero]; exact Int.le_refl _
  · intro k hk ih hf
    have h1 := ih (fun x x0 x1 => hf x x0 (by omega))
    have h2 := hf (s + k) (by omega) (by omega)
    rw [← Int.add_assoc, qsum_s (by omega)]
    omega
/-- what is wanted, told once or alike -/
def fWn (per hou : Int → Int) (nn : Int) (wn : Int → Int) : Prop := (∀ i, 0 ≤ i → i < nn → wn (per i) = hou i) ∧ ∀ p, 0 ≤ p → p < 7 → wn p ≠ -1 → ∃ i, 0 ≤ i ∧ i < nn ∧ per i = p ∧ hou i = wn p
theorem fB_wr {wn : Int → Int} (hn : fWn per hou nn wn) (n0 : 0 ≤ nn) (hW : qwf B b) (hp : ∀ i, 0 ≤ i → i < nn → 0 ≤ per i ∧ per i < b 0 ∧ 0 ≤ hou i) : fB per hou nn b = true ↔ fWr wn b = 0 := by
  have hb := wf_n hW
  rw [fB_iff nn n0]
  have hz := (qsum_zero (f := fun p => fMis wn p (b (14 + p))) (b 0) hb.1 (fun p => (fMis_b wn p _).1)).2
  have hz : fWr wn b = 0 ↔ ∀ x, 0 ≤ x → x < b 0 → fMis wn x (b (14 + x)) = 0 := hz
  rw [hz]
  constructor
  · intro hf x x0 x1
    unfold fMis
    by_cases c : wn x = -1
    · rw [if_pos (Or.inl c)]
    · obtain ⟨i, i0, i1, i2, i3⟩ := hn.2 x x0 (by omega) c
      rw [if_pos (Or.inr _)]
      rw [← i3, ← hf i i0 i1, i2]
  · intro hf i i0 i1
    have h1 := hp i i0 i1
    have h2 := hf (per i) h1.1 h1.2.1
    have h3 := hn.1 i i0 i1
    unfold fMis at h2
    by_cases c : wn (per i) = -1 ∨ wn (per i) = b (14 + per i)
    · omega
    · rw [if_neg c] at h2; omega
theorem fN_zero {wn : Int → Int} {n0 : Int} (hE : ∀ b', qwf B b' → b' 0 = n0 → (fB per hou nn b' = true ↔ fWr wn b' = 0)) : ∀ (k : Nat) (b : qB), qwf B b → b 0 = n0 → 2 * (k : Int) < fWr wn b → fN per hou nn k b = 0 := by
  intro k
  induction k with
  | zero =>
    intro b hW hb hk
    exact if_neg (fun e => by have := (hE b hW hb).mp e; omega)
  | succ k ih =>
    intro b hW hb hk
    have hm := wf_m hW
    have : fN per hou nn (k + 1) b = qsum (fun _ => 0) (b 1) := qsum_c (fun s s0 s1 => by
      refine ih _ (aOn_wf hW s0 s1) (by rw [aOn_hi hW s0 s1 (by omega)]; exact hb) ?_
      have e := fWr_on (wn := wn) hW s0 s1
      have m1 := fMis_b wn (b (70 + s)) (b (14 + b (80 + s)))
      have m2 := fMis_b wn (b (70 + s)) (b (14 + b (70 + s)))
      have m3 := fMis_b wn (b (80 + s)) (b (14 + b (70 + s)))
      have m4 := fMis_b wn (b (80 + s)) (b (14 + b (80 + s)))
      omega)
    rw [this, qsum_z _ hm.1]
/-- the table of misfits -/
def fMT (h : qH) (wn : Int → Int) : Prop := ∀ p v, 0 ≤ p → p < 7 → 0 ≤ v → v < 7 → h 3 0 1 (Int.toNat (p * 7 + v)) = fMis wn p v
theorem fMT_fr {h' : qH} {wn : Int → Int} (hm : fMT h wn) (e : h' 3 0 1 = h 3 0 1) : fMT h' wn := by
  unfold fMT at *
  rw [e]
  exact hm
theorem x_change {wn : Int → Int} {i : Nat} (hQ : qQX h i b) (hW : qwf B b) (hm : fMT h wn) {s : Int} (s0 : 0 ≤ s) (hs : s < b 1) (hR : R (some (qi (fWr wn (aOn b s) - fWr wn b))) h) : qT (d + 1) 23 0 [qo 3 0, qo 7 i, qi s, qu, qu, qu, qu] [] h R := by
  have hm1 := wf_m hW
  have hn := wf_n hW
  have h3 := wf_st hW s0 hs
  have l1 := wf_live hW h3.1.1 h3.1.2
  have l2 := wf_live hW h3.2.1.1 h3.2.1.2
  have m1 := fMis_b wn (b (70 + s)) (b (14 + b (80 + s)))
  have m2 := fMis_b wn (b (70 + s)) (b (14 + b (70 + s)))
  have m3 := fMis_b wn (b (80 + s)) (b (14 + b (70 + s)))
  have m4 := fMis_b wn (b (80 + s)) (b (14 + b (80 + s)))
  have e := fWr_on (wn := wn) hW s0 hs
  refine sX3_change_0 ?_
  rw [qx_one hQ hW s0 hs, qx_two hQ hW s0 hs, qx_live hQ hW h3.2.1.1 h3.2.1.2, qx_live hQ hW h3.1.1 h3.1.2, hm _ _ h3.1.1 (by omega) l2.1 (by omega), hm _ _ h3.1.1 (by omega) l1.1 (by omega), hm _ _ h3.2.1.1 (by omega) l1.1 (by omega), hm _ _ h3.2.1.1 (by omega) l2.1 (by omega)]
  have e2 : fMis wn (b (70 + s)) (b (14 + b (80 + s))) - fMis wn (b (70 + s)) (b (14 + b (70 + s))) + fMis wn (b (80 + s)) (b (14 + b (70 + s))) - fMis wn (b (80 + s)) (b (14 + b (80 + s))) = fWr wn (aOn b s) - fWr wn b := by omega
  refine ⟨by omega, by omega, by omega, by omega, qR_of (by omega) (by omega), qR_of (by omega) (by omega), qR_of (by omega) (by omega), by omega, qR_of (by omega) (by omega), by omega, qR_of (by omega) (by omega), qR_of (by omega) (by omega), by omega, qR_of (by omega) (by omega), qR_of (by omega) (by omega), by omega, qR_of (by omega) (by omega), ?_⟩
  rw [e2]
  exact hR
abbrev P32 : Nat → Nat → Nat → Prop := fun c i j => c = 3 ∧ i = 0 ∧ j = 2
theorem x_moveTally {i : Nat} {T : Int → Int} (hQ : qQX h i b) (hW : qwf B b) {p o : Int} (p0 : 0 ≤ p) (hp : p < b 0) (o0 : 0 ≤ o) (ho : o < b 0) (hT : ∀ x, 0 ≤ x → x < 49 → h 3 0 2 (Int.toNat x) = T x ∧ -300000 ≤ T x ∧ T x ≤ 300000) (hR : ∀ h', fr P32 h h' → (∀ x, 0 ≤ x → x < 49 → h' 3 0 2 (Int.toNat x) = T x - (if x = p * 7 + b (14 + p) then 1 else 0) + (if x = p * 7 + b (14 + o) then 1 else 0)) → R none h') : qT (d + 1) 25 0 [qo 3 0, qo 7 i, qi p, qi o] [] h R := by
  have hn := wf_n hW
  have l1 := wf_live hW p0 hp
  have l2 := wf_live hW o0 ho
  have t1 := hT (p * 7 + b (14 + p)) (by omega) (by omega)
  have t2 := hT (p * 7 + b (14 + o)) (by omega) (by omega)
  refine sX3_moveTally_0 ?_
  rw [qx_live hQ hW p0 hp, qx_live hQ hW o0 ho, up_I (by omega) (by omega), t1.1, t2.1]
  refine ⟨qR_of (by omega) (by omega), by omega, qR_of (by omega) (by omega), by omega, qR_of (by omega) (by omega), by omega, qR_of (by omega) (by omega), by omega, qR_of (by omega) (by omega), by omega, ?_, by omega, hR _ (fr_trans (fr_up ⟨rfl, rfl, rfl⟩) (fr_up ⟨rfl, rfl, rfl⟩)) (fun x x0 x1 => ?_)⟩
  · split
    · exact qR_of (by omega) (by omega)
    · exact qR_of (by omega) (by omega)
  · rw [up_I x0 (by omega), up_I x0 (by omega), (hT x x0 x1).1]
    by_cases c1 : x = p * 7 + b (14 + o)
    · rw [if_pos c1, if_pos c1]
      by_cases c2 : p * 7 + b (14 + o) = p * 7 + b (14 + p)
      · rw [if_pos c2, if_pos (by omega)]
        rw [show x = p * 7 + b (14 + p) by omega]
      · rw [if_neg c2, if_neg (by omega), c1]
        omega
    · rw [if_neg c1, if_neg c1]
      by_cases c2 : x = p * 7 + b (14 + p)
      · rw [if_pos c2, if_pos c2, c2]; omega
      · rw [if_neg c2, if_neg c2]; omega
def fDr (b : qB) (x r : Int) : Int := if b (14 + x / 7) = x % 7 ∧ x / 7 < b 0 then r else 0
theorem x_addToTally {i : Nat} {T : Int → Int} {r : Int} (hQ : qQX h i b) (hW : qwf B b) (hT : ∀ x, 0 ≤ x → x < 49 → h 3 0 2 (Int.toNat x) = T x ∧ -300000 ≤ T x ∧ T x ≤ 300000) (r0 : 0 ≤ r) (r1 : r ≤ 300000) (hR : ∀ h', fr P32 h h' → (∀ x, 0 ≤ x → x < 49 → h' 3 0 2 (Int.toNat x) = T x + fDr b x r) → R none h') : qT (d + 1) 26 0 [qo 3 0, qo 7 i, qi r, qu] [] h R := by
  have hn := wf_n hW
  refine sX3_addToTally_0 ?_
  refine q_up (n := b 0) (C := fun y => y ≤ b 0 → ∀ g, fr P32 h g → (∀ x, 0 ≤ x → x < 49 → g 3 0 2 (Int.toNat x) = T x + (if x / 7 < y then fDr b x r else 0)) → qT (d + 1) 26 2 [qo 3 0, qo 7 i, qi r, qi y] [] g R) ?_ 0 (by omega) (by omega) h fr_rfl (fun x x0 x1 => by rw [if_neg (by omega), (hT x x0 x1).1]; omega)
  intro y hy ih hyn g hf hg
  have hQ' : qQX g i b := qx_fr hQ (by funext j; exact hf 7 i j (by omega))
  refine sX3_addToTally_2 ?_
  rw [qx_n hQ']
  refine ⟨fun c => hR g hf (fun x x0 x1 => ?_), fun c => ?_⟩
  · rw [hg x x0 x1]
    by_cases c2 : x / 7 < y
    · rw [if_pos c2]
    · rw [if_neg c2]
      have : fDr b x r = 0 := if_neg (by omega)
      rw [this]
  · have hl := wf_live hW hy (by omega : y < b 0)
    have h2 := hg (y * 7 + b (14 + y)) (by omega) (by omega)
    have h3 := hT (y * 7 + b (14 + y)) (by omega) (by omega)
    rw [if_neg (by omega)] at h2
    rw [qx_live hQ' hW hy (by omega), h2]
    refine ⟨qR_of (by omega) (by omega), by omega, qR_of (by omega) (by omega), by omega, qR_of (by omega) (by omega), by omega, qR_of (by omega) (by omega), ih (by omega) (by omega) _ (fr_trans hf (fr_up ⟨rfl, rfl, rfl⟩)) (fun x x0 x1 => ?_)⟩
    rw [up_I x0 (by omega)]
    by_cases c2 : x = y * 7 + b (14 + y)
    · rw [if_pos c2, if_pos (by omega)]
      have : fDr b x r = r := by
        unfold fDr
        have e7 : x / 7 = y := by omega
        have e8 : x % 7 = b (14 + y) := by omega
        rw [e7, e8, if_pos ⟨rfl, by omega⟩]
      rw [this, c2]
      omega
    · rw [if_neg c2, hg x x0 x1]
      by_cases c3 : x / 7 = y
      · rw [if_neg (by omega), if_pos (by omega)]
        have : fDr b x r = 0 := by
          unfold fDr
          rw [c3, if_neg (by omega)]
        rw [this]
      · by_cases c4 : x / 7 < y
        · rw [if_pos c4, if_pos (by omega)]
        · rw [if_neg c4, if_neg (by omega)]
theorem fD_on (hW : qwf B b) {s x : Int} (s0 : 0 ≤ s) (hs : s < b 1) (x0 : 0 ≤ x) (x1 : x < 49) : fD (aOn b s) x = fD b x - (if x = b (70 + s) * 7 + b (14 + b (70 + s)) then 1 else 0) + (if x = b (70 + s) * 7 + b (14 + b (80 + s)) then 1 else 0) - (if x = b (80 + s) * 7 + b (14 + b (80 + s)) then 1 else 0) + (if x = b (80 + s) * 7 + b (14 + b (70 + s)) then 1 else 0) := by
  have hn := wf_n hW
  have h3 := wf_st hW s0 hs
  have l1 := wf_live hW h3.1.1 h3.1.2
  have l2 := wf_live hW h3.2.1.1 h3.2.1.2
  unfold fD
  rw [aOn_hi hW s0 hs (by omega : (0 : Int) < 14 ∨ 21 ≤ (0 : Int)), aOn_at hW s0 hs]
  by_cases c1 : x / 7 = b (80 + s)
  · rw [if_pos c1, c1]
    repeat' split
    all_goals omega
  · rw [if_neg c1]
    by_cases c2 : x / 7 = b (70 + s)
    · rw [if_pos c2, c2]
      repeat' split
      all_goals omega
    · rw [if_neg c2]
      rw [if_neg (show ¬ x = b (70 + s) * 7 + b (14 + b (70 + s)) by omega), if_neg (show ¬ x = b (70 + s) * 7 + b (14 + b (80 + s)) by omega), if_neg (show ¬ x = b (80 + s) * 7 + b (14 + b (80 + s)) by omega), if_neg (show ¬ x = b (80 + s) * 7 + b (14 + b (70 + s)) by omega)]
      omega
end FL
