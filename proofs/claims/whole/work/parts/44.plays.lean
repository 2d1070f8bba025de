/-! the Model's game -/
theorem aStairs_nat {a : qB} {p : Int} : ∀ n : Int, 0 ≤ n → n ≤ 10 → ∃ S : Nat, aStairs a p n = (S : Int) ∧ S < 2 ^ n.toNat ∧ ∀ j : Nat, S.testBit j = true ↔ ((j : Int) < n ∧ gT a j p) := by
  apply q_ind
  · intro _
    refine ⟨0, rfl, by decide, fun j => ?_⟩
    rw [Nat.zero_testBit]
    constructor
    · intro c; cases c
    · intro c; omega
  · intro x hx ih hx10
    obtain ⟨S, e, hS, hb⟩ := ih (by omega)
    have hp : (2 : Nat) ^ x.toNat < 2 ^ 10 := Nat.pow_lt_pow_right (by decide) (by omega)
    have e2 : (2 : Nat) ^ (x + 1).toNat = 2 ^ x.toNat + 2 ^ x.toNat := by rw [show (x + 1).toNat = x.toNat + 1 by omega, Nat.pow_succ]; omega
    have hs : aStairs a p (x + 1) = if a (70 + x) = p ∨ a (80 + x) = p then qor (aStairs a p x) (qshl 1 x) else aStairs a p x := by unfold aStairs; rw [qfold_s hx]
    by_cases ht : gT a x p
    · refine ⟨S ||| 2 ^ x.toNat, ?_, ?_, fun j => ?_⟩
      · rw [hs, if_pos (show a (70 + x) = p ∨ a (80 + x) = p from ht), e, q_oneI hx (by omega)]
        exact q_or (by omega) (by omega)
      · exact Nat.or_lt_two_pow (by omega) (by omega)
      · rw [q_setbit, Bool.or_eq_true, hb j, decide_eq_true_eq]
        constructor
        · rintro (⟨c1, c2⟩ | c)
          · exact ⟨by omega, c2⟩
          · have : (j : Int) = x := by omega
            rw [this]
            exact ⟨by omega, ht⟩
        · rintro ⟨c1, c2⟩
          by_cases c : (j : Int) = x
          · right; omega
          · left; exact ⟨by omega, c2⟩
    · refine ⟨S, ?_, by omega, fun j => ?_⟩
      · rw [hs, if_neg (show ¬ (a (70 + x) = p ∨ a (80 + x) = p) from ht), e]
      · rw [hb j]
        constructor
        · rintro ⟨c1, c2⟩
          exact ⟨by omega, c2⟩
        · rintro ⟨c1, c2⟩
          refine ⟨?_, c2⟩
          by_cases c : (j : Int) = x
          · rw [c] at c2; exact absurd c2 ht
          · omega
/-- y is better than x -/
def gW (f : Bool) (x y : Int) : Prop := if f then x < y else y < x
theorem gW_t {x y : Int} : gW true x y ↔ x < y := Iff.rfl
theorem gW_f {x y : Int} : gW false x y ↔ y < x := by
  unfold gW
  rw [if_neg (by decide)]
theorem gop_W {f : Bool} {x y z : Int} : (¬ gW f (gop f x y) z ↔ ¬ gW f x z ∨ ¬ gW f y z) ∧ ((gop f x y = y ∧ (gW f x y ∨ x = y)) ∨ (gop f x y = x ∧ ¬ gW f x y)) := by
  cases f
  · rw [gW_f, gW_f, gW_f, gW_f]
    show (¬ (z < (if false = true then max x y else min x y)) ↔ _) ∧ (((if false = true then max x y else min x y) = y ∧ _) ∨ ((if false = true then max x y else min x y) = x ∧ _))
    rw [if_neg (by decide)]
    omega
  · rw [gW_t, gW_t, gW_t, gW_t]
    show (¬ (max x y < z) ↔ _) ∧ ((max x y = y ∧ _) ∨ (max x y = x ∧ _))
    omega
theorem gW_irr {f : Bool} {x : Int} : ¬ gW f x x := by
  cases f
  · rw [gW_f]; omega
  · rw [gW_t]; omega
theorem gW_eq {f : Bool} {x y : Int} (h1 : ¬ gW f x y) (h2 : ¬ gW f y x) : x = y := by
  cases f
  · rw [gW_f] at h1 h2; omega
  · rw [gW_t] at h1 h2; omega
theorem gW_tr {f : Bool} {x y z : Int} (h1 : ¬ gW f y x) (h2 : gW f y z) : gW f x z := by
  cases f
  · rw [gW_f] at *; omega
  · rw [gW_t] at *; omega
theorem gW_le {f : Bool} {x y z : Int} (h1 : ¬ gW f x y) (h2 : ¬ gW f y z) : ¬ gW f x z := by
  cases f
  · rw [gW_f] at *; omega
  · rw [gW_t] at *; omega
theorem gW_as {f : Bool} {x y : Int} (h : gW f x y) : ¬ gW f y x := by
  cases f
  · rw [gW_f] at *; omega
  · rw [gW_t] at *; omega
theorem gF_best {p q : Int} {k : Nat} {f : Bool} {a : qB} : ∀ y : Int, 0 ≤ y → ¬ gW f (gF p q k f a y) (gV p q k (!f) a) ∧ (∀ s, 0 ≤ s → s < y → gT a s (if f then p else q) → ¬ gW f (gF p q k f a y) (gV p q k (!f) (aOn a s))) ∧ (gF p q k f a y = gV p q k (!f) a ∨ ∃ s, 0 ≤ s ∧ s < y ∧ gT a s (if f then p else q) ∧ gF p q k f a y = gV p q k (!f) (aOn a s)) := by
  apply q_ind
  · rw [gF_0]
    exact ⟨gW_irr, fun s s0 s1 => absurd s1 (by omega), Or.inl rfl⟩
  · intro y hy ih
    obtain ⟨i1, i2, i3⟩ := ih
    by_cases ht : gT a y (if f then p else q)
    · rw [gF_t hy ht]
      refine ⟨gop_W.1.mpr (Or.inl i1), fun s s0 s1 st => ?_, ?_⟩
      · by_cases e : s = y
        · rw [e]; exact gop_W.1.mpr (Or.inr gW_irr)
        · exact gop_W.1.mpr (Or.inl (i2 s s0 (by omega) st))
      · rcases (gop_W (f := f) (x := gF p q k f a y) (y := gV p q k (!f) (aOn a y)) (z := 0)).2 with ⟨c, _⟩ | ⟨c, _⟩
        · right; exact ⟨y, hy, by omega, ht, c⟩
        · rw [c]
          rcases i3 with i3 | ⟨s, s0, s1, s2, s3⟩
          · left; exact i3
          · right; exact ⟨s, s0, by omega, s2, s3⟩
    · rw [gF_f hy ht]
      refine ⟨i1, fun s s0 s1 st => ?_, ?_⟩
      · by_cases e : s = y
        · rw [e] at st; exact absurd st ht
        · exact i2 s s0 (by omega) st
      · rcases i3 with i3 | ⟨s, s0, s1, s2, s3⟩
        · left; exact i3
        · right; exact ⟨s, s0, by omega, s2, s3⟩
/-- the Model's first move: the count of stairs for none -/
def gM (a : qB) (p q : Int) (k : Nat) (w : Int) : Prop := (w = a 1 ∧ ∀ s, 0 ≤ s → s < a 1 → ¬ gP a p q k s) ∨ (0 ≤ w ∧ w < a 1 ∧ gP a p q k w ∧ ∀ s, 0 ≤ s → s < w → ¬ gP a p q k s)
def gVal (a : qB) (p q : Int) (k : Nat) (f : Bool) (s : Int) : Int := if s = a 1 then gV p q k (!f) a else gV p q k (!f) (aOn a s)
theorem gVal_m {a : qB} {p q : Int} {k : Nat} {f : Bool} : gVal a p q k f (a 1) = gV p q k (!f) a := if_pos rfl
theorem gVal_s {a : qB} {p q : Int} {k : Nat} {f : Bool} {s : Int} (h : s ≠ a 1) : gVal a p q k f s = gV p q k (!f) (aOn a s) := if_neg h
section Gp
variable {B : Int}
theorem m_plays {p q T : Int} (p0 : 0 ≤ p) (q0 : 0 ≤ q) : ∀ (k : Nat) {d : Nat} {R : Option qV → qH → Prop} {h : qH} {a : qB} (t : Int), 0 ≤ t → t + k = T → T ≤ 4 → qM h 0 a → qwf B a → p < a 0 → q < a 0 → (∀ h', (0 < t ∨ k = 0) → qM h' 0 a → qfM 0 h h' → R (some (qi (gV p q k (decide (t % 2 = 0)) a))) h') → (∀ h' w, t = 0 → 0 < k → gM a p q (k - 1) w → qM h' 0 a → qfM 0 h h' → R (some (qi (gV p q k (decide (t % 2 = 0)) a))) (qup h' 12 0 36 0 w)) → qT (d + k + 3) 308 0 [qo 12 0, qi p, qi q, qi t, qi T, qu, qu, qu, qu, qu, qu, qu] [] h R := by
  intro k
  induction k with
  | zero =>
    intro d R h a t t0 hT hT4 hM hW hp hq hR _
    have l1 := wf_live hW p0 hp
    have l2 := wf_live hW q0 hq
    have h1 := wf_like hW p0 hp l1.1 l1.2
    have h2 := wf_like hW q0 hq l2.1 l2.2
    have e1 : aLike a p (a (14 + p)) = a (21 + 7 * p + a (14 + p)) := rfl
    have e2 : aLike a q (a (14 + q)) = a (21 + 7 * q + a (14 + q)) := rfl
    refine tX12_plays_0 ⟨fun c => absurd (by omega) c, fun _ => m_likeNow hM hW p0 hp (m_likeNow hM hW q0 hq ⟨qR_of (by omega) (by omega), hR h (Or.inr rfl) hM qfM_rfl⟩)⟩
  | succ k ih =>
    intro d R h a t t0 hT hT4 hM hW hp hq hR hR0
    have hm := wf_m hW
    have hn := wf_n hW
    generalize hf : decide (t % 2 = 0) = f at hR hR0
    have hf1 : decide ((t + 1) % 2 = 0) = !f := by
      rw [← hf]
      by_cases c : t % 2 = 0
      · rw [decide_eq_true c, decide_eq_false (by omega)]; rfl
      · rw [decide_eq_false c, decide_eq_true (by omega)]; rfl
    obtain ⟨S, eS, hS, hSb⟩ := aStairs_nat (a := a) (p := if f then p else q) (a 1) hm.1 hm.2
    have hS10 : S < 2147483648 := by
      have : (2 : Nat) ^ (a 1).toNat ≤ 2 ^ 10 := Nat.pow_le_pow_right (by decide) (by omega)
      omega
    have GB := gF_best (p := p) (q := q) (k := k) (f := f) (a := a) (a 1) hm.1
    have eG : gF p q k f a (a 1) = gV p q (k + 1) f a := rfl
    rw [eG] at GB
    have loop : ∀ g z1 z2, qM g 0 a → qfM 0 h g → qT (d + (k + 1) + 3) 308 56 [qo 12 0, qi p, qi q, qi t, qi T, qi (if f then 1 else 0), qi (S : Int), qi 0, qi (-1), qi 0, z1, z2] [] g R := by
      intro g z1 z2 hM hfr
      refine q_up (n := a 1 + 1) (C := fun x => x ≤ a 1 + 1 → ∀ g z1 z2 bs wt, qM g 0 a → qfM 0 h g → ((wt = -1 ∧ bs = 0 ∧ x ≤ a 1 ∧ ∀ s, 0 ≤ s → s < x → ¬ gT a s (if f then p else q)) ∨ (0 ≤ wt ∧ wt < x ∧ (wt = a 1 ∨ gT a wt (if f then p else q)) ∧ bs = gVal a p q k f wt ∧ ∀ s, 0 ≤ s → s < x → (s = a 1 ∨ gT a s (if f then p else q)) → ¬ gW f bs (gVal a p q k f s) ∧ (s < wt → gW f (gVal a p q k f s) bs))) → qT (d + (k + 1) + 3) 308 56 [qo 12 0, qi p, qi q, qi t, qi T, qi (if f then 1 else 0), qi (S : Int), qi bs, qi wt, qi x, z1, z2] [] g R) ?_ 0 (by omega) (by omega) g z1 z2 0 (-1) hM hfr (Or.inl ⟨rfl, rfl, hm.1, fun s s0 s1 => absurd s1 (by omega)⟩)
      intro x hx ihx hxm g z1 z2 bs wt hM hfr hI
      refine tX12_plays_56 ?_
      rw [m_0 hM (by omega) (by omega)]
      refine ⟨by omega, fun c => ?_, fun c => ⟨by omega, ?_⟩⟩
      · -- the end
        rcases hI with ⟨c1, c2, c3, c4⟩ | ⟨w0, w1, w2, w3, w4⟩
        · omega
        have hb : bs = gV p q (k + 1) f a := by
          refine gW_eq (f := f) ?_ ?_
          · rcases GB.2.2 with e | ⟨s, s0, s1, s2, s3⟩
            · rw [e, ← gVal_m]; exact (w4 (a 1) hm.1 (by omega) (Or.inl rfl)).1
            · rw [s3, ← gVal_s (by omega)]; exact (w4 s s0 (by omega) (Or.inr s2)).1
          · rw [w3]
            by_cases e : wt = a 1
            · rw [e, gVal_m]; exact GB.1
            · rw [gVal_s e]; exact GB.2.1 wt w0 (by omega) (w2.resolve_left e)
        rw [hb]
        refine ⟨fun c2 => hR g (Or.inl (by omega)) hM hfr, fun c2 => hR0 g wt (by omega) (by omega) ?_ hM hfr⟩
        have ft : f = true := by rw [← hf, show t = 0 by omega]; rfl
        rw [ft] at w2 w3 w4 hb
        show gM a p q k wt
        have nP : ∀ s, 0 ≤ s → s < wt → s < a 1 → ¬ gP a p q k s := by
          intro s s0 s1 s2 hP
          have := (w4 s s0 (by omega) (Or.inr hP.1)).2 s1
          rw [gVal_s (by omega)] at this
          have e2 : gV p q k (!true) (aOn a s) = bs := hP.2.trans hb.symm
          rw [e2] at this
          exact gW_irr this
        by_cases e : wt = a 1
        · left
          exact ⟨e, fun s s0 s1 => nP s s0 (by omega) s1⟩
        · right
          refine ⟨w0, by omega, ⟨w2.resolve_left e, ?_⟩, fun s s0 s1 => nP s s0 s1 (by omega)⟩
          rw [← hb, w3, gVal_s e]
          rfl
      · -- a step
        have key : ∀ (g' : qH) (nn : Int), (x ≠ a 1 → nn = 0) → (x = a 1 → nn = 1) → qM g' 0 a → qfM 0 h g' → (x = a 1 ∨ gT a x (if f then p else q)) → qT (d + (k + 1) + 3) 308 138 [qo 12 0, qi p, qi q, qi t, qi T, qi (if f then 1 else 0), qi (S : Int), qi bs, qi wt, qi x, qi nn, qi (gVal a p q k f x)] [] g' R := by
          intro g' nn _ _ hM' hfr' hc
          have take : (∀ s, 0 ≤ s → s < x → (s = a 1 ∨ gT a s (if f then p else q)) → gW f (gVal a p q k f s) (gVal a p q k f x)) → qT (d + (k + 1) + 3) 308 176 [qo 12 0, qi p, qi q, qi t, qi T, qi (if f then 1 else 0), qi (S : Int), qi (gVal a p q k f x), qi x, qi x, qi nn, qi (gVal a p q k f x)] [] g' R := by
            intro hall
            refine tX12_plays_176 ⟨qR_of (by omega) (by omega), ihx (by omega) (by omega) g' _ _ _ _ hM' hfr' (Or.inr ⟨hx, by omega, hc, rfl, fun s s0 s1 sc => ?_⟩)⟩
            by_cases e : s = x
            · rw [e]; exact ⟨gW_irr, fun c => absurd c (by omega)⟩
            · have := hall s s0 (by omega) sc
              exact ⟨gW_as this, fun _ => this⟩
          have leave : ¬ gW f bs (gVal a p q k f x) → 0 ≤ wt → qT (d + (k + 1) + 3) 308 176 [qo 12 0, qi p, qi q, qi t, qi T, qi (if f then 1 else 0), qi (S : Int), qi bs, qi wt, qi x, qi nn, qi (gVal a p q k f x)] [] g' R := by
            intro hno hw
            rcases hI with ⟨c1, c2, c3, c4⟩ | ⟨w0, w1, w2, w3, w4⟩
            · omega
            refine tX12_plays_176 ⟨qR_of (by omega) (by omega), ihx (by omega) (by omega) g' _ _ _ _ hM' hfr' (Or.inr ⟨w0, by omega, w2, w3, fun s s0 s1 sc => ?_⟩)⟩
            by_cases e : s = x
            · rw [e]; exact ⟨hno, fun c => absurd c (by omega)⟩
            · exact w4 s s0 (by omega) sc
          have better : gW f bs (gVal a p q k f x) → 0 ≤ wt → ∀ s, 0 ≤ s → s < x → (s = a 1 ∨ gT a s (if f then p else q)) → gW f (gVal a p q k f s) (gVal a p q k f x) := by
            intro hg hw s s0 s1 sc
            rcases hI with ⟨c1, c2, c3, c4⟩ | ⟨w0, w1, w2, w3, w4⟩
            · omega
            · exact gW_tr (w4 s s0 s1 sc).1 hg
          refine tX12_plays_138 ⟨fun c2 => take ?_, fun c2 => ?_⟩
          · intro s s0 s1 sc
            rcases hI with ⟨c1, c2, c3, c4⟩ | ⟨w0, w1, w2, w3, w4⟩
            · rcases sc with sc | sc
              · omega
              · exact absurd sc (c4 s s0 s1)
            · omega
          · cases f with
            | false =>
              refine ⟨fun _ => ⟨fun c3 => take (better (gW_f.mpr c3) (by omega)), fun c3 => leave (fun e => c3 (gW_f.mp e)) (by omega)⟩, fun c3 => absurd rfl c3⟩
            | true =>
              refine ⟨fun c3 => absurd c3 (by decide), fun _ => ⟨fun c3 => take (better (gW_t.mpr c3) (by omega)), fun c3 => leave (fun e => c3 (gW_t.mp e)) (by omega)⟩⟩
        have kR : ∀ (b : qB) (g1 : qH) (R2 : Option qV → qH → Prop), qM g1 0 b → qwf B b → p < b 0 → q < b 0 → (∀ g2, qM g2 0 b → qfM 0 g1 g2 → R2 (some (qi (gV p q k (!f) b))) g2) → qT (d + k + 3) 308 0 [qo 12 0, qi p, qi q, qi (t + 1), qi T, qu, qu, qu, qu, qu, qu, qu] [] g1 R2 := by
          intro b g1 R2 hM1 hW1 hp1 hq1 H
          refine ih (d := d) (t + 1) (by omega) (by omega) hT4 hM1 hW1 hp1 hq1 (fun g2 _ hM2 hf2 => ?_) (fun g2 w c => absurd c (by omega))
          rw [hf1]
          exact H g2 hM2 hf2
        refine ⟨fun c2 => ?_, fun c2 => ?_⟩
        · -- a stair
          have hxm' : x < a 1 := by omega
          have hxt : ((x.toNat : Nat) : Int) = x := by omega
          refine tX12_plays_85 ⟨fun c3 => absurd rfl c3, fun _ => m_has hS10 hx (by omega) (fun hb => ⟨fun _ => ?_, fun c3 => absurd (by decide) c3⟩) (fun hb => ⟨fun c3 => absurd rfl c3, fun _ => ?_⟩)⟩
          · have ht : gT a x (if f then p else q) := by
              have := ((hSb x.toNat).mp hb).2
              rw [hxt] at this
              exact this
            refine tX12_plays_103 ⟨fun c3 => absurd rfl c3, fun _ => m_swapsOn hM hW hx hxm' (fun g1 hM1 hf1' => ?_)⟩
            have hW1 := aOn_wf hW hx hxm'
            have hp1 : p < aOn a x 0 := by rw [aOn_hi hW hx hxm' (by omega)]; exact hp
            have hq1 : q < aOn a x 0 := by rw [aOn_hi hW hx hxm' (by omega)]; exact hq
            have hx1 : x < aOn a x 1 := by rw [aOn_hi hW hx hxm' (by omega)]; exact hxm'
            refine tX12_plays_114 ⟨qR_of (by omega) (by omega), kR (aOn a x) g1 _ hM1 hW1 hp1 hq1 (fun g2 hM2 hf2 => ?_)⟩
            refine tX12_plays_127 ⟨fun c3 => absurd rfl c3, fun _ => m_swapsOn hM2 hW1 hx hx1 (fun g3 hM3 hf3 => ?_)⟩
            have hM3' : qM g3 0 a := by
              have e := aOn_on hW hx hxm'
              unfold aOn at e hM3
              rw [e] at hM3
              exact hM3
            have := key g3 0 (fun _ => rfl) (fun e => absurd e c2) hM3' (qfM_trans hfr (qfM_trans hf1' (qfM_trans hf2 hf3))) (Or.inr ht)
            rw [gVal_s c2] at this
            exact this
          · have hnt : ¬ gT a x (if f then p else q) := by
              intro e
              have := (hSb x.toNat).mpr ⟨by omega, by rw [hxt]; exact e⟩
              rw [this] at hb
              cases hb
            refine tX12_plays_176 ⟨qR_of (by omega) (by omega), ihx (by omega) (by omega) g _ _ _ _ hM hfr ?_⟩
            rcases hI with ⟨c1, c2, c3, c4⟩ | ⟨w0, w1, w2, w3, w4⟩
            · left
              refine ⟨c1, c2, by omega, fun s s0 s1 => ?_⟩
              by_cases e : s = x
              · rw [e]; exact hnt
              · exact c4 s s0 (by omega)
            · right
              refine ⟨w0, by omega, w2, w3, fun s s0 s1 sc => ?_⟩
              by_cases e : s = x
              · rw [e] at sc; exact (sc.elim c2 hnt).elim
              · exact w4 s s0 (by omega) sc
        · -- nothing
          have e : x = a 1 := by omega
          refine tX12_plays_85 ⟨fun _ => ?_, fun c3 => absurd (by decide) c3⟩
          refine tX12_plays_103 ⟨fun _ => ?_, fun c3 => absurd (by decide) c3⟩
          refine tX12_plays_114 ⟨qR_of (by omega) (by omega), kR a g _ hM hW hp hq (fun g2 hM2 hf2 => ?_)⟩
          refine tX12_plays_127 ⟨fun _ => ?_, fun c3 => absurd (by decide) c3⟩
          have := key g2 1 (fun c => absurd e c) (fun _ => rfl) hM2 (qfM_trans hfr hf2) (Or.inl e)
          rw [show gVal a p q k f x = gV p q k (!f) a by rw [e, gVal_m]] at this
          exact this
    refine tX12_plays_0 ⟨fun _ => ⟨⟨t0, by decide⟩, fun c => ?_, fun c => ?_⟩, fun c => absurd (by omega) c⟩
    · have ff : f = false := by rw [← hf]; exact decide_eq_false c
      subst ff
      refine ⟨fun _ => m_stairsOf hM hW ?_, fun c2 => absurd rfl c2⟩
      rw [show aStairs a q (a 1) = (S : Int) from eS]
      exact loop h _ _ hM qfM_rfl
    · have ff : f = true := by rw [← hf]; exact decide_eq_true (by omega)
      subst ff
      refine ⟨fun c2 => absurd c2 (by decide), fun _ => m_stairsOf hM hW ?_⟩
      rw [show aStairs a p (a 1) = (S : Int) from eS]
      exact loop h _ _ hM qfM_rfl
end Gp
