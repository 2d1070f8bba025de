/-! GAMES -/
def aOn (a : qB) (s : Int) : qB := aSwap a (a (70 + s)) (a (80 + s))
theorem aOn_hi {B : Int} {a : qB} (hW : qwf B a) {s x : Int} (s0 : 0 ≤ s) (hs : s < a 1) (hx : x < 14 ∨ 21 ≤ x) : aOn a s x = a x := by
  have h3 := wf_st hW s0 hs
  have hn := wf_n hW
  unfold aOn
  exact aSwap_ne (by omega) (by omega)
theorem aOn_wf {B : Int} {a : qB} (hW : qwf B a) {s : Int} (s0 : 0 ≤ s) (hs : s < a 1) : qwf B (aOn a s) := by
  have h3 := wf_st hW s0 hs
  exact wf_swap hW h3.1.1 h3.1.2 h3.2.1.1 h3.2.1.2
theorem aOn_on {B : Int} {a : qB} (hW : qwf B a) {s : Int} (s0 : 0 ≤ s) (hs : s < a 1) : aOn (aOn a s) s = a := by
  have h3 := wf_st hW s0 hs
  have hn := wf_n hW
  have hm := wf_m hW
  show aSwap (aOn a s) (aOn a s (70 + s)) (aOn a s (80 + s)) = a
  rw [aOn_hi hW s0 hs (by omega : 70 + s < 14 ∨ 21 ≤ 70 + s), aOn_hi hW s0 hs (by omega : 80 + s < 14 ∨ 21 ≤ 80 + s)]
  unfold aOn aSwap
  generalize a (70 + s) = A at *
  generalize a (80 + s) = C at *
  funext x
  unfold aSet
  by_cases k1 : x = 14 + C
  · rw [if_pos k1]
    by_cases k2 : 14 + A = 14 + C
    · omega
    · rw [if_neg k2, if_pos rfl, k1]
  · rw [if_neg k1]
    by_cases k2 : x = 14 + A
    · rw [if_pos k2, if_pos rfl, k2]
    · rw [if_neg k2, if_neg k1, if_neg k2]
def gT (a : qB) (s p : Int) : Prop := a (70 + s) = p ∨ a (80 + s) = p
def gop (f : Bool) (x y : Int) : Int := if f then max x y else min x y
def gV (p q : Int) : Nat → Bool → qB → Int
  | 0, _, a => aLike a p (a (14 + p)) - aLike a q (a (14 + q))
  | t + 1, f, a => qfold (fun s r => if a (70 + s) = (if f then p else q) ∨ a (80 + s) = (if f then p else q) then gop f r (gV p q t (!f) (aOn a s)) else r) (gV p q t (!f) a) (a 1)
def gF (p q : Int) (t : Nat) (f : Bool) (a : qB) (x : Int) : Int := qfold (fun s r => if a (70 + s) = (if f then p else q) ∨ a (80 + s) = (if f then p else q) then gop f r (gV p q t (!f) (aOn a s)) else r) (gV p q t (!f) a) x
theorem gF_0 {p q : Int} {t : Nat} {f : Bool} {a : qB} : gF p q t f a 0 = gV p q t (!f) a := rfl
theorem gF_t {p q : Int} {t : Nat} {f : Bool} {a : qB} {x : Int} (hx : 0 ≤ x) (h : gT a x (if f then p else q)) : gF p q t f a (x + 1) = gop f (gF p q t f a x) (gV p q t (!f) (aOn a x)) := by unfold gF; rw [qfold_s hx]; exact if_pos h
theorem gF_f {p q : Int} {t : Nat} {f : Bool} {a : qB} {x : Int} (hx : 0 ≤ x) (h : ¬ gT a x (if f then p else q)) : gF p q t f a (x + 1) = gF p q t f a x := by unfold gF; rw [qfold_s hx]; exact if_neg h
theorem gop_b {f : Bool} {x y : Int} (hx : -9 ≤ x ∧ x ≤ 9) (hy : -9 ≤ y ∧ y ≤ 9) : -9 ≤ gop f x y ∧ gop f x y ≤ 9 := by
  unfold gop
  split <;> omega
theorem gV_b {B p q : Int} (p0 : 0 ≤ p) (q0 : 0 ≤ q) : ∀ (t : Nat) (f : Bool) (a : qB), qwf B a → p < a 0 → q < a 0 → -9 ≤ gV p q t f a ∧ gV p q t f a ≤ 9 := by
  intro t
  induction t with
  | zero =>
    intro f a hW hp hq
    have l1 := wf_live hW p0 hp
    have l2 := wf_live hW q0 hq
    have h1 := wf_like hW p0 hp l1.1 l1.2
    have h2 := wf_like hW q0 hq l2.1 l2.2
    show -9 ≤ a (21 + 7 * p + a (14 + p)) - a (21 + 7 * q + a (14 + q)) ∧ a (21 + 7 * p + a (14 + p)) - a (21 + 7 * q + a (14 + q)) ≤ 9
    omega
  | succ t ih =>
    intro f a hW hp hq
    have hm := wf_m hW
    refine qfold_inv (fun (x : Int) (r : Int) => -9 ≤ r ∧ r ≤ 9) (ih _ a hW hp hq) ?_ hm.1
    intro x r hx hxm hr
    by_cases hc : a (70 + x) = (if f then p else q) ∨ a (80 + x) = (if f then p else q)
    · rw [if_pos hc]
      refine gop_b hr (ih _ _ (aOn_wf hW hx hxm) ?_ ?_)
      · rw [aOn_hi hW hx hxm (by omega)]; exact hp
      · rw [aOn_hi hW hx hxm (by omega)]; exact hq
    · rw [if_neg hc]
      exact hr
/-- the first stair that is as good as can be -/
def gP (a : qB) (p q : Int) (k : Nat) (s : Int) : Prop := gT a s p ∧ gV p q k false (aOn a s) = gV p q (k + 1) true a
section Gm
variable {R : Option qV → qH → Prop} {h : qH} {i : Nat} {a : qB} {B : Int}
theorem x_playOut {p q : Int} (p0 : 0 ≤ p) (q0 : 0 ≤ q) : ∀ (t : Nat) (f : Bool) {d : Nat} {R : Option qV → qH → Prop} {h : qH} {a : qB} {i : Nat}, t ≤ 4 → qQX h i a → qwf B a → p < a 0 → q < a 0 → (∀ h', qQX h' i a → qf7 i h h' → R (some (qi (gV p q t f a))) h') → qT (d + t + 3) 171 0 [qo 7 i, qi p, qi q, qi (t : Int), qi (if f then 1 else 0), qu, qu, qu, qu] [] h R := by
  intro t
  induction t with
  | zero =>
    intro f d R h a i ht hQ hW hp hq hR
    have hn := wf_n hW
    have l1 := wf_live hW p0 hp
    have l2 := wf_live hW q0 hq
    have h1 := wf_like hW p0 hp l1.1 l1.2
    have h2 := wf_like hW q0 hq l2.1 l2.2
    have e1 : aLike a p (a (14 + p)) = a (21 + 7 * p + a (14 + p)) := rfl
    have e2 : aLike a q (a (14 + q)) = a (21 + 7 * q + a (14 + q)) := rfl
    refine sX11_playOut_0 ⟨fun _ => ⟨by omega, ?_⟩, fun c => absurd (by decide) c⟩
    rw [qx_live hQ hW p0 hp]
    refine x_liking hQ hW p0 hp l1.1 l1.2 ⟨by omega, ?_⟩
    rw [qx_live hQ hW q0 hq]
    exact x_liking hQ hW q0 hq l2.1 l2.2 ⟨qR_of (by omega) (by omega), hR h hQ qf7_rfl⟩
  | succ t ih =>
    intro f d R h a i ht hQ hW hp hq hR
    have hn := wf_n hW
    have hm := wf_m hW
    have loop : ∀ g z, qQX g i a → qf7 i h g → qT (d + (t + 1) + 3) 171 69 [qo 7 i, qi p, qi q, qi ((t + 1 : Nat) : Int), qi (if f then 1 else 0), qi (if f then p else q), qi (gV p q t (!f) a), qi 0, z] [] g R := by
      intro g z hQ hf
      refine q_up (n := a 1) (C := fun x => x ≤ a 1 → ∀ g z, qQX g i a → qf7 i h g → qT (d + (t + 1) + 3) 171 69 [qo 7 i, qi p, qi q, qi ((t + 1 : Nat) : Int), qi (if f then 1 else 0), qi (if f then p else q), qi (gF p q t f a x), qi x, z] [] g R) ?_ 0 (by omega) (by omega) g z hQ hf
      intro x hx ihx hxm g z hQ hf
      refine sX11_playOut_69 ?_
      rw [qx_m hQ]
      refine ⟨fun c => ?_, fun c => ?_⟩
      · rw [show x = a 1 by omega]
        exact hR g hQ hf
      · have hxm' : x < a 1 := by omega
        refine x_touches hQ hW hx hxm' (fun ht1 => ⟨fun c2 => absurd c2 (by decide), fun _ => ?_⟩) (fun ht1 => ⟨fun _ => ⟨qR_of (by omega) (by omega), ?_⟩, fun c2 => absurd rfl c2⟩)
        · refine x_exchangeOn hQ hW hx hxm' (fun g1 hQ1 hf1 => ⟨qR_of (by omega) (by omega), ?_⟩)
          have hW1 := aOn_wf hW hx hxm'
          have hp1 : p < aOn a x 0 := by rw [aOn_hi hW hx hxm' (by omega)]; exact hp
          have hq1 : q < aOn a x 0 := by rw [aOn_hi hW hx hxm' (by omega)]; exact hq
          have hx1 : x < aOn a x 1 := by rw [aOn_hi hW hx hxm' (by omega)]; exact hxm'
          rw [show ((t + 1 : Nat) : Int) - 1 = (t : Int) by omega]
          have K := fun (R2 : Option qV → qH → Prop) (H : ∀ h', qQX h' i (aOn a x) → qf7 i g1 h' → R2 (some (qi (gV p q t (!f) (aOn a x)))) h') => ih (!f) (d := d) (R := R2) (by omega) hQ1 hW1 hp1 hq1 H
          have fin : ∀ g2, qQX g2 i (aOn a x) → qf7 i g1 g2 → ∀ R3 : Option qV → qH → Prop, (∀ g3, qQX g3 i a → qf7 i h g3 → R3 none g3) → qT (d + t + 3) 65 0 [qo 7 i, qi x] [] g2 R3 := by
            intro g2 hQ2 hf2 R3 H3
            refine x_exchangeOn hQ2 hW1 hx hx1 (fun g3 hQ3 hf3 => H3 g3 ?_ (qf7_trans hf (qf7_trans hf1 (qf7_trans hf2 hf3))))
            have e := aOn_on hW hx hxm'
            unfold aOn at e hQ3
            rw [e] at hQ3
            exact hQ3
          have F := gF_t (t := t) hx ht1
          cases f with
          | true =>
            refine ⟨fun _ => K _ (fun g2 hQ2 hf2 => fin g2 hQ2 hf2 _ (fun g3 hQ3 hf3 => ⟨fun c4 => absurd c4 (by decide), fun _ => ⟨qR_of (by omega) (by omega), ?_⟩⟩)), fun c3 => absurd (by decide) c3⟩
            have := ihx hxm' (by omega) g3 (qi (gV p q t (!true) (aOn a x))) hQ3 hf3
            rw [F] at this
            exact this
          | false =>
            refine ⟨fun c3 => absurd rfl c3, fun _ => K _ (fun g2 hQ2 hf2 => fin g2 hQ2 hf2 _ (fun g3 hQ3 hf3 => ⟨fun _ => ⟨qR_of (by omega) (by omega), ?_⟩, fun c4 => absurd rfl c4⟩))⟩
            have := ihx hxm' (by omega) g3 (qi (gV p q t (!false) (aOn a x))) hQ3 hf3
            rw [F] at this
            exact this
        · have := ihx hxm' (by omega) g z hQ hf
          rw [gF_f hx ht1] at this
          exact this
    refine sX11_playOut_0 ⟨fun c => absurd c (by omega), fun _ => ⟨fun _ => ?_, fun c => absurd (by omega) c⟩⟩
    rw [show ((t + 1 : Nat) : Int) - 1 = (t : Int) by omega]
    cases f with
    | true => exact ⟨fun c => absurd c (by decide), fun _ => ⟨qR_of (by omega) (by omega), fun _ => ih false (d := d) (by omega) hQ hW hp hq (fun g hQ' hf => loop g _ hQ' hf), fun c => absurd (by decide) c⟩⟩
    | false => exact ⟨fun _ => ⟨qR_of (by omega) (by omega), fun c => absurd rfl c, fun _ => ih true (d := d) (by omega) hQ hW hp hq (fun g hQ' hf => loop g _ hQ' hf)⟩, fun c => absurd rfl c⟩
/-- the class's loop of the first's move -/
theorem x_moveLoop {d : Nat} (hQ : qQX h 0 a) (hW : qwf B a) {p q : Int} {k : Nat} (hk : k ≤ 3) (p0 : 0 ≤ p) (hp : p < a 0) (q0 : 0 ≤ q) (hq : q < a 0) {z : qV} (hR : ∀ r h', qfst (gP a p q k) (a 1) r → qQX h' 0 a → qf7 0 h h' → (r ≠ -1 → R (some (qi r)) h') ∧ (r = -1 → R (some (qi (-1))) (qup h' 11 0 17 0 8))) : qT (d + 8) 150 46 [qo 11 0, qi p, qi q, qi ((k : Int) + 1), qi (-1), qi (gV p q k false a), qi (a 1 - 1), z] [] h R := by
  have hn := wf_n hW
  have hm := wf_m hW
  have bb : ∀ s, 0 ≤ s → s < a 1 → -9 ≤ gV p q k false (aOn a s) ∧ gV p q k false (aOn a s) ≤ 9 := fun s s0 s1 => gV_b p0 q0 k false _ (aOn_wf hW s0 s1) (by rw [aOn_hi hW s0 s1 (by omega)]; exact hp) (by rw [aOn_hi hW s0 s1 (by omega)]; exact hq)
  -- the greatest, of those from x on and of nothing
  have fmax : ∀ y : Int, 0 ≤ y → y ≤ a 1 → gV p q k false a ≤ gF p q k true a y ∧ (∀ s, 0 ≤ s → s < y → gT a s p → gV p q k false (aOn a s) ≤ gF p q k true a y) ∧ (gF p q k true a y = gV p q k false a ∨ ∃ s, 0 ≤ s ∧ s < y ∧ gT a s p ∧ gF p q k true a y = gV p q k false (aOn a s)) := by
    apply q_ind
    · intro _
      rw [gF_0]
      exact ⟨Int.le_refl _, fun s s0 s1 => absurd s1 (by omega), Or.inl rfl⟩
    · intro y hy ih hym
      obtain ⟨i1, i2, i3⟩ := ih (by omega)
      by_cases ht : gT a y p
      · rw [gF_t hy ht]
        show gV p q k false a ≤ max (gF p q k true a y) (gV p q k false (aOn a y)) ∧ (∀ s, 0 ≤ s → s < y + 1 → gT a s p → gV p q k false (aOn a s) ≤ max (gF p q k true a y) (gV p q k false (aOn a y))) ∧ (max (gF p q k true a y) (gV p q k false (aOn a y)) = gV p q k false a ∨ ∃ s, 0 ≤ s ∧ s < y + 1 ∧ gT a s p ∧ max (gF p q k true a y) (gV p q k false (aOn a y)) = gV p q k false (aOn a s))
        refine ⟨by omega, fun s s0 s1 st => ?_, ?_⟩
        · by_cases e : s = y
          · rw [e]; omega
          · have := i2 s s0 (by omega) st
            omega
        · by_cases c : gF p q k true a y ≤ gV p q k false (aOn a y)
          · right; exact ⟨y, hy, by omega, ht, by omega⟩
          · have e : max (gF p q k true a y) (gV p q k false (aOn a y)) = gF p q k true a y := by omega
            rw [e]
            rcases i3 with i3 | ⟨s, s0, s1, s2, s3⟩
            · left; exact i3
            · right; exact ⟨s, s0, by omega, s2, s3⟩
      · rw [gF_f hy ht]
        refine ⟨i1, fun s s0 s1 st => ?_, ?_⟩
        · by_cases e : s = y
          · rw [e] at st; exact absurd st ht
          · exact i2 s s0 (by omega) st
        · rcases i3 with i3 | ⟨s, s0, s1, s2, s3⟩
          · left; exact i3
          · right; exact ⟨s, s0, by omega, s2, s3⟩
  have FM := fmax (a 1) hm.1 (Int.le_refl _)
  have eFM : gF p q k true a (a 1) = gV p q (k + 1) true a := rfl
  refine q_down (C := fun x => x < a 1 → ∀ g z mv ms, qQX g 0 a → qf7 0 h g → gV p q k false a ≤ ms → (∀ s, x < s → s < a 1 → gT a s p → gV p q k false (aOn a s) ≤ ms) → ((mv = -1 ∧ ms = gV p q k false a ∧ ∀ s, x < s → s < a 1 → gT a s p → gV p q k false (aOn a s) ≠ ms) ∨ (x < mv ∧ 0 ≤ mv ∧ mv < a 1 ∧ gT a mv p ∧ gV p q k false (aOn a mv) = ms ∧ ∀ s, x < s → s < mv → gT a s p → gV p q k false (aOn a s) ≠ ms)) → qT (d + 8) 150 46 [qo 11 0, qi p, qi q, qi ((k : Int) + 1), qi mv, qi ms, qi x, z] [] g R) ?_ ?_ (a 1 - 1) (by omega) h z (-1) _ hQ qf7_rfl (Int.le_refl _) (fun s s0 s1 => absurd s0 (by omega)) (Or.inl ⟨rfl, rfl, fun s s0 s1 => absurd s0 (by omega)⟩)
  · intro x hx _ g z mv ms hQ hf h1 h2 h3
    have hms : ms = gV p q (k + 1) true a := by
      rw [← eFM]
      rcases h3 with ⟨e1, e2, e3⟩ | ⟨e1, e0, e2, e3, e4, e5⟩
      · rcases FM.2.2 with f1 | ⟨s, s0, s1, s2, s3⟩
        · omega
        · have := h2 s (by omega) s1 s2
          have := FM.1
          omega
      · have := FM.2.1 mv e0 e2 e3
        rcases FM.2.2 with f1 | ⟨s, s0, s1, s2, s3⟩
        · omega
        · have := h2 s (by omega) s1 s2
          omega
    have hr : qfst (gP a p q k) (a 1) mv := by
      rcases h3 with ⟨e1, e2, e3⟩ | ⟨e1, e0, e2, e3, e4, e5⟩
      · right
        refine ⟨e1, fun y y0 y1 hy => e3 y (by omega) y1 hy.1 ?_⟩
        rw [hy.2, hms]
      · left
        refine ⟨e0, e2, ⟨e3, by rw [e4, hms]⟩, fun y y0 y1 hy => e5 y (by omega) y1 hy.1 ?_⟩
        rw [hy.2, hms]
    have := hR mv g hr hQ hf
    refine sX11_moveOf_46 ⟨fun _ => ⟨fun c => this.1 c, fun c => sX11_answer_0 (this.2 (by omega))⟩, fun c => absurd hx c⟩
  · intro x hx ih hxm g z mv ms hQ hf h1 h2 h3
    refine sX11_moveOf_46 ⟨fun c => absurd c (by omega), fun _ => x_touches hQ hW hx hxm (fun ht => ⟨fun c2 => absurd c2 (by decide), fun _ => ?_⟩) (fun ht => ⟨fun _ => ⟨qR_of (by omega) (by omega), ?_⟩, fun c2 => absurd rfl c2⟩)⟩
    · refine x_exchangeOn hQ hW hx hxm (fun g1 hQ1 hf1 => ⟨qR_of (by omega) (by omega), ?_⟩)
      have hW1 := aOn_wf hW hx hxm
      have hp1 : p < aOn a x 0 := by rw [aOn_hi hW hx hxm (by omega)]; exact hp
      have hq1 : q < aOn a x 0 := by rw [aOn_hi hW hx hxm (by omega)]; exact hq
      have hx1 : x < aOn a x 1 := by rw [aOn_hi hW hx hxm (by omega)]; exact hxm
      rw [show (k : Int) + 1 - 1 = (k : Int) by omega]
      have K := fun (R2 : Option qV → qH → Prop) (H : ∀ h', qQX h' 0 (aOn a x) → qf7 0 g1 h' → R2 (some (qi (gV p q k false (aOn a x)))) h') => x_playOut (B := B) p0 q0 k false (d := d + 4 - k) (R := R2) (by omega) hQ1 hW1 hp1 hq1 H
      rw [show d + 4 - k + k + 3 = d + 7 by omega] at K
      refine K _ (fun g2 hQ2 hf2 => x_exchangeOn hQ2 hW1 hx hx1 (fun g3 hQ3 hf3 => ?_))
      have hQ3 : qQX g3 0 a := by
        have e := aOn_on hW hx hxm
        unfold aOn at e hQ3
        rw [e] at hQ3
        exact hQ3
      have hf3 := qf7_trans hf (qf7_trans hf1 (qf7_trans hf2 hf3))
      rw [show x + (-1) = x - 1 by omega]
      refine ⟨fun c => ⟨qR_of (by omega) (by omega), ih (by omega) g3 _ mv ms hQ3 hf3 h1 ?_ ?_⟩, fun c => ⟨qR_of (by omega) (by omega), ih (by omega) g3 _ x _ hQ3 hf3 (by omega) ?_ ?_⟩⟩
      · intro s s0 s1 st
        by_cases e : s = x
        · rw [e]; omega
        · exact h2 s (by omega) s1 st
      · rcases h3 with ⟨e1, e2, e3⟩ | ⟨e1, e0, e2, e3, e4, e5⟩
        · left
          refine ⟨e1, e2, fun s s0 s1 st => ?_⟩
          by_cases e : s = x
          · rw [e]; omega
          · exact e3 s (by omega) s1 st
        · right
          refine ⟨by omega, e0, e2, e3, e4, fun s s0 s1 st => ?_⟩
          by_cases e : s = x
          · rw [e]; omega
          · exact e5 s (by omega) s1 st
      · intro s s0 s1 st
        by_cases e : s = x
        · rw [e]; exact Int.le_refl _
        · have := h2 s (by omega) s1 st
          omega
      · right
        exact ⟨by omega, hx, hxm, ht, rfl, fun s s0 s1 => absurd s1 (by omega)⟩
    · rw [show x + (-1) = x - 1 by omega]
      refine ih (by omega) g z mv ms hQ hf h1 ?_ ?_
      · intro s s0 s1 st
        by_cases e : s = x
        · rw [e] at st; exact absurd st ht
        · exact h2 s (by omega) s1 st
      · rcases h3 with ⟨e1, e2, e3⟩ | ⟨e1, e0, e2, e3, e4, e5⟩
        · left
          refine ⟨e1, e2, fun s s0 s1 st => ?_⟩
          by_cases e : s = x
          · rw [e] at st; exact absurd st ht
          · exact e3 s (by omega) s1 st
        · right
          refine ⟨by omega, e0, e2, e3, e4, fun s s0 s1 st => ?_⟩
          by_cases e : s = x
          · rw [e] at st; exact absurd st ht
          · exact e5 s (by omega) s1 st
end Gm
