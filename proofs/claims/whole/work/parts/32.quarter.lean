/-! what a quarter is asked -/
def aHeat (a : qB) (s : Int) : Int := a (7 + a (70 + s)) + a (7 + a (80 + s)) + 2 * a (90 + s)
def aLike (a : qB) (p q : Int) : Int := a (21 + 7 * p + q)
def aMayQ (a : qB) (s : Int) : Prop := a 3 < aHeat a s ∧ a (90 + s) < 9
def aMayM (a : qB) (s : Int) : Prop := 0 < a (90 + s) ∧ aLike a (a (70 + s)) (a (14 + a (70 + s))) ≤ aLike a (a (70 + s)) (a (14 + a (80 + s))) ∧ aLike a (a (80 + s)) (a (14 + a (80 + s))) ≤ aLike a (a (80 + s)) (a (14 + a (70 + s)))
def aSum (a : qB) (o n : Int) : Int := qfold (fun k s => s + a (o + k)) 0 n
def aHome (a : qB) (n : Int) : Int := qfold (fun p s => if a (14 + p) = p then qor s (qshl 1 p) else s) 0 n
def aStairs (a : qB) (p n : Int) : Int := qfold (fun k s => if a (70 + k) = p ∨ a (80 + k) = p then qor s (qshl 1 k) else s) 0 n
def aVotes (a : qB) (x y n : Int) : Int := qfold (fun p s => if aLike a p y < aLike a p x then s + 1 else s) 0 n
def aEnvy1 (a : qB) (p n s : Int) : Int := qfold (fun o s => if aLike a p (a (14 + p)) < aLike a p (a (14 + o)) then s + 1 else s) s n
def aEnvy (a : qB) (n : Int) : Int := qfold (fun p s => aEnvy1 a p (a 0) s) 0 n
/-- the first that is so, or -1 -/
def qfst (P : Int → Prop) (n r : Int) : Prop := (0 ≤ r ∧ r < n ∧ P r ∧ ∀ y, 0 ≤ y → y < r → ¬ P y) ∨ (r = -1 ∧ ∀ y, 0 ≤ y → y < n → ¬ P y)
theorem qfst_uniq {P : Int → Prop} {n r r' : Int} (h : qfst P n r) (h' : qfst P n r') : r = r' := by
  rcases h with ⟨h1, h2, h3, h4⟩ | ⟨h1, h2⟩ <;> rcases h' with ⟨h5, h6, h7, h8⟩ | ⟨h5, h6⟩
  · rcases Int.lt_trichotomy r r' with hl | hl | hl
    · exact absurd h3 (h8 r h1 hl)
    · exact hl
    · exact absurd h7 (h4 r' h5 hl)
  · exact absurd h3 (h6 r h1 h2)
  · exact absurd h7 (h2 r' h5 h6)
  · rw [h1, h5]
def aBeats (a : qB) (x : Int) : Prop := ∀ y, 0 ≤ y → y < a 0 → y ≠ x → aVotes a y x (a 0) < aVotes a x y (a 0)
/-! what is done -/
def aSwap (a : qB) (p q : Int) : qB := aSet (aSet a (14 + p) (a (14 + q))) (14 + q) (a (14 + p))
def aQuar (a : qB) (s : Int) : qB := aSet (aSet (aSwap a (a (70 + s)) (a (80 + s))) (90 + s) (a (90 + s) + 1)) 5 (a 5 + 1)
def aMake (a : qB) (s : Int) : qB := aSet (aSet (aSwap a (a (70 + s)) (a (80 + s))) (90 + s) (a (90 + s) - 1)) 6 (a 6 + 1)
def aTemp (a : qB) (n p : Int) : Int := if aLike a p (a (14 + p)) < aLike a p p then min 9 (a (7 + p) + n) else max 0 (a (7 + p) - n)
/-- the first k tempers after n nights -/
def aNightsTo (a : qB) (n k : Int) : qB := fun x => if x = 4 then a 4 + n else if 7 ≤ x ∧ x < 7 + k then aTemp a n (x - 7) else a x
def aNights (a : qB) (n : Int) : qB := aNightsTo a n (a 0)
def aBuild (a : qB) (p q g : Int) : qB := aSet (aSet (aSet (aSet a (70 + a 1) p) (80 + a 1) q) (90 + a 1) g) 1 (a 1 + 1)
/-- nothing but the quarter i, and there no names -/
def qf7 (i : Nat) (h h' : qH) : Prop := (∀ c' i', ¬ (c' = 7 ∧ i' = i) → h' c' i' = h c' i') ∧ h' 7 i 0 = h 7 i 0
theorem qf7_rfl {i : Nat} {h : qH} : qf7 i h h := ⟨fun _ _ _ => rfl, rfl⟩
theorem qf7_trans {i : Nat} {h h' h'' : qH} (h1 : qf7 i h h') (h2 : qf7 i h' h'') : qf7 i h h'' := ⟨fun c' i' n => (h2.1 c' i' n).trans (h1.1 c' i' n), h2.2.trans h1.2⟩
theorem qf7_up {i j k : Nat} {v : Int} {h : qH} (hj : j ≠ 0) : qf7 i h (qup h 7 i j k v) := by
  refine ⟨fun c' i' n => ?_, ?_⟩
  · funext j' k'
    exact if_neg (fun e => n ⟨e.2.1, e.2.2.2⟩)
  · funext k'
    exact if_neg (fun e => hj e.1.symm)
theorem wf_swap {B : Int} {a : qB} (hW : qwf B a) {p q : Int} (h0 : 0 ≤ p) (hp : p < a 0) (h1 : 0 ≤ q) (hq : q < a 0) : qwf B (aSwap a p q) := by
  have hn := wf_n hW
  have hm := wf_m hW
  have e : ∀ x, x ≠ 14 + p → x ≠ 14 + q → aSwap a p q x = a x := fun x n1 n2 => by unfold aSwap; rw [aSet_ne n2, aSet_ne n1]
  have l : ∀ x, 0 ≤ x → x < a 0 → aSwap a p q (14 + x) = a (14 + (if x = q then p else if x = p then q else x)) := by
    intro x hx hxn
    unfold aSwap
    by_cases h2 : x = q
    · rw [if_pos h2, aSet_eq (by omega)]
    rw [if_neg h2, aSet_ne (by omega)]
    by_cases h3 : x = p
    · rw [if_pos h3, aSet_eq (by omega)]
    · rw [if_neg h3, aSet_ne (by omega)]
  unfold qwf
  rw [e 0 (by omega) (by omega), e 1 (by omega) (by omega), e 2 (by omega) (by omega), e 3 (by omega) (by omega), e 4 (by omega) (by omega), e 5 (by omega) (by omega), e 6 (by omega) (by omega)]
  refine ⟨wf_n hW, wf_m hW, wf_odds hW, wf_cool hW, wf_night hW, wf_quar hW, wf_made hW, ?_, ?_, ?_, ?_, ?_⟩
  · intro x hx hxn
    rw [e _ (by omega) (by omega)]
    exact wf_temp hW hx hxn
  · intro x hx hxn
    rw [l x hx hxn]
    exact wf_live hW (by split <;> (try split) <;> omega) (by split <;> (try split) <;> omega)
  · intro x y hx hxn hy hyn he
    rw [l x hx hxn, l y hy hyn] at he
    have := wf_inj hW (by split <;> (try split) <;> omega) (by split <;> (try split) <;> omega) (by split <;> (try split) <;> omega) (by split <;> (try split) <;> omega) he
    repeat' split at this
    all_goals omega
  · intro x y hx hxn hy hyn
    rw [e _ (by omega) (by omega)]
    exact wf_like hW hx hxn hy hyn
  · intro s hs hsm
    rw [e _ (by omega) (by omega), e _ (by omega) (by omega), e _ (by omega) (by omega)]
    exact wf_st hW hs hsm
/-- a cell changed that keeps to its bounds -/
theorem wf_mono {B B' : Int} {a : qB} (hW : qwf B a) (h : B ≤ B') : qwf B' a := by
  obtain ⟨h0, h1, h2, h3, h4, h5, h6, r⟩ := hW
  exact ⟨h0, h1, h2, h3, h4, ⟨h5.1, by omega⟩, ⟨h6.1, by omega⟩, r⟩
theorem wf_set {B : Int} {a : qB} (hW : qwf B a) {k v : Int} (h0 : 2 ≤ k) (h1 : k < 14 ∨ (21 ≤ k ∧ k < 70) ∨ 90 ≤ k)
    (h2 : k = 2 → 0 ≤ v ∧ v ≤ 16) (h3 : k = 3 → 0 ≤ v ∧ v ≤ 30) (h4 : k = 4 → 0 ≤ v ∧ v ≤ 9999) (h5 : k = 5 ∨ k = 6 → 0 ≤ v ∧ v ≤ B) (h6 : 7 ≤ k → 0 ≤ v ∧ v ≤ 9) : qwf B (aSet a k v) := by
  have hn := wf_n hW
  have hm := wf_m hW
  have g : ∀ x, (x = k → aSet a k v x = v) ∧ (x ≠ k → aSet a k v x = a x) := fun x => ⟨aSet_eq, aSet_ne⟩
  unfold qwf
  rw [(g 0).2 (by omega), (g 1).2 (by omega)]
  refine ⟨wf_n hW, wf_m hW, ?_, ?_, ?_, ?_, ?_, ?_, ?_, ?_, ?_, ?_⟩
  · have := g 2; have := wf_odds hW; by_cases hk : k = 2 <;> omega
  · have := g 3; have := wf_cool hW; by_cases hk : k = 3 <;> omega
  · have := g 4; have := wf_night hW; by_cases hk : k = 4 <;> omega
  · have := g 5; have := wf_quar hW; by_cases hk : k = 5 <;> omega
  · have := g 6; have := wf_made hW; by_cases hk : k = 6 <;> omega
  · intro x hx hxn
    have := g (7 + x); have := wf_temp hW hx hxn
    by_cases hk : 7 + x = k <;> omega
  · intro x hx hxn
    rw [(g (14 + x)).2 (by omega)]
    exact wf_live hW hx hxn
  · intro x y hx hxn hy hyn he
    rw [(g (14 + x)).2 (by omega), (g (14 + y)).2 (by omega)] at he
    exact wf_inj hW hx hxn hy hyn he
  · intro x y hx hxn hy hyn
    have := g (21 + 7 * x + y); have := wf_like hW hx hxn hy hyn
    by_cases hk : 21 + 7 * x + y = k <;> omega
  · intro s hs hsm
    have := g (90 + s); have := wf_st hW hs hsm
    rw [(g (70 + s)).2 (by omega), (g (80 + s)).2 (by omega)]
    by_cases hk : 90 + s = k <;> omega
section Q7
variable {d : Nat} {R : Option qV → qH → Prop} {h : qH} {i : Nat} {a : qB} {B : Int}
theorem x_hasPerson (hQ : qQX h i a) {p : Int} (h1 : 0 ≤ p → p < a 0 → R (some (qi 1)) h) (h0 : ¬ (0 ≤ p ∧ p < a 0) → R (some (qi 0)) h) : qT (d + 1) 50 0 [qo 7 i, qi p] [] h R := by
  have en := qx_n hQ
  refine sX7_hasPerson_0 ?_
  repeat' (first | exact h1 (by omega) (by omega) | exact h0 (by omega) | assumption | (refine qR_of ?_ ?_ <;> omega) | omega | apply And.intro | intro _)
theorem x_hasStair (hQ : qQX h i a) {p : Int} (h1 : 0 ≤ p → p < a 1 → R (some (qi 1)) h) (h0 : ¬ (0 ≤ p ∧ p < a 1) → R (some (qi 0)) h) : qT (d + 1) 51 0 [qo 7 i, qi p] [] h R := by
  have en := qx_m hQ
  refine sX7_hasStair_0 ?_
  repeat' (first | exact h1 (by omega) (by omega) | exact h0 (by omega) | assumption | (refine qR_of ?_ ?_ <;> omega) | omega | apply And.intro | intro _)
theorem x_touches (hQ : qQX h i a) (hW : qwf B a) {s p : Int} (hs : 0 ≤ s) (hsm : s < a 1) (h1 : a (70 + s) = p ∨ a (80 + s) = p → R (some (qi 1)) h) (h0 : ¬ (a (70 + s) = p ∨ a (80 + s) = p) → R (some (qi 0)) h) : qT (d + 1) 56 0 [qo 7 i, qi s, qi p] [] h R := by
  have hm := wf_m hW
  refine sX7_touches_0 ?_
  rw [qx_one hQ hW hs hsm, qx_two hQ hW hs hsm]
  repeat' (first | exact h1 (by omega) | exact h0 (by omega) | assumption | (refine qR_of ?_ ?_ <;> omega) | omega | apply And.intro | intro _)
theorem x_liking (hQ : qQX h i a) (hW : qwf B a) {p q : Int} (h0 : 0 ≤ p) (hp : p < a 0) (h1 : 0 ≤ q) (hq : q < a 0) (hR : R (some (qi (aLike a p q))) h) : qT (d + 1) 58 0 [qo 7 i, qi p, qi q] [] h R := by
  have hn := wf_n hW
  refine sX7_liking_0 ?_
  rw [qx_like hQ hW h0 hp h1 hq]
  repeat' (first | assumption | (refine qR_of ?_ ?_ <;> omega) | omega | apply And.intro | intro _)
theorem x_heat (hQ : qQX h i a) (hW : qwf B a) {s : Int} (hs : 0 ≤ s) (hsm : s < a 1) (hR : R (some (qi (aHeat a s))) h) : qT (d + 1) 66 0 [qo 7 i, qi s] [] h R := by
  have hm := wf_m hW
  have hn := wf_n hW
  have h3 := wf_st hW hs hsm
  have h1 := wf_temp hW h3.1.1 h3.1.2
  have h2 := wf_temp hW h3.2.1.1 h3.2.1.2
  refine sX7_heat_0 ?_
  rw [qx_one hQ hW hs hsm, qx_two hQ hW hs hsm, qx_grud hQ hW hs hsm, qx_temp hQ hW h3.1.1 h3.1.2, qx_temp hQ hW h3.2.1.1 h3.2.1.2]
  repeat' (first | assumption | (refine qR_of ?_ ?_ <;> omega) | omega | apply And.intro | intro _)
theorem x_mayQuarrel (hQ : qQX h i a) (hW : qwf B a) {s : Int} (hs : 0 ≤ s) (hsm : s < a 1) (h1 : aMayQ a s → R (some (qi 1)) h) (h0 : ¬ aMayQ a s → R (some (qi 0)) h) : qT (d + 2) 67 0 [qo 7 i, qi s] [] h R := by
  have hm := wf_m hW
  unfold aMayQ at h1 h0
  refine sX7_mayQuarrel_0 (x_heat hQ hW hs hsm ?_)
  dsimp only [qri]
  rw [qx_cool hQ, qx_grud hQ hW hs hsm]
  repeat' (first | exact h1 (by omega) | exact h0 (by omega) | assumption | (refine qR_of ?_ ?_ <;> omega) | omega | apply And.intro | intro _)
theorem x_mayMakeUp (hQ : qQX h i a) (hW : qwf B a) {s : Int} (hs : 0 ≤ s) (hsm : s < a 1) (h1 : aMayM a s → R (some (qi 1)) h) (h0 : ¬ aMayM a s → R (some (qi 0)) h) : qT (d + 2) 68 0 [qo 7 i, qi s, qu, qu] [] h R := by
  have hm := wf_m hW
  have hn := wf_n hW
  have h3 := wf_st hW hs hsm
  have l1 := wf_live hW h3.1.1 h3.1.2
  have l2 := wf_live hW h3.2.1.1 h3.2.1.2
  unfold aMayM at h1 h0
  refine sX7_mayMakeUp_0 ?_
  rw [qx_one hQ hW hs hsm, qx_two hQ hW hs hsm, qx_grud hQ hW hs hsm, qx_live hQ hW h3.2.1.1 h3.2.1.2]
  refine ⟨by omega, by omega, by omega, fun c => ⟨by omega, h0 (by omega)⟩, fun c => ⟨by omega, x_liking hQ hW (by omega) (by omega) (by omega) (by omega) ?_⟩⟩
  refine ⟨by omega, ?_⟩
  rw [qx_live hQ hW h3.1.1 h3.1.2]
  refine x_liking hQ hW (by omega) (by omega) (by omega) (by omega) ?_
  refine ⟨fun c => ⟨by omega, h0 (by omega)⟩, fun c => ⟨by omega, ?_⟩⟩
  rw [qx_live hQ hW h3.1.1 h3.1.2]
  refine x_liking hQ hW (by omega) (by omega) (by omega) (by omega) ?_
  refine ⟨by omega, ?_⟩
  rw [qx_live hQ hW h3.2.1.1 h3.2.1.2]
  refine x_liking hQ hW (by omega) (by omega) (by omega) (by omega) ?_
  refine ⟨fun c => ⟨by omega, h0 (by omega)⟩, fun c => ⟨by omega, h1 (by omega)⟩⟩
theorem x_exchange (hQ : qQX h i a) (hW : qwf B a) {p q : Int} (h0 : 0 ≤ p) (hp : p < a 0) (h1 : 0 ≤ q) (hq : q < a 0) (hR : ∀ h', qQX h' i (aSwap a p q) → qf7 i h h' → R none h') : qT (d + 1) 64 0 [qo 7 i, qi p, qi q, qu] [] h R := by
  have hn := wf_n hW
  refine sX7_exchange_0 ⟨by omega, by omega, by omega, by omega, ?_⟩
  rw [qx_live hQ hW h0 hp, qx_live hQ hW h1 hq]
  have e1 := asl_live h0 (by omega : p < 7)
  have e2 := asl_live h1 (by omega : q < 7)
  exact hR _ (qx_put' (qx_put' hQ (by omega) e1.1 e1.2) (by omega) e2.1 e2.2) (qf7_trans (qf7_up (by decide)) (qf7_up (by decide)))
theorem x_exchangeOn (hQ : qQX h i a) (hW : qwf B a) {s : Int} (hs : 0 ≤ s) (hsm : s < a 1) (hR : ∀ h', qQX h' i (aSwap a (a (70 + s)) (a (80 + s))) → qf7 i h h' → R none h') : qT (d + 2) 65 0 [qo 7 i, qi s] [] h R := by
  have hm := wf_m hW
  have h3 := wf_st hW hs hsm
  refine sX7_exchangeOn_0 ?_
  rw [qx_one hQ hW hs hsm, qx_two hQ hW hs hsm]
  exact ⟨by omega, by omega, x_exchange hQ hW (by omega) (by omega) (by omega) (by omega) hR⟩
theorem x_tryQuarrel (hQ : qQX h i a) (hW : qwf B a) (hB : B < 2000000000) {s : Int} (hs : 0 ≤ s) (hsm : s < a 1) (h1 : aMayQ a s → ∀ h', qQX h' i (aQuar a s) → qf7 i h h' → R (some (qi 1)) h') (h0 : ¬ aMayQ a s → R (some (qi 0)) h) : qT (d + 3) 69 0 [qo 7 i, qi s] [] h R := by
  have hm := wf_m hW
  have hn := wf_n hW
  have h3 := wf_st hW hs hsm
  have h5 := wf_quar hW
  refine sX7_tryQuarrel_0 (x_hasStair hQ (fun _ _ => ?_) (fun c => absurd ⟨hs, hsm⟩ c))
  refine ⟨fun c => absurd c (by decide), fun _ => x_mayQuarrel hQ hW hs hsm (fun hq => ?_) (fun hq => ?_)⟩
  · refine ⟨fun _ => x_exchangeOn hQ hW hs hsm (fun h' hQ' hf => ?_), fun c => absurd (by decide) c⟩
    have hW' := wf_swap hW h3.1.1 h3.1.2 h3.2.1.1 h3.2.1.2
    have k1 : aSwap a (a (70 + s)) (a (80 + s)) (90 + s) = a (90 + s) := by unfold aSwap; rw [aSet_ne (by omega), aSet_ne (by omega)]
    have k2 : aSwap a (a (70 + s)) (a (80 + s)) 5 = a 5 := by unfold aSwap; rw [aSet_ne (by omega), aSet_ne (by omega)]
    have k3 : aSwap a (a (70 + s)) (a (80 + s)) 1 = a 1 := by unfold aSwap; rw [aSet_ne (by omega), aSet_ne (by omega)]
    show _ ∧ _
    rw [qx_grud hQ' hW' hs (by rw [k3]; exact hsm), qx_quar hQ', k1, k2]
    have e1 := asl_grud hs (by omega : s < 10)
    refine ⟨by omega, qR_of (by omega) (by omega), by omega, qR_of (by omega) (by omega), by omega, h1 hq _ ?_ ?_⟩
    · exact qx_put' (qx_put' hQ' (by omega) e1.1 e1.2) (by omega) rfl rfl
    · exact qf7_trans hf (qf7_trans (qf7_up (by decide)) (qf7_up (by decide)))
  · exact ⟨fun c => absurd rfl c, fun _ => ⟨by omega, h0 hq⟩⟩
theorem x_tryMakeUp (hQ : qQX h i a) (hW : qwf B a) (hB : B < 2000000000) {s : Int} (hs : 0 ≤ s) (hsm : s < a 1) (h1 : aMayM a s → ∀ h', qQX h' i (aMake a s) → qf7 i h h' → R (some (qi 1)) h') (h0 : ¬ aMayM a s → R (some (qi 0)) h) : qT (d + 3) 70 0 [qo 7 i, qi s] [] h R := by
  have hm := wf_m hW
  have hn := wf_n hW
  have h3 := wf_st hW hs hsm
  have h5 := wf_made hW
  refine sX7_tryMakeUp_0 (x_hasStair hQ (fun _ _ => ?_) (fun c => absurd ⟨hs, hsm⟩ c))
  refine ⟨fun c => absurd c (by decide), fun _ => x_mayMakeUp hQ hW hs hsm (fun hq => ?_) (fun hq => ?_)⟩
  · refine ⟨fun _ => x_exchangeOn hQ hW hs hsm (fun h' hQ' hf => ?_), fun c => absurd (by decide) c⟩
    have hW' := wf_swap hW h3.1.1 h3.1.2 h3.2.1.1 h3.2.1.2
    have k1 : aSwap a (a (70 + s)) (a (80 + s)) (90 + s) = a (90 + s) := by unfold aSwap; rw [aSet_ne (by omega), aSet_ne (by omega)]
    have k2 : aSwap a (a (70 + s)) (a (80 + s)) 6 = a 6 := by unfold aSwap; rw [aSet_ne (by omega), aSet_ne (by omega)]
    have k3 : aSwap a (a (70 + s)) (a (80 + s)) 1 = a 1 := by unfold aSwap; rw [aSet_ne (by omega), aSet_ne (by omega)]
    show _ ∧ _
    rw [qx_grud hQ' hW' hs (by rw [k3]; exact hsm), qx_made hQ', k1, k2]
    have e1 := asl_grud hs (by omega : s < 10)
    refine ⟨by omega, qR_of (by omega) (by omega), by omega, qR_of (by omega) (by omega), by omega, h1 hq _ ?_ ?_⟩
    · exact qx_put' (qx_put' hQ' (by omega) e1.1 e1.2) (by omega) rfl rfl
    · exact qf7_trans hf (qf7_trans (qf7_up (by decide)) (qf7_up (by decide)))
  · exact ⟨fun c => absurd rfl c, fun _ => ⟨by omega, h0 hq⟩⟩
end Q7
