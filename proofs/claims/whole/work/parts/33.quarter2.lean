section Q7b
variable {d : Nat} {R : Option qV → qH → Prop} {h : qH} {i : Nat} {a : qB} {B : Int}
theorem x_allTempers (hQ : qQX h i a) (hW : qwf B a) (hR : R (some (qi (aSum a 7 (a 0)))) h) : qT (d + 1) 62 0 [qo 7 i, qu, qu] [] h R := by
  have hn := wf_n hW
  refine sX7_allTempers_0 ?_
  refine q_up (n := a 0) (C := fun x => x ≤ a 0 → ∀ s, s = aSum a 7 x → 0 ≤ s ∧ s ≤ 9 * x → qT (d + 1) 62 4 [qo 7 i, qi s, qi x] [] h R) ?_ 0 (by omega) (by omega) 0 rfl (by omega)
  intro x hx ih hxn s hs hb
  refine sX7_allTempers_4 ?_
  rw [qx_n hQ]
  refine ⟨fun c => ?_, fun c => ?_⟩
  · rwa [hs, show x = a 0 by omega]
  · have ht := wf_temp hW hx (by omega : x < a 0)
    rw [qx_temp hQ hW hx (by omega)]
    exact ⟨by omega, qR_of (by omega) (by omega), qR_of (by omega) (by omega), ih (by omega) (by omega) _ (by rw [hs]; unfold aSum; rw [qfold_s hx]) (by omega)⟩
theorem x_allGrudges (hQ : qQX h i a) (hW : qwf B a) (hR : R (some (qi (aSum a 90 (a 1)))) h) : qT (d + 1) 63 0 [qo 7 i, qu, qu] [] h R := by
  have hn := wf_m hW
  refine sX7_allGrudges_0 ?_
  refine q_up (n := a 1) (C := fun x => x ≤ a 1 → ∀ s, s = aSum a 90 x → 0 ≤ s ∧ s ≤ 9 * x → qT (d + 1) 63 4 [qo 7 i, qi s, qi x] [] h R) ?_ 0 (by omega) (by omega) 0 rfl (by omega)
  intro x hx ih hxn s hs hb
  refine sX7_allGrudges_4 ?_
  rw [qx_m hQ]
  refine ⟨fun c => ?_, fun c => ?_⟩
  · rwa [hs, show x = a 1 by omega]
  · have ht := wf_st hW hx (by omega : x < a 1)
    rw [qx_grud hQ hW hx (by omega)]
    exact ⟨by omega, qR_of (by omega) (by omega), qR_of (by omega) (by omega), ih (by omega) (by omega) _ (by rw [hs]; unfold aSum; rw [qfold_s hx]) (by omega)⟩
theorem x_homeSet (hQ : qQX h i a) (hW : qwf B a) (hR : R (some (qi (aHome a (a 0)))) h) : qT (d + 1) 61 0 [qo 7 i, qu, qu] [] h R := by
  have hn := wf_n hW
  refine sX7_homeSet_0 ?_
  refine q_up (n := a 0) (C := fun x => x ≤ a 0 → ∀ s, s = aHome a x → qT (d + 1) 61 4 [qo 7 i, qi s, qi x] [] h R) ?_ 0 (by omega) (by omega) 0 rfl
  intro x hx ih hxn s hs
  refine sX7_homeSet_4 ?_
  rw [qx_n hQ]
  refine ⟨fun c => ?_, fun c => ?_⟩
  · rwa [hs, show x = a 0 by omega]
  · rw [qx_live hQ hW hx (by omega)]
    refine ⟨by omega, fun c2 => ⟨qR_of (by omega) (by omega), ih (by omega) (by omega) _ ?_⟩, fun c2 => ⟨qR_of (by omega) (by omega), ih (by omega) (by omega) _ ?_⟩⟩
    · rw [hs]; unfold aHome; rw [qfold_s hx, if_neg c2]
    · rw [hs]; unfold aHome; rw [qfold_s hx, if_pos (by omega)]
theorem x_stairSet (hQ : qQX h i a) (hW : qwf B a) {p : Int} (hR : R (some (qi (aStairs a p (a 1)))) h) : qT (d + 2) 57 0 [qo 7 i, qi p, qu, qu] [] h R := by
  have hn := wf_m hW
  refine sX7_stairSet_0 ?_
  refine q_up (n := a 1) (C := fun x => x ≤ a 1 → ∀ s, s = aStairs a p x → qT (d + 2) 57 4 [qo 7 i, qi p, qi s, qi x] [] h R) ?_ 0 (by omega) (by omega) 0 rfl
  intro x hx ih hxn s hs
  refine sX7_stairSet_4 ?_
  rw [qx_m hQ]
  refine ⟨fun c => ?_, fun c => ?_⟩
  · rwa [hs, show x = a 1 by omega]
  · refine x_touches hQ hW hx (by omega) (fun c2 => ⟨fun c3 => absurd c3 (by decide), fun _ => ⟨qR_of (by omega) (by omega), ih (by omega) (by omega) _ ?_⟩⟩) (fun c2 => ⟨fun _ => ⟨qR_of (by omega) (by omega), ih (by omega) (by omega) _ ?_⟩, fun c3 => absurd rfl c3⟩)
    · rw [hs]; unfold aStairs; rw [qfold_s hx, if_pos c2]
    · rw [hs]; unfold aStairs; rw [qfold_s hx, if_neg c2]
theorem x_dweller (hQ : qQX h i a) (hW : qwf B a) {p : Int} (hR : ∀ r, qfst (fun y => a (14 + y) = p) (a 0) r → R (some (qi r)) h) : qT (d + 1) 60 0 [qo 7 i, qi p, qu] [] h R := by
  have hn := wf_n hW
  refine sX7_dweller_0 ?_
  refine q_up (n := a 0) (C := fun x => x ≤ a 0 → (∀ y, 0 ≤ y → y < x → a (14 + y) ≠ p) → qT (d + 1) 60 2 [qo 7 i, qi p, qi x] [] h R) ?_ 0 (by omega) (by omega) (fun y _ _ => absurd (by omega : y < 0) (by omega))
  intro x hx ih hxn hy
  refine sX7_dweller_2 ?_
  rw [qx_n hQ]
  refine ⟨fun c => ?_, fun c => ?_⟩
  · exact hR _ (Or.inr ⟨rfl, fun y y0 y1 => hy y y0 (by omega)⟩)
  · rw [qx_live hQ hW hx (by omega)]
    refine ⟨by omega, fun c2 => ⟨qR_of (by omega) (by omega), ih (by omega) (by omega) (fun y y0 y1 => ?_)⟩, fun c2 => hR _ (Or.inl ⟨hx, by omega, by omega, hy⟩)⟩
    by_cases e : y = x
    · rw [e]; exact c2
    · exact hy y y0 (by omega)
theorem x_hasStairBetween (hQ : qQX h i a) (hW : qwf B a) {p q : Int} (h1 : (∃ s, 0 ≤ s ∧ s < a 1 ∧ (a (70 + s) = p ∨ a (80 + s) = p) ∧ (a (70 + s) = q ∨ a (80 + s) = q)) → R (some (qi 1)) h) (h0 : ¬ (∃ s, 0 ≤ s ∧ s < a 1 ∧ (a (70 + s) = p ∨ a (80 + s) = p) ∧ (a (70 + s) = q ∨ a (80 + s) = q)) → R (some (qi 0)) h) : qT (d + 2) 55 0 [qo 7 i, qi p, qi q, qu] [] h R := by
  have hn := wf_m hW
  refine sX7_hasStairBetween_0 ?_
  refine q_up (n := a 1) (C := fun x => x ≤ a 1 → (∀ s, 0 ≤ s → s < x → ¬ ((a (70 + s) = p ∨ a (80 + s) = p) ∧ (a (70 + s) = q ∨ a (80 + s) = q))) → qT (d + 2) 55 2 [qo 7 i, qi p, qi q, qi x] [] h R) ?_ 0 (by omega) (by omega) (fun y _ _ => absurd (by omega : y < 0) (by omega))
  intro x hx ih hxn hy
  have step : ¬ ((a (70 + x) = p ∨ a (80 + x) = p) ∧ (a (70 + x) = q ∨ a (80 + x) = q)) → (∀ s, 0 ≤ s → s < x + 1 → ¬ ((a (70 + s) = p ∨ a (80 + s) = p) ∧ (a (70 + s) = q ∨ a (80 + s) = q))) := by
    intro c s s0 s1
    by_cases e : s = x
    · rw [e]; exact c
    · exact hy s s0 (by omega)
  refine sX7_hasStairBetween_2 ?_
  rw [qx_m hQ]
  refine ⟨fun c => ⟨by omega, h0 ?_⟩, fun c => x_touches hQ hW hx (by omega) (fun c1 => ⟨fun c3 => absurd c3 (by decide), fun _ => x_touches hQ hW hx (by omega) (fun c2 => ⟨fun c3 => absurd c3 (by decide), fun _ => ⟨by omega, h1 ⟨x, hx, by omega, c1, c2⟩⟩⟩) (fun c2 => ⟨fun _ => ⟨qR_of (by omega) (by omega), ih (by omega) (by omega) (step (fun e => c2 e.2))⟩, fun c3 => absurd rfl c3⟩)⟩) (fun c1 => ⟨fun _ => ⟨qR_of (by omega) (by omega), ih (by omega) (by omega) (step (fun e => c1 e.1))⟩, fun c3 => absurd rfl c3⟩)⟩
  rintro ⟨s, s0, s1, e⟩
  exact hy s s0 (by omega) e
theorem x_votes (hQ : qQX h i a) (hW : qwf B a) {p q : Int} (p0 : 0 ≤ p) (hp : p < a 0) (q0 : 0 ≤ q) (hq : q < a 0) (hR : R (some (qi (aVotes a p q (a 0)))) h) : qT (d + 2) 76 0 [qo 7 i, qi p, qi q, qu, qu] [] h R := by
  have hn := wf_n hW
  refine sX7_votes_0 ?_
  refine q_up (n := a 0) (C := fun x => x ≤ a 0 → ∀ s, s = aVotes a p q x → 0 ≤ s ∧ s ≤ x → qT (d + 2) 76 5 [qo 7 i, qi p, qi q, qi s, qi x] [] h R) ?_ 0 (by omega) (by omega) 0 rfl (by omega)
  intro x hx ih hxn s hs hb
  refine sX7_votes_5 ?_
  rw [qx_n hQ]
  refine ⟨fun c => ?_, fun c => ?_⟩
  · rwa [hs, show x = a 0 by omega]
  · refine x_liking hQ hW hx (by omega) p0 hp (x_liking hQ hW hx (by omega) q0 hq ⟨fun c2 => ⟨qR_of (by omega) (by omega), ih (by omega) (by omega) _ ?_ (by omega)⟩, fun c2 => ⟨qR_of (by omega) (by omega), qR_of (by omega) (by omega), ih (by omega) (by omega) _ ?_ (by omega)⟩⟩)
    · rw [hs]; unfold aVotes; rw [qfold_s hx, if_neg (by omega)]
    · rw [hs]; unfold aVotes; rw [qfold_s hx, if_pos (by omega)]
theorem x_beatsAll (hQ : qQX h i a) (hW : qwf B a) {p : Int} (p0 : 0 ≤ p) (hp : p < a 0) (h1 : aBeats a p → R (some (qi 1)) h) (h0 : ¬ aBeats a p → R (some (qi 0)) h) : qT (d + 3) 78 0 [qo 7 i, qi p, qu] [] h R := by
  have hn := wf_n hW
  refine sX7_beatsAll_0 ?_
  refine q_up (n := a 0) (C := fun x => x ≤ a 0 → (∀ y, 0 ≤ y → y < x → y ≠ p → aVotes a y p (a 0) < aVotes a p y (a 0)) → qT (d + 3) 78 2 [qo 7 i, qi p, qi x] [] h R) ?_ 0 (by omega) (by omega) (fun y _ _ => absurd (by omega : y < 0) (by omega))
  intro x hx ih hxn hy
  have step : (x ≠ p → aVotes a x p (a 0) < aVotes a p x (a 0)) → (∀ y, 0 ≤ y → y < x + 1 → y ≠ p → aVotes a y p (a 0) < aVotes a p y (a 0)) := by
    intro c s s0 s1 sn
    by_cases e : s = x
    · rw [e] at sn ⊢; exact c sn
    · exact hy s s0 (by omega) sn
  refine sX7_beatsAll_2 ?_
  rw [qx_n hQ]
  refine ⟨fun c => ⟨by omega, h1 (fun y y0 y1 => hy y y0 (by omega))⟩, fun c => ⟨fun c2 => ⟨qR_of (by omega) (by omega), ih (by omega) (by omega) (step (fun e => absurd c2 e))⟩, fun c2 => x_votes hQ hW p0 hp hx (by omega) (x_votes hQ hW hx (by omega) p0 hp ⟨fun c3 => ⟨qR_of (by omega) (by omega), ih (by omega) (by omega) (step (fun _ => c3))⟩, fun c3 => ⟨by omega, h0 (fun e => c3 (e x hx (by omega) c2))⟩⟩)⟩⟩
theorem x_mostVoted (hQ : qQX h i a) (hW : qwf B a) (hR : ∀ r, qfst (aBeats a) (a 0) r → R (some (qi r)) h) : qT (d + 4) 77 0 [qo 7 i, qu] [] h R := by
  have hn := wf_n hW
  refine sX7_mostVoted_0 ?_
  refine q_up (n := a 0) (C := fun x => x ≤ a 0 → (∀ y, 0 ≤ y → y < x → ¬ aBeats a y) → qT (d + 4) 77 2 [qo 7 i, qi x] [] h R) ?_ 0 (by omega) (by omega) (fun y _ _ => absurd (by omega : y < 0) (by omega))
  intro x hx ih hxn hy
  refine sX7_mostVoted_2 ?_
  rw [qx_n hQ]
  refine ⟨fun c => hR _ (Or.inr ⟨rfl, fun y y0 y1 => hy y y0 (by omega)⟩), fun c => x_beatsAll hQ hW hx (by omega) (fun c2 => ⟨fun c3 => absurd c3 (by decide), fun _ => hR _ (Or.inl ⟨hx, by omega, c2, hy⟩)⟩) (fun c2 => ⟨fun _ => ⟨qR_of (by omega) (by omega), ih (by omega) (by omega) (fun y y0 y1 => ?_)⟩, fun c3 => absurd rfl c3⟩)⟩
  by_cases e : y = x
  · rw [e]; exact c2
  · exact hy y y0 (by omega)
theorem x_countEnvy (hQ : qQX h i a) (hW : qwf B a) (hR : R (some (qi (aEnvy a (a 0)))) h) : qT (d + 2) 75 0 [qo 7 i, qu, qu, qu] [] h R := by
  have hn := wf_n hW
  refine sX7_countEnvy_0 ?_
  refine q_up (n := a 0) (C := fun x => x ≤ a 0 → ∀ z s, s = aEnvy a x → 0 ≤ s ∧ s ≤ 7 * x → qT (d + 2) 75 4 [qo 7 i, qi s, qi x, z] [] h R) ?_ 0 (by omega) (by omega) _ 0 rfl (by omega)
  intro x hx ih hxn z s hs hb
  refine sX7_countEnvy_4 ?_
  rw [qx_n hQ]
  refine ⟨fun c => ?_, fun c => ?_⟩
  · rwa [hs, show x = a 0 by omega]
  · have hl := wf_live hW hx (by omega : x < a 0)
    refine q_up (n := a 0) (C := fun y => y ≤ a 0 → ∀ t, t = aEnvy1 a x y s → s ≤ t ∧ t ≤ s + y → qT (d + 2) 75 14 [qo 7 i, qi t, qi x, qi y] [] h R) ?_ 0 (by omega) (by omega) s rfl (by omega)
    intro y hy ih2 hyn t ht hb2
    refine sX7_countEnvy_14 ?_
    rw [qx_n hQ]
    refine ⟨fun c2 => ⟨qR_of (by omega) (by omega), ih (by omega) (by omega) _ _ ?_ (by omega)⟩, fun c2 => ⟨by omega, ?_⟩⟩
    · rw [ht, show y = a 0 by omega, hs]; exact (qfold_s (f := fun p s => aEnvy1 a p (a 0) s) hx).symm
    · have hl2 := wf_live hW hy (by omega : y < a 0)
      rw [qx_live hQ hW hy (by omega)]
      refine x_liking hQ hW hx (by omega) (by omega) (by omega) ⟨by omega, ?_⟩
      rw [qx_live hQ hW hx (by omega)]
      refine x_liking hQ hW hx (by omega) (by omega) (by omega) ⟨fun c3 => ⟨qR_of (by omega) (by omega), ih2 (by omega) (by omega) _ ?_ (by omega)⟩, fun c3 => ⟨qR_of (by omega) (by omega), qR_of (by omega) (by omega), ih2 (by omega) (by omega) _ ?_ (by omega)⟩⟩
      · rw [ht]; unfold aEnvy1; rw [qfold_s hy, if_neg (by omega)]
      · rw [ht]; unfold aEnvy1; rw [qfold_s hy, if_pos (by omega)]
end Q7b
