def aCome (a : qB) (t : Int) : qB := fun x => if x = 0 then a 0 + 1 else if x = 7 + a 0 then t else if x = 14 + a 0 then a 0 else if 21 ≤ x ∧ x < 70 ∧ (((x - 21) / 7 = a 0 ∧ (x - 21) % 7 ≤ a 0) ∨ ((x - 21) % 7 = a 0 ∧ (x - 21) / 7 ≤ a 0)) then 5 else a x
def aEmpty : qB := fun x => if x = 2 then 8 else if x = 3 then 5 else 0
/-- nothing but the quarter i -/
def qg7 (i : Nat) (h h' : qH) : Prop := ∀ c' i', ¬ (c' = 7 ∧ i' = i) → h' c' i' = h c' i'
theorem qg7_trans {i : Nat} {h h' h'' : qH} (h1 : qg7 i h h') (h2 : qg7 i h' h'') : qg7 i h h'' := fun c' i' n => (h2 c' i' n).trans (h1 c' i' n)
theorem qg7_up {i j k : Nat} {v : Int} {h : qH} : qg7 i h (qup h 7 i j k v) := by
  intro c' i' n
  funext j' k'
  exact if_neg (fun e => n ⟨e.2.1, e.2.2.2⟩)
theorem qg7_cp {i c0 i0 j0 sp j dp n : Nat} {h : qH} : qg7 i h (qcp h c0 i0 j0 sp 7 i j dp n) := by
  intro c' i' n
  funext j' k'
  exact if_neg (fun e => n ⟨e.2.1, e.2.2.2⟩)
theorem av_up {h : qH} {i j q : Nat} {k v x : Int} (hk : 0 ≤ k) (h1 : asl k = j) (h2 : apl k = q) (hx : 0 ≤ x) : (qup h 7 i j q v) 7 i (asl x) (apl x) = if x = k then v else h 7 i (asl x) (apl x) := by
  show (if asl x = j ∧ 7 = 7 ∧ apl x = q ∧ i = i then v else h 7 i (asl x) (apl x)) = _
  by_cases e : x = k
  · rw [if_pos e, if_pos ⟨by rw [e, h1], rfl, by rw [e, h2], rfl⟩]
  · rw [if_neg e, if_neg (fun e2 => e (aloc_inj hx hk (by rw [e2.1, h1]) (by rw [e2.2.2.1, h2])))]
theorem qx_cong {h : qH} {i : Nat} {a b : qB} (hQ : qQX h i a) (h0 : b 0 = a 0) (h1 : b 1 = a 1) (e : ∀ x, alv a x → b x = a x) : qQX h i b := by
  intro x hx
  have hx' : alv a x := by
    unfold alv at *
    rw [h0, h1] at hx
    exact hx
  rw [e x hx']
  exact hQ x hx'
theorem wf_come {B : Int} {a : qB} (hW : qwf B a) (hB : 0 ≤ B) (h7 : a 0 < 7) {t : Int} (t0 : 0 ≤ t) (t9 : t ≤ 9) : qwf B (aCome a t) := by
  have hn := wf_n hW
  have hm := wf_m hW
  have e0 : aCome a t 0 = a 0 + 1 := by unfold aCome; rw [if_pos rfl]
  have e : ∀ x, x ≠ 0 → x ≠ 7 + a 0 → x ≠ 14 + a 0 → ¬ (21 ≤ x ∧ x < 70) → aCome a t x = a x := by
    intro x n0 n1 n2 n3
    unfold aCome
    rw [if_neg n0, if_neg n1, if_neg n2, if_neg (fun h => n3 ⟨h.1, h.2.1⟩)]
  have el : aCome a t (14 + a 0) = a 0 := by unfold aCome; rw [if_neg (by omega), if_neg (by omega), if_pos rfl]
  unfold qwf
  rw [e0, e 1 (by omega) (by omega) (by omega) (by omega), e 2 (by omega) (by omega) (by omega) (by omega), e 3 (by omega) (by omega) (by omega) (by omega), e 4 (by omega) (by omega) (by omega) (by omega), e 5 (by omega) (by omega) (by omega) (by omega), e 6 (by omega) (by omega) (by omega) (by omega)]
  refine ⟨by omega, wf_m hW, wf_odds hW, wf_cool hW, wf_night hW, wf_quar hW, wf_made hW, ?_, ?_, ?_, ?_, ?_⟩
  · intro x hx hxn
    by_cases hk : x = a 0
    · rw [hk]
      have : aCome a t (7 + a 0) = t := by unfold aCome; rw [if_neg (by omega), if_pos rfl]
      omega
    · rw [e _ (by omega) (by omega) (by omega) (by omega)]
      exact wf_temp hW hx (by omega)
  · intro x hx hxn
    by_cases hk : x = a 0
    · rw [hk, el]; omega
    · rw [e _ (by omega) (by omega) (by omega) (by omega)]
      have := wf_live hW hx (by omega : x < a 0)
      omega
  · intro x y hx hxn hy hyn he
    by_cases hk : x = a 0 <;> by_cases hk2 : y = a 0
    · omega
    · rw [hk, el, e _ (by omega) (by omega) (by omega) (by omega)] at he
      have := wf_live hW hy (by omega : y < a 0)
      omega
    · rw [hk2, el, e _ (by omega) (by omega) (by omega) (by omega)] at he
      have := wf_live hW hx (by omega : x < a 0)
      omega
    · rw [e _ (by omega) (by omega) (by omega) (by omega), e _ (by omega) (by omega) (by omega) (by omega)] at he
      exact wf_inj hW hx (by omega) hy (by omega) he
  · intro x y hx hxn hy hyn
    unfold aCome
    rw [if_neg (by omega), if_neg (by omega), if_neg (by omega)]
    split
    · omega
    · rename_i hne
      exact wf_like hW hx (by omega) hy (by omega)
  · intro s hs hsm
    rw [e _ (by omega) (by omega) (by omega) (by omega), e _ (by omega) (by omega) (by omega) (by omega), e _ (by omega) (by omega) (by omega) (by omega)]
    have := wf_st hW hs hsm
    omega
theorem wf_build {B : Int} {a : qB} (hW : qwf B a) (h7 : a 1 < 10) {p q g : Int} (p0 : 0 ≤ p) (hp : p < a 0) (q0 : 0 ≤ q) (hq : q < a 0) (hpq : p ≠ q) (g0 : 0 ≤ g) (g9 : g ≤ 9) : qwf B (aBuild a p q g) := by
  have hn := wf_n hW
  have hm := wf_m hW
  have e : ∀ x, x ≠ 1 → x ≠ 70 + a 1 → x ≠ 80 + a 1 → x ≠ 90 + a 1 → aBuild a p q g x = a x := by
    intro x n0 n1 n2 n3
    unfold aBuild
    rw [aSet_ne n0, aSet_ne n3, aSet_ne n2, aSet_ne n1]
  have e1 : aBuild a p q g 1 = a 1 + 1 := by unfold aBuild; rw [aSet_eq rfl]
  have e2 : aBuild a p q g (70 + a 1) = p := by unfold aBuild; rw [aSet_ne (by omega), aSet_ne (by omega), aSet_ne (by omega), aSet_eq rfl]
  have e3 : aBuild a p q g (80 + a 1) = q := by unfold aBuild; rw [aSet_ne (by omega), aSet_ne (by omega), aSet_eq rfl]
  have e4 : aBuild a p q g (90 + a 1) = g := by unfold aBuild; rw [aSet_ne (by omega), aSet_eq rfl]
  unfold qwf
  rw [e1, e 0 (by omega) (by omega) (by omega) (by omega), e 2 (by omega) (by omega) (by omega) (by omega), e 3 (by omega) (by omega) (by omega) (by omega), e 4 (by omega) (by omega) (by omega) (by omega), e 5 (by omega) (by omega) (by omega) (by omega), e 6 (by omega) (by omega) (by omega) (by omega)]
  refine ⟨wf_n hW, by omega, wf_odds hW, wf_cool hW, wf_night hW, wf_quar hW, wf_made hW, ?_, ?_, ?_, ?_, ?_⟩
  · intro x hx hxn
    rw [e _ (by omega) (by omega) (by omega) (by omega)]
    exact wf_temp hW hx hxn
  · intro x hx hxn
    rw [e _ (by omega) (by omega) (by omega) (by omega)]
    exact wf_live hW hx hxn
  · intro x y hx hxn hy hyn he
    rw [e _ (by omega) (by omega) (by omega) (by omega), e _ (by omega) (by omega) (by omega) (by omega)] at he
    exact wf_inj hW hx hxn hy hyn he
  · intro x y hx hxn hy hyn
    rw [e _ (by omega) (by omega) (by omega) (by omega)]
    exact wf_like hW hx hxn hy hyn
  · intro s hs hsm
    by_cases hk : s = a 1
    · rw [hk, e2, e3, e4]; omega
    · rw [e _ (by omega) (by omega) (by omega) (by omega), e _ (by omega) (by omega) (by omega) (by omega), e _ (by omega) (by omega) (by omega) (by omega)]
      exact wf_st hW hs (by omega)
theorem wf_empty {B : Int} (hB : 0 ≤ B) : qwf B aEmpty := by
  have e : ∀ x, x ≠ 2 → x ≠ 3 → aEmpty x = 0 := fun x h2 h3 => by unfold aEmpty; rw [if_neg h2, if_neg h3]
  have e2 : aEmpty 2 = 8 := rfl
  have e3 : aEmpty 3 = 5 := rfl
  unfold qwf
  rw [e2, e3, e 0 (by omega) (by omega), e 1 (by omega) (by omega), e 4 (by omega) (by omega), e 5 (by omega) (by omega), e 6 (by omega) (by omega)]
  refine ⟨by omega, by omega, by omega, by omega, by omega, by omega, by omega, ?_, ?_, ?_, ?_, ?_⟩ <;> intros <;> exfalso <;> omega
theorem wf_nightsTo {B : Int} {a : qB} (hW : qwf B a) {n k : Int} (hn0 : 0 ≤ n) (hn : a 4 + n ≤ 9999) (hk0 : 0 ≤ k) (hk : k ≤ a 0) : qwf B (aNightsTo a n k) := by
  have hn7 := wf_n hW
  have hm := wf_m hW
  have h4 := wf_night hW
  have e : ∀ x, x ≠ 4 → ¬ (7 ≤ x ∧ x < 7 + k) → aNightsTo a n k x = a x := by
    intro x n0 n1
    unfold aNightsTo
    rw [if_neg n0, if_neg n1]
  have e4 : aNightsTo a n k 4 = a 4 + n := by unfold aNightsTo; rw [if_pos rfl]
  unfold qwf
  rw [e4, e 0 (by omega) (by omega), e 1 (by omega) (by omega), e 2 (by omega) (by omega), e 3 (by omega) (by omega), e 5 (by omega) (by omega), e 6 (by omega) (by omega)]
  refine ⟨wf_n hW, wf_m hW, wf_odds hW, wf_cool hW, by omega, wf_quar hW, wf_made hW, ?_, ?_, ?_, ?_, ?_⟩
  · intro x hx hxn
    have := wf_temp hW hx hxn
    unfold aNightsTo
    rw [if_neg (by omega)]
    split
    · rw [show 7 + x - 7 = x by omega]; unfold aTemp; split <;> omega
    · omega
  · intro x hx hxn
    rw [e _ (by omega) (by omega)]
    exact wf_live hW hx hxn
  · intro x y hx hxn hy hyn he
    rw [e _ (by omega) (by omega), e _ (by omega) (by omega)] at he
    exact wf_inj hW hx hxn hy hyn he
  · intro x y hx hxn hy hyn
    rw [e _ (by omega) (by omega)]
    exact wf_like hW hx hxn hy hyn
  · intro s hs hsm
    rw [e _ (by omega) (by omega), e _ (by omega) (by omega), e _ (by omega) (by omega)]
    exact wf_st hW hs hsm
section Q7c
variable {d : Nat} {R : Option qV → qH → Prop} {h : qH} {i : Nat} {a : qB} {B : Int}
theorem x_clear (hR : ∀ h', qQX h' i aEmpty → qf7 i h h' → R none h') : qT (d + 1) 48 0 [qo 7 i] [] h R := by
  refine sX7_clear_0 (hR _ ?_ ?_)
  · intro x hx
    have h0 : aEmpty 0 = 0 := rfl
    have h1 : aEmpty 1 = 0 := rfl
    have hx7 : 0 ≤ x ∧ x < 7 := by unfold alv at hx; rw [h0, h1] at hx; omega
    have : x = 0 ∨ x = 1 ∨ x = 2 ∨ x = 3 ∨ x = 4 ∨ x = 5 ∨ x = 6 := by omega
    rcases this with e | e | e | e | e | e | e <;> subst e <;> simp [qup, asl, apl, aEmpty]
  · exact qf7_trans (qf7_trans (qf7_trans (qf7_trans (qf7_trans (qf7_trans (qf7_up (by decide)) (qf7_up (by decide))) (qf7_up (by decide))) (qf7_up (by decide))) (qf7_up (by decide))) (qf7_up (by decide))) (qf7_up (by decide))
theorem x_takeOver {i1 : Nat} (hi : i1 ≠ i) (hQ : qQX h i1 a) (hR : ∀ h', qQX h' i a → qg7 i h h' → (∀ k, k < 7 → h' 7 i 0 k = h 7 i1 0 k) → R none h') : qT (d + 1) 49 0 [qo 7 i, qo 7 i1] [] h R := by
  refine sX7_takeOver_0 ⟨by omega, by omega, by omega, by omega, by omega, by omega, by omega, hR _ ?_ ?_ ?_⟩
  · intro x hx
    rw [← hQ x hx]
    have : x = 0 ∨ x = 1 ∨ x = 2 ∨ x = 3 ∨ x = 4 ∨ x = 5 ∨ x = 6 ∨ (7 ≤ x ∧ x < 14) ∨ (14 ≤ x ∧ x < 21) ∨ (21 ≤ x ∧ x < 70) ∨ (70 ≤ x ∧ x < 80) ∨ (80 ≤ x ∧ x < 90) ∨ (90 ≤ x ∧ x < 100) := by unfold alv at hx; omega
    rcases this with e | e | e | e | e | e | e | e | e | e | e | e | e
    · subst e; simp [qup, qcp, asl, apl]
    · subst e; simp [qup, qcp, asl, apl]
    · subst e; simp [qup, qcp, asl, apl]
    · subst e; simp [qup, qcp, asl, apl]
    · subst e; simp [qup, qcp, asl, apl]
    · subst e; simp [qup, qcp, asl, apl]
    · subst e; simp [qup, qcp, asl, apl]
    · obtain ⟨h1, h2⟩ := asl_temp (p := x - 7) (by omega) (by omega)
      rw [show 7 + (x - 7) = x by omega] at h1 h2
      rw [h1, h2]
      have : (x - 7).toNat < 7 := by omega
      simp [qup, qcp, this, hi]
    · obtain ⟨h1, h2⟩ := asl_live (p := x - 14) (by omega) (by omega)
      rw [show 14 + (x - 14) = x by omega] at h1 h2
      rw [h1, h2]
      have : (x - 14).toNat < 7 := by omega
      simp [qup, qcp, this, hi]
    · have h1 : asl x = 3 := by unfold asl; rw [if_neg (by omega), if_neg (by omega), if_neg (by omega), if_pos (by omega)]
      have h2 : apl x < 49 := by unfold apl; rw [if_neg (by omega), if_neg (by omega), if_neg (by omega), if_pos (by omega)]; omega
      rw [h1]
      simp [qup, qcp, h2, hi]
    · obtain ⟨h1, h2⟩ := asl_one (s := x - 70) (by omega) (by omega)
      rw [show 70 + (x - 70) = x by omega] at h1 h2
      rw [h1, h2]
      have : (x - 70).toNat < 10 := by omega
      simp [qup, qcp, this, hi]
    · obtain ⟨h1, h2⟩ := asl_two (s := x - 80) (by omega) (by omega)
      rw [show 80 + (x - 80) = x by omega] at h1 h2
      rw [h1, h2]
      have : (x - 80).toNat < 10 := by omega
      simp [qup, qcp, this, hi]
    · obtain ⟨h1, h2⟩ := asl_grud (s := x - 90) (by omega) (by omega)
      rw [show 90 + (x - 90) = x by omega] at h1 h2
      rw [h1, h2]
      have : (x - 90).toNat < 10 := by omega
      simp [qup, qcp, this, hi]
  · iterate 6 refine qg7_trans ?_ qg7_up
    refine qg7_trans ?_ qg7_up
    iterate 6 refine qg7_trans ?_ qg7_cp
    exact qg7_cp
  · intro k hk
    simp [qup, qcp, hk]
theorem x_tryCalm (hQ : qQX h i a) (hW : qwf B a) {p t : Int} (p0 : 0 ≤ p) (hp : p < a 0) (h1 : a (7 + p) ≠ t → ∀ h', qQX h' i (aSet a (7 + p) t) → qf7 i h h' → R (some (qi 1)) h') (h0 : a (7 + p) = t → R (some (qi 0)) h) : qT (d + 2) 71 0 [qo 7 i, qi p, qi t] [] h R := by
  have hn := wf_n hW
  refine sX7_tryCalm_0 (x_hasPerson hQ (fun _ _ => ⟨fun c => absurd c (by decide), fun _ => ?_⟩) (fun c => absurd ⟨p0, hp⟩ c))
  rw [qx_temp hQ hW p0 hp]
  have e := asl_temp p0 (by omega : p < 7)
  exact ⟨by omega, fun c => ⟨by omega, by omega, h1 c _ (qx_put' hQ (by omega) e.1 e.2) (qf7_up (by decide))⟩, fun c => ⟨by omega, h0 (by omega)⟩⟩
theorem x_tryNights (hQ : qQX h i a) (hW : qwf B a) {n : Int} (n0 : 0 ≤ n) (n9 : n ≤ 99) (h1 : a 4 + n ≤ 9999 → ∀ h', qQX h' i (aNights a n) → qf7 i h h' → R (some (qi 1)) h') (h0 : ¬ (a 4 + n ≤ 9999) → R (some (qi 0)) h) : qT (d + 2) 72 0 [qo 7 i, qi n, qu] [] h R := by
  have hn := wf_n hW
  have h4 := wf_night hW
  refine sX7_tryNights_0 ?_
  rw [qx_night hQ]
  refine ⟨qR_of (by omega) (by omega), fun c => ⟨qR_of (by omega) (by omega), ?_⟩, fun c => ⟨by omega, h0 c⟩⟩
  have start : qQX (qup h 7 i 11 0 (a 4 + n)) i (aNightsTo a n 0) := by
    have := qx_put' (v := a 4 + n) hQ (by omega : (2 : Int) ≤ 4) rfl rfl
    refine qx_cong this ?_ ?_ ?_
    · unfold aNightsTo; rw [if_neg (by omega), if_neg (by omega), aSet_ne (by omega)]
    · unfold aNightsTo; rw [if_neg (by omega), if_neg (by omega), aSet_ne (by omega)]
    · intro x _
      unfold aNightsTo aSet
      by_cases e : x = 4
      · rw [if_pos e, if_pos e]
      · rw [if_neg e, if_neg e, if_neg (by omega)]
  refine q_up (n := a 0) (C := fun x => x ≤ a 0 → ∀ h', qQX h' i (aNightsTo a n x) → qf7 i h h' → qT (d + 2) 72 26 [qo 7 i, qi n, qi x] [] h' R) ?_ 0 (by omega) (by omega) _ start (qf7_up (by decide))
  intro x hx ih hxn h' hQ' hf
  have hW' := wf_nightsTo hW (k := x) n0 c hx hxn
  have e0 : aNightsTo a n x 0 = a 0 := by unfold aNightsTo; rw [if_neg (by omega), if_neg (by omega)]
  refine sX7_tryNights_26 ?_
  rw [qx_n hQ', e0]
  refine ⟨fun c2 => ⟨by omega, h1 c _ ?_ hf⟩, fun c2 => ⟨by omega, ?_⟩⟩
  · unfold aNights; rwa [show a 0 = x by omega]
  · have hx7 : x < a 0 := by omega
    have hl := wf_live hW hx hx7
    have ht := wf_temp hW hx hx7
    have el : ∀ p q, 0 ≤ p → p < a 0 → 0 ≤ q → q < a 0 → aLike (aNightsTo a n x) p q = aLike a p q := by
      intro p q p0 hp q0 hq
      unfold aLike aNightsTo
      rw [if_neg (by omega), if_neg (by omega)]
    have e14 : aNightsTo a n x (14 + x) = a (14 + x) := by unfold aNightsTo; rw [if_neg (by omega), if_neg (by omega)]
    have e7 : aNightsTo a n x (7 + x) = a (7 + x) := by unfold aNightsTo; rw [if_neg (by omega), if_neg (by omega)]
    rw [qx_live hQ' hW' hx (by omega), e14]
    refine x_liking hQ' hW' hx (by omega) (by omega) (by omega) (x_liking hQ' hW' hx (by omega) hx (by omega) ?_)
    rw [el x _ hx hx7 hl.1 hl.2, el x x hx hx7 hx hx7]
    dsimp only [qri]
    rw [qx_temp hQ' hW' hx (by omega), e7]
    have e := asl_temp hx (by omega : x < 7)
    have fin : ∀ v, v = aTemp a n x → qQX (qup h' 7 i 1 (Int.toNat x) v) i (aNightsTo a n (x + 1)) := by
      intro v hv
      have := qx_put' (v := v) hQ' (by omega : 2 ≤ 7 + x) e.1 e.2
      have q0 : aNightsTo a n (x + 1) 0 = a 0 := by unfold aNightsTo; rw [if_neg (by omega), if_neg (by omega)]
      have q1 : aNightsTo a n (x + 1) 1 = a 1 := by unfold aNightsTo; rw [if_neg (by omega), if_neg (by omega)]
      have q1' : aNightsTo a n x 1 = a 1 := by unfold aNightsTo; rw [if_neg (by omega), if_neg (by omega)]
      refine qx_cong this (by rw [aSet_ne (by omega), q0, e0]) (by rw [aSet_ne (by omega), q1, q1']) ?_
      intro y _
      by_cases hy : y = 7 + x
      · rw [aSet_eq hy, hv]
        unfold aNightsTo
        rw [if_neg (by omega), if_pos (by omega), show y - 7 = x by omega]
      · rw [aSet_ne hy]
        unfold aNightsTo
        by_cases y4 : y = 4
        · rw [if_pos y4, if_pos y4]
        rw [if_neg y4, if_neg y4]
        by_cases yb : 7 ≤ y ∧ y < 7 + x
        · rw [if_pos (by omega), if_pos yb]
        · rw [if_neg (by omega), if_neg yb]
    refine ⟨fun c3 => ⟨by omega, qR_of (by omega) (by omega), by omega, qR_of (by omega) (by omega), ih hx7 (by omega) _ (fin _ ?_) (qf7_trans hf (qf7_up (by decide)))⟩, fun c3 => ⟨by omega, qR_of (by omega) (by omega), by omega, qR_of (by omega) (by omega), ih hx7 (by omega) _ (fin _ ?_) (qf7_trans hf (qf7_up (by decide)))⟩⟩
    · unfold aTemp; rw [if_neg (by omega)]
    · unfold aTemp; rw [if_pos (by omega)]
theorem x_addStair (hQ : qQX h i a) (hW : qwf B a) {p q : Int} (h10 : a 1 < 10) (hR : ∀ h', qQX h' i (aBuild a p q 0) → qf7 i h h' → R (some (qi (a 1))) h') : qT (d + 1) 54 0 [qo 7 i, qi p, qi q, qu] [] h R := by
  have hm := wf_m hW
  have hn := wf_n hW
  refine sX7_addStair_0 ?_
  rw [qx_m hQ]
  refine ⟨fun c => ⟨qR_of (by omega) (by omega), by omega, by omega, by omega, hR _ ?_ ?_⟩, fun c => absurd h10 c⟩
  · have e1 := asl_one hm.1 h10
    have e2 := asl_two hm.1 h10
    have e3 := asl_grud hm.1 h10
    intro x hx
    have hx0 : 0 ≤ x := by unfold alv at hx; omega
    rw [av_up (k := 90 + a 1) (by omega) e3.1 e3.2 hx0, av_up (k := 80 + a 1) (by omega) e2.1 e2.2 hx0, av_up (k := 70 + a 1) (by omega) e1.1 e1.2 hx0, av_up (k := 1) (j := 8) (q := 0) (by omega) rfl rfl hx0]
    have b0 : aBuild a p q 0 0 = a 0 := by unfold aBuild; rw [aSet_ne (by omega), aSet_ne (by omega), aSet_ne (by omega), aSet_ne (by omega)]
    have b1 : aBuild a p q 0 1 = a 1 + 1 := by unfold aBuild; rw [aSet_eq rfl]
    unfold alv at hx
    rw [b0, b1] at hx
    unfold aBuild aSet
    by_cases k0 : x = 1
    · rw [if_neg (by omega), if_neg (by omega), if_neg (by omega), if_pos k0, if_pos k0]
    by_cases k1 : x = 90 + a 1
    · rw [if_pos k1, if_neg k0, if_pos k1]
    by_cases k2 : x = 80 + a 1
    · rw [if_neg k1, if_pos k2, if_neg k0, if_neg k1, if_pos k2]
    by_cases k3 : x = 70 + a 1
    · rw [if_neg k1, if_neg k2, if_pos k3, if_neg k0, if_neg k1, if_neg k2, if_pos k3]
    rw [if_neg k1, if_neg k2, if_neg k3, if_neg k0, if_neg k0, if_neg k1, if_neg k2, if_neg k3]
    exact hQ x (by unfold alv; omega)
  · exact qf7_trans (qf7_trans (qf7_trans (qf7_up (by decide)) (qf7_up (by decide))) (qf7_up (by decide))) (qf7_up (by decide))
theorem x_addPerson (hQ : qQX h i a) (hW : qwf B a) {nm : Int} (h10 : a 0 < 7) (hR : ∀ h', qQX h' i (aCome a 3) → qg7 i h h' → (∀ k, h' 7 i 0 k = if k = (a 0).toNat then nm else h 7 i 0 k) → R (some (qi (a 0))) h') : qT (d + 2) 53 0 [qo 7 i, ql nm, qu, qu, qu] [] h R := by
  have hm := wf_m hW
  have hn := wf_n hW
  have c0 : aCome a 3 0 = a 0 + 1 := by unfold aCome; rw [if_pos rfl]
  have c1 : aCome a 3 1 = a 1 := by unfold aCome; rw [if_neg (by omega), if_neg (by omega), if_neg (by omega), if_neg (by omega)]
  refine sX7_addPerson_0 ?_
  rw [qx_n hQ]
  refine ⟨fun c => ⟨qR_of (by omega) (by omega), by omega, by omega, by omega, ?_⟩, fun c => absurd h10 c⟩
  refine q_up (n := a 0 + 1) (C := fun y => y ≤ a 0 + 1 → ∀ h', (∀ x, alv (aCome a 3) x → (21 ≤ x ∧ x < 70 ∧ (((x - 21) / 7 = a 0 ∧ y ≤ (x - 21) % 7) ∨ ((x - 21) % 7 = a 0 ∧ y ≤ (x - 21) / 7))) ∨ h' 7 i (asl x) (apl x) = aCome a 3 x) → qg7 i h h' → (∀ k, h' 7 i 0 k = if k = (a 0).toNat then nm else h 7 i 0 k) → qT (d + 2) 53 50 [qo 7 i, ql nm, qu, qi (a 0), qi y] [] h' R) ?_ 0 (by omega) (by omega) _ ?_ ?_ ?_
  · intro y hy ih hyn h' hv hf hnm
    have en : h' 7 i 7 0 = a 0 + 1 := by
      have := hv 0 (by unfold alv; omega)
      rw [c0] at this
      rcases this with h1 | h1
      · omega
      · exact h1
    refine sX7_addPerson_50 ?_
    rw [en]
    refine ⟨fun c2 => hR _ ?_ hf hnm, fun c2 => sX7_setLiking_0 ⟨qR_of (by omega) (by omega), qR_of (by omega) (by omega), by omega, sX7_setLiking_0 ⟨qR_of (by omega) (by omega), qR_of (by omega) (by omega), by omega, qR_of (by omega) (by omega), ih (by omega) (by omega) _ ?_ ?_ ?_⟩⟩⟩
    · intro x hx
      rcases hv x hx with h1 | h1
      · exfalso
        unfold alv at hx
        rw [c0, c1] at hx
        omega
      · exact h1
    · intro x hx
      have hx0 : 0 ≤ x := by unfold alv at hx; omega
      have e1 := asl_like (p := a 0) (q := y) hn.1 h10 hy (by omega)
      have e2 := asl_like (p := y) (q := a 0) hy (by omega) hn.1 h10
      rw [av_up (k := 21 + 7 * a 0 + y) (by omega) e1.1 e1.2 hx0, av_up (k := 21 + 7 * y + a 0) (by omega) e2.1 e2.2 hx0]
      by_cases k1 : x = 21 + 7 * a 0 + y
      · right
        rw [if_pos k1]
        unfold aCome
        rw [if_neg (by omega), if_neg (by omega), if_neg (by omega), if_pos (by omega)]
      by_cases k2 : x = 21 + 7 * y + a 0
      · right
        rw [if_neg k1, if_pos k2]
        unfold aCome
        rw [if_neg (by omega), if_neg (by omega), if_neg (by omega), if_pos (by omega)]
      rw [if_neg k1, if_neg k2]
      rcases hv x hx with h1 | h1
      · left; omega
      · right; exact h1
    · exact qg7_trans hf (qg7_trans qg7_up qg7_up)
    · intro k
      rw [← hnm k]
      rfl
  · intro x hx
    have hx0 : 0 ≤ x := by unfold alv at hx; omega
    have e1 := asl_temp hn.1 h10
    have e2 := asl_live hn.1 h10
    rw [av_up (k := 14 + a 0) (by omega) e2.1 e2.2 hx0, av_up (k := 7 + a 0) (by omega) e1.1 e1.2 hx0]
    have e3 : ∀ g : qH, (qup g 7 i 0 (a 0).toNat nm) 7 i (asl x) (apl x) = g 7 i (asl x) (apl x) := by
      intro g
      refine if_neg (fun e => ?_)
      have := e.1
      unfold asl at this
      repeat' split at this
      all_goals omega
    rw [e3, av_up (k := 0) (j := 7) (q := 0) (by omega) rfl rfl hx0]
    unfold alv at hx
    rw [c0, c1] at hx
    unfold aCome
    by_cases k1 : x = 14 + a 0
    · right; rw [if_pos k1, if_neg (by omega), if_neg (by omega), if_pos k1]
    by_cases k2 : x = 7 + a 0
    · right; rw [if_neg k1, if_pos k2, if_neg (by omega), if_pos k2]
    by_cases k3 : x = 0
    · right; rw [if_neg k1, if_neg k2, if_pos k3, if_pos k3]
    by_cases k4 : 21 ≤ x ∧ x < 70 ∧ (((x - 21) / 7 = a 0 ∧ (x - 21) % 7 ≤ a 0) ∨ ((x - 21) % 7 = a 0 ∧ (x - 21) / 7 ≤ a 0))
    · left; omega
    · right
      rw [if_neg k1, if_neg k2, if_neg k3, if_neg k3, if_neg k2, if_neg k1, if_neg k4]
      refine hQ x ?_
      unfold alv
      rcases hx with hx | hx | hx | hx | hx | hx | hx
      · left; exact hx
      · right; left; omega
      · right; right; left; omega
      · right; right; right; left
        refine ⟨hx.1, hx.2.1, ?_, ?_⟩
        · by_cases q : (x - 21) % 7 = a 0
          · exact absurd ⟨hx.1, hx.2.1, Or.inr ⟨q, by omega⟩⟩ k4
          · omega
        · by_cases q : (x - 21) / 7 = a 0
          · exact absurd ⟨hx.1, hx.2.1, Or.inl ⟨q, by omega⟩⟩ k4
          · omega
      · right; right; right; right; left; exact hx
      · right; right; right; right; right; left; exact hx
      · right; right; right; right; right; right; exact hx
  · exact qg7_trans (qg7_trans (qg7_trans qg7_up qg7_up) qg7_up) qg7_up
  · intro k
    simp [qup]
end Q7c
