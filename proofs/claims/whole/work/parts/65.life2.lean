section Lx
variable {d : Nat} {R : Option qV → qH → Prop} {h : qH} {a : qB} {B : Int} {i q : Nat} {n m s l r ms : Int} {D : Int → Int → Int} {C : Nat → Int → Int}
theorem x_stepSimple (hQ : qQX h q a) (hW : qwf B a) (hB : B < 2000000000) (hC : ∀ j, C j l = h 1 0 j (Int.toNat l)) (hS : stepOK n m D C s l) (hn : n ≤ a 0) (hm : m ≤ a 1) (hk : D s 0 < 5) (l0 : 0 ≤ l) (l1 : l < 60) (h3 : h 5 i 3 0 = r) (r0 : 0 ≤ r) (r1 : r < 65536) (h5 : h 5 i 5 0 = ms) (m0 : 0 ≤ ms) (m1 : ms ≤ 1000) (hR : ∀ h', qQX h' q (lvD (D s 0) (D s 1) (D s 2) a r).1 → h' 5 i 3 0 = (lvD (D s 0) (D s 1) (D s 2) a r).2.1 → h' 5 i 5 0 = ms + (1 - (lvD (D s 0) (D s 1) (D s 2) a r).2.2) → fr (PL i q) h h' → R (some (qi (l + 1))) h') : qT (d + 5) 31 0 [qo 5 i, qo 7 q, qo 1 0, qi l, qu, qu] [] h R := by
  have fin : ∀ g (ok : Int), (ok = 0 ∨ ok = 1) → g 5 i 5 0 = ms → (R (some (qi (l + 1))) (qup g 5 i 5 0 (ms + (1 - ok)))) → qT (d + 5) 31 228 [qo 5 i, qo 7 q, qo 1 0, qi l, qi ok, qi (l + 1)] [] g R := by
    intro g ok hok e5 H
    refine tX5_doStep_228 ?_
    rw [e5]
    rcases hok with e | e
    · subst e
      exact ⟨fun _ => ⟨qR_of (by omega) (by omega), by rw [show ms + 1 = ms + (1 - 0) by omega]; exact H⟩, fun c => absurd rfl c⟩
    · subst e
      exact ⟨fun c => absurd c (by decide), fun _ => ⟨qR_of (by omega) (by omega), by rw [show ms + 0 = ms + (1 - 1) by omega]; exact H⟩⟩
  have post : ∀ g (x : qB × Int × Int), lvD (D s 0) (D s 1) (D s 2) a r = x → qQX g q x.1 → g 5 i 3 0 = x.2.1 → g 5 i 5 0 = ms → fr (PL i q) h g → (x.2.2 = 0 ∨ x.2.2 = 1) → qT (d + 5) 31 228 [qo 5 i, qo 7 q, qo 1 0, qi l, qi x.2.2, qi (l + 1)] [] g R := by
    intro g x ex hQg e3 e5 hf hok
    rw [ex] at hR
    refine fin g x.2.2 hok e5 (hR _ (qx_fr hQg (by funext j; exact up_j (by omega))) (by rw [up_j (by omega)]; exact e3) up_at (fr_trans hf (fr_up (Or.inl ⟨rfl, rfl, by omega⟩))))
  have f7 : ∀ g, qf7 q h g → g 5 i 3 0 = r ∧ g 5 i 5 0 = ms ∧ fr (PL i q) h g := fun g hf => ⟨by rw [hf.1 5 i (by omega)]; exact h3, by rw [hf.1 5 i (by omega)]; exact h5, fr_f7 hf (fun j hj => Or.inr ⟨rfl, rfl, hj⟩)⟩
  have e0 := f7 h qf7_rfl
  obtain ⟨b0, s0, s1, s2, s3, s4, _⟩ := hS
  refine tX5_doStep_0 ?_
  rw [← hC 0]
  have hkk : D s 0 = 0 ∨ D s 0 = 1 ∨ D s 0 = 2 ∨ D s 0 = 3 ∨ D s 0 = 4 := by omega
  refine ⟨qR_of (by omega) (by omega), by omega, ?_⟩
  unfold lvD at post
  rcases hkk with e | e | e | e | e
  · obtain ⟨c0, c1, c2, c3⟩ := s0 e
    rw [c0]
    rw [e, if_pos rfl] at post
    refine ⟨fun c => absurd c (by decide), fun _ => ⟨fun c => absurd c (by decide), fun _ => ⟨fun c => absurd c (by decide), fun _ => ⟨fun c => absurd c (by decide), fun _ => ⟨fun c => absurd c (by decide), fun _ => ⟨fun _ => (tX5_doStep_155 ⟨by omega, ?_⟩), fun c => absurd rfl c⟩⟩⟩⟩⟩⟩
    rw [← hC 1, c1]
    refine x_tryQuarrel hQ hW hB c2 (by omega) (fun hq g hQg hf => ?_) (fun hq => ?_)
    · have e := f7 g hf
      exact post g (aQuar a (D s 1), r, 1) (by rw [lvQ_t hq]) hQg e.1 e.2.1 e.2.2 (Or.inr rfl)
    · exact post h (a, r, 0) (by rw [lvQ_f hq]) hQ e0.1 e0.2.1 e0.2.2 (Or.inl rfl)
  · obtain ⟨c0, c1, c2, c3⟩ := s1 e
    rw [c0]
    rw [e, if_neg (by decide), if_pos rfl] at post
    refine ⟨fun c => absurd c (by decide), fun _ => ⟨fun c => absurd c (by decide), fun _ => ⟨fun c => absurd c (by decide), fun _ => ⟨fun c => absurd c (by decide), fun _ => ⟨fun c => absurd c (by decide), fun _ => ⟨fun c => absurd c (by decide), fun _ => ⟨fun _ => (tX5_doStep_170 ⟨by omega, ?_⟩), fun c => absurd rfl c⟩⟩⟩⟩⟩⟩⟩
    rw [← hC 1, c1]
    refine x_tryMakeUp hQ hW hB c2 (by omega) (fun hq g hQg hf => ?_) (fun hq => ?_)
    · have e := f7 g hf
      exact post g (aMake a (D s 1), r, 1) (by rw [lvK_t hq]) hQg e.1 e.2.1 e.2.2 (Or.inr rfl)
    · exact post h (a, r, 0) (by rw [lvK_f hq]) hQ e0.1 e0.2.1 e0.2.2 (Or.inl rfl)
  · obtain ⟨c0, c1, c2, c3⟩ := s2 e
    rw [c0]
    rw [e, if_neg (by decide), if_neg (by decide), if_pos rfl] at post
    refine ⟨fun c => absurd c (by decide), fun _ => ⟨fun c => absurd c (by decide), fun _ => ⟨fun c => absurd c (by decide), fun _ => ⟨fun c => absurd c (by decide), fun _ => ⟨fun c => absurd c (by decide), fun _ => ⟨fun c => absurd c (by decide), fun _ => ⟨fun c => absurd c (by decide), fun _ => ⟨fun _ => (tX5_doStep_185 ⟨by omega, ?_⟩), fun c => absurd rfl c⟩⟩⟩⟩⟩⟩⟩⟩
    rw [← hC 1, c1]
    refine x_tryNights hQ hW (by omega) (by omega) (fun hq g hQg hf => ?_) (fun hq => ?_)
    · have e := f7 g hf
      exact post g (aNights a (D s 1), r, 1) (by unfold lvT; rw [if_pos hq]) hQg e.1 e.2.1 e.2.2 (Or.inr rfl)
    · exact post h (a, r, 0) (by unfold lvT; rw [if_neg hq]) hQ e0.1 e0.2.1 e0.2.2 (Or.inl rfl)
  · obtain ⟨c0, c1, cc, c2, c3, c4⟩ := s3 e
    rw [c0]
    rw [e, if_neg (by decide), if_neg (by decide), if_neg (by decide), if_pos rfl] at post
    refine ⟨fun c => absurd c (by decide), fun _ => ⟨fun c => absurd c (by decide), fun _ => ⟨fun c => absurd c (by decide), fun _ => ⟨fun c => absurd c (by decide), fun _ => ⟨fun c => absurd c (by decide), fun _ => ⟨fun c => absurd c (by decide), fun _ => ⟨fun c => absurd c (by decide), fun _ => ⟨fun c => absurd c (by decide), fun _ => ⟨fun _ => (tX5_doStep_200 ⟨by omega, by omega, ?_⟩), fun c => absurd rfl c⟩⟩⟩⟩⟩⟩⟩⟩⟩
    rw [← hC 1, ← hC 2, c1, cc]
    refine x_tryCalm hQ hW c2 (by omega) (fun hq g hQg hf => ?_) (fun hq => ?_)
    · have e := f7 g hf
      exact post g (aSet a (7 + D s 1) (D s 2), r, 1) (by unfold lvC; rw [if_pos hq]) hQg e.1 e.2.1 e.2.2 (Or.inr rfl)
    · exact post h (a, r, 0) (by unfold lvC; rw [if_neg (fun c => c hq)]) hQ e0.1 e0.2.1 e0.2.2 (Or.inl rfl)
  · rw [s4 e]
    rw [e, if_neg (by decide), if_neg (by decide), if_neg (by decide), if_neg (by decide)] at post
    refine ⟨fun c => absurd c (by decide), fun _ => ⟨fun c => absurd c (by decide), fun _ => ⟨fun c => absurd c (by decide), fun _ => ⟨fun c => absurd c (by decide), fun _ => ⟨fun c => absurd c (by decide), fun _ => ⟨fun c => absurd c (by decide), fun _ => ⟨fun c => absurd c (by decide), fun _ => ⟨fun c => absurd c (by decide), fun _ => ⟨fun c => absurd c (by decide), fun _ => ⟨fun _ => (tX5_doStep_221 ?_), fun c => absurd rfl c⟩⟩⟩⟩⟩⟩⟩⟩⟩⟩
    have g := (lvY_g hW r0 r1).1
    exact x_doAny hQ hW hB h3 r0 r1 (fun g' hQg k3 k5 hf => post g' _ rfl hQg k3 (by rw [k5]; exact h5) hf g.2.2.2)
theorem x_stepWhen (hQ : qQX h q a) (hW : qwf B a) (hC : ∀ j, C j l = h 1 0 j (Int.toNat l)) (hS : stepOK n m D C s l) (hn : n ≤ a 0) (hm : m ≤ a 1) (hk : D s 0 = 5) (l0 : 0 ≤ l) (l1 : l < 60) (h5 : h 5 i 5 0 = ms) (m0 : 0 ≤ ms) (m1 : ms ≤ 1000) (e1 : 0 ≤ C 4 l) (e2 : C 4 l < 60) (h1 : lvHo (D s 5) (D s 1) (D s 2) (D s 6) (D s 7) a → R (some (qi (l + 1))) (qup h 5 i 5 0 ms)) (h0 : ¬ lvHo (D s 5) (D s 1) (D s 2) (D s 6) (D s 7) a → R (some (qi (C 4 l + 1))) (qup h 5 i 5 0 ms)) : qT (d + 5) 31 0 [qo 5 i, qo 7 q, qo 1 0, qi l, qu, qu] [] h R := by
  have fin : ∀ x : Int, R (some (qi x)) (qup h 5 i 5 0 ms) → qT (d + 5) 31 228 [qo 5 i, qo 7 q, qo 1 0, qi l, qi 1, qi x] [] h R := by
    intro x H
    refine tX5_doStep_228 ?_
    rw [h5]
    exact ⟨fun c => absurd c (by decide), fun _ => ⟨qR_of (by omega) (by omega), by rw [Int.add_zero]; exact H⟩⟩
  have tests : qT (d + 5) 31 123 [qo 5 i, qo 7 q, qo 1 0, qi l, qi 1, qi (l + 1)] [] h R := by
    refine tX5_doStep_123 (x_holds hQ hW hC hS hn hm hk l0 l1 (fun hh => ⟨fun _ => fin _ (h1 hh), fun c => absurd (by decide) c⟩) (fun hh => ⟨fun c => absurd rfl c, fun _ => ⟨by omega, ?_⟩⟩))
    rw [← hC 4]
    exact ⟨qR_of (by omega) (by omega), fin _ (h0 hh)⟩
  obtain ⟨⟨t0, t3⟩, s0, s1, s2, s3⟩ := hS.2.2.2.2.2.2.1 hk
  refine tX5_doStep_0 ?_
  rw [← hC 0]
  refine ⟨qR_of (by omega) (by omega), by omega, ?_⟩
  have ht : D s 5 = 0 ∨ D s 5 = 1 ∨ D s 5 = 2 ∨ D s 5 = 3 := by omega
  rcases ht with e | e | e | e
  · rw [(s0 e).1]; exact ⟨fun c => absurd c (by decide), fun _ => ⟨fun c => absurd c (by decide), fun _ => ⟨fun c => absurd c (by decide), fun _ => ⟨fun c => absurd c (by decide), fun _ => ⟨fun c => absurd c (by decide), fun _ => ⟨fun c => absurd c (by decide), fun _ => ⟨fun c => absurd c (by decide), fun _ => ⟨fun c => absurd c (by decide), fun _ => ⟨fun c => absurd c (by decide), fun _ => ⟨fun c => absurd c (by decide), fun _ => ⟨fun c => absurd c (by decide), fun _ => ⟨fun _ => tests, fun c => absurd rfl c⟩⟩⟩⟩⟩⟩⟩⟩⟩⟩⟩⟩
  · rw [(s1 e).1]; exact ⟨fun c => absurd c (by decide), fun _ => ⟨fun c => absurd c (by decide), fun _ => ⟨fun c => absurd c (by decide), fun _ => ⟨fun c => absurd c (by decide), fun _ => ⟨fun c => absurd c (by decide), fun _ => ⟨fun c => absurd c (by decide), fun _ => ⟨fun c => absurd c (by decide), fun _ => ⟨fun c => absurd c (by decide), fun _ => ⟨fun c => absurd c (by decide), fun _ => ⟨fun c => absurd c (by decide), fun _ => ⟨fun c => absurd c (by decide), fun _ => ⟨fun c => absurd c (by decide), fun _ => ⟨fun _ => tests, fun c => absurd rfl c⟩⟩⟩⟩⟩⟩⟩⟩⟩⟩⟩⟩⟩
  · rw [(s2 e).1]; exact ⟨fun c => absurd c (by decide), fun _ => ⟨fun c => absurd c (by decide), fun _ => ⟨fun _ => tests, fun c => absurd rfl c⟩⟩⟩
  · rw [(s3 e).1]; exact ⟨fun _ => tests, fun c => absurd rfl c⟩
theorem x_stepLoop (hC : ∀ j, C j l = h 1 0 j (Int.toNat l)) (hS : stepOK n m D C s l) (hk : D s 0 = 6) (l0 : 0 ≤ l) (l1 : l < 60) (h5 : h 5 i 5 0 = ms) (m0 : 0 ≤ ms) (m1 : ms ≤ 1000) (hR : R (some (qi (if C 4 l = l + 1 then l + 2 else l + 1))) (qup (qup h 5 i 0 (Int.toNat l) (D s 1 - 1)) 5 i 5 0 ms)) : qT (d + 5) 31 0 [qo 5 i, qo 7 q, qo 1 0, qi l, qu, qu] [] h R := by
  obtain ⟨c0, c1, c2, c3⟩ := hS.2.2.2.2.2.2.2.1 hk
  have fin : ∀ x : Int, (if C 4 l = l + 1 then l + 2 else l + 1) = x → qT (d + 5) 31 228 [qo 5 i, qo 7 q, qo 1 0, qi l, qi 1, qi x] [] (qup h 5 i 0 (Int.toNat l) (D s 1 - 1)) R := by
    intro x ex
    refine tX5_doStep_228 ?_
    rw [up_j (by omega), h5]
    refine ⟨fun c => absurd c (by decide), fun _ => ⟨qR_of (by omega) (by omega), ?_⟩⟩
    rw [Int.add_zero, ← ex]
    exact hR
  refine tX5_doStep_0 ?_
  rw [← hC 0, c0]
  refine ⟨qR_of (by omega) (by omega), by omega, ?_⟩
  refine ⟨fun c => absurd c (by decide), fun _ => ⟨fun c => absurd c (by decide), fun _ => ⟨fun c => absurd c (by decide), fun _ => ⟨fun c => absurd c (by decide), fun _ => ⟨fun c => absurd c (by decide), fun _ => ⟨fun c => absurd c (by decide), fun _ => ⟨fun c => absurd c (by decide), fun _ => ⟨fun c => absurd c (by decide), fun _ => ⟨fun c => absurd c (by decide), fun _ => ⟨fun c => absurd c (by decide), fun _ => ⟨fun c => absurd c (by decide), fun _ => ⟨fun c => absurd c (by decide), fun _ => ⟨fun c => absurd c (by decide), fun _ => ⟨fun _ => (tX5_doStep_92 ?_), fun c => absurd rfl c⟩⟩⟩⟩⟩⟩⟩⟩⟩⟩⟩⟩⟩⟩
  rw [← hC 1, ← hC 4, c1]
  exact ⟨by omega, qR_of (by omega) (by omega), by omega, by omega, fun c => fin _ (if_neg c), fun c => ⟨qR_of (by omega) (by omega), fin _ (by rw [if_pos (by omega)]; omega)⟩⟩
theorem x_stepStop (hC : ∀ j, C j l = h 1 0 j (Int.toNat l)) (hS : stepOK n m D C s l) (hk : D s 0 = 7) (l0 : 0 ≤ l) (l1 : l < 60) (h5 : h 5 i 5 0 = ms) (m0 : 0 ≤ ms) (m1 : ms ≤ 1000) (hR : R (some (qi (h 1 0 7 0))) (qup h 5 i 5 0 ms)) : qT (d + 5) 31 0 [qo 5 i, qo 7 q, qo 1 0, qi l, qu, qu] [] h R := by
  have c0 := hS.2.2.2.2.2.2.2.2 hk
  refine tX5_doStep_0 ?_
  rw [← hC 0, c0]
  refine ⟨qR_of (by omega) (by omega), by omega, ?_⟩
  refine ⟨fun c => absurd c (by decide), fun _ => ⟨fun c => absurd c (by decide), fun _ => ⟨fun c => absurd c (by decide), fun _ => ⟨fun c => absurd c (by decide), fun _ => ⟨fun c => absurd c (by decide), fun _ => ⟨fun c => absurd c (by decide), fun _ => ⟨fun c => absurd c (by decide), fun _ => ⟨fun c => absurd c (by decide), fun _ => ⟨fun c => absurd c (by decide), fun _ => ⟨fun c => absurd c (by decide), fun _ => ⟨fun c => absurd c (by decide), fun _ => ⟨fun c => absurd c (by decide), fun _ => ⟨fun c => absurd c (by decide), fun _ => ⟨fun c => absurd c (by decide), fun _ => ⟨fun c => absurd c (by decide), fun _ => ⟨fun _ => (tX5_doStep_146 (tX5_doStep_228 ?_)), fun c => absurd rfl c⟩⟩⟩⟩⟩⟩⟩⟩⟩⟩⟩⟩⟩⟩⟩⟩
  rw [h5]
  refine ⟨fun c => absurd c (by decide), fun _ => ⟨qR_of (by omega) (by omega), ?_⟩⟩
  rw [Int.add_zero]
  exact hR
end Lx
/-! how DECADES go: quarter, draws, done, missed, over, left -/
abbrev lvS : Type := qB × Int × Int × Int × Int × Int
def lvI (σ : lvS) : lvS := (σ.1, σ.2.1, σ.2.2.1 + 1, σ.2.2.2.1, σ.2.2.2.2.1, σ.2.2.2.2.2)
noncomputable def lvOne (D : Int → Int → Int) (rc : Int → Int → lvS → lvS) (f : Int) (σ : lvS) : lvS := by
  classical exact if σ.2.2.1 = 300 then (σ.1, σ.2.1, σ.2.2.1, σ.2.2.2.1, 1, 1)
    else if D f 0 < 5 then ((lvD (D f 0) (D f 1) (D f 2) σ.1 σ.2.1).1, (lvD (D f 0) (D f 1) (D f 2) σ.1 σ.2.1).2.1, σ.2.2.1 + 1, σ.2.2.2.1 + (1 - (lvD (D f 0) (D f 1) (D f 2) σ.1 σ.2.1).2.2), σ.2.2.2.2.1, σ.2.2.2.2.2)
    else if D f 0 = 5 then (if lvHo (D f 5) (D f 1) (D f 2) (D f 6) (D f 7) σ.1 then rc (f + 1) (D f 8) (lvI σ) else lvI σ)
    else if D f 0 = 6 then qfold (fun _ r => rc (f + 1) (D f 8) r) (lvI σ) (D f 1)
    else (σ.1, σ.2.1, σ.2.2.1 + 1, σ.2.2.2.1, 1, σ.2.2.2.2.2)
noncomputable def lvAll (D : Int → Int → Int) : Nat → Int → Int → lvS → lvS
  | 0, _, _, σ => σ
  | k + 1, f, t, σ => if f < t ∧ σ.2.2.2.2.1 = 0 then lvAll D k (D f 8) t (lvOne D (lvAll D k) f σ) else σ
section Lp
variable {D : Int → Int → Int} {rc : Int → Int → lvS → lvS} {f t : Int} {σ : lvS}
theorem lvOne_300 (h : σ.2.2.1 = 300) : lvOne D rc f σ = (σ.1, σ.2.1, σ.2.2.1, σ.2.2.2.1, 1, 1) := by unfold lvOne; exact if_pos h
theorem lvOne_s (h : σ.2.2.1 ≠ 300) (hk : D f 0 < 5) : lvOne D rc f σ = ((lvD (D f 0) (D f 1) (D f 2) σ.1 σ.2.1).1, (lvD (D f 0) (D f 1) (D f 2) σ.1 σ.2.1).2.1, σ.2.2.1 + 1, σ.2.2.2.1 + (1 - (lvD (D f 0) (D f 1) (D f 2) σ.1 σ.2.1).2.2), σ.2.2.2.2.1, σ.2.2.2.2.2) := by unfold lvOne; rw [if_neg h]; exact if_pos hk
theorem lvOne_wt (h : σ.2.2.1 ≠ 300) (hk : D f 0 = 5) (hh : lvHo (D f 5) (D f 1) (D f 2) (D f 6) (D f 7) σ.1) : lvOne D rc f σ = rc (f + 1) (D f 8) (lvI σ) := by unfold lvOne; rw [if_neg h, if_neg (by omega), if_pos hk]; exact if_pos hh
theorem lvOne_wf (h : σ.2.2.1 ≠ 300) (hk : D f 0 = 5) (hh : ¬ lvHo (D f 5) (D f 1) (D f 2) (D f 6) (D f 7) σ.1) : lvOne D rc f σ = lvI σ := by unfold lvOne; rw [if_neg h, if_neg (by omega), if_pos hk]; exact if_neg hh
theorem lvOne_l (h : σ.2.2.1 ≠ 300) (hk : D f 0 = 6) : lvOne D rc f σ = qfold (fun _ r => rc (f + 1) (D f 8) r) (lvI σ) (D f 1) := by unfold lvOne; rw [if_neg h, if_neg (by omega), if_neg (by omega)]; exact if_pos hk
theorem lvOne_t (h : σ.2.2.1 ≠ 300) (hk : D f 0 = 7) : lvOne D rc f σ = (σ.1, σ.2.1, σ.2.2.1 + 1, σ.2.2.2.1, 1, σ.2.2.2.2.2) := by unfold lvOne; rw [if_neg h, if_neg (by omega), if_neg (by omega)]; exact if_neg (by omega)
theorem lvAll_go {k : Nat} (h : f < t) (ho : σ.2.2.2.2.1 = 0) : lvAll D (k + 1) f t σ = lvAll D k (D f 8) t (lvOne D (lvAll D k) f σ) := if_pos ⟨h, ho⟩
theorem lvAll_no {k : Nat} (h : ¬ (f < t ∧ σ.2.2.2.2.1 = 0)) : lvAll D k f t σ = σ := by
  cases k with
  | zero => rfl
  | succ k => exact if_neg h
theorem qfold_front {F : lvS → lvS} {s : lvS} : ∀ c, 0 ≤ c → qfold (fun _ r => F r) s (c + 1) = qfold (fun _ r => F r) (F s) c := by
  apply q_ind
  · rw [qfold_s (by omega)]; rfl
  · intro c hc ih
    rw [qfold_s (by omega), ih, qfold_s hc]
theorem qfold_fix {F : lvS → lvS} {s : lvS} (h : F s = s) : ∀ c, 0 ≤ c → qfold (fun _ r => F r) s c = s := by
  apply q_ind
  · rfl
  · intro c hc ih
    rw [qfold_s hc, ih, h]
end Lp
/-- steps f to t stand in lines l to e, blocks at most dd deep -/
def dSeg (n m : Int) (D : Int → Int → Int) (C : Nat → Int → Int) : Nat → Nat → Int → Int → Int → Int → Prop
  | 0, _, f, t, l, e => f = t ∧ l = e
  | k + 1, dd, f, t, l, e => (f = t ∧ l = e) ∨ (f < t ∧ stepOK n m D C f l ∧ (((D f 0 < 5 ∨ D f 0 = 7) ∧ D f 8 = f + 1 ∧ dSeg n m D C k dd (f + 1) t (l + 1) e) ∨ ((D f 0 = 5 ∨ D f 0 = 6) ∧ 0 < dd ∧ ∃ E, C 4 l = E ∧ C 4 E = l ∧ C 0 E = 17 ∧ dSeg n m D C k (dd - 1) (f + 1) (D f 8) (l + 1) E ∧ dSeg n m D C k dd (D f 8) t (E + 1) e)))
section Ds
variable {n m : Int} {D : Int → Int → Int} {C : Nat → Int → Int}
theorem dSeg_le : ∀ (k dd : Nat) {f t l e : Int}, dSeg n m D C k dd f t l e → f ≤ t ∧ l ≤ e ∧ (f < t ↔ l < e) := by
  intro k
  induction k with
  | zero => intro dd f t l e h; have h : f = t ∧ l = e := h; omega
  | succ k ih =>
    intro dd f t l e h
    rcases h with h | ⟨h1, _, ⟨_, _, h3⟩ | ⟨_, _, E, _, _, _, h4, h5⟩⟩
    · omega
    · have := ih _ h3; omega
    · have a1 := ih _ h4
      have a2 := ih _ h5
      omega
def lvOk (B n m : Int) (σ : lvS) : Prop := qwf (B + σ.2.2.1) σ.1 ∧ (n ≤ σ.1 0 ∧ m ≤ σ.1 1) ∧ (0 ≤ σ.2.1 ∧ σ.2.1 < 65536) ∧ (0 ≤ σ.2.2.1 ∧ σ.2.2.1 ≤ 300) ∧ (0 ≤ σ.2.2.2.1 ∧ σ.2.2.2.1 ≤ σ.2.2.1) ∧ (σ.2.2.2.2.1 = 0 ∨ σ.2.2.2.2.1 = 1) ∧ (σ.2.2.2.2.1 = 0 → σ.2.2.2.2.2 = 0) ∧ (σ.2.2.2.2.2 = 0 ∨ σ.2.2.2.2.2 = 1)
theorem lvOk_I {B : Int} {σ : lvS} (h : lvOk B n m σ) (h3 : σ.2.2.1 ≠ 300) : lvOk B n m (lvI σ) := by
  obtain ⟨h1, h2, h4, h5, h6, h7, h8, h9⟩ := h
  exact ⟨wf_mono h1 (by show B + σ.2.2.1 ≤ B + (σ.2.2.1 + 1); omega), h2, h4, ⟨by show 0 ≤ σ.2.2.1 + 1; omega, by show σ.2.2.1 + 1 ≤ 300; omega⟩, ⟨h6.1, by show σ.2.2.2.1 ≤ σ.2.2.1 + 1; omega⟩, h7, h8, h9⟩
theorem lvAll_ok {B : Int} : ∀ (k dd : Nat) {f t l e : Int} {σ : lvS}, dSeg n m D C k dd f t l e → lvOk B n m σ → lvOk B n m (lvAll D k f t σ) ∧ σ.2.2.1 ≤ (lvAll D k f t σ).2.2.1 := by
  intro k
  induction k with
  | zero => intro dd f t l e σ _ h; exact ⟨h, Int.le_refl _⟩
  | succ k ih =>
    intro dd f t l e σ hd h
    by_cases hg : f < t ∧ σ.2.2.2.2.1 = 0
    · rw [lvAll_go hg.1 hg.2]
      rcases hd with hd | ⟨h1, hS, hd⟩
      · omega
      obtain ⟨q1, q2, q4, q5, q6, q7, q8, q9⟩ := h
      have h : lvOk B n m σ := ⟨q1, q2, q4, q5, q6, q7, q8, q9⟩
      by_cases h3 : σ.2.2.1 = 300
      · rw [lvOne_300 h3, lvAll_no (by show ¬ (D f 8 < t ∧ (1 : Int) = 0); omega)]
        exact ⟨⟨q1, q2, q4, q5, q6, Or.inr rfl, fun (c : (1 : Int) = 0) => absurd c (by decide), Or.inr rfl⟩, Int.le_refl _⟩
      · rcases hd with ⟨hk, h8, hd⟩ | ⟨hk, _, E, _, _, _, hd1, hd2⟩
        · rcases hk with hk | hk
          · rw [lvOne_s h3 hk, h8]
            have G := lvD_g q1 (stepOK_V hS q2.1 q2.2) q4.1 q4.2
            have ok : lvOk B n m ((lvD (D f 0) (D f 1) (D f 2) σ.1 σ.2.1).1, (lvD (D f 0) (D f 1) (D f 2) σ.1 σ.2.1).2.1, σ.2.2.1 + 1, σ.2.2.2.1 + (1 - (lvD (D f 0) (D f 1) (D f 2) σ.1 σ.2.1).2.2), σ.2.2.2.2.1, σ.2.2.2.2.2) := by
              refine ⟨?_, ⟨?_, ?_⟩, G.2, ⟨?_, ?_⟩, ?_, q7, q8, q9⟩
              · show qwf (B + (σ.2.2.1 + 1)) _
                rw [← Int.add_assoc]; exact G.1.1
              · show n ≤ (lvD (D f 0) (D f 1) (D f 2) σ.1 σ.2.1).1 0
                have := G.1.2.1; rw [show (lvD (D f 0) (D f 1) (D f 2) σ.1 σ.2.1).1 0 = σ.1 0 from this]; exact q2.1
              · show m ≤ (lvD (D f 0) (D f 1) (D f 2) σ.1 σ.2.1).1 1
                have := G.1.2.2.1; rw [show (lvD (D f 0) (D f 1) (D f 2) σ.1 σ.2.1).1 1 = σ.1 1 from this]; exact q2.2
              · show 0 ≤ σ.2.2.1 + 1; omega
              · show σ.2.2.1 + 1 ≤ 300; omega
              · have : (lvD (D f 0) (D f 1) (D f 2) σ.1 σ.2.1).2.2 = 0 ∨ (lvD (D f 0) (D f 1) (D f 2) σ.1 σ.2.1).2.2 = 1 := G.1.2.2.2
                show 0 ≤ σ.2.2.2.1 + (1 - (lvD (D f 0) (D f 1) (D f 2) σ.1 σ.2.1).2.2) ∧ σ.2.2.2.1 + (1 - (lvD (D f 0) (D f 1) (D f 2) σ.1 σ.2.1).2.2) ≤ σ.2.2.1 + 1
                omega
            have I := ih dd hd ok
            refine ⟨I.1, ?_⟩
            have := I.2
            have : σ.2.2.1 + 1 ≤ _ := this
            omega
          · rw [lvOne_t h3 hk, lvAll_no (by show ¬ (D f 8 < t ∧ (1 : Int) = 0); omega)]
            refine ⟨⟨wf_mono q1 (by show B + σ.2.2.1 ≤ B + (σ.2.2.1 + 1); omega), q2, q4, ⟨by show 0 ≤ σ.2.2.1 + 1; omega, by show σ.2.2.1 + 1 ≤ 300; omega⟩, ⟨q6.1, by show σ.2.2.2.1 ≤ σ.2.2.1 + 1; omega⟩, Or.inr rfl, fun (c : (1 : Int) = 0) => absurd c (by decide), q9⟩, ?_⟩
            show σ.2.2.1 ≤ σ.2.2.1 + 1
            omega
        · have hI := lvOk_I h h3
          have hI2 : (lvI σ).2.2.1 = σ.2.2.1 + 1 := rfl
          rcases hk with hk | hk
          · by_cases hh : lvHo (D f 5) (D f 1) (D f 2) (D f 6) (D f 7) σ.1
            · rw [lvOne_wt h3 hk hh]
              have I1 := ih _ hd1 hI
              have I2 := ih _ hd2 I1.1
              exact ⟨I2.1, by omega⟩
            · rw [lvOne_wf h3 hk hh]
              have I2 := ih _ hd2 hI
              exact ⟨I2.1, by omega⟩
          · rw [lvOne_l h3 hk]
            have hc := (hS.2.2.2.2.2.2.2.1 hk).2.2
            have key : ∀ c, 0 ≤ c → lvOk B n m (qfold (fun _ r => lvAll D k (f + 1) (D f 8) r) (lvI σ) c) ∧ (lvI σ).2.2.1 ≤ (qfold (fun _ r => lvAll D k (f + 1) (D f 8) r) (lvI σ) c).2.2.1 := by
              apply q_ind
              · exact ⟨hI, Int.le_refl _⟩
              · intro c hc ihc
                rw [qfold_s hc]
                have I1 := ih _ hd1 ihc.1
                exact ⟨I1.1, by omega⟩
            have K := key (D f 1) (by omega)
            have I2 := ih _ hd2 K.1
            exact ⟨I2.1, by omega⟩
    · rw [lvAll_no hg]; exact ⟨h, Int.le_refl _⟩
end Ds
