/-! DECADES: what a step does -/
def lvSt (v c z : Int) : Prop := (c = 60 ∧ v < z) ∨ (c ≠ 60 ∧ c = 62 ∧ z < v) ∨ (c ≠ 60 ∧ c ≠ 62 ∧ v = z)
def lvHo (t x y z c : Int) (a : qB) : Prop := (t = 0 ∧ a (14 + x) = x) ∨ (t = 1 ∧ a (14 + x) = y) ∨ (t = 2 ∧ lvSt (a (90 + x)) c z) ∨ (t = 3 ∧ lvSt (a (7 + x)) c z)
def lvDr (r : Int) : Int := (r * 2971 + 10949) % 65536
theorem lvDr_b (r : Int) : 0 ≤ lvDr r ∧ lvDr r < 65536 := by unfold lvDr; omega
noncomputable def lvQ (a : qB) (s : Int) : qB × Int := by
  classical exact if aMayQ a s then (aQuar a s, 1) else (a, 0)
noncomputable def lvK (a : qB) (s : Int) : qB × Int := by
  classical exact if aMayM a s then (aMake a s, 1) else (a, 0)
def lvT (a : qB) (n : Int) : qB × Int := if a 4 + n ≤ 9999 then (aNights a n, 1) else (a, 0)
def lvC (a : qB) (p t : Int) : qB × Int := if a (7 + p) ≠ t then (aSet a (7 + p) t, 1) else (a, 0)
theorem lvQ_t {a : qB} {s : Int} (h : aMayQ a s) : lvQ a s = (aQuar a s, 1) := by unfold lvQ; exact if_pos h
theorem lvQ_f {a : qB} {s : Int} (h : ¬ aMayQ a s) : lvQ a s = (a, 0) := by unfold lvQ; exact if_neg h
theorem lvK_t {a : qB} {s : Int} (h : aMayM a s) : lvK a s = (aMake a s, 1) := by unfold lvK; exact if_pos h
theorem lvK_f {a : qB} {s : Int} (h : ¬ aMayM a s) : lvK a s = (a, 0) := by unfold lvK; exact if_neg h
noncomputable def lvY (a : qB) (r : Int) : qB × Int × Int :=
  if a 1 = 0 then (a, r, 0) else if lvDr (lvDr r) / 8 % 16 < a 2 then ((lvQ a (lvDr r / 8 % a 1)).1, lvDr (lvDr r), (lvQ a (lvDr r / 8 % a 1)).2) else ((lvK a (lvDr r / 8 % a 1)).1, lvDr (lvDr r), (lvK a (lvDr r / 8 % a 1)).2)
noncomputable def lvD (k x y : Int) (a : qB) (r : Int) : qB × Int × Int :=
  if k = 0 then ((lvQ a x).1, r, (lvQ a x).2) else if k = 1 then ((lvK a x).1, r, (lvK a x).2) else if k = 2 then ((lvT a x).1, r, (lvT a x).2) else if k = 3 then ((lvC a x y).1, r, (lvC a x y).2) else lvY a r
section Lw
variable {B : Int} {a : qB}
theorem wf_quarr (hW : qwf B a) {s : Int} (s0 : 0 ≤ s) (hs : s < a 1) (hq : aMayQ a s) : qwf (B + 1) (aQuar a s) := by
  have h3 := wf_st hW s0 hs
  have h5 := wf_quar hW
  have hm := wf_m hW
  unfold aMayQ at hq
  refine wf_set (wf_set (wf_mono (wf_swap hW h3.1.1 h3.1.2 h3.2.1.1 h3.2.1.2) (by omega)) (by omega) (by omega) (by omega) (by omega) (by omega) (by omega) (by omega)) (by omega) (by omega) (by omega) (by omega) (by omega) (by omega) (by omega)
theorem wf_maked (hW : qwf B a) {s : Int} (s0 : 0 ≤ s) (hs : s < a 1) (hq : aMayM a s) : qwf (B + 1) (aMake a s) := by
  have h3 := wf_st hW s0 hs
  have h5 := wf_made hW
  have hm := wf_m hW
  unfold aMayM at hq
  refine wf_set (wf_set (wf_mono (wf_swap hW h3.1.1 h3.1.2 h3.2.1.1 h3.2.1.2) (by omega)) (by omega) (by omega) (by omega) (by omega) (by omega) (by omega) (by omega)) (by omega) (by omega) (by omega) (by omega) (by omega) (by omega) (by omega)
theorem quar_01 {s : Int} (s0 : 0 ≤ s) (hW : qwf B a) (hs : s < a 1) : aQuar a s 0 = a 0 ∧ aQuar a s 1 = a 1 ∧ aMake a s 0 = a 0 ∧ aMake a s 1 = a 1 := by
  have h3 := wf_st hW s0 hs
  unfold aQuar aMake
  refine ⟨?_, ?_, ?_, ?_⟩ <;> rw [aSet_ne (by omega), aSet_ne (by omega), aSwap_ne (by omega) (by omega)]
/-- good after a step -/
def lvG (B : Int) (a : qB) (x : qB × Int) : Prop := qwf (B + 1) x.1 ∧ x.1 0 = a 0 ∧ x.1 1 = a 1 ∧ (x.2 = 0 ∨ x.2 = 1)
theorem lvQ_g (hW : qwf B a) {s : Int} (s0 : 0 ≤ s) (hs : s < a 1) : lvG B a (lvQ a s) := by
  have q := quar_01 s0 hW hs
  by_cases c : aMayQ a s
  · rw [lvQ_t c]; exact ⟨wf_quarr hW s0 hs c, q.1, q.2.1, Or.inr rfl⟩
  · rw [lvQ_f c]; exact ⟨wf_mono hW (by omega), rfl, rfl, Or.inl rfl⟩
theorem lvK_g (hW : qwf B a) {s : Int} (s0 : 0 ≤ s) (hs : s < a 1) : lvG B a (lvK a s) := by
  have q := quar_01 s0 hW hs
  by_cases c : aMayM a s
  · rw [lvK_t c]; exact ⟨wf_maked hW s0 hs c, q.2.2.1, q.2.2.2, Or.inr rfl⟩
  · rw [lvK_f c]; exact ⟨wf_mono hW (by omega), rfl, rfl, Or.inl rfl⟩
theorem nights_01 {n : Int} : aNights a n 0 = a 0 ∧ aNights a n 1 = a 1 := by
  unfold aNights aNightsTo
  refine ⟨?_, ?_⟩ <;> rw [if_neg (by omega), if_neg (by omega)]
theorem lvT_g (hW : qwf B a) {n : Int} (n0 : 0 ≤ n) : lvG B a (lvT a n) := by
  unfold lvT
  by_cases c : a 4 + n ≤ 9999
  · rw [if_pos c]; exact ⟨wf_mono (wf_nights hW n0 c) (by omega), (nights_01 (a := a) (n := n)).1, (nights_01 (a := a) (n := n)).2, Or.inr rfl⟩
  · rw [if_neg c]; exact ⟨wf_mono hW (by omega), rfl, rfl, Or.inl rfl⟩
theorem lvC_g (hW : qwf B a) {p t : Int} (p0 : 0 ≤ p) (hp : p < a 0) (t0 : 0 ≤ t) (t9 : t ≤ 9) : lvG B a (lvC a p t) := by
  have hn := wf_n hW
  unfold lvC
  by_cases c : a (7 + p) ≠ t
  · rw [if_pos c]
    exact ⟨wf_mono (wf_set hW (by omega) (by omega) (by omega) (by omega) (by omega) (by omega) (by omega)) (by omega), aSet_ne (by omega), aSet_ne (by omega), Or.inr rfl⟩
  · rw [if_neg c]; exact ⟨wf_mono hW (by omega), rfl, rfl, Or.inl rfl⟩
theorem lv_mod {x m : Int} (hm : 0 < m) : 0 ≤ x % m ∧ x % m < m := ⟨Int.emod_nonneg _ (by omega), Int.emod_lt_of_pos _ hm⟩
theorem lvY_g (hW : qwf B a) {r : Int} (r0 : 0 ≤ r) (r1 : r < 65536) : lvG B a ((lvY a r).1, (lvY a r).2.2) ∧ 0 ≤ (lvY a r).2.1 ∧ (lvY a r).2.1 < 65536 := by
  have hm := wf_m hW
  unfold lvY
  by_cases c : a 1 = 0
  · rw [if_pos c]; exact ⟨⟨wf_mono hW (by omega), rfl, rfl, Or.inl rfl⟩, r0, r1⟩
  · rw [if_neg c]
    have s := lv_mod (x := lvDr r / 8) (m := a 1) (by omega)
    by_cases c2 : lvDr (lvDr r) / 8 % 16 < a 2
    · rw [if_pos c2]; exact ⟨lvQ_g hW s.1 s.2, lvDr_b _⟩
    · rw [if_neg c2]; exact ⟨lvK_g hW s.1 s.2, lvDr_b _⟩
/-- a step's numbers can be -/
def lvV (a : qB) (k x y : Int) : Prop := (k = 0 ∨ k = 1 → 0 ≤ x ∧ x < a 1) ∧ (k = 2 → 1 ≤ x ∧ x ≤ 40) ∧ (k = 3 → (0 ≤ x ∧ x < a 0) ∧ 0 ≤ y ∧ y ≤ 9)
theorem lvD_g (hW : qwf B a) {k x y r : Int} (hV : lvV a k x y) (r0 : 0 ≤ r) (r1 : r < 65536) : lvG B a ((lvD k x y a r).1, (lvD k x y a r).2.2) ∧ 0 ≤ (lvD k x y a r).2.1 ∧ (lvD k x y a r).2.1 < 65536 := by
  unfold lvD
  by_cases c0 : k = 0
  · rw [if_pos c0]
    have := hV.1 (Or.inl c0)
    exact ⟨lvQ_g hW this.1 this.2, r0, r1⟩
  · rw [if_neg c0]
    by_cases c1 : k = 1
    · rw [if_pos c1]
      have := hV.1 (Or.inr c1)
      exact ⟨lvK_g hW this.1 this.2, r0, r1⟩
    · rw [if_neg c1]
      by_cases c2 : k = 2
      · rw [if_pos c2]
        have := hV.2.1 c2
        exact ⟨lvT_g hW (by omega), r0, r1⟩
      · rw [if_neg c2]
        by_cases c3 : k = 3
        · rw [if_pos c3]
          have := hV.2.2 c3
          exact ⟨lvC_g hW this.1.1 this.1.2 this.2.1 this.2.2, r0, r1⟩
        · rw [if_neg c3]; exact lvY_g hW r0 r1
end Lw
def stepOK (n m : Int) (D : Int → Int → Int) (C : Nat → Int → Int) (s l : Int) : Prop :=
  (0 ≤ D s 0 ∧ D s 0 ≤ 7) ∧
  (D s 0 = 0 → C 0 l = 8 ∧ C 1 l = D s 1 ∧ 0 ≤ D s 1 ∧ D s 1 < m) ∧
  (D s 0 = 1 → C 0 l = 9 ∧ C 1 l = D s 1 ∧ 0 ≤ D s 1 ∧ D s 1 < m) ∧
  (D s 0 = 2 → C 0 l = 10 ∧ C 1 l = D s 1 ∧ 1 ≤ D s 1 ∧ D s 1 ≤ 40) ∧
  (D s 0 = 3 → C 0 l = 11 ∧ C 1 l = D s 1 ∧ C 2 l = D s 2 ∧ 0 ≤ D s 1 ∧ D s 1 < n ∧ 0 ≤ D s 2 ∧ D s 2 ≤ 9) ∧
  (D s 0 = 4 → C 0 l = 12) ∧
  (D s 0 = 5 → (0 ≤ D s 5 ∧ D s 5 ≤ 3) ∧ (D s 5 = 0 → C 0 l = 14 ∧ C 1 l = D s 1 ∧ 0 ≤ D s 1 ∧ D s 1 < n) ∧ (D s 5 = 1 → C 0 l = 15 ∧ C 1 l = D s 1 ∧ C 2 l = D s 2 ∧ 0 ≤ D s 1 ∧ D s 1 < n) ∧ (D s 5 = 2 → C 0 l = 5 ∧ C 1 l = D s 1 ∧ C 2 l = D s 6 ∧ C 3 l = D s 7 ∧ 0 ≤ D s 1 ∧ D s 1 < m) ∧ (D s 5 = 3 → C 0 l = 3 ∧ C 1 l = D s 1 ∧ C 2 l = D s 6 ∧ C 3 l = D s 7 ∧ 0 ≤ D s 1 ∧ D s 1 < n)) ∧
  (D s 0 = 6 → C 0 l = 16 ∧ C 1 l = D s 1 ∧ 1 ≤ D s 1 ∧ D s 1 ≤ 99) ∧
  (D s 0 = 7 → C 0 l = 18)
theorem stepOK_V {n m : Int} {D : Int → Int → Int} {C : Nat → Int → Int} {s l : Int} (h : stepOK n m D C s l) {a : qB} (hn : n ≤ a 0) (hm : m ≤ a 1) : lvV a (D s 0) (D s 1) (D s 2) := by
  obtain ⟨_, h0, h1, h2, h3, _⟩ := h
  refine ⟨fun c => ?_, fun c => ?_, fun c => ?_⟩
  · rcases c with c | c
    · have := h0 c; omega
    · have := h1 c; omega
  · have := h2 c; omega
  · have := h3 c; omega
abbrev PL (i q : Nat) : Nat → Nat → Nat → Prop := fun c' i' j => (c' = 5 ∧ i' = i ∧ (j = 3 ∨ j = 5)) ∨ (c' = 7 ∧ i' = q ∧ 1 ≤ j)
section Lc
variable {d : Nat} {R : Option qV → qH → Prop} {h : qH} {a : qB} {B : Int} {i q : Nat}
theorem x_draw {r m : Int} (h3 : h 5 i 3 0 = r) (r0 : 0 ≤ r) (r1 : r < 65536) (m0 : 0 < m) (hR : R (some (qi (lvDr r / 8 % m))) (qup h 5 i 3 0 (lvDr r))) : qT (d + 1) 33 0 [qo 5 i, qi m] [] h R := by
  have b := lvDr_b r
  refine sX5_draw_0 ?_
  rw [up_at, h3]
  have e : (r * 2971 + 10949) % 65536 = lvDr r := rfl
  rw [e]
  exact ⟨qR_of (by omega) (by omega), qR_of (by omega) (by omega), by omega, fun c => absurd c (by omega), fun _ => ⟨by omega, by omega, hR⟩⟩
theorem x_doAny {r : Int} (hQ : qQX h q a) (hW : qwf B a) (hB : B < 2000000000) (h3 : h 5 i 3 0 = r) (r0 : 0 ≤ r) (r1 : r < 65536) (hR : ∀ h', qQX h' q (lvY a r).1 → h' 5 i 3 0 = (lvY a r).2.1 → h' 5 i 5 = h 5 i 5 → fr (PL i q) h h' → R (some (qi (lvY a r).2.2)) h') : qT (d + 4) 32 0 [qo 5 i, qo 7 q, qu] [] h R := by
  have hm := wf_m hW
  refine sX5_doAny_0 ?_
  rw [qx_m hQ]
  unfold lvY at hR
  by_cases c : a 1 = 0
  · rw [if_pos c] at hR
    exact ⟨fun c2 => absurd c c2, fun _ => ⟨by omega, hR h hQ h3 rfl fr_rfl⟩⟩
  · rw [if_neg c] at hR
    have b1 := lvDr_b r
    have sm := lv_mod (x := lvDr r / 8) (m := a 1) (by omega)
    refine ⟨fun _ => x_draw h3 r0 r1 (by omega) (x_draw up_at b1.1 b1.2 (by omega) ?_), fun c2 => absurd c c2⟩
    have hQ' : qQX (qup (qup h 5 i 3 0 (lvDr r)) 5 i 3 0 (lvDr (lvDr r))) q a := qx_fr hQ (by funext j; rw [up_j (by omega), up_j (by omega)])
    have f0 : fr (PL i q) h (qup (qup h 5 i 3 0 (lvDr r)) 5 i 3 0 (lvDr (lvDr r))) := fr_trans (fr_up (Or.inl ⟨rfl, rfl, by omega⟩)) (fr_up (Or.inl ⟨rfl, rfl, by omega⟩))
    have k3 : (qup (qup h 5 i 3 0 (lvDr r)) 5 i 3 0 (lvDr (lvDr r))) 5 i 3 0 = lvDr (lvDr r) := up_at
    have k5 : (qup (qup h 5 i 3 0 (lvDr r)) 5 i 3 0 (lvDr (lvDr r))) 5 i 5 = h 5 i 5 := by rw [up_j (by omega), up_j (by omega)]
    dsimp only [qri]
    rw [qx_odds hQ']
    have e7 : ∀ g, qf7 q (qup (qup h 5 i 3 0 (lvDr r)) 5 i 3 0 (lvDr (lvDr r))) g → g 5 i 3 0 = lvDr (lvDr r) ∧ g 5 i 5 = h 5 i 5 ∧ fr (PL i q) h g := fun g hf => ⟨by rw [hf.1 5 i (by omega)]; exact k3, by rw [hf.1 5 i (by omega)]; exact k5, fr_trans f0 (fr_f7 hf (fun j hj => Or.inr ⟨rfl, rfl, hj⟩))⟩
    refine ⟨fun c2 => ?_, fun c2 => ?_⟩
    · rw [if_neg (by omega)] at hR
      refine x_tryMakeUp hQ' hW hB sm.1 sm.2 (fun hq g hQg hf => ⟨by omega, ?_⟩) (fun hq => ⟨by omega, ?_⟩)
      · rw [lvK_t hq] at hR
        have e := e7 g hf
        exact hR g hQg e.1 e.2.1 e.2.2
      · rw [lvK_f hq] at hR
        have e := e7 _ qf7_rfl
        exact hR _ hQ' e.1 e.2.1 e.2.2
    · rw [if_pos (by omega)] at hR
      refine x_tryQuarrel hQ' hW hB sm.1 sm.2 (fun hq g hQg hf => ⟨by omega, ?_⟩) (fun hq => ⟨by omega, ?_⟩)
      · rw [lvQ_t hq] at hR
        have e := e7 g hf
        exact hR g hQg e.1 e.2.1 e.2.2
      · rw [lvQ_f hq] at hR
        have e := e7 _ qf7_rfl
        exact hR _ hQ' e.1 e.2.1 e.2.2
theorem x_stands {x y z : Int} (h1 : lvSt x y z → R (some (qi 1)) h) (h0 : ¬ lvSt x y z → R (some (qi 0)) h) : qT (d + 1) 35 0 [qo 5 i, qi x, qi y, qi z] [] h R := by
  unfold lvSt at h1 h0
  refine sX5_stands_0 ⟨fun c1 => ⟨fun c2 => ⟨fun c3 => ⟨by omega, h0 (by omega)⟩, fun c3 => ⟨by omega, h1 (by omega)⟩⟩, fun c2 => ⟨fun c3 => ⟨by omega, h0 (by omega)⟩, fun c3 => ⟨by omega, h1 (by omega)⟩⟩⟩, fun c1 => ⟨fun c3 => ⟨by omega, h0 (by omega)⟩, fun c3 => ⟨by omega, h1 (by omega)⟩⟩⟩
theorem x_holds {n m s l : Int} {D : Int → Int → Int} {C : Nat → Int → Int} (hQ : qQX h q a) (hW : qwf B a) (hC : ∀ j, C j l = h 1 0 j (Int.toNat l)) (hS : stepOK n m D C s l) (hn : n ≤ a 0) (hm : m ≤ a 1) (hk : D s 0 = 5) (l0 : 0 ≤ l) (l1 : l < 60) (h1 : lvHo (D s 5) (D s 1) (D s 2) (D s 6) (D s 7) a → R (some (qi 1)) h) (h0 : ¬ lvHo (D s 5) (D s 1) (D s 2) (D s 6) (D s 7) a → R (some (qi 0)) h) : qT (d + 2) 34 0 [qo 5 i, qo 7 q, qo 1 0, qi l, qu] [] h R := by
  have hN := wf_n hW
  have hM := wf_m hW
  obtain ⟨⟨t0, t3⟩, s0, s1, s2, s3⟩ := hS.2.2.2.2.2.2.1 hk
  refine sX5_holds_0 ?_
  rw [← hC 0, ← hC 1]
  unfold lvHo at h1 h0
  have ht : D s 5 = 0 ∨ D s 5 = 1 ∨ D s 5 = 2 ∨ D s 5 = 3 := by omega
  refine ⟨by omega, by omega, ?_⟩
  rcases ht with e | e | e | e
  · obtain ⟨c0, c1, c2, c3⟩ := s0 e
    rw [c0, c1]
    refine ⟨fun c => absurd c (by decide), fun _ => ⟨fun _ => x_hasPerson hQ (fun _ _ => ⟨fun c => absurd c (by decide), fun _ => ⟨by omega, ?_⟩⟩) (fun c => absurd ⟨c2, by omega⟩ c), fun c => absurd rfl c⟩⟩
    rw [qx_live hQ hW c2 (by omega)]
    exact ⟨fun c => ⟨by omega, h0 (by omega)⟩, fun c => ⟨by omega, h1 (by omega)⟩⟩
  · obtain ⟨c0, c1, cc, c2, c3⟩ := s1 e
    rw [c0, c1]
    refine ⟨fun c => absurd c (by decide), fun _ => ⟨fun c => absurd c (by decide), fun _ => ⟨fun _ => x_hasPerson hQ (fun _ _ => ⟨fun c => absurd c (by decide), fun _ => ⟨by omega, by omega, ?_⟩⟩) (fun c => absurd ⟨c2, by omega⟩ c), fun c => absurd rfl c⟩⟩⟩
    rw [qx_live hQ hW c2 (by omega), ← hC 2, cc]
    exact ⟨fun c => ⟨by omega, h0 (by omega)⟩, fun c => ⟨by omega, h1 (by omega)⟩⟩
  · obtain ⟨c0, c1, cc, cd, c2, c3⟩ := s2 e
    rw [c0, c1]
    refine ⟨fun _ => x_hasStair hQ (fun _ _ => ⟨fun c => absurd c (by decide), fun _ => ⟨by omega, by omega, by omega, ?_⟩⟩) (fun c => absurd ⟨c2, by omega⟩ c), fun c => absurd rfl c⟩
    rw [qx_grud hQ hW c2 (by omega), ← hC 2, ← hC 3, cc, cd]
    refine x_stands (fun hs => ⟨fun c => absurd c (by decide), fun _ => ⟨by omega, h1 (Or.inr (Or.inr (Or.inl ⟨e, hs⟩)))⟩⟩) (fun hs => ⟨fun _ => ⟨by omega, h0 ?_⟩, fun c => absurd rfl c⟩)
    rintro (⟨e2, _⟩ | ⟨e2, _⟩ | ⟨_, e2⟩ | ⟨e2, _⟩)
    · omega
    · omega
    · exact hs e2
    · omega
  · obtain ⟨c0, c1, cc, cd, c2, c3⟩ := s3 e
    rw [c0, c1]
    refine ⟨fun c => absurd c (by decide), fun _ => ⟨fun c => absurd c (by decide), fun _ => ⟨fun c => absurd c (by decide), fun _ => x_hasPerson hQ (fun _ _ => ⟨fun c => absurd c (by decide), fun _ => ⟨by omega, by omega, by omega, ?_⟩⟩) (fun c => absurd ⟨c2, by omega⟩ c)⟩⟩⟩
    rw [qx_temp hQ hW c2 (by omega), ← hC 2, ← hC 3, cc, cd]
    refine x_stands (fun hs => ⟨fun c => absurd c (by decide), fun _ => ⟨by omega, h1 (Or.inr (Or.inr (Or.inr ⟨e, hs⟩)))⟩⟩) (fun hs => ⟨fun _ => ⟨by omega, h0 ?_⟩, fun c => absurd rfl c⟩)
    rintro (⟨e2, _⟩ | ⟨e2, _⟩ | ⟨e2, _⟩ | ⟨_, e2⟩)
    · omega
    · omega
    · omega
    · exact hs e2
end Lc
