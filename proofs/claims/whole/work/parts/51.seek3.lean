section FS3
variable {d : Nat} {R : Option qV → qH → Prop} {h : qH} {a : qB} {B : Int} {per hou : Int → Int} {nn : Int} {wn : Int → Int}
theorem fN_none {n0 : Int} (hE : ∀ b', qwf B b' → b' 0 = n0 → ¬ fB per hou nn b' = true) : ∀ (k : Nat) (b : qB), qwf B b → b 0 = n0 → fN per hou nn k b = 0 := by
  intro k
  induction k with
  | zero => intro b hW hb; exact if_neg (hE b hW hb)
  | succ k ih =>
    intro b hW hb
    have : fN per hou nn (k + 1) b = qsum (fun _ => 0) (b 1) := qsum_c (fun s s0 s1 => ih _ (aOn_wf hW s0 s1) (by rw [aOn_hi hW s0 s1 (by omega)]; exact hb))
    rw [this, qsum_z _ (wf_m hW).1]
theorem qsum_cut {f : Int → Int} {n : Int} (n0 : 0 ≤ n) : ∀ k : Int, 0 ≤ k → qsum (fun q => if q < n then f q else 0) (n + k) = qsum f n := by
  apply q_ind
  · rw [Int.add_zero]
    exact qsum_c (fun x x0 x1 => if_pos x1)
  · intro k hk ih
    rw [← Int.add_assoc, qsum_s (by omega), ih, if_neg (by omega), Int.add_zero]
abbrev PS : Nat → Nat → Nat → Prop := fun c i j => (c = 3 ∧ i = 0) ∨ (c = 7 ∧ i = 0 ∧ 1 ≤ j)
theorem x_seek {K fo : Int} {k : Nat} (hk : K = k) (hK : K ≤ 5) (hfo : fo = 0 ∨ fo = 1) (hQ : qQX h 0 a) (hW : qwf B a) (hwn : ∀ p, 0 ≤ p → p < 7 → h 3 0 0 (Int.toNat p) = wn p) (hE : h 3 0 5 0 = 0 → ∀ b', qwf B b' → b' 0 = a 0 → (fB per hou nn b' = true ↔ fWr wn b' = 0)) (hC : h 3 0 5 0 ≠ 0 → ∀ b', qwf B b' → b' 0 = a 0 → ¬ fB per hou nn b' = true) (hR : ∀ h', qQX h' 0 a → fr PS h h' → (fo = 0 → h' 3 0 8 0 = fN per hou nn k a ∧ ∀ x, 0 ≤ x → x < 49 → h' 3 0 2 (Int.toNat x) = fT per hou nn x k a) → (h' 3 0 8 0 ≠ 0 ↔ 0 < fN per hou nn k a) → (0 < fN per hou nn k a → fF per hou nn (fun i => h' 3 0 4 (Int.toNat i)) k a 0) → R none h') : qT (d + 11) 21 0 [qo 3 0, qo 7 0, qi K, qi fo, qu, qu, qu] [] h R := by
  have hn := wf_n hW
  refine sX3_seek_0 ⟨hfo, ?_⟩
  let g0 : qH := qup (qup (qup h 3 0 8 0 0) 3 0 7 0 K) 3 0 6 0 fo
  have fg0 : fr (fun c i j => c = 3 ∧ i = 0 ∧ (j = 6 ∨ j = 7 ∨ j = 8)) h g0 := fr_trans (fr_up ⟨rfl, rfl, by omega⟩) (fr_trans (fr_up ⟨rfl, rfl, by omega⟩) (fr_up ⟨rfl, rfl, by omega⟩))
  have g08 : g0 3 0 8 0 = 0 := by
    show qup (qup (qup h 3 0 8 0 0) 3 0 7 0 K) 3 0 6 0 fo 3 0 8 0 = 0
    rw [up_j (by omega), up_j (by omega), up_at]
  have g07 : g0 3 0 7 0 = K := by
    show qup (qup (qup h 3 0 8 0 0) 3 0 7 0 K) 3 0 6 0 fo 3 0 7 0 = K
    rw [up_j (by omega), up_at]
  have g06 : g0 3 0 6 0 = fo := up_at
  show qT (d + 11) 21 21 [qo 3 0, qo 7 0, qi K, qi fo, qi 0, qi 0, qu] [] g0 R
  generalize g0 = g0 at fg0 g08 g07 g06
  have W0 : ∀ p, 0 ≤ p → p ≤ 7 → 0 ≤ qsum (fun q => if q < a 0 then fMis wn q (a (14 + q)) else 0) p ∧ qsum (fun q => if q < a 0 then fMis wn q (a (14 + q)) else 0) p ≤ p := by
    intro p p0 p7
    have := qsum_b (f := fun q => if q < a 0 then fMis wn q (a (14 + q)) else 0) (V := 1) p p0 (fun x x0 x1 => by
      have := fMis_b wn x (a (14 + x))
      show 0 ≤ (if x < a 0 then fMis wn x (a (14 + x)) else 0) ∧ (if x < a 0 then fMis wn x (a (14 + x)) else 0) ≤ _
      split <;> omega)
    omega
  have eW : qsum (fun q => if q < a 0 then fMis wn q (a (14 + q)) else 0) 7 = fWr wn a := by
    have := qsum_cut (f := fun q => fMis wn q (a (14 + q))) hn.1 (7 - a 0) (by omega)
    rwa [show a 0 + (7 - a 0) = 7 by omega] at this
  refine q_up (n := 7) (C := fun p => p ≤ 7 → ∀ g z, fr (fun c i j => c = 3 ∧ i = 0 ∧ (j = 1 ∨ j = 2)) g0 g → (∀ x, 0 ≤ x → x < p * 7 → g 3 0 1 (Int.toNat x) = fMis wn (x / 7) (x % 7) ∧ g 3 0 2 (Int.toNat x) = 0) → qT (d + 11) 21 21 [qo 3 0, qo 7 0, qi K, qi fo, qi (qsum (fun q => if q < a 0 then fMis wn q (a (14 + q)) else 0) p), qi p, z] [] g R) ?_ 0 (by omega) (by omega) g0 _ fr_rfl (fun x x0 x1 => absurd x1 (by omega))
  intro p hp ih hp7 g z hf hg
  have wb := W0 p hp hp7
  have f0 : fr (fun c i j => c = 3 ∧ i = 0 ∧ (j = 6 ∨ j = 7 ∨ j = 8 ∨ j = 1 ∨ j = 2)) h g := fr_trans (fr_mono fg0 (fun c i j hP => ⟨hP.1, hP.2.1, by omega⟩)) (fr_mono hf (fun c i j hP => ⟨hP.1, hP.2.1, by omega⟩))
  have fS : fr PS h g := fr_mono f0 (fun c i j hP => Or.inl ⟨hP.1, hP.2.1⟩)
  have hQ' : qQX g 0 a := qx_fr hQ (by funext j; exact f0 7 0 j (by omega))
  have g5 : g 3 0 5 0 = h 3 0 5 0 := by rw [f0 3 0 5 (by omega)]
  have g8 : g 3 0 8 0 = 0 := by rw [hf 3 0 8 (by omega)]; exact g08
  have g7 : g 3 0 7 0 = K := by rw [hf 3 0 7 (by omega)]; exact g07
  have g6 : g 3 0 6 0 = fo := by rw [hf 3 0 6 (by omega)]; exact g06
  refine sX3_seek_21 ⟨fun c => ?_, fun c => ?_⟩
  · have e7 : p = 7 := by omega
    subst e7
    rw [eW]
    have hT0 : ∀ x, 0 ≤ x → x < 49 → g 3 0 2 (Int.toNat x) = 0 := fun x x0 x1 => (hg x x0 (by omega)).2
    have hmt : fMT g wn := by
      intro p v p0 p1 v0 v1
      have := (hg (p * 7 + v) (by omega) (by omega)).1
      rwa [show (p * 7 + v) / 7 = p by omega, show (p * 7 + v) % 7 = v by omega] at this
    rw [g5]
    refine ⟨fun c1 => ⟨fun c2 => ⟨fun c3 => ?_, fun c3 => ?_⟩, fun c2 => ?_⟩, fun c1 => ?_⟩
    · have ek : k = 0 := by omega
      subst ek
      have z1 : fN per hou nn 0 a = 0 := if_neg (fun e => c3 ((hE c1 a hW rfl).mp e))
      have z2 : ∀ x, fT per hou nn x 0 a = 0 := fun x => if_neg (fun e => c3 ((hE c1 a hW rfl).mp e))
      exact hR g hQ' fS (fun _ => ⟨by rw [g8, z1], fun x x0 x1 => by rw [hT0 x x0 x1, z2]⟩) (by rw [g8, z1]; omega) (fun c => absurd c (by omega))
    · have ek : k = 0 := by omega
      subst ek
      have fit : fB per hou nn a = true := (hE c1 a hW rfl).mpr (by omega)
      have z1 : fN per hou nn 0 a = 1 := if_pos fit
      refine x_addToTally (b := a) (T := fun _ => 0) (qx_fr hQ' (by funext j; exact up_j (by omega))) hW (fun x x0 x1 => ⟨by rw [up_j (by omega)]; exact hT0 x x0 x1, by omega⟩) (by omega) (by omega) (fun g' hf' k2 => ?_)
      have f' : fr PS h g' := fr_trans fS (fr_trans (fr_up (Or.inl ⟨rfl, rfl⟩)) (fr_mono hf' (fun c i j hP => Or.inl ⟨hP.1, hP.2.1⟩)))
      have e8 : g' 3 0 8 0 = 1 := by rw [hf' 3 0 8 (by omega), up_at]
      refine hR g' (qx_fr hQ' (by funext j; rw [hf' 7 0 j (by omega)]; exact up_j (by omega))) f' (fun _ => ⟨by rw [e8, z1], fun x x0 x1 => ?_⟩) (by rw [e8, z1]; omega) (fun _ => trivial)
      have z2 : fT per hou nn x 0 a = fD a x := if_pos fit
      rw [k2 x x0 x1, z2]
      show 0 + fDr a x 1 = fD a x
      rw [Int.zero_add]
      rfl
    · obtain ⟨k', rfl⟩ : ∃ k', k = k' + 1 := ⟨k - 1, by omega⟩
      have p10 : (10 : Nat) ^ (k' + 1) ≤ 10 ^ 5 := Nat.pow_le_pow_right (by decide) (by omega)
      have T := x_seekOn (B := B) (per := per) (hou := hou) (nn := nn) (wn := wn) (n0 := a 0) (K := K) (fo := fo) (hE c1) hK k' (d := d + 5 - k') (R := fun v g => qrv v (R none g)) (h := g) (b := a) (c0 := 0) (T := fun _ => 0) 0 (by omega) (by omega) rfl hQ' hW hmt g7 g6 g8 (fun x x0 x1 => ⟨hT0 x x0 x1, by omega, by omega⟩) (by omega) (by omega) (fun _ => rfl) (fun g' hP => ?_)
      · rw [show d + 5 - k' + k' + 5 = d + 10 by omega] at T
        rw [hk]
        exact T
      · obtain ⟨pQ, pf, pb, pz, pt, pp, p3, p4, pF⟩ := hP
        refine hR g' pQ (fr_trans fS (fr_mono pf (fun c i j hP => ?_))) (fun c => ⟨by rw [(pz c).1]; omega, fun x x0 x1 => ?_⟩) ⟨fun c => by omega, fun c => by have := pp rfl c; omega⟩ (fun c => (pF rfl c).2)
        · rcases hP with hP | hP
          · exact Or.inl ⟨hP.1, hP.2.1⟩
          · exact Or.inr hP
        · have := (pz c).2 x x0 x1
          dsimp only at this
          rw [this]; omega
    · have z1 := fN_none (hC c1) k a hW rfl
      refine hR g hQ' fS (fun _ => ⟨by rw [g8, z1], fun x x0 x1 => ?_⟩) (by rw [g8, z1]; omega) (fun c => absurd c (by omega))
      have := fT_b (per := per) (hou := hou) (nn := nn) (x := x) k a hW
      rw [hT0 x x0 x1]; omega
  · have hp' : p < 7 := by omega
    refine q_up (n := 7) (C := fun v => v ≤ 7 → ∀ g, fr (fun c i j => c = 3 ∧ i = 0 ∧ (j = 1 ∨ j = 2)) g0 g → (∀ x, 0 ≤ x → x < p * 7 + v → g 3 0 1 (Int.toNat x) = fMis wn (x / 7) (x % 7) ∧ g 3 0 2 (Int.toNat x) = 0) → qT (d + 11) 21 31 [qo 3 0, qo 7 0, qi K, qi fo, qi (qsum (fun q => if q < a 0 then fMis wn q (a (14 + q)) else 0) p), qi p, qi v] [] g R) ?_ 0 (by omega) (by omega) g hf (fun x x0 x1 => hg x x0 (by omega))
    intro v hv ihv hv7 g hf hg
    have f0 : fr (fun c i j => c = 3 ∧ i = 0 ∧ (j = 6 ∨ j = 7 ∨ j = 8 ∨ j = 1 ∨ j = 2)) h g := fr_trans (fr_mono fg0 (fun c i j hP => ⟨hP.1, hP.2.1, by omega⟩)) (fr_mono hf (fun c i j hP => ⟨hP.1, hP.2.1, by omega⟩))
    have hQ' : qQX g 0 a := qx_fr hQ (by funext j; exact f0 7 0 j (by omega))
    have g0p : g 3 0 0 (Int.toNat p) = wn p := by rw [f0 3 0 0 (by omega)]; exact hwn p hp (by omega)
    refine sX3_seek_31 ⟨fun c => ?_, fun c => ⟨qR_of (by omega) (by omega), qR_of (by omega) (by omega), by omega, ?_⟩⟩
    · have ev : v = 7 := by omega
      subst ev
      refine x_hasPerson hQ' (fun c1 c2 => ⟨fun c3 => absurd c3 (by decide), fun _ => ?_⟩) (fun c1 => ⟨fun _ => ?_, fun c3 => absurd rfl c3⟩)
      · have hl := wf_live hW hp c2
        have m1 := (hg (p * 7 + a (14 + p)) (by omega) (by omega)).1
        rw [show (p * 7 + a (14 + p)) / 7 = p by omega, show (p * 7 + a (14 + p)) % 7 = a (14 + p) by omega] at m1
        rw [qx_live hQ' hW hp c2, m1]
        have mb := fMis_b wn p (a (14 + p))
        have := ih (by omega) (by omega) g (qi 7) hf (fun x x0 x1 => hg x x0 (by omega))
        rw [qsum_s hp, if_pos c2] at this
        exact ⟨qR_of (by omega) (by omega), by omega, qR_of (by omega) (by omega), by omega, qR_of (by omega) (by omega), qR_of (by omega) (by omega), this⟩
      · have := ih (by omega) (by omega) g (qi 7) hf (fun x x0 x1 => hg x x0 (by omega))
        rw [qsum_s hp, if_neg (by omega)] at this
        exact ⟨qR_of (by omega) (by omega), qR_of (by omega) (by omega), this⟩
    · rw [g0p]
      have next : ∀ mv, mv = fMis wn p v → qT (d + 11) 21 31 [qo 3 0, qo 7 0, qi K, qi fo, qi (qsum (fun q => if q < a 0 then fMis wn q (a (14 + q)) else 0) p), qi p, qi (v + 1)] [] (qup (qup g 3 0 1 (Int.toNat (p * 7 + v)) mv) 3 0 2 (Int.toNat (p * 7 + v)) 0) R := by
        intro mv emv
        refine ihv (by omega) (by omega) _ (fr_trans hf (fr_trans (fr_up ⟨rfl, rfl, by omega⟩) (fr_up ⟨rfl, rfl, by omega⟩))) (fun x x0 x1 => ?_)
        rw [up_j (by omega), up_I x0 (by omega), up_I x0 (by omega), up_j (by omega)]
        by_cases e : x = p * 7 + v
        · rw [if_pos e, if_pos e, emv, e, show (p * 7 + v) / 7 = p by omega, show (p * 7 + v) % 7 = v by omega]
          exact ⟨rfl, rfl⟩
        · rw [if_neg e, if_neg e]
          exact hg x x0 (by omega)
      refine ⟨fun c1 => ⟨by omega, qR_of (by omega) (by omega), qR_of (by omega) (by omega), by omega, qR_of (by omega) (by omega), next 0 ?_⟩, fun c1 => ⟨by omega, fun c2 => ⟨by omega, qR_of (by omega) (by omega), qR_of (by omega) (by omega), by omega, qR_of (by omega) (by omega), next 1 ?_⟩, fun c2 => ⟨by omega, qR_of (by omega) (by omega), qR_of (by omega) (by omega), by omega, qR_of (by omega) (by omega), next 0 ?_⟩⟩⟩
      · unfold fMis; rw [if_pos (Or.inl c1)]
      · unfold fMis; rw [if_neg (by omega)]
      · unfold fMis; rw [if_pos (by omega)]
abbrev PW : Nat → Nat → Nat → Prop := fun c i j => c = 3 ∧ i = 0 ∧ (j = 0 ∨ j = 5)
theorem x_want {t : Nat} {n : Int} (nn0 : 0 ≤ nn) (nn1 : nn ≤ 20) (n0 : 0 ≤ n) (n7 : n ≤ 7) (hp : ∀ i, 0 ≤ i → i < nn → h 10 t 0 (Int.toNat (2 * i)) = per i ∧ h 10 t 0 (Int.toNat (2 * i + 1)) = hou i) (h1 : (∀ i, 0 ≤ i → i < nn → (0 ≤ per i ∧ per i < n) ∧ (0 ≤ hou i ∧ hou i < n)) → ∀ h', fr PW h h' → (h' 3 0 5 0 = 0 → fWn per hou nn (fun p => h' 3 0 0 (Int.toNat p))) → (h' 3 0 5 0 ≠ 0 → ∃ i j, 0 ≤ i ∧ i < nn ∧ 0 ≤ j ∧ j < nn ∧ per i = per j ∧ hou i ≠ hou j) → R (some (qi 1)) h') (h0 : ¬ (∀ i, 0 ≤ i → i < nn → (0 ≤ per i ∧ per i < n) ∧ (0 ≤ hou i ∧ hou i < n)) → ∀ h', fr PW h h' → R (some (qi 0)) h') : qT (d + 1) 20 0 [qo 3 0, qo 10 t, qi nn, qi n, qu, qu, qu, qu, qu, qu] [] h R := by
  refine sX3_want_0 ⟨by omega, ?_⟩
  have main : ∀ i, 0 ≤ i → i ≤ nn → ∀ g z1 z2 z3, fr PW h g → (∀ i', 0 ≤ i' → i' < i → (0 ≤ per i' ∧ per i' < n) ∧ (0 ≤ hou i' ∧ hou i' < n)) → (g 3 0 5 0 = 0 → (∀ i', 0 ≤ i' → i' < i → g 3 0 0 (Int.toNat (per i')) = hou i') ∧ ∀ p, 0 ≤ p → p < 7 → g 3 0 0 (Int.toNat p) ≠ -1 → ∃ i', 0 ≤ i' ∧ i' < i ∧ per i' = p ∧ hou i' = g 3 0 0 (Int.toNat p)) → (g 3 0 5 0 ≠ 0 → ∃ i' j, 0 ≤ i' ∧ i' < nn ∧ 0 ≤ j ∧ j < nn ∧ per i' = per j ∧ hou i' ≠ hou j) → qT (d + 1) 20 32 [qo 3 0, qo 10 t, qi nn, qi n, qi i, z1, qu, z2, qu, z3] [] g R := by
    intro i hi
    refine q_up (n := nn) (C := fun i => i ≤ nn → ∀ g z1 z2 z3, fr PW h g → (∀ i', 0 ≤ i' → i' < i → (0 ≤ per i' ∧ per i' < n) ∧ (0 ≤ hou i' ∧ hou i' < n)) → (g 3 0 5 0 = 0 → (∀ i', 0 ≤ i' → i' < i → g 3 0 0 (Int.toNat (per i')) = hou i') ∧ ∀ p, 0 ≤ p → p < 7 → g 3 0 0 (Int.toNat p) ≠ -1 → ∃ i', 0 ≤ i' ∧ i' < i ∧ per i' = p ∧ hou i' = g 3 0 0 (Int.toNat p)) → (g 3 0 5 0 ≠ 0 → ∃ i' j, 0 ≤ i' ∧ i' < nn ∧ 0 ≤ j ∧ j < nn ∧ per i' = per j ∧ hou i' ≠ hou j) → qT (d + 1) 20 32 [qo 3 0, qo 10 t, qi nn, qi n, qi i, z1, qu, z2, qu, z3] [] g R) ?_ i hi
    intro i hi ih hin g z1 z2 z3 hf hr hA hC
    have ht : g 10 t 0 = h 10 t 0 := hf 10 t 0 (by omega)
    refine sX3_want_32 ⟨fun c => ⟨by omega, h1 (fun i' i0 i1 => hr i' i0 (by omega)) g hf (fun c2 => ⟨fun i' i0 i1 => (hA c2).1 i' i0 (by omega), fun p p0 p1 p2 => ?_⟩) hC⟩, fun c => ?_⟩
    · obtain ⟨i', e0, e1, e2, e3⟩ := (hA c2).2 p p0 p1 p2
      exact ⟨i', e0, by omega, e2, e3⟩
    · have hpi := hp i hi (by omega)
      rw [ht, hpi.1, hpi.2]
      have no : ¬ ((0 ≤ per i ∧ per i < n) ∧ (0 ≤ hou i ∧ hou i < n)) → R (some (qi 0)) g := fun e => h0 (fun e2 => e (e2 i hi (by omega))) g hf
      refine ⟨qR_of (by omega) (by omega), by omega, qR_of (by omega) (by omega), qR_of (by omega) (by omega), by omega, fun c1 => ⟨by omega, no (by rw [qlcmp_lt] at c1; omega)⟩, fun c1 => ⟨fun c2 => ⟨by omega, no (by rw [qlcmp_ge] at c2; omega)⟩, fun c2 => ⟨fun c3 => ⟨by omega, no (by rw [qlcmp_lt] at c3; omega)⟩, fun c3 => ⟨fun c4 => ?_, fun c4 => ⟨by omega, no (by rw [qlcmp_lt] at c4; omega)⟩⟩⟩⟩⟩
      rw [qlcmp_lt] at c1 c3 c4
      rw [qlcmp_ge] at c2
      rw [ql2i_s (by omega : 0 ≤ per i) (by omega), ql2i_s (by omega : 0 ≤ hou i) (by omega)]
      have pi0 : 0 ≤ per i := by omega
      have next : ∀ cl : Int, (cl = 0 → g 3 0 5 0 = 0 ∧ (g 3 0 0 (Int.toNat (per i)) = -1 ∨ g 3 0 0 (Int.toNat (per i)) = hou i)) → (cl ≠ 0 → ∃ i' j, 0 ≤ i' ∧ i' < nn ∧ 0 ≤ j ∧ j < nn ∧ per i' = per j ∧ hou i' ≠ hou j) → ∀ z1 z2 z3, qT (d + 1) 20 32 [qo 3 0, qo 10 t, qi nn, qi n, qi (i + 1), z1, qu, z2, qu, z3] [] (qup (qup g 3 0 5 0 cl) 3 0 0 (Int.toNat (per i)) (hou i)) R := by
        intro cl hcl hcl1 z1 z2 z3
        have r5 : (qup (qup g 3 0 5 0 cl) 3 0 0 (Int.toNat (per i)) (hou i)) 3 0 5 0 = cl := by rw [up_j (by omega), up_at]
        have r0 : ∀ p, 0 ≤ p → (qup (qup g 3 0 5 0 cl) 3 0 0 (Int.toNat (per i)) (hou i)) 3 0 0 (Int.toNat p) = if p = per i then hou i else g 3 0 0 (Int.toNat p) := by
          intro p p0
          rw [up_I p0 pi0, up_j (by omega)]
        refine ih (by omega) (by omega) _ z1 z2 z3 (fr_trans hf (fr_trans (fr_up ⟨rfl, rfl, by omega⟩) (fr_up ⟨rfl, rfl, by omega⟩))) (fun i' i0 i1 => ?_) (fun c5 => ?_) (fun c5 => ?_)
        · by_cases e : i' = i
          · rw [e]; omega
          · exact hr i' i0 (by omega)
        · rw [r5] at c5
          have hc := hcl c5
          have hAA := hA hc.1
          refine ⟨fun i' i0 i1 => ?_, fun p p0 p1 p2 => ?_⟩
          · by_cases e : i' = i
            · rw [e, r0 _ pi0, if_pos rfl]
            · have q1 := hAA.1 i' i0 (by omega)
              have q2 := hr i' i0 (by omega)
              rw [r0 _ (by omega)]
              by_cases e2 : per i' = per i
              · rw [if_pos e2]
                rw [e2] at q1
                rcases hc.2 with q3 | q3 <;> omega
              · rw [if_neg e2]; exact q1
          · rw [r0 p p0] at p2 ⊢
            by_cases e2 : p = per i
            · rw [if_pos e2]
              exact ⟨i, hi, by omega, e2.symm, rfl⟩
            · rw [if_neg e2] at p2 ⊢
              obtain ⟨i', e0, e1, e2, e3⟩ := hAA.2 p p0 p1 p2
              exact ⟨i', e0, by omega, e2, e3⟩
        · rw [r5] at c5
          exact hcl1 c5
      refine ⟨by omega, fun c5 => ⟨by omega, by omega, qR_of (by omega) (by omega), next 1 (fun e => absurd e (by decide)) (fun _ => hC c5) _ _ _⟩, fun c5 => ⟨fun c6 => ⟨by omega, by omega, qR_of (by omega) (by omega), next 0 (fun _ => ⟨by omega, Or.inl c6⟩) (fun e => absurd rfl e) _ _ _⟩, fun c6 => ⟨fun c7 => ⟨by omega, by omega, qR_of (by omega) (by omega), next 0 (fun _ => ⟨by omega, Or.inr (qlcmp_eq.mp c7)⟩) (fun e => absurd rfl e) _ _ _⟩, fun c7 => ⟨by omega, by omega, qR_of (by omega) (by omega), next 1 (fun e => absurd e (by decide)) (fun _ => ?_) _ _ _⟩⟩⟩⟩
      obtain ⟨i', e0, e1, e2, e3⟩ := (hA (by omega)).2 (per i) pi0 (by omega) c6
      exact ⟨i', i, e0, by omega, hi, by omega, e2, fun e => c7 (qlcmp_eq.mpr (by omega))⟩
  refine q_up (n := 7) (C := fun y => y ≤ 7 → ∀ g, fr PW h g → g 3 0 5 0 = 0 → (∀ x, 0 ≤ x → x < y → g 3 0 0 (Int.toNat x) = -1) → qT (d + 1) 20 8 [qo 3 0, qo 10 t, qi nn, qi n, qi y, qu, qu, qu, qu, qu] [] g R) ?_ 0 (by omega) (by omega) _ (fr_up ⟨rfl, rfl, by omega⟩) up_at (fun x x0 x1 => absurd x1 (by omega))
  intro y hy ih hy7 g hf h5 hz
  refine sX3_want_8 ⟨fun c => main 0 (by omega) nn0 g _ _ _ hf (fun i' i0 i1 => absurd i1 (by omega)) (fun _ => ⟨fun i' i0 i1 => absurd i1 (by omega), fun p p0 p1 p2 => absurd (hz p p0 (by omega)) p2⟩) (fun c2 => absurd h5 c2), fun c => ⟨by omega, qR_of (by omega) (by omega), ih (by omega) (by omega) _ (fr_trans hf (fr_up ⟨rfl, rfl, by omega⟩)) (by rw [up_j (by omega)]; exact h5) (fun x x0 x1 => ?_)⟩⟩
  rw [up_I x0 hy]
  by_cases e : x = y
  · rw [if_pos e]
  · rw [if_neg e]; exact hz x x0 (by omega)
end FS3
