/-! reading: a FAULT and its place, or what was read -/
abbrev Rs (α : Type) : Type := (Int × Int) ⊕ α
def rb {α β : Type} (r : Rs α) (f : α → Rs β) : Rs β := match r with
  | .inl e => .inl e
  | .inr x => f x
theorem rb_l {α β : Type} {r : Rs α} {f : α → Rs β} {e : Int × Int} (h : r = .inl e) : rb r f = .inl e := by rw [h]; rfl
theorem rb_r {α β : Type} {r : Rs α} {f : α → Rs β} {x : α} (h : r = .inr x) : rb r f = f x := by rw [h]; rfl
def amF (b : Int → Int) (n p : Int) : Int × Int := (if tkK b n p = 4 then 1 else 2, tkS b n p)
def rdNum (b : Int → Int) (n lo hi p : Int) : Rs (Int × Int) := if tkK b n p ≠ 2 then .inl (amF b n p) else if lo ≤ tkN b n p ∧ tkN b n p ≤ hi then .inr (tkN b n p, tkE b n p) else .inl (4, tkS b n p)
def rdStop (b : Int → Int) (n p : Int) : Rs Int := if tkG b n p = 59 then .inr (tkE b n p) else .inl (amF b n p)
def isNm (b : Int → Int) (n p : Int) : Prop := tkK b n p = 1 ∧ tkW b n p = -1 ∧ tkE b n p - tkS b n p ≤ 8
def fnd (Y : Int → Int) (m y : Int) : Int := qfold (fun j r => if 0 ≤ r then r else if Y j = y then j else r) (-1) m
theorem fnd_qfst {Y : Int → Int} {y : Int} : ∀ m : Int, 0 ≤ m → qfst (fun j => Y j = y) m (fnd Y m y) := by
  apply q_ind
  · right; exact ⟨rfl, fun j j0 j1 => absurd j1 (by omega)⟩
  · intro m hm ih
    have e : fnd Y (m + 1) y = if 0 ≤ fnd Y m y then fnd Y m y else if Y m = y then m else fnd Y m y := by unfold fnd; rw [qfold_s hm]
    rcases ih with ⟨i1, i2, i3, i4⟩ | ⟨i1, i2⟩
    · rw [e, if_pos i1]; left; exact ⟨i1, by omega, i3, i4⟩
    · rw [e, if_neg (by omega)]
      by_cases c : Y m = y
      · rw [if_pos c]; left; exact ⟨hm, by omega, c, fun j j0 j1 => i2 j j0 j1⟩
      · rw [if_neg c]; right
        refine ⟨i1, fun j j0 j1 => ?_⟩
        by_cases e2 : j = m
        · rw [e2]; exact c
        · exact i2 j j0 (by omega)
noncomputable def rdNam (b : Int → Int) (n p : Int) : Rs Int := by
  classical exact if isNm b n p then .inr (tkE b n p) else .inl (amF b n p)
noncomputable def rdPer (b : Int → Int) (n : Int) (Y : Int → Int) (m p : Int) : Rs (Int × Int) := by
  classical exact if isNm b n p then (if 0 ≤ fnd Y m (tkY b n p) then .inr (fnd Y m (tkY b n p), tkE b n p) else .inl (3, tkS b n p)) else .inl (amF b n p)
section Rd
variable {b : Int → Int} {n p lo hi m : Int} {Y : Int → Int}
theorem rdNum_k (h : tkK b n p ≠ 2) : rdNum b n lo hi p = .inl (amF b n p) := if_pos h
theorem rdNum_y (h : tkK b n p = 2) (h1 : lo ≤ tkN b n p ∧ tkN b n p ≤ hi) : rdNum b n lo hi p = .inr (tkN b n p, tkE b n p) := by unfold rdNum; rw [if_neg (by omega), if_pos h1]
theorem rdNum_n (h : tkK b n p = 2) (h1 : ¬ (lo ≤ tkN b n p ∧ tkN b n p ≤ hi)) : rdNum b n lo hi p = .inl (4, tkS b n p) := by unfold rdNum; rw [if_neg (by omega), if_neg h1]
theorem rdStop_y (h : tkG b n p = 59) : rdStop b n p = .inr (tkE b n p) := if_pos h
theorem rdStop_n (h : tkG b n p ≠ 59) : rdStop b n p = .inl (amF b n p) := if_neg h
theorem rdNam_y (h : isNm b n p) : rdNam b n p = .inr (tkE b n p) := by unfold rdNam; exact if_pos h
theorem rdNam_n (h : ¬ isNm b n p) : rdNam b n p = .inl (amF b n p) := by unfold rdNam; exact if_neg h
theorem rdPer_y (h : isNm b n p) (h1 : 0 ≤ fnd Y m (tkY b n p)) : rdPer b n Y m p = .inr (fnd Y m (tkY b n p), tkE b n p) := by unfold rdPer; rw [if_pos h, if_pos h1]
theorem rdPer_n (h : isNm b n p) (h1 : ¬ 0 ≤ fnd Y m (tkY b n p)) : rdPer b n Y m p = .inl (3, tkS b n p) := by unfold rdPer; rw [if_pos h, if_neg h1]
theorem rdPer_a (h : ¬ isNm b n p) : rdPer b n Y m p = .inl (amF b n p) := by unfold rdPer; exact if_neg h
theorem amF_4 (h : tkK b n p = 4) : amF b n p = (1, tkS b n p) := by unfold amF; rw [if_pos h]
theorem amF_2 (h : tkK b n p ≠ 4) : amF b n p = (2, tkS b n p) := by unfold amF; rw [if_neg h]
theorem tkG_n4 (h : tkG b n p = 59) : tkK b n p = 3 := by
  unfold tkG at h
  by_cases c : tkK b n p = 3
  · exact c
  · rw [if_neg c] at h; omega
end Rd
def fC (h : qH) (e : Int × Int) : Prop := h 9 0 12 0 = e.1 ∧ h 9 0 13 0 = e.2
/-- names in both spellings -/
def nmR (X Y : Int → Int) (m : Int) : Prop := ∀ j, 0 ≤ j → j < m → ∃ k, nmP k (X j) (Y j)
section Tt
variable {d : Nat} {R : Option qV → qH → Prop} {h : qH} {b : Int → Int} {n p lo hi : Int}
theorem x_fail {k : Int} (hR : ∀ h', fr PTp h h' → fC h' (k, h 9 0 4 0) → R (some (qi 0)) h') : qT (d + 1) 89 0 [qo 9 0, qi k] [] h R := by
  refine sX9_fail_0 ⟨by omega, hR _ (fr_trans (fr_up ⟨rfl, by omega⟩) (fr_up ⟨rfl, by omega⟩)) ⟨by rw [up_j (by omega)]; exact up_at, up_at⟩⟩
theorem x_isStop (hk : tkC h b n p) (h4 : tkK b n p ≠ 4) (he : ∀ e, rdStop b n p = .inl e → ∀ h', fr PTp h h' → fC h' e → R (some (qi 0)) h') (hx : ∀ p', rdStop b n p = .inr p' → h 9 0 3 0 = p' → R (some (qi 1)) h) : qT (d + 2) 96 0 [qo 9 0] [] h R := by
  refine sX9_isStop_0 ?_
  rw [hk.2.2.2.2.2.1]
  refine ⟨fun c => ⟨by omega, hx _ (rdStop_y c) hk.2.2.1⟩, fun c => x_fail (fun h' hf hF => ⟨fun _ => ⟨by omega, ?_⟩, fun c2 => absurd rfl c2⟩)⟩
  rw [hk.1] at hF
  exact he _ (rdStop_n c) h' hf (by rw [amF_2 h4]; exact hF)
theorem x_takeStop (ht : txC h b n) (h3 : h 9 0 3 0 = p) (p0 : 0 ≤ p) (pn : p ≤ n) (he : ∀ e, rdStop b n p = .inl e → ∀ h', fr PTp h h' → fC h' e → R (some (qi 0)) h') (hx : ∀ p', rdStop b n p = .inr p' → ∀ h', fr PTp h h' → h' 9 0 3 0 = p' → R (some (qi 1)) h') : qT (d + 3) 95 0 [qo 9 0] [] h R := by
  refine sX9_takeStop_0 (x_take ht h3 p0 pn (fun h4 g hf hk => ⟨fun c => absurd c (by decide), fun _ => ?_⟩) (fun h4 g hf k1 k2 => ⟨fun _ => ⟨by omega, ?_⟩, fun c => absurd rfl c⟩))
  · exact x_isStop hk h4 (fun e h1 h' f' F' => ⟨fun _ => ⟨by omega, he e h1 h' (fr_trans hf f') F'⟩, fun c => absurd rfl c⟩) (fun p' h1 h2 => ⟨fun c => absurd c (by decide), fun _ => ⟨by omega, hx p' h1 g hf h2⟩⟩)
  · refine he _ (rdStop_n ?_) g hf (by rw [amF_4 h4]; exact ⟨k1, k2⟩)
    intro c
    have := tkG_n4 c
    omega
theorem x_takeNumber (ht : txC h b n) (h3 : h 9 0 3 0 = p) (p0 : 0 ≤ p) (pn : p ≤ n) (he : ∀ e, rdNum b n lo hi p = .inl e → ∀ h', fr PTp h h' → fC h' e → R (some (qi 0)) h') (hx : ∀ v p', rdNum b n lo hi p = .inr (v, p') → ∀ h', fr PTp h h' → h' 9 0 6 0 = v → h' 9 0 3 0 = p' → R (some (qi 1)) h') : qT (d + 3) 97 0 [qo 9 0, qi lo, qi hi] [] h R := by
  refine sX9_takeNumber_0 (x_take ht h3 p0 pn (fun h4 g hf hk => ⟨fun _ => ?_, fun c => absurd (by decide) c⟩) (fun h4 g hf k1 k2 => ⟨fun c => absurd rfl c, fun _ => ⟨by omega, he _ (rdNum_k (by omega)) g hf (by rw [amF_4 h4]; exact ⟨k1, k2⟩)⟩⟩))
  rw [hk.2.1]
  refine ⟨fun c => ?_, fun c => x_fail (fun h' f' F' => ⟨by omega, he _ (rdNum_k c) h' (fr_trans hf f') (by rw [amF_2 h4]; rw [hk.1] at F'; exact F')⟩)⟩
  rw [hk.2.2.2.1 c]
  have bad : ¬ (lo ≤ tkN b n p ∧ tkN b n p ≤ hi) → qT (d + 2) 89 0 [qo 9 0, qi 4] [] g (fun w4 g5 => qri w4 fun r6 => (r6 = 0 → ((0 : Int) = 0 ∨ (0 : Int) = 1) ∧ R (some (qi 0)) g5) ∧ (¬ (r6 = 0) → ((1 : Int) = 0 ∨ (1 : Int) = 1) ∧ R (some (qi 1)) g5)) := fun hb => x_fail (fun h' f' F' => ⟨fun _ => ⟨by omega, he _ (rdNum_n c hb) h' (fr_trans hf f') (by rw [hk.1] at F'; exact F')⟩, fun c2 => absurd rfl c2⟩)
  exact ⟨fun c2 => bad (by omega), fun c2 => ⟨fun c3 => ⟨by omega, hx _ _ (rdNum_y c ⟨by omega, c3⟩) g hf (hk.2.2.2.1 c) hk.2.2.1⟩, fun c3 => bad (by omega)⟩⟩
theorem x_failT {k : Int} (hR : ∀ h', fr PTt h h' → fC h' (k, h 9 0 4 0) → R (some (qi 0)) h') : qT (d + 1) 89 0 [qo 9 0, qi k] [] h R := by
  refine sX9_fail_0 ⟨by omega, hR _ (fr_trans (fr_up ⟨rfl, by omega⟩) (fr_up ⟨rfl, by omega⟩)) ⟨by rw [up_j (by omega)]; exact up_at, up_at⟩⟩
theorem x_takeNumberT (ht : txC h b n) (h3 : h 9 0 3 0 = p) (p0 : 0 ≤ p) (pn : p ≤ n) (he : ∀ e, rdNum b n lo hi p = .inl e → ∀ h', fr PTt h h' → fC h' e → R (some (qi 0)) h') (hx : ∀ v p', rdNum b n lo hi p = .inr (v, p') → ∀ h', fr PTt h h' → h' 9 0 6 0 = v → h' 9 0 3 0 = p' → R (some (qi 1)) h') : qT (d + 3) 97 0 [qo 9 0, qi lo, qi hi] [] h R := by
  refine sX9_takeNumber_0 (x_takeT ht h3 p0 pn (fun h4 g hf hk => ⟨fun _ => ?_, fun c => absurd (by decide) c⟩) (fun h4 g hf k1 k2 => ⟨fun c => absurd rfl c, fun _ => ⟨by omega, he _ (rdNum_k (by omega)) g hf (by rw [amF_4 h4]; exact ⟨k1, k2⟩)⟩⟩))
  rw [hk.2.1]
  refine ⟨fun c => ?_, fun c => x_failT (fun h' f' F' => ⟨by omega, he _ (rdNum_k c) h' (fr_trans hf f') (by rw [amF_2 h4]; rw [hk.1] at F'; exact F')⟩)⟩
  rw [hk.2.2.2.1 c]
  have bad : ¬ (lo ≤ tkN b n p ∧ tkN b n p ≤ hi) → qT (d + 2) 89 0 [qo 9 0, qi 4] [] g (fun w4 g5 => qri w4 fun r6 => (r6 = 0 → ((0 : Int) = 0 ∨ (0 : Int) = 1) ∧ R (some (qi 0)) g5) ∧ (¬ (r6 = 0) → ((1 : Int) = 0 ∨ (1 : Int) = 1) ∧ R (some (qi 1)) g5)) := fun hb => x_failT (fun h' f' F' => ⟨fun _ => ⟨by omega, he _ (rdNum_n c hb) h' (fr_trans hf f') (by rw [hk.1] at F'; exact F')⟩, fun c2 => absurd rfl c2⟩)
  exact ⟨fun c2 => bad (by omega), fun c2 => ⟨fun c3 => ⟨by omega, hx _ _ (rdNum_y c ⟨by omega, c3⟩) g hf (hk.2.2.2.1 c) hk.2.2.1⟩, fun c3 => bad (by omega)⟩⟩
theorem x_isName (hk : tkC h b n p) (h1 : isNm b n p → R (some (qi 1)) h) (h0 : ¬ isNm b n p → R (some (qi 0)) h) : qT (d + 1) 94 0 [qo 9 0] [] h R := by
  unfold isNm at h1 h0
  refine sX9_isName_0 ?_
  rw [hk.2.1, hk.2.2.2.2.1]
  refine ⟨fun c => ⟨by omega, h0 (by omega)⟩, fun c => ⟨fun c2 => ⟨by omega, h0 (by omega)⟩, fun c2 => ?_⟩⟩
  rw [(hk.2.2.2.2.2.2 (by omega)).1]
  exact ⟨fun c3 => ⟨by omega, h0 (by omega)⟩, fun c3 => ⟨by omega, h1 (by omega)⟩⟩
theorem isNm_4 (h4 : tkK b n p = 4) : ¬ isNm b n p := fun e => by have := e.1; omega
theorem x_takeName (ht : txC h b n) (h3 : h 9 0 3 0 = p) (p0 : 0 ≤ p) (pn : p ≤ n) (he : ¬ isNm b n p → ∀ h', fr PTp h h' → fC h' (amF b n p) → R (some (qi 0)) h') (hx : isNm b n p → ∀ h', fr PTp h h' → h' 9 0 10 0 = tkX b n p → h' 9 0 4 0 = tkS b n p → h' 9 0 3 0 = tkE b n p → R (some (qi 1)) h') : qT (d + 3) 99 0 [qo 9 0] [] h R := by
  refine sX9_takeName_0 (x_take ht h3 p0 pn (fun h4 g hf hk => ⟨fun c => absurd c (by decide), fun _ => ?_⟩) (fun h4 g hf k1 k2 => ⟨fun _ => ⟨by omega, he (isNm_4 h4) g hf (by rw [amF_4 h4]; exact ⟨k1, k2⟩)⟩, fun c => absurd rfl c⟩))
  refine x_isName hk (fun hn => ⟨fun _ => ⟨by omega, hx hn g hf ((hk.2.2.2.2.2.2 hn.1).2 hn.2.2) hk.1 hk.2.2.1⟩, fun c => absurd (by decide) c⟩) (fun hn => ⟨fun c => absurd rfl c, fun _ => x_fail (fun h' f' F' => ⟨fun _ => ⟨by omega, he hn h' (fr_trans hf f') (by rw [amF_2 h4]; rw [hk.1] at F'; exact F')⟩, fun c => absurd rfl c⟩)⟩)
theorem x_findName {i : Nat} {X Y : Int → Int} {m x y : Int} (hm : h 7 i 7 0 = m) (m0 : 0 ≤ m) (m7 : m ≤ 7) (hX : ∀ j, 0 ≤ j → j < m → h 7 i 0 (Int.toNat j) = X j) (hR : nmR X Y m) {k : Nat} (hk : nmP k x y) (hQ : R (some (qi (fnd Y m y))) h) : qT (d + 1) 52 0 [qo 7 i, ql x, qu, qu] [] h R := by
  have heq : ∀ j, 0 ≤ j → j < m → (X j = x ↔ Y j = y) := fun j j0 j1 => by
    obtain ⟨k', hk'⟩ := hR j j0 j1
    exact nmP_eq _ _ hk' hk
  have key : ∀ r, qfst (fun j => X j = x) m r → R (some (qi r)) h := by
    intro r hr
    have : r = fnd Y m y := qfst_uniq (P := fun j => Y j = y) (n := m) ?_ (fnd_qfst m m0)
    · rw [this]; exact hQ
    · rcases hr with ⟨r0, r1, r2, r3⟩ | ⟨r1, r2⟩
      · left; exact ⟨r0, r1, (heq r r0 r1).mp r2, fun j j0 j1 e => r3 j j0 j1 ((heq j j0 (by omega)).mpr e)⟩
      · right; exact ⟨r1, fun j j0 j1 e => r2 j j0 j1 ((heq j j0 j1).mpr e)⟩
  refine sX7_findName_0 ?_
  refine q_up (n := m) (C := fun j => j ≤ m → (∀ j', 0 ≤ j' → j' < j → ¬ X j' = x) → qT (d + 1) 52 2 [qo 7 i, ql x, qu, qi j] [] h R) ?_ 0 (by omega) m0 (fun j' j0 j1 => absurd j1 (by omega))
  intro j hj ih jm hn
  refine sX7_findName_2 ?_
  rw [hm]
  refine ⟨fun c => key _ (Or.inr ⟨rfl, fun j' j0 j1 => hn j' j0 (by omega)⟩), fun c => ⟨by omega, ?_⟩⟩
  rw [hX j hj (by omega)]
  refine ⟨fun c2 => ⟨qR_of (by omega) (by omega), ih (by omega) (by omega) (fun j' j0 j1 => ?_)⟩, fun c2 => key _ (Or.inl ⟨hj, by omega, qlcmp_eq.mp (Decidable.not_not.mp c2), hn⟩)⟩
  by_cases e : j' = j
  · rw [e]; exact fun e2 => c2 (qlcmp_eq.mpr e2)
  · exact hn j' j0 (by omega)
theorem x_takePerson {i : Nat} {X Y : Int → Int} {m : Int} (ht : txC h b n) (h3 : h 9 0 3 0 = p) (p0 : 0 ≤ p) (pn : p ≤ n) (hm : h 7 i 7 0 = m) (m0 : 0 ≤ m) (m7 : m ≤ 7) (hX : ∀ j, 0 ≤ j → j < m → h 7 i 0 (Int.toNat j) = X j) (hR : nmR X Y m) (he : ∀ e, rdPer b n Y m p = .inl e → ∀ h', fr PTp h h' → fC h' e → R (some (qi 0)) h') (hx : ∀ v p', rdPer b n Y m p = .inr (v, p') → (0 ≤ v ∧ v < m) → ∀ h', fr PTp h h' → h' 9 0 11 0 = v → h' 9 0 4 0 = tkS b n p → h' 9 0 3 0 = p' → R (some (qi 1)) h') : qT (d + 3) 100 0 [qo 9 0, qo 7 i] [] h R := by
  refine sX9_takePerson_0 (x_take ht h3 p0 pn (fun h4 g hf hk => ⟨fun _ => ?_, fun c => absurd (by decide) c⟩) (fun h4 g hf k1 k2 => ⟨fun c => absurd rfl c, fun _ => ⟨by omega, he _ (rdPer_a (isNm_4 h4)) g hf (by rw [amF_4 h4]; exact ⟨k1, k2⟩)⟩⟩))
  refine x_isName hk (fun hn => ⟨fun _ => ?_, fun c => absurd (by decide) c⟩) (fun hn => ⟨fun c => absurd rfl c, fun _ => x_fail (fun h' f' F' => ⟨by omega, he _ (rdPer_a hn) h' (fr_trans hf f') (by rw [amF_2 h4]; rw [hk.1] at F'; exact F')⟩)⟩)
  rw [(hk.2.2.2.2.2.2 hn.1).2 hn.2.2]
  refine x_findName (m := m) (X := X) (Y := Y) (y := tkY b n p) (by rw [hf 7 i 7 (by omega)]; exact hm) m0 m7 (fun j j0 j1 => by rw [hf 7 i 0 (by omega)]; exact hX j j0 j1) hR (tk_nm pn hn.1 hn.2.2) ?_
  dsimp only [qri]
  rw [up_at]
  have fq := fnd_qfst (Y := Y) (y := tkY b n p) m m0
  refine ⟨fun c => ⟨by omega, ?_⟩, fun c => x_fail (fun h' f' F' => ⟨fun _ => ⟨by omega, he _ (rdPer_n hn (by omega)) h' (fr_trans hf (fr_trans (fr_up ⟨rfl, by omega⟩) f')) ?_⟩, fun c2 => absurd rfl c2⟩)⟩
  · rcases fq with ⟨q0, q1, _⟩ | ⟨q1, _⟩
    · exact hx _ _ (rdPer_y hn q0) ⟨q0, q1⟩ _ (fr_trans hf (fr_up ⟨rfl, by omega⟩)) up_at (by rw [up_j (by omega)]; exact hk.1) (by rw [up_j (by omega)]; exact hk.2.2.1)
    · exact absurd q1 c
  · rw [up_j (by omega), hk.1] at F'
    exact F'
end Tt
