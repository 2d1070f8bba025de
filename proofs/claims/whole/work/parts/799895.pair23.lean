/-! which ROWS fit -/
def fCn (num : Int → Int) (nn m : Int) : Prop := ∀ j, 0 ≤ j → j < 2 * nn → 0 ≤ num j ∧ num j < m
theorem fCn_iff {num : Int → Int} {nn m : Int} : fCn num nn m ↔ ∀ i, 0 ≤ i → i < nn → (0 ≤ num (2 * i) ∧ num (2 * i) < m) ∧ (0 ≤ num (2 * i + 1) ∧ num (2 * i + 1) < m) := by
  constructor
  · intro hc i i0 i1
    exact ⟨hc _ (by omega) (by omega), hc _ (by omega) (by omega)⟩
  · intro hc j j0 j1
    have := hc (j / 2) (by omega) (by omega)
    by_cases e : j % 2 = 0
    · rw [show 2 * (j / 2) = j by omega] at this; exact this.1
    · rw [show 2 * (j / 2) + 1 = j by omega] at this; exact this.2
def fOk (num : Int → Int) (nn k m : Int) : Prop := (0 ≤ nn ∧ nn ≤ 20) ∧ (0 ≤ k ∧ k ≤ 5) ∧ fCn num nn m
section Ft
variable {d : Nat} {R : Option qV → qH → Prop} {B : Int} {h g : qH} {a : qB} {num : Int → Int} {t nn k : Int}
theorem x_stFits (hi : Inv B h a) (nr : qR nn) (hnum : ∀ p, num p = h 12 0 6 (Int.toNat (60 * t + p))) (hs : trS h t (2 * nn) ≠ 0 → R (some (qi (trS h t (2 * nn)))) h) (h5 : trS h t (2 * nn) = 0 → ¬ fOk num nn k (a 0) → ∀ g, fr PW h g → R (some (qi 5)) g) (h0 : trS h t (2 * nn) = 0 → fOk num nn k (a 0) → ∀ g, fr PW h g → (g 3 0 5 0 = 0 → fWn (fun i => num (2 * i)) (fun i => num (2 * i + 1)) nn (fun p => g 3 0 0 (Int.toNat p))) → (g 3 0 5 0 ≠ 0 → ∃ i j, 0 ≤ i ∧ i < nn ∧ 0 ≤ j ∧ j < nn ∧ num (2 * i) = num (2 * j) ∧ num (2 * i + 1) ≠ num (2 * j + 1)) → R (some (qi 0)) g) : qT (d + 3) 168 0 [qo 11 0, qi t, qi nn, qi k, qu] [] h R := by
  have hQ := hi.1.1
  have hW := hi.1.2.2.1
  have w0 := wf_n hW
  have ht := hi.2.2.1
  have r1 := nr.1
  have r2 := nr.2
  refine sX11_statusOfFits_0 ⟨qRL_of (by omega) (by omega), x_tray ?_⟩
  dsimp only [qri]
  refine ⟨fun e0 => ?_, fun n0 => hs n0⟩
  have no : ¬ ((0 ≤ nn ∧ nn ≤ 20) ∧ (0 ≤ k ∧ k ≤ 5)) → R (some (qi 5)) h := fun c => h5 e0 (fun o => c ⟨o.1, o.2.1⟩) h fr_rfl
  refine ⟨fun c => no (by omega), fun c1 => ⟨fun c => no (by omega), fun c2 => ⟨fun c => no (by omega), fun c3 => ⟨fun c4 => ?_, fun c => no (by omega)⟩⟩⟩⟩
  obtain ⟨t4, nm, nl, el, l60, ek⟩ := trS_0 ht e0
  rw [qx_n hQ, show 0 + Int.toNat t = t.toNat by omega]
  refine ⟨t4, x_want (per := fun i => num (2 * i)) (hou := fun i => num (2 * i + 1)) (by omega) (by omega) w0.1 w0.2 (fun i i0 i1 => ⟨?_, ?_⟩) (fun ok g f e1 e2 => ⟨fun c => absurd c (by decide), fun _ => ?_⟩) (fun nok g f => ⟨fun _ => ?_, fun c => absurd rfl c⟩)⟩
  · rw [ek _ (by omega) (by omega), hnum]
  · rw [ek _ (by omega) (by omega), hnum]
  · exact h0 e0 ⟨by omega, by omega, fCn_iff.mpr ok⟩ g f e1 e2
  · exact h5 e0 (fun o => nok (fCn_iff.mp o.2.2)) g f
theorem m_whyNoFits (hi : Inv B h a) (nr : qR nn) (hM : qM g 0 a) (e5 : g 12 0 5 = h 12 0 5) (e6 : g 12 0 6 = h 12 0 6) (hnum : ∀ p, num p = h 12 0 6 (Int.toNat (60 * t + p))) (hs : trS h t (2 * nn) ≠ 0 → R (some (qi (trS h t (2 * nn)))) g) (h5 : trS h t (2 * nn) = 0 → ¬ fOk num nn k (a 0) → R (some (qi 5)) g) (h0 : trS h t (2 * nn) = 0 → fOk num nn k (a 0) → R (some (qi 0)) g) : qT (d + 3) 291 0 [qo 12 0, qi t, qi nn, qi k, qu] [] g R := by
  have hW := hi.1.2.2.1
  have w0 := wf_n hW
  have tb := trS_b hi.2.2.1 t (2 * nn)
  have r1 := nr.1
  have r2 := nr.2
  refine sX12_whyNoFits_0 (m_isTray (fun c1 c2 => ⟨fun _ => ?_, fun c => absurd (by decide) c⟩) (fun nt => ⟨fun c => absurd rfl c, fun _ => ?_⟩))
  · rw [e5, qlcmp_ge]
    refine ⟨⟨c1, c2⟩, fun c3 => ⟨⟨c1, c2⟩, qRL_of (by omega) (by omega), fun c4 => ?_, fun c4 => ?_⟩, fun c3 => ?_⟩
    · have e0 : trS h t (2 * nn) = 0 := by omega
      have T := trS_0 hi.2.2.1 e0
      refine m_isIn (fun n0 n20 => ⟨fun c => absurd c (by decide), fun _ => m_isIn (fun k0 k5 => ⟨fun _ => ?_, fun c => absurd (by decide) c⟩) (fun nk => ⟨fun c => absurd rfl c, fun _ => h5 e0 (fun o => nk o.2.1)⟩)⟩) (fun nn' => ⟨fun _ => h5 e0 (fun o => nn' o.1), fun c => absurd rfl c⟩)
      refine q_up (n := 2 * nn) (C := fun x => x ≤ 2 * nn → (∀ j, 0 ≤ j → j < x → 0 ≤ num j ∧ num j < a 0) → qT (d + 3) 291 69 [qo 12 0, qi t, qi nn, qi k, qi x] [] g R) ?_ 0 (by omega) (by omega) (fun j j0 j1 => by omega)
      intro x x0 ih xn hx
      refine sX12_whyNoFits_69 ⟨qR_of (by omega) (by omega), fun c => h0 e0 ⟨⟨n0, n20⟩, ⟨k0, k5⟩, fun j j0 j1 => hx j j0 (by omega)⟩, fun c => sX12_numberOf_0 ⟨qR_of (by omega) (by omega), qR_of (by omega) (by omega), by omega, ?_⟩⟩
      dsimp only [qrl]
      rw [m_0 hM (by omega) (by omega), e6, ← hnum]
      refine ⟨by omega, qR_of (by omega) (by omega), m_isIn (fun v0 v1 => ⟨fun _ => ⟨qR_of (by omega) (by omega), ih (by omega) (by omega) (fun j j0 j1 => ?_)⟩, fun c => absurd (by decide) c⟩) (fun nv => ⟨fun c => absurd rfl c, fun _ => h5 e0 (fun o => nv ?_)⟩)⟩
      · by_cases e : j = x
        · rw [e]; omega
        · exact hx j j0 (by omega)
      · have := o.2.2 x x0 (by omega); omega
    · have e : trS h t (2 * nn) = 4 := by omega
      rw [e] at hs; exact hs (by decide)
    · have e : trS h t (2 * nn) = 3 := by omega
      rw [e] at hs; exact hs (by decide)
  · have e : trS h t (2 * nn) = 1 := by omega
    rw [e] at hs; exact hs (by decide)
end Ft
def PFt (c _i j : Nat) : Prop := c = 12 ∧ (j = 0 ∨ j = 1 ∨ (28 ≤ j ∧ j ≤ 33))
section K7
variable {B : Int} {h g g3 : qH} {a : qB}
theorem PJ_Ft {c i j : Nat} (p : PFt c i j) : PJ c i j := by
  obtain ⟨e, p⟩ := p
  subst e
  unfold PJ Scr
  omega
theorem PJc_S (hf : fr PS h g) : fr PJc h g := fr_mono hf (fun c i j p => by
  rcases p with ⟨e, _⟩ | ⟨e, e2, e3⟩
  · exact ⟨by omega, Or.inl (Or.inr (Or.inr (Or.inl e)))⟩
  · exact ⟨by omega, Or.inr (Or.inr (Or.inr ⟨e, e2, e3⟩))⟩)
theorem PJc_W (hf : fr PW h g) : fr PJc h g := fr_mono hf (fun c i j p => ⟨by omega, Or.inl (Or.inr (Or.inr (Or.inl p.1)))⟩)
theorem k7 {K : qH → Prop} (hi : Inv B h a) (hK : ∀ g a', Inv (B + 300) g a' → g 91 = h 91 → K g) (fg : fr PJc h g) (hQ : qQX g 0 a) (f3 : fr PFt g g3) (s : g3 12 0 0 0 = g 11 0 17 0) : K g3 := by
  have f : fr PJ h g3 := fr_trans (fr_mono fg (fun _ _ _ p => p.2)) (fr_mono f3 (fun _ _ _ p => PJ_Ft p))
  have e20 : g3 12 0 20 = h 12 0 20 := by rw [f3 12 0 20 (by unfold PFt; omega), fg 12 0 20 (fun p => p.1 rfl)]
  refine hK _ a (Inv_q hi f (fun y _ _ => by rw [e20]) (qx_fr hQ (by funext j; exact f3 7 0 j (by unfold PFt; omega))) (m_fr (iM0 hi) e20) (wf_mono hi.1.2.2.1 (by omega)) (by omega) rfl (by omega) ?_) (fr_91J f)
  rw [s, f3 11 0 17 (by unfold PFt; omega)]
end K7
/-- what both sides know when the ROWS are sought -/
theorem seekE {B : Int} {a : qB} {g : qH} {num : Int → Int} {nn k : Int} (ok : fOk num nn k (a 0)) (e1 : g 3 0 5 0 = 0 → fWn (fun i => num (2 * i)) (fun i => num (2 * i + 1)) nn (fun p => g 3 0 0 (Int.toNat p))) : g 3 0 5 0 = 0 → ∀ b', qwf B b' → b' 0 = a 0 → (fB (fun i => num (2 * i)) (fun i => num (2 * i + 1)) nn b' = true ↔ fWr (fun p => g 3 0 0 (Int.toNat p)) b' = 0) := by
  intro c b' hb e0
  refine fB_wr (e1 c) ok.1.1 hb (fun i i0 i1 => ?_)
  have := fCn_iff.mp ok.2.2 i i0 i1
  omega
theorem seekC {B : Int} {a : qB} {g : qH} {num : Int → Int} {nn k : Int} (ok : fOk num nn k (a 0)) (e2 : g 3 0 5 0 ≠ 0 → ∃ i j, 0 ≤ i ∧ i < nn ∧ 0 ≤ j ∧ j < nn ∧ num (2 * i) = num (2 * j) ∧ num (2 * i + 1) ≠ num (2 * j + 1)) : g 3 0 5 0 ≠ 0 → ∀ b', qwf B b' → b' 0 = a 0 → ¬ fB (fun i => num (2 * i)) (fun i => num (2 * i + 1)) nn b' = true := by
  intro c b' hb e0 hf
  obtain ⟨i, j, i0, i1, j0, j1, ep, eh⟩ := e2 c
  have hf := (fB_iff nn ok.1.1).mp hf
  have h1 := hf i i0 i1
  have h2 := hf j j0 j1
  rw [ep] at h1
  exact eh (h1.symm.trans h2)
theorem fW_of {g : qH} {t n : Int} {num : Int → Int} {nn k : Int} (t4 : 0 ≤ t ∧ t < 4) (ok : fOk num nn k n) (e6 : ∀ p, g 12 0 6 (Int.toNat (60 * t + p)) = num p) : fW g t n (fun i => num (2 * i)) (fun i => num (2 * i + 1)) nn := by
  refine ⟨ok.1, t4, fun i i0 i1 => ?_⟩
  have := fCn_iff.mp ok.2.2 i i0 i1
  exact ⟨⟨e6 _, this.1⟩, e6 _, this.2⟩
theorem PFt_up {g : qH} {v : Int} : fr PFt g (qup g 12 0 0 0 v) := fr_up ⟨rfl, Or.inl rfl⟩
theorem PFt_1 {g : qH} : fr PFt g (qup g 12 0 1 0 0) := fr_up ⟨rfl, Or.inr (Or.inl rfl)⟩
theorem PFt_F {g g3 : qH} (f : fr PF g g3) : fr PFt g g3 := fr_mono f (fun c i j p => ⟨p.1, by omega⟩)
theorem PJc_12 {h g : qH} (f : fr PJc h g) {i j : Nat} : g 12 i j = h 12 i j := f 12 i j (fun p => p.1 rfl)
theorem p_fits {t nn k : Int} (nr : qR nn) : Pair 140 295 [qi t, qi nn, qi k] [qi t, qi nn, qi k] := by
  intro d B h a K X S hi b0 b1 hK hS
  have hQ := hi.1.1
  have hW := hi.1.2.2.1
  obtain ⟨num, hnum⟩ : ∃ num : Int → Int, ∀ p, num p = h 12 0 6 (Int.toNat (60 * t + p)) := ⟨fun p => h 12 0 6 (Int.toNat (60 * t + p)), fun _ => rfl⟩
  have tp := trS_p hi.2.2.1 t (2 * nn)
  have fin : ∀ g r u, fr PJc h g → qQX g 0 a → g 11 0 17 0 = u → ((trS h t (2 * nn) ≠ 0 ∧ u = trS h t (2 * nn) ∧ r = -1) ∨ (trS h t (2 * nn) = 0 ∧ ¬ fOk num nn k (a 0) ∧ u = 5 ∧ r = -1) ∨ (trS h t (2 * nn) = 0 ∧ fOk num nn k (a 0) ∧ u = 0 ∧ r = fN (fun i => num (2 * i)) (fun i => num (2 * i + 1)) nn k.toNat a)) → qT (d + 39) 295 0 [qo 12 0, qi t, qi nn, qi k] [] g (fun w' g' => qri w' fun r' => (r = r' → K g') ∧ (¬ r = r' → X g')) := by
    intro g r u fg qg e17 hc
    have n12 : ∀ j, j ≠ 1 → (qup g 12 0 1 0 0) 12 0 j = h 12 0 j := fun j hj => by rw [up_j (by omega), PJc_12 fg]
    refine sX12_fits_0 (m_whyNoFits hi nr (m_fr (iM0 hi) (n12 20 (by omega))) (n12 5 (by omega)) (n12 6 (by omega)) hnum (fun ns => ⟨fun c => absurd c (by rw [up_at]; omega), fun _ => okR (k7 hi hK fg qg (fr_trans PFt_1 PFt_up) ?_) ?_⟩) (fun e0 ng => ⟨fun c => absurd c (by rw [up_at]; omega), fun _ => okR (k7 hi hK fg qg (fr_trans PFt_1 PFt_up) ?_) ?_⟩) (fun e0 ok => ⟨fun _ => ?_, fun c => absurd (by rw [up_at]; omega) c⟩))
    · rw [up_at, e17]; rcases hc with c | c | c <;> omega
    · rcases hc with c | c | c <;> omega
    · rw [up_at, e17]; rcases hc with c | c | c
      · omega
      · omega
      · exact absurd c.2.1 ng
    · rcases hc with c | c | c
      · omega
      · omega
      · exact absurd c.2.1 ng
    · rcases hc with c | c | ⟨_, _, u0, hr⟩
      · omega
      · exact absurd ok c.2.1
      · have T := trS_0 hi.2.2.1 e0
        refine m_laysFits (k := k.toNat) (by have := ok.2.1; omega) (by have := ok.2.1; omega) (m_fr (iM0 hi) (by rw [up_j (by omega), n12 20 (by omega)])) hW (fW_of T.1 ok (fun p => by rw [up_j (by omega), n12 6 (by omega), hnum])) (fun g3 f3 e30 _ _ => ?_)
        exact okR (k7 hi hK fg qg (fr_trans PFt_1 (fr_trans PFt_up (PFt_F f3))) (by rw [f3 12 0 0 (by omega), up_at, e17, u0])) (by rw [e30]; exact hr)
  refine sX11_fits_0 (x_stFits hi nr hnum (fun ns => x_agreeN ns ⟨fun c => absurd rfl c, fun _ => ?_⟩) (fun e0 ng g f => x_agreeN (by decide) ⟨fun c => absurd rfl c, fun _ => ?_⟩) (fun e0 ok g f e1 e2 => x_agree0 ⟨fun _ => ?_, fun c => absurd (by decide) c⟩))
  · exact hS _ _ s_91 (fin _ _ _ PJc_s (qQ_s hQ) up_at (Or.inl ⟨ns, rfl, rfl⟩))
  · have fg := fr_trans (PJc_W f) (PJc_s (v := 5))
    exact hS _ _ (PJc_91 fg) (fin _ _ _ fg (qx_fr hQ (by funext j; rw [up_j (by omega), f 7 0 j (by omega)])) up_at (Or.inr (Or.inl ⟨e0, ng, rfl, rfl⟩)))
  · have n3 : ∀ j, (qup g 11 0 17 0 0) 3 0 j = g 3 0 j := fun j => up_j (by omega)
    refine x_seek (fo := 0) (k := k.toNat) (wn := fun p => g 3 0 0 (Int.toNat p)) (per := fun i => num (2 * i)) (hou := fun i => num (2 * i + 1)) (nn := nn) (by have := ok.2.1; omega) (by have := ok.2.1; omega) (Or.inl rfl) (qx_fr hQ (by funext j; rw [up_j (by omega), f 7 0 j (by omega)])) hW (fun p _ _ => by rw [n3]) (by rw [n3]; exact seekE ok e1) (by rw [n3]; exact seekC ok e2) (fun g2 hQ2 f2 t2 _ _ => ?_)
    have fg := fr_trans (PJc_W f) (fr_trans (PJc_s (v := 0)) (PJc_S f2))
    dsimp only [qrv]
    rw [(t2 rfl).1]
    exact hS _ _ (PJc_91 fg) (fin _ _ _ fg hQ2 (by rw [f2 11 0 17 (by omega)]; exact up_at) (Or.inr (Or.inr ⟨e0, ok, rfl, rfl⟩)))
theorem p_firstAt {t nn k pl : Int} (nr : qR nn) : Pair 141 296 [qi t, qi nn, qi k, qi pl] [qi t, qi nn, qi k, qi pl] := by
  intro d B h a K X S hi b0 b1 hK hS
  have hQ := hi.1.1
  have hW := hi.1.2.2.1
  obtain ⟨num, hnum⟩ : ∃ num : Int → Int, ∀ p, num p = h 12 0 6 (Int.toNat (60 * t + p)) := ⟨fun p => h 12 0 6 (Int.toNat (60 * t + p)), fun _ => rfl⟩
  have tp := trS_p hi.2.2.1 t (2 * nn)
  have fin : ∀ g r u, fr PJc h g → qQX g 0 a → g 11 0 17 0 = u → ((trS h t (2 * nn) ≠ 0 ∧ u = trS h t (2 * nn) ∧ r = -1) ∨ (trS h t (2 * nn) = 0 ∧ ¬ fOk num nn k (a 0) ∧ u = 5 ∧ r = -1) ∨ (trS h t (2 * nn) = 0 ∧ fOk num nn k (a 0) ∧ ((¬ ((0 ≤ pl ∧ pl < k) ∧ 0 < fN (fun i => num (2 * i)) (fun i => num (2 * i + 1)) nn k.toNat a) ∧ u = 8 ∧ r = -1) ∨ (((0 ≤ pl ∧ pl < k) ∧ 0 < fN (fun i => num (2 * i)) (fun i => num (2 * i + 1)) nn k.toNat a) ∧ u = 0 ∧ ∃ row, fF (fun i => num (2 * i)) (fun i => num (2 * i + 1)) nn row k.toNat a 0 ∧ r = row pl)))) → qT (d + 39) 296 0 [qo 12 0, qi t, qi nn, qi k, qi pl] [] g (fun w' g' => qri w' fun r' => (r = r' → K g') ∧ (¬ r = r' → X g')) := by
    intro g r u fg qg e17 hc
    have n12 : ∀ j, j ≠ 1 → (qup g 12 0 1 0 0) 12 0 j = h 12 0 j := fun j hj => by rw [up_j (by omega), PJc_12 fg]
    refine sX12_firstAt_0 (m_whyNoFits hi nr (m_fr (iM0 hi) (n12 20 (by omega))) (n12 5 (by omega)) (n12 6 (by omega)) hnum (fun ns => ⟨fun c => absurd c (by rw [up_at]; omega), fun _ => okR (k7 hi hK fg qg (fr_trans PFt_1 PFt_up) ?_) ?_⟩) (fun e0 ng => ⟨fun c => absurd c (by rw [up_at]; omega), fun _ => okR (k7 hi hK fg qg (fr_trans PFt_1 PFt_up) ?_) ?_⟩) (fun e0 ok => ⟨fun _ => ?_, fun c => absurd (by rw [up_at]; omega) c⟩))
    · rw [up_at, e17]; rcases hc with c | c | c
      · omega
      · omega
      · exact absurd c.1 ns
    · rcases hc with c | c | c
      · omega
      · omega
      · exact absurd c.1 ns
    · rw [up_at, e17]; rcases hc with c | c | c
      · omega
      · omega
      · exact absurd c.2.1 ng
    · rcases hc with c | c | c
      · omega
      · omega
      · exact absurd c.2.1 ng
    · rcases hc with c | c | ⟨_, _, hc⟩
      · omega
      · exact absurd ok c.2.1
      · have T := trS_0 hi.2.2.1 e0
        have o1 := ok.2.1
        refine m_laysFits (k := k.toNat) (by omega) (by omega) (m_fr (iM0 hi) (by rw [up_j (by omega), n12 20 (by omega)])) hW (fW_of T.1 ok (fun p => by rw [up_j (by omega), n12 6 (by omega), hnum])) (fun g3 f3 e30 _ hF => ?_)
        have ff : fr PFt g g3 := fr_trans PFt_1 (fr_trans PFt_up (PFt_F f3))
        have s0 : g3 12 0 0 0 = 0 := by rw [f3 12 0 0 (by omega), up_at]
        dsimp only [qrv]
        rw [e30]
        refine ⟨fun c => m_refuse (okR (k7 hi hK fg qg (fr_trans ff PFt_up) ?_) ?_), fun c => ⟨qR_of (by omega) (by omega), m_isIn (fun p0 p1 => ⟨fun c => absurd c (by decide), fun _ => ⟨by omega, okR (k7 hi hK fg qg ff ?_) ?_⟩⟩) (fun np => ⟨fun _ => m_refuse (okR (k7 hi hK fg qg (fr_trans ff PFt_up) ?_) ?_), fun c => absurd rfl c⟩)⟩⟩
        · rw [up_at, e17]; rcases hc with c2 | ⟨c2, c3, _⟩ <;> omega
        · rcases hc with c2 | ⟨c2, c3, _⟩ <;> omega
        · rw [s0, e17]; rcases hc with c2 | ⟨c2, c3, _⟩ <;> omega
        · rcases hc with c2 | ⟨_, _, row, hr, er⟩
          · omega
          · rw [er]
            exact fF_uniq _ _ _ hr (hF (by omega)) pl p0 (by omega)
        · rw [up_at, e17]; rcases hc with c2 | ⟨c2, c3, _⟩ <;> omega
        · rcases hc with c2 | ⟨c2, c3, _⟩ <;> omega
  refine sX11_firstAt_0 (x_stFits hi nr hnum (fun ns => x_agreeN ns ⟨fun c => absurd rfl c, fun _ => ?_⟩) (fun e0 ng g f => x_agreeN (by decide) ⟨fun c => absurd rfl c, fun _ => ?_⟩) (fun e0 ok g f e1 e2 => x_agree0 ⟨fun _ => ?_, fun c => absurd (by decide) c⟩))
  · exact hS _ _ s_91 (fin _ _ _ PJc_s (qQ_s hQ) up_at (Or.inl ⟨ns, rfl, rfl⟩))
  · have fg := fr_trans (PJc_W f) (PJc_s (v := 5))
    exact hS _ _ (PJc_91 fg) (fin _ _ _ fg (qx_fr hQ (by funext j; rw [up_j (by omega), f 7 0 j (by omega)])) up_at (Or.inr (Or.inl ⟨e0, ng, rfl, rfl⟩)))
  · have o1 := ok.2.1
    have n3 : ∀ j, (qup g 11 0 17 0 0) 3 0 j = g 3 0 j := fun j => up_j (by omega)
    have bad : ¬ (0 ≤ pl ∧ pl < k) → S (some (qi (-1))) (qup (qup g 11 0 17 0 0) 11 0 17 0 8) := fun np => by
      have fg := fr_trans (PJc_W f) (fr_trans (PJc_s (v := 0)) (PJc_s (v := 8)))
      exact hS _ _ (PJc_91 fg) (fin _ _ _ fg (qx_fr hQ (by funext j; rw [up_j (by omega), up_j (by omega), f 7 0 j (by omega)])) up_at (Or.inr (Or.inr ⟨e0, ok, Or.inl ⟨fun c => np c.1, rfl, rfl⟩⟩)))
    refine ⟨fun c => sX11_answer_0 (bad (by omega)), fun c => ⟨fun c2 => ?_, fun c2 => sX11_answer_0 (bad (by omega))⟩⟩
    refine x_seek (fo := 1) (k := k.toNat) (wn := fun p => g 3 0 0 (Int.toNat p)) (per := fun i => num (2 * i)) (hou := fun i => num (2 * i + 1)) (nn := nn) (by omega) (by omega) (Or.inr rfl) (qx_fr hQ (by funext j; rw [up_j (by omega), f 7 0 j (by omega)])) hW (fun p _ _ => by rw [n3]) (by rw [n3]; exact seekE ok e1) (by rw [n3]; exact seekC ok e2) (fun g2 hQ2 f2 _ t3 t4 => ?_)
    have fg := fr_trans (PJc_W f) (fr_trans (PJc_s (v := 0)) (PJc_S f2))
    have e17 : g2 11 0 17 0 = 0 := by rw [f2 11 0 17 (by omega)]; exact up_at
    refine ⟨fun nf => ⟨by omega, hS _ _ (PJc_91 fg) (fin _ _ _ fg hQ2 e17 (Or.inr (Or.inr ⟨e0, ok, Or.inr ⟨⟨by omega, t3.mp nf⟩, rfl, _, t4 (t3.mp nf), rfl⟩⟩)))⟩, fun nf => ?_⟩
    have fg2 := fr_trans fg (PJc_s (v := 8))
    exact sX11_answer_0 (hS _ _ (PJc_91 fg2) (fin _ _ _ fg2 (qQ_s hQ2) up_at (Or.inr (Or.inr ⟨e0, ok, Or.inl ⟨fun c => nf (t3.mpr c.2), rfl, rfl⟩⟩))))
