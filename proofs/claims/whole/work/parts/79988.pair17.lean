/-! ROWS home and to a goal -/
def PN6 (c i j : Nat) : Prop := PN0 c i j ∨ c = 6
def PG0 (c i j : Nat) : Prop := c = 12 ∧ (j = 0 ∨ j = 1 ∨ (26 ≤ j ∧ j ≤ 29))
section R6
variable {B B' : Int} {h h' g g3 : qH} {a : qB}
theorem Inv_6 (hi : Inv B h a) (hf : fr PN6 h h') (hB : B ≤ B') (ht : tB h') (hs : h' 11 0 17 0 = h' 12 0 0 0) : Inv B' h' a := by
  have n : ∀ c i j, ¬ PN6 c i j → h' c i j = h c i j := hf
  unfold PN6 PN0 Scr at n
  obtain ⟨⟨q1, q2, q3, q4, q5⟩, i2, i3, i4, i5, i6⟩ := hi
  refine ⟨⟨qx_fr q1 (by funext j; exact n 7 0 j (by omega)), m_fr q2 (n 12 0 20 (by omega)), wf_mono q3 hB, nRel_e q4 (n 7 0 0 (by omega)) (n 12 0 22 (by omega)), dRel_e q5 (by funext j; exact n 1 0 j (by omega)) (fun y _ _ => by rw [n 12 0 20 (by omega)])⟩, ?_, ?_, ?_, ?_, ht⟩
  · exact mRel_e (mRel_B i2 hB) (fun i i2 => by funext j; exact n 7 i j (by omega)) (fun i i2 => by funext j; exact n 1 i j (by omega)) (fun y y0 y1 => by rw [n 12 0 20 (by omega)]) (n 12 0 22 (by omega)) (n 11 0 16 (by omega)) (n 12 0 23 (by omega))
  · exact tRel_e i3 (by funext i j; exact n 10 i j (by omega)) (n 12 0 4 (by omega)) (n 12 0 5 (by omega)) (n 12 0 6 (by omega))
  · exact pRel_e i4 (n 9 0 0 (by omega)) (n 9 0 1 (by omega)) (n 12 0 7 (by omega)) (n 12 0 8 (by omega))
  · unfold oRel at *
    rw [n 90 0 0 (by omega), hs, n 11 0 18 (by omega), n 11 0 19 (by omega), n 12 0 10 (by omega), n 12 0 11 (by omega), n 4 0 0 (by omega), n 4 0 1 (by omega), n 12 0 2 (by omega), n 12 0 3 (by omega), n 5 0 1 (by omega), n 12 0 40 (by omega), n 12 0 39 (by omega), n 5 0 5 (by omega), n 5 0 6 (by omega), n 5 0 7 (by omega), n 5 0 8 (by omega), n 5 0 2 (by omega)]
    exact ⟨i5.1, rfl, i5.2.2⟩
theorem fr_916 (hf : fr PN6 h h') : h' 91 = h 91 := by
  funext i j
  refine hf 91 i j ?_
  unfold PN6 PN0 Scr
  omega
theorem tB_g (ht : tB h) (hf : fr (fun c _ j => c = 6 ∧ j = 4) h h') : tB h' := by
  unfold tB tS at *
  rw [hf 6 0 6 (by omega), hf 6 0 7 (by omega), hf 6 0 2 (by omega), hf 6 0 3 (by omega), hf 6 0 0 (by omega)]
  exact ht
theorem k6 {K : qH → Prop} (hi : Inv B h a) (hK : ∀ g a', Inv (B + 300) g a' → g 91 = h 91 → K g) (fg : fr PN6 h g) (tg : tB g) (f3 : fr PG0 g g3) (s : g3 12 0 0 0 = g 11 0 17 0) : K g3 := by
  have f : fr PN6 h g3 := fr_trans fg (fr_mono f3 (fun c i j p => by unfold PG0 at p; unfold PN6 PN0 Scr; omega))
  refine hK _ a (Inv_6 hi f (by omega) (tB_e tg (by funext i j; exact f3 6 i j (by unfold PG0; omega))) ?_) (fr_916 f)
  rw [s, f3 11 0 17 (by unfold PG0; omega)]
theorem pR_pos {G : qB → Int} {row : Int → Int} : ∀ (k : Nat) {b : qB} {i : Int}, pR a G row k b i → ∀ j, i ≤ j → j < i + k → 0 ≤ row j
  | 0, _, _, _, j, j0, j1 => absurd j1 (by omega)
  | k + 1, b, i, hp, j, j0, j1 => by
    by_cases e : j = i
    · rw [e]; exact hp.1.1
    · exact pR_pos k hp.2 j (by omega) (by omega)
end R6
section Rm
variable {d : Nat} {B : Int} {g : qH} {a : qB} {gl : Int → Int} {G : qB → Int} {K X : qH → Prop} {r : Int}
theorem m_farA (hM : qM g 0 a) (hW : qwf B a) (hgl : ∀ p, 0 ≤ p → p < a 0 → g 12 0 29 (Int.toNat p) = gl p) (hgk : gOK gl (a 0)) (hG : rL B a gl G) (h1 : 0 ≤ G a → r = G a ∧ ∀ g', fr PV g g' → K g') (h0 : G a < 0 → r = -1 ∧ ∀ g', fr PV g g' → K (qup g' 12 0 0 0 8)) : qT (d + 5) 281 0 [qo 12 0] [] g (fun w3 g4 => qri w3 fun r5 => qT (d + 5) 284 0 [qo 12 0, qi r5] [] g4 (fun w6 g7 => qri w6 fun r8 => (r = r8 → K g7) ∧ (¬ r = r8 → X g7))) := by
  obtain ⟨gr1, gr2, gr3⟩ := gOK_row hW hgk
  refine m_farNow (d := d + 1) hM hW hgl gr1 gr2 gr3 (fun g3 F f3 hF _ _ => ?_)
  dsimp only [qri]
  rw [rL_uniq hF hG hW bA_rfl]
  refine sX12_answer_0 ⟨fun c => ?_, fun c => m_refuse ?_⟩
  · exact okR ((h1 c).2 g3 f3) (h1 c).1
  · exact okR ((h0 (by omega)).2 g3 f3) (h0 (by omega)).1
theorem m_stairA {row : Int → Int} {k : Int} (hM : qM g 0 a) (hW : qwf B a) (hgl : ∀ p, 0 ≤ p → p < a 0 → g 12 0 29 (Int.toNat p) = gl p) (hgk : gOK gl (a 0)) (hG : rL B a gl G) (hG1 : G a ≤ 21) (hrow : 0 ≤ G a → pR a G row (G a).toNat a 0) (h1 : 0 ≤ k → k < G a → r = row k ∧ ∀ g', fr PV g g' → K g') (h0 : ¬ (0 ≤ k ∧ k < G a) → r = -1 ∧ ∀ g', fr PV g g' → K (qup g' 12 0 0 0 8)) : qT (d + 5) 282 0 [qo 12 0, qi k, qu, qu, qu] [] g (fun w3 g4 => qri w3 fun r5 => qT (d + 5) 284 0 [qo 12 0, qi r5] [] g4 (fun w6 g7 => qri w6 fun r8 => (r = r8 → K g7) ∧ (¬ r = r8 → X g7))) := by
  obtain ⟨gr1, gr2, gr3⟩ := gOK_row hW hgk
  refine m_stairAt hM hW hgl gr1 gr2 gr3 hG hG1 hrow (fun k0 k1 g3 f3 => ?_) (fun nk g3 f3 => ?_)
  · have rp : 0 ≤ row k := pR_pos _ (hrow (by omega)) k k0 (by omega)
    exact sX12_answer_0 ⟨fun c => okR ((h1 k0 k1).2 g3 f3) (h1 k0 k1).1, fun c => absurd rp c⟩
  · exact sX12_answer_0 ⟨fun c => absurd c (by omega), fun c => m_refuse (okR ((h0 nk).2 g3 f3) (h0 nk).1)⟩
end Rm
theorem gId_ok (n : Int) : gOK (fun p => p) n ∧ gI n (fun p => p) (fun p => p) := ⟨⟨fun p p0 p1 => ⟨p0, p1⟩, fun p q p0 pq q1 => by show p ≠ q; omega⟩, fun p p0 p1 => ⟨p0, p1, rfl⟩, fun v v0 v1 => ⟨v0, v1, rfl⟩⟩
theorem PN6_find {h h' : qH} (hf : fr PN h h') : fr PN6 h h' := fr_mono hf (fun c i j p => Or.inr p.1)
theorem PN6_goal {h h' : qH} (hf : fr (fun c _ j => c = 6 ∧ j = 4) h h') : fr PN6 h h' := fr_mono hf (fun c i j p => Or.inr p.1)
theorem PN6_s {h : qH} {v : Int} : fr PN6 h (qup h 11 0 17 0 v) := fr_mono PN_s (fun _ _ _ p => Or.inl p)
theorem tB_s {h : qH} {v : Int} (ht : tB h) : tB (qup h 11 0 17 0 v) := tB_e ht (by funext i j; exact up_j (by omega))
theorem PG0_m0 {g g2 g3 : qH} (f2 : fr (fun c _ j => c = 12 ∧ j = 29) (m0 g) g2) (f3 : fr PV g2 g3) : fr PG0 g g3 ∧ g3 12 0 0 0 = 0 := by
  refine ⟨?_, ?_⟩
  · have fm : fr PG0 g (m0 g) := fr_trans (h' := qup g 12 0 1 0 0) (fr_up (by unfold PG0; omega)) (fr_up (by unfold PG0; omega))
    exact fr_trans fm (fr_trans (fr_mono f2 (fun c i j p => by unfold PG0; omega)) (fr_mono f3 (fun c i j p => by unfold PG0; omega)))
  · rw [f3 12 0 0 (by omega), f2 12 0 0 (by omega)]
    exact up_at
theorem p_homeward : Pair 135 285 [] [] := by
  intro d B h a K X S hi b0 b1 hK hS
  have hQ := hi.1.1
  have hW := hi.1.2.2.1
  have w0 := wf_n hW
  obtain ⟨gk, gi⟩ := gId_ok (a 0)
  have fin : ∀ g s r G, fr PN6 h g → tB g → g 11 0 17 0 = s → rL B a (fun p => p) G → ((G a < 0 ∧ s = 8 ∧ r = -1) ∨ (0 ≤ G a ∧ s = 0 ∧ r = G a)) → qT (d + 39) 285 0 [qo 12 0] [] g (fun w' g' => qri w' fun r' => (r = r' → K g') ∧ (¬ r = r' → X g')) := by
    intro g s r G fg tg e17 hG hr
    have hM1 : qM (m0 g) 0 a := m0_M (m_fr (iM0 hi) (fg 12 0 20 (by unfold PN6 PN0 Scr; omega)))
    refine sX12_homeward_0 (m_goesHome hM1 hW (fun g2 f2 e2 => ?_))
    refine m_farA (d := d + 33) (B := B) (gl := fun p => p) (G := G) (K := K) (X := X) (r := r) (m_fr hM1 (f2 12 0 20 (by omega))) hW e2 gk hG (fun c => ⟨by omega, fun g' f3 => ?_⟩) (fun c => ⟨by omega, fun g' f3 => ?_⟩)
    · have z := PG0_m0 f2 f3
      exact k6 hi hK fg tg z.1 (by rw [z.2, e17]; omega)
    · have z := PG0_m0 f2 f3
      exact k6 hi hK fg tg (fr_trans z.1 (fr_up (by unfold PG0; omega))) (by rw [up_at, e17]; omega)
  refine sX11_homeward_0 (sX11_statusOfHomeward_0 (x_aimHome (fun g1 f1 e1 => x_find (gl := fun p => p) (inv := fun p => p) (qx_fr hQ (by funext j; exact f1 7 0 j (by omega))) hW (tB_g hi.2.2.2.2.2 f1) gi (fun p p0 p1 => e1 p p0 (by omega)) (fun g2 G f2 tb2 hG => ⟨fun c => ⟨fun _ => x_agreeN (by decide) ⟨fun _ => ?_, fun c => absurd rfl c⟩, fun c => absurd rfl c⟩, fun c e8 le21 hp => ⟨fun c => absurd c (by decide), fun _ => x_agree0 ⟨fun c => absurd c (by decide), fun _ => ?_⟩⟩⟩))))
  · have fg : fr PN6 h (qup g2 11 0 17 0 8) := fr_trans (PN6_goal f1) (fr_trans (PN6_find f2) PN6_s)
    exact hS _ _ (fr_916 fg) (fin _ 8 _ G fg (tB_s tb2) up_at hG (Or.inl ⟨c, rfl, rfl⟩))
  · have fg : fr PN6 h (qup g2 11 0 17 0 0) := fr_trans (PN6_goal f1) (fr_trans (PN6_find f2) PN6_s)
    rw [show (qup g2 11 0 17 0 0) 6 0 8 0 = G a by rw [up_j (by omega)]; exact e8]
    exact hS _ _ (fr_916 fg) (fin _ 0 _ G fg (tB_s tb2) up_at hG (Or.inr ⟨c, rfl, rfl⟩))
theorem p_homewardAt {k : Int} : Pair 136 286 [qi k] [qi k] := by
  intro d B h a K X S hi b0 b1 hK hS
  have hQ := hi.1.1
  have hW := hi.1.2.2.1
  have w0 := wf_n hW
  obtain ⟨gk, gi⟩ := gId_ok (a 0)
  have fin : ∀ g s r G row, fr PN6 h g → tB g → g 11 0 17 0 = s → rL B a (fun p => p) G → G a ≤ 21 → (0 ≤ G a → pR a G row (G a).toNat a 0) → ((¬ (0 ≤ k ∧ k < G a) ∧ s = 8 ∧ r = -1) ∨ ((0 ≤ k ∧ k < G a) ∧ s = 0 ∧ r = row k)) → qT (d + 39) 286 0 [qo 12 0, qi k] [] g (fun w' g' => qri w' fun r' => (r = r' → K g') ∧ (¬ r = r' → X g')) := by
    intro g s r G row fg tg e17 hG hG1 hrow hr
    have hM1 : qM (m0 g) 0 a := m0_M (m_fr (iM0 hi) (fg 12 0 20 (by unfold PN6 PN0 Scr; omega)))
    refine sX12_homewardAt_0 (m_goesHome hM1 hW (fun g2 f2 e2 => ?_))
    refine m_stairA (d := d + 33) (B := B) (gl := fun p => p) (G := G) (K := K) (X := X) (r := r) (m_fr hM1 (f2 12 0 20 (by omega))) hW e2 gk hG hG1 hrow (fun c0 c1 => ⟨by omega, fun g' f3 => ?_⟩) (fun c => ⟨by omega, fun g' f3 => ?_⟩)
    · have z := PG0_m0 f2 f3
      exact k6 hi hK fg tg z.1 (by rw [z.2, e17]; omega)
    · have z := PG0_m0 f2 f3
      exact k6 hi hK fg tg (fr_trans z.1 (fr_up (by unfold PG0; omega))) (by rw [up_at, e17]; omega)
  refine sX11_homewardAt_0 (sX11_statusOfHomeward_0 (x_aimHome (fun g1 f1 e1 => x_find (gl := fun p => p) (inv := fun p => p) (qx_fr hQ (by funext j; exact f1 7 0 j (by omega))) hW (tB_g hi.2.2.2.2.2 f1) gi (fun p p0 p1 => e1 p p0 (by omega)) (fun g2 G f2 tb2 hG => ⟨fun c => ⟨fun _ => sX11_rowAt_0 (x_agreeN (by decide) ⟨fun c => absurd rfl c, fun _ => ?_⟩), fun c => absurd rfl c⟩, fun c e8 le21 hp => ⟨fun c => absurd c (by decide), fun _ => sX11_rowAt_0 (x_agree0 ⟨fun _ => ⟨fun c2 => ?_, fun c2 => ?_⟩, fun c => absurd (by decide) c⟩)⟩⟩))))
  · have fg : fr PN6 h (qup g2 11 0 17 0 8) := fr_trans (PN6_goal f1) (fr_trans (PN6_find f2) PN6_s)
    exact hS _ _ (fr_916 fg) (fin _ 8 _ G (fun _ => 0) fg (tB_s tb2) up_at hG (by omega) (fun c2 => absurd c (by omega)) (Or.inl ⟨by omega, rfl, rfl⟩))
  · have fg : fr PN6 h (qup (qup g2 11 0 17 0 0) 11 0 17 0 8) := fr_trans (PN6_goal f1) (fr_trans (PN6_find f2) (fr_trans PN6_s PN6_s))
    exact sX11_answer_0 (hS _ _ (fr_916 fg) (fin _ 8 _ G _ fg (tB_s (tB_s tb2)) up_at hG le21 (fun _ => hp) (Or.inl ⟨by omega, rfl, rfl⟩)))
  · rw [show (qup g2 11 0 17 0 0) 6 0 8 0 = G a by rw [up_j (by omega)]; exact e8]
    refine ⟨fun c3 => ⟨by omega, ?_⟩, fun c3 => ?_⟩
    · have fg : fr PN6 h (qup g2 11 0 17 0 0) := fr_trans (PN6_goal f1) (fr_trans (PN6_find f2) PN6_s)
      exact hS _ _ (fr_916 fg) (fin _ 0 _ G _ fg (tB_s tb2) up_at hG le21 (fun _ => hp) (Or.inr ⟨by omega, rfl, by rw [up_j (by omega)]⟩))
    · have fg : fr PN6 h (qup (qup g2 11 0 17 0 0) 11 0 17 0 8) := fr_trans (PN6_goal f1) (fr_trans (PN6_find f2) (fr_trans PN6_s PN6_s))
      exact sX11_answer_0 (hS _ _ (fr_916 fg) (fin _ 8 _ G _ fg (tB_s (tB_s tb2)) up_at hG le21 (fun _ => hp) (Or.inl ⟨by omega, rfl, rfl⟩)))
