/-! the Model reads a part -/
def mfr (h h' : qH) : Prop := (∀ c i j, ¬ (c = 12 ∧ (i ≠ 0 ∨ (12 ≤ j ∧ j ≤ 20) ∨ j = 22 ∨ j = 24)) → h' c i j = h c i j) ∧ (∀ y : Int, 0 ≤ y → (y < 1488 ∨ 1588 ≤ y) → h' 12 0 20 (Int.toNat y) = h 12 0 20 (Int.toNat y)) ∧ (∀ y : Int, 0 ≤ y → y < 28 → h' 12 0 22 (Int.toNat y) = h 12 0 22 (Int.toNat y))
theorem mfr_rfl {h : qH} : mfr h h := ⟨fun _ _ _ _ => rfl, fun _ _ _ => rfl, fun _ _ _ => rfl⟩
theorem mfr_trans {h h' h'' : qH} (h1 : mfr h h') (h2 : mfr h' h'') : mfr h h'' := ⟨fun c i j k => (h2.1 c i j k).trans (h1.1 c i j k), fun y y0 y1 => (h2.2.1 y y0 y1).trans (h1.2.1 y y0 y1), fun y y0 y1 => (h2.2.2 y y0 y1).trans (h1.2.2 y y0 y1)⟩
theorem mfr_r {h h' : qH} (hf : fr PMr h h') : mfr h h' := ⟨fun c i j k => hf c i j (by omega), fun y _ _ => by rw [hf 12 0 20 (by omega)], fun y _ _ => by rw [hf 12 0 22 (by omega)]⟩
theorem mfr_M {h h' : qH} (hf : qfM (372 * 4) h h') : mfr h h' := by
  refine ⟨fun c i j k => ?_, fun y y0 y1 => hf.2.2 y y0 (by omega), fun y _ _ => by rw [hf.2.1 22 (by omega)]⟩
  by_cases c12 : c = 12
  · subst c12
    have i0 : i = 0 := by omega
    subst i0
    exact hf.2.1 j (by omega)
  · exact congrFun (hf.1 c i c12) j
theorem mfr_22 {h : qH} {x v : Int} (h0 : 28 ≤ x) : mfr h (qup h 12 0 22 (Int.toNat x) v) := ⟨fun c i j k => up_j (by omega), fun y _ _ => by rw [up_j (by omega)], fun y y0 y1 => by rw [up_k (by omega)]⟩
theorem mfr_24 {h : qH} {v : Int} : mfr h (qup h 12 0 24 0 v) := ⟨fun c i j k => up_j (by omega), fun y _ _ => by rw [up_j (by omega)], fun y y0 y1 => by rw [up_j (by omega)]⟩
theorem mfr_20 {h : qH} {x v : Int} (h0 : 1488 ≤ x ∧ x < 1588) : mfr h (qup h 12 0 20 (Int.toNat x) v) := ⟨fun c i j k => up_j (by omega), fun y _ _ => by rw [up_k (by omega)], fun y y0 y1 => by rw [up_j (by omega)]⟩
/-- what was told once: the bits 2 and 3 -/
def tOn (o c : Int) : Int := (if o = 0 then 0 else 4) + (if c = 0 then 0 else 8)
theorem tOn_b {o c : Int} (ho : o = 0 ∨ o = 1) (hc : c = 0 ∨ c = 1) : qand (qshr (tOn o c) 2) 1 = o ∧ qand (qshr (tOn o c) 3) 1 = c ∧ qor (tOn o c) (qshl 1 2) = tOn 1 c ∧ qor (tOn o c) (qshl 1 3) = tOn o 1 := by
  rcases ho with e | e <;> rcases hc with e2 | e2 <;> subst e <;> subst e2 <;> decide +kernel
def tqM (h : qH) (b : Int → Int) (n : Int) (a : qB) (Y : Int → Int) (o c : Int) : Prop := txM h b n ∧ qM h (372 * 4) a ∧ (∀ j, 0 ≤ j → j < a 0 → h 12 0 22 (Int.toNat (7 * 4 + j)) = Y j) ∧ h 12 0 24 0 = tOn o c
section Qm
variable {d : Nat} {R : Option qV → qH → Prop} {h : qH} {b : Int → Int} {n p o c B : Int} {a : qB} {Y : Int → Int}
theorem tqM_r {h' : qH} (hm : tqM h b n a Y o c) (hf : fr PMr h h') : tqM h' b n a Y o c := by
  refine ⟨txM_fr hm.1 hf, m_fr hm.2.1 (hf 12 0 20 (by omega)), fun j j0 j1 => ?_, ?_⟩
  · rw [hf 12 0 22 (by omega)]; exact hm.2.2.1 j j0 j1
  · rw [hf 12 0 24 (by omega)]; exact hm.2.2.2
theorem txM_m {h' : qH} (ht : txM h b n) (hf : mfr h h') : txM h' b n := by
  unfold txM at *
  rw [hf.1 12 0 9 (by omega), hf.1 12 0 7 (by omega)]
  exact ht
theorem mK_fr {h' : qH} (hk : mK h b n p) (e : ∀ j, 12 ≤ j → j ≤ 19 → h' 12 0 j = h 12 0 j) : mK h' b n p := by
  unfold mK mT at *
  rw [e 12 (by omega) (by omega), e 14 (by omega) (by omega), e 15 (by omega) (by omega), e 16 (by omega) (by omega), e 17 (by omega) (by omega), e 18 (by omega) (by omega), e 19 (by omega) (by omega)]
  exact hk
theorem tqM_nm (hm : tqM h b n a Y o c) (hW : qwf B a) : nmM h 4 Y (a 0) := ⟨m_at hm.2.1 (x := 0) (by omega) (by omega) (by omega), wf_n hW, by omega, hm.2.2.1⟩
theorem m_perhapsB {x : Int} {e : Int × Int} (hb : mF h e) (hR : R (some (qi 0)) h) : qT (d + 1) 214 0 [qo 12 0, qi x] [] h R := by
  have := hb.2.2
  refine sX12_perhaps_0 ?_
  rw [hb.1]
  exact ⟨fun _ => ⟨by omega, hR⟩, fun c2 => absurd this c2⟩
theorem m_perhaps0 (hk : mK h b n p) (hR : R (some (qi 0)) h) : qT (d + 1) 214 0 [qo 12 0, qi 0] [] h R := by
  refine sX12_perhaps_0 ?_
  rw [hk.1]
  exact ⟨fun c2 => absurd c2 (by decide), fun _ => ⟨fun c2 => absurd rfl c2, fun _ => ⟨by omega, hR⟩⟩⟩
theorem m_perhaps1 (ht : txM h b n) (hk : mK h b n p) (p0 : 0 ≤ p) (pn : p ≤ n) (hR : ∀ h', fr PMr h h' → mK h' b n (tkE b n p) → R (some (qi 1)) h') : qT (d + 3) 214 0 [qo 12 0, qi 1] [] h R := by
  refine sX12_perhaps_0 ?_
  rw [hk.1]
  exact ⟨fun c2 => absurd c2 (by decide), fun _ => ⟨fun _ => m_next ht hk p0 pn (fun h' hf hk' => ⟨by omega, hR h' hf hk'⟩), fun c2 => absurd (by decide) c2⟩⟩
theorem mF_ne {e : Int × Int} (hb : mF h e) : h 12 0 12 0 ≠ 0 := by have := hb.2.2; rw [hb.1]; omega
theorem mF_gt {e : Int × Int} (hb : mF h e) : ¬ h 12 0 12 0 ≤ 0 := by have := hb.2.2; rw [hb.1]; omega
theorem m_has1 {S x r : Int} (hr : qand (qshr S x) 1 = r) (h1 : r = 1 → R (some (qi 1)) h) (h0 : r ≠ 1 → R (some (qi 0)) h) : qT (d + 1) 188 0 [qi S, qi x] [] h R := by
  refine sX12_has_0 ?_
  rw [hr]
  exact ⟨fun c2 => ⟨by omega, h0 c2⟩, fun c2 => ⟨by omega, h1 (Decidable.not_not.mp c2)⟩⟩
theorem m_readOnce {x hi t o1 c1 : Int} (hm : tqM h b n a Y o c) (hk : mK h b n p) (pn : 0 ≤ p ∧ p ≤ n) (hx : x = 2 ∨ x = 3) (hh : 0 ≤ hi ∧ hi ≤ 100) (ht : t = 0 ∨ t = 1) (hS : qand (qshr (tOn o c) x) 1 = t) (hT : qor (tOn o c) (qshl 1 x) = tOn o1 c1) (he : ∀ e, qtN b n x t hi a p = .inl e → ∀ h', mfr h h' → mF h' e → R none h') (hv : ∀ v, qtN b n x t hi a p = .inr v → ∀ h', mfr h h' → mK h' b n v.1 → tqM h' b n v.2 Y o1 c1 → R none h') : qT (d + 4) 224 0 [qo 12 0, qi x, qi hi, qu] [] h R := by
  have hs := tkS_b (b := b) pn.2
  have hE := tkE_b (b := b) pn.2
  refine sX12_readOnce_0 ?_
  rw [hm.2.2.2]
  refine m_has1 hS (fun e => ⟨fun c2 => absurd c2 (by decide), fun _ => ?_⟩) (fun e => ⟨fun _ => ?_, fun c2 => absurd rfl c2⟩)
  · rw [hk.2.1]
    refine m_fail hk.1 (by omega) (fun g hf hF => ?_)
    have g24 : g 12 0 24 0 = tOn o c := by rw [hf 12 0 24 (by omega)]; exact hm.2.2.2
    dsimp only [qrv]
    have hF2 : mF (qup g 12 0 24 0 (qor (g 12 0 24 0) (qshl 1 x))) (5, tkS b n p) := ⟨by rw [up_j (by omega)]; exact hF.1, by rw [up_j (by omega)]; exact hF.2.1, hF.2.2⟩
    refine m_mustB hF2 (m_countB hF2 ⟨fun _ => he _ ?_ _ (mfr_trans (mfr_r hf) mfr_24) hF2, fun c2 => absurd (mF_ne hF2) c2⟩)
    unfold qtN
    rw [if_neg (by omega)]
  · have en : qtN b n x t hi a p = rb (rdNum b n 0 hi (tkE b n p)) (fun v => .inr (v.2, aSet a x v.1)) := by unfold qtN; rw [if_pos (by omega)]
    rw [en] at he hv
    rw [hm.2.2.2, hT]
    have hk1 : mK (qup h 12 0 24 0 (tOn o1 c1)) b n p := mK_fr hk (fun j j0 j1 => up_j (by omega))
    have hm1 : tqM (qup h 12 0 24 0 (tOn o1 c1)) b n a Y o1 c1 := ⟨txM_m hm.1 mfr_24, m_fr hm.2.1 (up_j (by omega)), fun j j0 j1 => by rw [up_j (by omega)]; exact hm.2.2.1 j j0 j1, up_at⟩
    refine m_mustT hm1.1 hk1 pn.1 pn.2 (fun g hf hk2 => ?_)
    have hm2 := tqM_r hm1 hf
    refine m_count hm2.1 hk2 (by omega) (by omega) (fun e h1 g2 hf2 hF => ⟨fun _ => he e (rb_l h1) g2 (mfr_trans mfr_24 (mfr_trans (mfr_r hf) (mfr_r hf2))) hF, fun c2 => absurd (mF_ne hF) c2⟩) (fun v p' h1 g2 hf2 hk3 => ⟨fun c2 => absurd hk3.1 c2, fun _ => ⟨qR_of (by omega) (by omega), by omega, ?_⟩⟩)
    have hm3 := tqM_r hm2 hf2
    refine hv (p', aSet a x v) (by rw [rb_r h1]) _ (mfr_trans mfr_24 (mfr_trans (mfr_r hf) (mfr_trans (mfr_r hf2) (mfr_20 (by omega))))) (mK_fr hk3 (fun j j0 j1 => up_j (by omega))) ⟨txM_m hm3.1 (mfr_20 (by omega)), m_put hm3.2.1 (by omega) (by omega) (by omega) (by omega), fun j j0 j1 => by rw [up_j (by omega)]; exact hm3.2.2.1 j j0 (by have j1 : j < aSet a x v 0 := j1; rw [aSet_ne (by omega)] at j1; exact j1), by rw [up_j (by omega)]; exact hm3.2.2.2⟩
theorem m_readPerson (hm : tqM h b n a Y o c) (hk : mK h b n p) (pn : 0 ≤ p ∧ p ≤ n) (hW : qwf B a) {r : Rs (Int × qB)} (hr : r = if a 0 < 7 then qtP b n a Y (tkE b n p) else .inl (6, tkS b n p)) (he : ∀ e, r = .inl e → ∀ h', mfr h h' → mF h' e → R none h') (hv : ∀ v, r = .inr v → ∀ h', mfr h h' → mK h' b n v.1 → tqM h' b n v.2 (qtM 2 (a 0) (tkY b n (tkE b n p)) Y) o c → R none h') : qT (d + 6) 226 0 [qo 12 0, qu, qu] [] h R := by
  have hs := tkS_b (b := b) pn.2
  have hE := tkE_b (b := b) pn.2
  have w0 := wf_n hW
  have bad72 : ∀ g e x, mfr h g → mF g e → r = .inl e → qT (d + 6) 226 72 [qo 12 0, qi x, qu] [] g R := fun g e x hf hF hr => tX12_readPerson_72 ⟨fun c2 => absurd c2 (mF_gt hF), fun _ => he e hr g hf hF⟩
  have bad48 : ∀ g e x, mfr h g → mF g e → r = .inl e → qT (d + 6) 226 48 [qo 12 0, qi x, qu] [] g R := fun g e x hf hF hr => tX12_readPerson_48 ⟨fun _ => bad72 g e x hf hF hr, fun c2 => absurd (mF_ne hF) c2⟩
  refine tX12_readPerson_0 ⟨by omega, ?_⟩
  rw [show h 12 0 20 (Int.toNat 1488) = a 0 from m_at hm.2.1 (x := 0) (by omega) (by omega) (by omega)]
  refine ⟨fun c7 => ?_, fun c7 => ?_⟩
  · rw [if_pos (by omega)] at hr
    refine tX12_readPerson_25 (m_mustT hm.1 hk pn.1 pn.2 (fun g hf hk1 => ⟨fun c2 => absurd hk1.1 c2, fun _ => ?_⟩))
    obtain ⟨q, hq⟩ : ∃ q, tkE b n p = q := ⟨_, rfl⟩
    rw [hq] at hr hv hk1 hE
    have hE1 := tkE_b (b := b) (n := n) (p := q) (by omega)
    have hs1 := tkS_b (b := b) (n := n) (p := q) (by omega)
    unfold qtP at hr
    refine m_isName hk1.2 (fun nn => ⟨fun _ => ?_, fun c2 => absurd (by decide) c2⟩) (fun nn => ⟨fun c2 => absurd rfl c2, fun _ => m_amiss hk1 (fun g2 hf2 hF => bad48 g2 _ _ (mfr_trans (mfr_r hf) (mfr_r hf2)) hF (by rw [hr]; exact if_neg nn))⟩)
    rw [if_pos nn] at hr
    have hm1 := tqM_r hm hf
    refine tX12_readPerson_48 ⟨fun c2 => absurd hk1.1 c2, fun _ => ?_⟩
    have hn := tqM_nm hm1 hW
    refine m_named (X := 0) hn.1 w0.1 w0.2 (by omega) (by omega) hn.2.2.2 (hk1.2.2.2.2.2.2 nn.1).1 ⟨fun c2 => ?_, fun c2 => ?_⟩
    · rw [if_neg (by omega)] at hr
      refine tX12_readPerson_72 ⟨fun _ => tX12_readPerson_80 ⟨qR_of (by omega) (by omega), by omega, ?_⟩, fun c2 => absurd (by rw [hk1.1]; decide) c2⟩
      rw [(hk1.2.2.2.2.2.2 nn.1).1]
      have f2 : mfr h (qup g 12 0 22 (Int.toNat (28 + a 0)) (tkY b n q)) := mfr_trans (mfr_r hf) (mfr_22 (by omega))
      have hk2 : mK (qup g 12 0 22 (Int.toNat (28 + a 0)) (tkY b n q)) b n q := mK_fr hk1 (fun j j0 j1 => up_j (by omega))
      have hY : ∀ k, fr PMr (qup g 12 0 22 (Int.toNat (28 + a 0)) (tkY b n q)) k → txM k b n ∧ qM k (372 * 4) a ∧ (∀ j, 0 ≤ j → j < a 0 + 1 → k 12 0 22 (Int.toNat (7 * 4 + j)) = qtM 2 (a 0) (tkY b n q) Y j) ∧ k 12 0 24 0 = tOn o c := by
        intro k fk
        refine ⟨txM_fr (txM_m hm1.1 (mfr_22 (by omega))) fk, m_fr hm1.2.1 (by rw [fk 12 0 20 (by omega), up_j (by omega)]), fun j j0 j1 => ?_, by rw [fk 12 0 24 (by omega), up_j (by omega)]; exact hm1.2.2.2⟩
        rw [fk 12 0 22 (by omega), up_if]
        unfold qtM
        by_cases cj : j = a 0
        · rw [if_pos (by omega), if_pos ⟨rfl, cj⟩]
        · rw [if_neg (by omega), if_neg (fun e => cj e.2)]; exact hm1.2.2.1 j j0 (by omega)
      -- the end
      have fin : ∀ k t q', fr PMr (qup g 12 0 22 (Int.toNat (28 + a 0)) (tkY b n q)) k → mK k b n q' → r = .inr (q', aCome a t) → qT (d + 6) 226 120 [qo 12 0, qi (a 0), qi t] [] k R := by
        intro k t q' fk hkk er
        obtain ⟨y1, y2, y3, y4⟩ := hY k fk
        refine tX12_readPerson_120 ⟨fun c3 => absurd hkk.1 c3, fun _ => m_comes (b := 4) y2 (by omega) (by omega) w0.1 (by omega) (fun k2 hM2 f3 => ?_)⟩
        have f4 := mfr_M f3
        refine hv _ er k2 (mfr_trans f2 (mfr_trans (mfr_r fk) f4)) (mK_fr hkk (fun j j0 j1 => f3.2.1 j (by omega))) ⟨txM_m y1 f4, hM2, fun j j0 j1 => ?_, by rw [f3.2.1 24 (by omega)]; exact y4⟩
        have e0 : aCome a t 0 = a 0 + 1 := by unfold aCome; rw [if_pos rfl]
        rw [f3.2.1 22 (by omega)]
        exact y3 j j0 (by rw [← e0]; exact j1)
      refine m_next (txM_m hm1.1 (mfr_22 (by omega))) hk2 (by omega) (by omega) (fun g3 hf3 hk3 => ?_)
      have ew := mT_W hk3.2
      have ht3 := (hY g3 hf3).1
      have hE2 := tkE_b (b := b) (n := n) (p := tkE b n q) (by omega)
      have hs2 := tkS_b (b := b) (n := n) (p := tkE b n q) (by omega)
      unfold qtO at hr
      refine m_isTemper (fun e => ?_) (fun e => m_perhaps0 hk3 ⟨fun _ => fin g3 3 _ hf3 hk3 (by rw [hr, if_neg (by omega)]), fun c3 => absurd rfl c3⟩)
      rw [if_pos (by omega)] at hr
      refine m_perhaps1 ht3 hk3 (by omega) (by omega) (fun g4 hf4 hk4 => ⟨fun c3 => absurd c3 (by decide), fun _ => ?_⟩)
      have ff := fr_trans hf3 hf4
      refine m_count (hY g4 ff).1 hk4 (by omega) (by omega) (fun e h1 g5 hf5 hF => tX12_readPerson_120 ⟨fun _ => he e (by rw [hr, rb_l h1]) g5 (mfr_trans f2 (mfr_r (fr_trans ff hf5))) hF, fun c3 => absurd (mF_ne hF) c3⟩) (fun v p' h1 g5 hf5 hk5 => fin g5 v p' (fr_trans ff hf5) hk5 (by rw [hr, rb_r h1]))
    · rw [if_pos (by omega)] at hr
      rw [hk1.2.1]
      exact m_fail hk1.1 (by omega) (fun g2 hf2 hF => bad72 g2 _ _ (mfr_trans (mfr_r hf) (mfr_r hf2)) hF hr)
  · rw [if_neg (by omega)] at hr
    rw [hk.2.1]
    exact m_fail hk.1 (by omega) (fun g hf hF => tX12_readPerson_25 (m_mustB hF ⟨fun _ => bad48 g _ _ (mfr_r hf) hF hr, fun c2 => absurd (mF_ne hF) c2⟩))
end Qm
