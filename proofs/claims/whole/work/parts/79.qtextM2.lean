/-! the Model reads a part: stair, like, swap; the text -/
section Qn
variable {d : Nat} {R : Option qV → qH → Prop} {h : qH} {b : Int → Int} {n p o c B : Int} {a : qB} {Y : Int → Int}
theorem m_readStair (hm : tqM h b n a Y o c) (hk : mK h b n p) (pn : 0 ≤ p ∧ p ≤ n) (hW : qwf B a) {r : Rs (Int × qB)} (hr : r = if a 1 < 10 then qtS b n a Y (tkE b n p) else .inl (6, tkS b n p)) (he : ∀ e, r = .inl e → ∀ h', mfr h h' → mF h' e → R none h') (hv : ∀ v, r = .inr v → ∀ h', mfr h h' → mK h' b n v.1 → tqM h' b n v.2 Y o c → R none h') : qT (d + 8) 229 0 [qo 12 0, qu, qu, qu] [] h R := by
  have hs := tkS_b (b := b) pn.2
  have hE := tkE_b (b := b) pn.2
  have w0 := wf_n hW
  have w1 := wf_m hW
  have bad99 : ∀ g e x y z, mfr h g → mF g e → r = .inl e → qT (d + 8) 229 99 [qo 12 0, qi x, qi y, qi z] [] g R := fun g e x y z hf hF hr => tX12_readStair_99 ⟨fun _ => he e hr g hf hF, fun c2 => absurd (mF_ne hF) c2⟩
  have bad71 : ∀ g e x y, mfr h g → mF g e → r = .inl e → qT (d + 8) 229 71 [qo 12 0, qi x, qi y, qu] [] g R := fun g e x y hf hF hr => tX12_readStair_71 (m_mustB hF (m_isGrudge (fun _ => m_perhapsB hF ⟨fun _ => bad99 g e _ _ _ hf hF hr, fun c2 => absurd rfl c2⟩) (fun _ => m_perhapsB hF ⟨fun _ => bad99 g e _ _ _ hf hF hr, fun c2 => absurd rfl c2⟩)))
  refine tX12_readStair_0 ⟨by omega, ?_⟩
  rw [show h 12 0 20 (Int.toNat 1489) = a 1 from m_at hm.2.1 (x := 1) (by omega) (by omega) (by omega)]
  refine ⟨fun c7 => ?_, fun c7 => ?_⟩
  · rw [if_pos (by omega)] at hr
    refine tX12_readStair_23 (m_mustT hm.1 hk pn.1 pn.2 (fun g hf hk1 => ?_))
    obtain ⟨q, hq⟩ : ∃ q, tkE b n p = q := ⟨_, rfl⟩
    rw [hq] at hr hk1 hE
    have hE1 := tkE_b (b := b) (n := n) (p := q) (by omega)
    have hs1 := tkS_b (b := b) (n := n) (p := q) (by omega)
    unfold qtS at hr
    have hm1 := tqM_r hm hf
    refine m_readTold hm1.1 hk1 (by omega) (by omega) (tqM_nm hm1 hW) (fun e h1 g2 hf2 hF => m_toldB hF ⟨fun _ => bad71 g2 e _ _ (mfr_trans (mfr_r hf) (mfr_r hf2)) hF (by rw [hr]; exact rb_l h1), fun c2 => absurd (mF_ne hF) c2⟩) (fun i p1 h1 hi g2 hf2 hk2 => ?_)
    have ep := (rdPer_i w0.1 h1).2.1
    have hE2 := tkE_b (b := b) (n := n) (p := p1) (by omega)
    have hs2 := tkS_b (b := b) (n := n) (p := p1) (by omega)
    rw [rb_r h1] at hr
    have hm2 := tqM_r hm1 hf2
    have f2 : mfr h g2 := mfr_trans (mfr_r hf) (mfr_r hf2)
    refine m_told hk2 (tqM_nm hm2 hW) (fun e h2 g3 hf3 hF => ⟨fun _ => bad71 g3 e _ _ (mfr_trans f2 (mfr_r hf3)) hF (by rw [hr]; exact rb_l h2), fun c2 => absurd (mF_ne hF) c2⟩) (fun j p2 h2 hj ep2 => ⟨fun c2 => absurd hk2.1 c2, fun _ => ?_⟩)
    rw [rb_r h2] at hr
    have again : (i = j ∨ qtE a i j) → qT (d + 8) 229 62 [qo 12 0, qi i, qi j, qu] [] g2 R := by
      intro hh
      refine tX12_readStair_62 ?_
      rw [hk2.2.1]
      exact m_fail hk2.1 (by omega) (fun g3 hf3 hF => bad71 g3 _ _ _ (mfr_trans f2 (mfr_r hf3)) hF (by rw [hr]; exact if_pos hh))
    refine ⟨fun e => again (Or.inl e), fun ne => m_stairOf (b := 4) hm2.2.1 (by omega) (by omega) w1.1 w1.2 (fun s hsf => ⟨fun sn => ?_, fun sn => again (Or.inr ?_)⟩)⟩
    · have nex : ¬ (i = j ∨ qtE a i j) := by
        rintro (e | ⟨s', s0, s1, s2⟩)
        · exact ne e
        · rcases hsf with ⟨q0, _⟩ | ⟨_, q2⟩
          · omega
          · exact q2 s' s0 s1 s2
      rw [if_neg nex] at hr
      have fin : ∀ k t q', fr PMr g2 k → mK k b n q' → r = .inr (q', aBuild a i j t) → qT (d + 8) 229 99 [qo 12 0, qi i, qi j, qi t] [] k R := by
        intro k t q' fk hkk er
        have hmk := tqM_r hm2 fk
        refine tX12_readStair_99 ⟨fun c3 => absurd hkk.1 c3, fun _ => m_builds (b := 4) hmk.2.1 (by omega) (by omega) w1.1 (by omega) (fun k2 hM2 f3 => ?_)⟩
        have f4 := mfr_M f3
        refine hv _ er k2 (mfr_trans f2 (mfr_trans (mfr_r fk) f4)) (mK_fr hkk (fun j j0 j1 => f3.2.1 j (by omega))) ⟨txM_m hmk.1 f4, hM2, fun j' j0 j1 => ?_, by rw [f3.2.1 24 (by omega)]; exact hmk.2.2.2⟩
        have e0 : aBuild a i j t 0 = a 0 := by unfold aBuild; rw [aSet_ne (by omega), aSet_ne (by omega), aSet_ne (by omega), aSet_ne (by omega)]
        rw [f3.2.1 22 (by omega)]
        exact hmk.2.2.1 j' j0 (by rw [← e0]; exact j1)
      refine tX12_readStair_71 (m_mustT hm2.1 hk2 (by omega) (by omega) (fun g3 hf3 hk3 => ?_))
      rw [← ep2] at hk3
      have ew := mT_W hk3.2
      have hm3 := tqM_r hm2 hf3
      have hE3 := tkE_b (b := b) (n := n) (p := p2) (by omega)
      have hs3 := tkS_b (b := b) (n := n) (p := p2) (by omega)
      unfold qtO at hr
      refine m_isGrudge (fun e => ?_) (fun e => m_perhaps0 hk3 ⟨fun _ => fin g3 0 _ hf3 hk3 (by rw [hr]; exact if_neg (show ¬ tkW b n p2 = 5 by omega)), fun c3 => absurd rfl c3⟩)
      rw [if_pos (show tkW b n p2 = 5 by omega)] at hr
      refine m_perhaps1 hm3.1 hk3 (by omega) (by omega) (fun g4 hf4 hk4 => ⟨fun c3 => absurd c3 (by decide), fun _ => ?_⟩)
      have ff := fr_trans hf3 hf4
      refine m_count (tqM_r hm2 ff).1 hk4 (by omega) (by omega) (fun e h3 g5 hf5 hF => bad99 g5 e _ _ _ (mfr_trans f2 (mfr_r (fr_trans ff hf5))) hF (by rw [hr]; exact rb_l h3)) (fun v p' h3 g5 hf5 hk5 => fin g5 v p' (fr_trans ff hf5) hk5 (by rw [hr]; exact rb_r h3))
    · rcases hsf with ⟨q0, q1, q2, _⟩ | ⟨q1, _⟩
      · exact ⟨s, q0, q1, q2⟩
      · omega
  · rw [if_neg (by omega)] at hr
    rw [hk.2.1]
    exact m_fail hk.1 (by omega) (fun g hf hF => tX12_readStair_23 (m_mustB hF (m_readToldB hF (m_toldB hF ⟨fun _ => bad71 g _ _ _ (mfr_r hf) hF hr, fun c2 => absurd (mF_ne hF) c2⟩))))
theorem m_readLike (hm : tqM h b n a Y o c) (hk : mK h b n p) (pn : 0 ≤ p ∧ p ≤ n) (hW : qwf B a) {r : Rs (Int × qB)} (hr : r = qtL b n a Y (tkE b n p)) (he : ∀ e, r = .inl e → ∀ h', mfr h h' → mF h' e → R none h') (hv : ∀ v, r = .inr v → ∀ h', mfr h h' → mK h' b n v.1 → tqM h' b n v.2 Y o c → R none h') : qT (d + 8) 230 0 [qo 12 0, qu, qu, qu] [] h R := by
  have hs := tkS_b (b := b) pn.2
  have hE := tkE_b (b := b) pn.2
  have w0 := wf_n hW
  have end0 : ∀ g e (K : Prop), mfr h g → mF g e → r = .inl e → (g 12 0 12 0 ≠ 0 → R none g) ∧ (¬ (g 12 0 12 0 ≠ 0) → K) := fun g e K hf hF hr => ⟨fun _ => he e hr g hf hF, fun c2 => absurd (mF_ne hF) c2⟩
  refine sX12_readLike_0 (m_mustT hm.1 hk pn.1 pn.2 (fun g hf hk1 => ?_))
  obtain ⟨q, hq⟩ : ∃ q, tkE b n p = q := ⟨_, rfl⟩
  rw [hq] at hr hk1 hE
  have hE1 := tkE_b (b := b) (n := n) (p := q) (by omega)
  have hs1 := tkS_b (b := b) (n := n) (p := q) (by omega)
  unfold qtL at hr
  have hm1 := tqM_r hm hf
  refine m_readTold hm1.1 hk1 (by omega) (by omega) (tqM_nm hm1 hW) (fun e h1 g2 hf2 hF => m_readToldB hF (m_countB hF (end0 g2 e _ (mfr_trans (mfr_r hf) (mfr_r hf2)) hF (by rw [hr]; exact rb_l h1)))) (fun i p1 h1 hi g2 hf2 hk2 => ?_)
  have ep := (rdPer_i w0.1 h1).2.1
  have hE2 := tkE_b (b := b) (n := n) (p := p1) (by omega)
  have hs2 := tkS_b (b := b) (n := n) (p := p1) (by omega)
  rw [rb_r h1] at hr
  have hm2 := tqM_r hm1 hf2
  have f2 : mfr h g2 := mfr_trans (mfr_r hf) (mfr_r hf2)
  refine m_readTold hm2.1 hk2 (by omega) (by omega) (tqM_nm hm2 hW) (fun e h2 g3 hf3 hF => m_countB hF (end0 g3 e _ (mfr_trans f2 (mfr_r hf3)) hF (by rw [hr]; exact rb_l h2))) (fun j p2 h2 hj g3 hf3 hk3 => ?_)
  have ep2 := (rdPer_i w0.1 h2).2.1
  have hE3 := tkE_b (b := b) (n := n) (p := p2) (by omega)
  have hs3 := tkS_b (b := b) (n := n) (p := p2) (by omega)
  rw [rb_r h2] at hr
  have hm3 := tqM_r hm2 hf3
  have f3 : mfr h g3 := mfr_trans f2 (mfr_r hf3)
  refine m_count hm3.1 hk3 (by omega) (by omega) (fun e h3 g4 hf4 hF => end0 g4 e _ (mfr_trans f3 (mfr_r hf4)) hF (by rw [hr]; exact rb_l h3)) (fun v p' h3 g4 hf4 hk4 => ⟨fun c3 => absurd hk4.1 c3, fun _ => ⟨qR_of (by omega) (by omega), qR_of (by omega) (by omega), qR_of (by omega) (by omega), by omega, ?_⟩⟩)
  rw [rb_r h3] at hr
  have hm4 := tqM_r hm3 hf4
  exact hv _ hr _ (mfr_trans f3 (mfr_trans (mfr_r hf4) (mfr_20 (by omega)))) (mK_fr hk4 (fun j j0 j1 => up_j (by omega))) ⟨txM_m hm4.1 (mfr_20 (by omega)), m_put hm4.2.1 (by omega) (by omega) (by omega) (by omega), fun j' j0 j1 => by rw [up_j (by omega)]; exact hm4.2.2.1 j' j0 (by have j1 : j' < aSet a (21 + 7 * i + j) v 0 := j1; rw [aSet_ne (by omega)] at j1; exact j1), by rw [up_j (by omega)]; exact hm4.2.2.2⟩
theorem m_readSwap (hm : tqM h b n a Y o c) (hk : mK h b n p) (pn : 0 ≤ p ∧ p ≤ n) (hW : qwf B a) {r : Rs (Int × qB)} (hr : r = qtV b n a Y (tkE b n p)) (he : ∀ e, r = .inl e → ∀ h', mfr h h' → mF h' e → R none h') (hv : ∀ v, r = .inr v → ∀ h', mfr h h' → mK h' b n v.1 → tqM h' b n v.2 Y o c → R none h') : qT (d + 8) 231 0 [qo 12 0, qu, qu] [] h R := by
  have hs := tkS_b (b := b) pn.2
  have hE := tkE_b (b := b) pn.2
  have w0 := wf_n hW
  have end0 : ∀ g e (K : Prop), mfr h g → mF g e → r = .inl e → (g 12 0 12 0 ≠ 0 → R none g) ∧ (¬ (g 12 0 12 0 ≠ 0) → K) := fun g e K hf hF hr => ⟨fun _ => he e hr g hf hF, fun c2 => absurd (mF_ne hF) c2⟩
  refine sX12_readSwap_0 (m_mustT hm.1 hk pn.1 pn.2 (fun g hf hk1 => ?_))
  obtain ⟨q, hq⟩ : ∃ q, tkE b n p = q := ⟨_, rfl⟩
  rw [hq] at hr hk1 hE
  have hE1 := tkE_b (b := b) (n := n) (p := q) (by omega)
  have hs1 := tkS_b (b := b) (n := n) (p := q) (by omega)
  unfold qtV at hr
  have hm1 := tqM_r hm hf
  refine m_readTold hm1.1 hk1 (by omega) (by omega) (tqM_nm hm1 hW) (fun e h1 g2 hf2 hF => m_toldB hF ⟨fun _ => m_mustB hF (end0 g2 e _ (mfr_trans (mfr_r hf) (mfr_r hf2)) hF (by rw [hr]; exact rb_l h1)), fun c2 => absurd (mF_ne hF) c2⟩) (fun i p1 h1 hi g2 hf2 hk2 => ?_)
  have ep := (rdPer_i w0.1 h1).2.1
  have hE2 := tkE_b (b := b) (n := n) (p := p1) (by omega)
  have hs2 := tkS_b (b := b) (n := n) (p := p1) (by omega)
  rw [rb_r h1] at hr
  have hm2 := tqM_r hm1 hf2
  have f2 : mfr h g2 := mfr_trans (mfr_r hf) (mfr_r hf2)
  refine m_told hk2 (tqM_nm hm2 hW) (fun e h2 g3 hf3 hF => ⟨fun _ => m_mustB hF (end0 g3 e _ (mfr_trans f2 (mfr_r hf3)) hF (by rw [hr]; exact rb_l h2)), fun c2 => absurd (mF_ne hF) c2⟩) (fun j p2 h2 hj ep2 => ⟨fun c2 => absurd hk2.1 c2, fun _ => ?_⟩)
  rw [rb_r h2] at hr
  refine ⟨fun ne => m_mustT hm2.1 hk2 (by omega) (by omega) (fun g3 hf3 hk3 => ⟨fun c3 => absurd hk3.1 c3, fun _ => ?_⟩), fun e => ?_⟩
  · rw [if_neg (show ¬ i = j from ne)] at hr
    rw [← ep2] at hk3
    have hm3 := tqM_r hm2 hf3
    refine m_swaps (o := 372 * 4) hm3.2.1 (by omega) (by omega) hi.1 (by omega) hj.1 (by omega) (fun k hM2 f3 => ?_)
    have f4 := mfr_M f3
    refine hv _ hr k (mfr_trans f2 (mfr_trans (mfr_r hf3) f4)) (mK_fr hk3 (fun j j0 j1 => f3.2.1 j (by omega))) ⟨txM_m hm3.1 f4, hM2, fun j' j0 j1 => ?_, by rw [f3.2.1 24 (by omega)]; exact hm3.2.2.2⟩
    rw [f3.2.1 22 (by omega)]
    exact hm3.2.2.1 j' j0 (by have j1 : j' < aSwap a i j 0 := j1; rw [aSwap_ne (by omega) (by omega)] at j1; exact j1)
  · rw [if_pos (show i = j from Decidable.not_not.mp e)] at hr
    rw [hk2.2.1]
    exact m_fail hk2.1 (by omega) (fun g3 hf3 hF => m_mustB hF (end0 g3 _ _ (mfr_trans f2 (mfr_r hf3)) hF hr))
theorem m_readPart (hm : tqM h b n a Y o c) (hk : mK h b n p) (pn : 0 ≤ p ∧ p ≤ n) (hW : qwf B a) (ho : o = 0 ∨ o = 1) (hc : c = 0 ∨ c = 1) (he : ∀ e, qtB b n a Y o c p = .inl e → ∀ h', mfr h h' → mF h' e → R none h') (hv : ∀ v, qtB b n a Y o c p = .inr v → ∀ h', mfr h h' → mK h' b n v.1 → tqM h' b n v.2 (qtM (tkW b n p) (a 0) (tkY b n (tkE b n p)) Y) (qtT (tkW b n p) 0 o) (qtT (tkW b n p) 1 c) → R none h') : qT (d + 9) 233 0 [qo 12 0] [] h R := by
  have ew := mT_W hk.2
  obtain ⟨w, hw⟩ : ∃ w, tkW b n p = w := ⟨_, rfl⟩
  have tb := tOn_b ho hc
  unfold qtB at he hv
  rw [hw] at he hv ew
  have ts : ∀ k, w ≠ k → ∀ x, qtT w k x = x := fun k hk x => if_neg hk
  refine sX12_readPart_0 (m_isOdds (fun e => ⟨fun c2 => absurd c2 (by decide), fun _ => ?_⟩) (fun n0 => ⟨fun _ => m_isCool (fun e => ⟨fun c2 => absurd c2 (by decide), fun _ => ?_⟩) (fun n1 => ⟨fun _ => m_isPerson (fun e => ⟨fun c2 => absurd c2 (by decide), fun _ => ?_⟩) (fun n2 => ⟨fun _ => m_isStair (fun e => ⟨fun c2 => absurd c2 (by decide), fun _ => ?_⟩) (fun n4 => ⟨fun _ => m_isLike (fun e => ⟨fun c2 => absurd c2 (by decide), fun _ => ?_⟩) (fun n6 => ⟨fun _ => m_isSwap (fun e => ⟨fun c2 => absurd c2 (by decide), fun _ => ?_⟩) (fun n7 => ⟨fun _ => ?_, fun c2 => absurd rfl c2⟩), fun c2 => absurd rfl c2⟩), fun c2 => absurd rfl c2⟩), fun c2 => absurd rfl c2⟩), fun c2 => absurd rfl c2⟩), fun c2 => absurd rfl c2⟩))
  · rw [if_pos (by omega)] at he hv
    rw [qtM_ne (by omega), ts 1 (by omega), show qtT w 0 o = 1 from if_pos (by omega)] at hv
    exact m_readOnce hm hk pn (Or.inl rfl) (by omega) ho tb.1 tb.2.2.1 he hv
  · rw [if_neg (by omega), if_pos (by omega)] at he hv
    rw [qtM_ne (by omega), ts 0 (by omega), show qtT w 1 c = 1 from if_pos (by omega)] at hv
    exact m_readOnce hm hk pn (Or.inr rfl) (by omega) hc tb.2.1 tb.2.2.2 he hv
  · rw [if_neg (by omega), if_neg (by omega), if_pos (by omega)] at he hv
    rw [ts 0 (by omega), ts 1 (by omega), show w = 2 by omega] at hv
    exact m_readPerson hm hk pn hW rfl he hv
  · rw [if_neg (by omega), if_neg (by omega), if_neg (by omega), if_pos (by omega)] at he hv
    rw [qtM_ne (by omega), ts 0 (by omega), ts 1 (by omega)] at hv
    exact m_readStair hm hk pn hW rfl he hv
  · rw [if_neg (by omega), if_neg (by omega), if_neg (by omega), if_neg (by omega), if_pos (by omega)] at he hv
    rw [qtM_ne (by omega), ts 0 (by omega), ts 1 (by omega)] at hv
    exact m_readLike hm hk pn hW rfl he hv
  · rw [if_neg (by omega), if_neg (by omega), if_neg (by omega), if_neg (by omega), if_neg (by omega), if_pos (by omega)] at he hv
    rw [qtM_ne (by omega), ts 0 (by omega), ts 1 (by omega)] at hv
    exact m_readSwap hm hk pn hW rfl he hv
  · rw [if_neg (by omega), if_neg (by omega), if_neg (by omega), if_neg (by omega), if_neg (by omega), if_neg (by omega)] at he
    exact m_amiss hk (fun g hf hF => he _ rfl g (mfr_r hf) hF)
/-- the Model's loop over the parts: told at its head, where the text has ended or has a FAULT -/
theorem m_readLoop (hB : 0 ≤ B) {x : Int} : ∀ (k : Nat) {h : qH} {p o c : Int} {a : qB} {X Y : Int → Int}, tqM h b n a Y o c → mK h b n p → (0 ≤ p ∧ p ≤ n) → n - p < k → qwf B a → (o = 0 ∨ o = 1) → (c = 0 ∨ c = 1) → (∀ e, qtRun b n k p a X Y o c = .inl e → ∀ h', mfr h h' → mF h' e → qT (d + 10) 234 33 [qo 12 0, qi x] [] h' R) → (∀ a' X' Y', qtRun b n k p a X Y o c = .inr (a', X', Y') → ∀ h', mfr h h' → h' 12 0 12 0 = 0 → h' 12 0 14 0 = 0 → qM h' (372 * 4) a' → (∀ j, 0 ≤ j → j < a' 0 → h' 12 0 22 (Int.toNat (7 * 4 + j)) = Y' j) → qT (d + 10) 234 33 [qo 12 0, qi x] [] h' R) → qT (d + 10) 234 33 [qo 12 0, qi x] [] h R := by
  intro k
  induction k with
  | zero => intro h p o c a X Y hm hk hp hn; omega
  | succ k ih =>
    intro h p o c a X Y hm hk hp hn hW ho hc he hv
    by_cases c0 : tkK b n p = 0
    · exact hv a X Y (qtRun_end c0) h mfr_rfl hk.1 (by rw [hk.2.2.1, c0]) hm.2.1 hm.2.2.1
    · have go : qT (d + 10) 234 33 [qo 12 0, qi x] [] h R := by
        refine sX12_quarter_33 ⟨fun c2 => absurd hk.1 c2, fun _ => ⟨fun c2 => absurd (by rw [← hk.2.2.1]; exact c2) c0, fun _ => ?_⟩⟩
        refine m_readPart hm hk hp hW ho hc (fun e h1 g f1 F1 => m_isSign (fun _ _ => m_mustB F1 ?_) (fun _ => m_mustB F1 ?_)) (fun v h1 g f1 hk1 hm1 => ?_)
        · exact he e (qtRun_l c0 (qtZ_l h1)) g f1 F1
        · exact he e (qtRun_l c0 (qtZ_l h1)) g f1 F1
        · have hi := qtB_i hp.2 hB hW h1
          have i1 := hi.1
          have i2 := hi.2.1
          have sg : (g 12 0 14 0 = 3 ∧ g 12 0 17 0 = 59) ↔ tkG b n v.1 = 59 := by
            rw [hk1.2.2.1]
            unfold tkG
            constructor
            · rintro ⟨s1, s2⟩
              rw [if_pos s1, ← hk1.2.2.2.2.2.1 s1]; exact s2
            · intro s1
              by_cases c3 : tkK b n v.1 = 3
              · rw [if_pos c3] at s1
                exact ⟨c3, by rw [hk1.2.2.2.2.2.1 c3]; exact s1⟩
              · rw [if_neg c3] at s1; omega
          refine m_isSign (fun s1 s2 => ?_) (fun s1 => m_mustF hk1 (fun g2 f2 F2 => ?_))
          · have st := rdStop_y (sg.mp ⟨s1, s2⟩)
            refine m_mustT hm1.1 hk1 (by omega) i2 (fun g2 f2 hk2 => ?_)
            have hm2 := tqM_r hm1 f2
            have hx := qtZ_r h1 st
            have hi2 := qtX_i hp.2 hB hW hx
            have l1 := hi2.1
            have l2 := hi2.2.1
            refine ih hm2 hk2 (by omega) (by omega) hi2.2.2.1 ?_ ?_ (fun e h2 h' f' F' => he e (by rw [qtRun_r c0 hx]; exact h2) h' (mfr_trans f1 (mfr_trans (mfr_r f2) f')) F') (fun a' X' Y' h2 h' f' => hv a' X' Y' (by rw [qtRun_r c0 hx]; exact h2) h' (mfr_trans f1 (mfr_trans (mfr_r f2) f')))
            · unfold qtT; split <;> omega
            · unfold qtT; split <;> omega
          · exact he _ (qtRun_l c0 (qtZ_e h1 (rdStop_n (fun e => s1 (sg.mpr e))))) g2 (mfr_trans f1 (mfr_r f2)) F2
      exact go
end Qn
