theorem BF_le {B : Int} {a : qB} {gl far : Int → Int} {q : Int → qB} {fl i0 s0 : Int} (h : BF B a gl far q fl i0 s0) : ∀ (k : Nat) (j : Int), 0 ≤ j → j < fl → j ≤ k → far (rk (q j)) ≤ j := by
  obtain ⟨_, _, _, _, c5, c6, c7, _, _⟩ := h
  intro k
  induction k with
  | zero => intro j j0 j1 jk; rw [show j = 0 by omega, c6.2]; omega
  | succ k ih =>
    intro j j0 j1 jk
    by_cases e : j = 0
    · rw [e, c6.2]; omega
    · obtain ⟨_, i, s, i0, i1, _, _, _, e2⟩ := c7 j (by omega) j1
      have hij : i < j := by
        by_cases c : i < j
        · exact c
        · exfalso
          by_cases e3 : i = j
          · rw [e3] at e2; omega
          · have := (c5 j i j0 (by omega) i1).2
            omega
      have := ih i i0 i1 (by omega)
      omega
section Fa
variable {d : Nat} {R : Option qV → qH → Prop} {h : qH} {a : qB} {B : Int} {gl : Int → Int}
abbrev PV : Nat → Nat → Nat → Prop := fun c _ j => c = 12 ∧ (j = 26 ∨ j = 27 ∨ j = 28)
theorem m_laysFars {g0 : qB} (hM : qM h 0 a) (hW : qwf B a) (hgl : ∀ p, 0 ≤ p → p < a 0 → h 12 0 29 (Int.toNat p) = gl p) (hW0 : qwf B g0) (hA0 : bA a g0) (hg0 : isG a gl g0) (hR : ∀ h' q fl, fr PV h h' → BF B a gl (fun y => h' 12 0 26 (Int.toNat y)) q fl fl 0 → R (some (qi fl)) h') : qT (d + 3) 279 0 [qo 12 0, qu, qu, qu, qu] [] h R := by
  have hn := wf_n hW
  have hm := wf_m hW
  have hk0 := rk_b hW0
  have fM : ∀ g, fr PV h g → qM g 0 a := fun g hf => m_fr hM (hf 12 0 20 (by omega))
  have f28 : ∀ g g1, fr PV h g → fr P28 g g1 → fr PV h g1 := fun g g1 hf hf1 => fr_trans hf (fr_mono hf1 (fun c i j hP => ⟨hP.1, by omega⟩))
  refine sX12_laysFars_0 ?_
  -- the search
  have outer : ∀ (N : Nat) (i fl : Int) (g : qH) (q : Int → qB) z1 z2, (5040 - i).toNat = N → fr PV h g → BF B a gl (fun y => g 12 0 26 (Int.toNat y)) q fl i 0 → (∀ j, 0 ≤ j → j < fl → g 12 0 27 (Int.toNat j) = rk (q j)) → qT (d + 3) 279 78 [qo 12 0, qi fl, qi i, z1, z2] [] g R := by
    intro N
    induction N with
    | zero =>
      intro i fl g q z1 z2 hN hf hB hq
      have b1 := hB.1
      have b2 := hB.2.1
      refine sX12_laysFars_78 ⟨fun c => hR g q fl hf ?_, fun c => absurd c (by omega)⟩
      rw [show i = fl by omega] at hB
      exact hB
    | succ N ih =>
      intro i fl g q z1 z2 hN hf hB hq
      have b1 := hB.1
      have b2 := hB.2.1
      refine sX12_laysFars_78 ⟨fun c => hR g q fl hf ?_, fun c => ⟨by omega, ?_⟩⟩
      · rw [show i = fl by omega] at hB
        exact hB
      · have hi : i < fl := by omega
        rw [hq i b2.1 hi]
        have w0 := hB.2.2.1 i b2.1 hi
        refine m_laysRow (fM g hf) w0.2.1 w0.1 (fun g1 hr1 hf1 => ?_)
        refine q_up (n := a 1) (C := fun s => s ≤ a 1 → ∀ (fl : Int) (g : qH) (q : Int → qB) z2, i < fl → fr PV h g → rQ g (q i) → BF B a gl (fun y => g 12 0 26 (Int.toNat y)) q fl i s → (∀ j, 0 ≤ j → j < fl → g 12 0 27 (Int.toNat j) = rk (q j)) → qT (d + 3) 279 95 [qo 12 0, qi fl, qi i, qi s, z2] [] g R) ?_ 0 (by omega) hm.1 fl g1 q z2 hi (f28 g g1 hf hf1) hr1 (by rw [hf1 12 0 26 (by omega)]; exact hB) (fun j j0 j1 => by rw [hf1 12 0 27 (by omega)]; exact hq j j0 j1)
        clear hr1 hf1 hB hq hf w0
        intro s hs ihs hsm fl g q z2 hi hf hr hB hq
        have hM' := fM g hf
        have b1 := hB.1
        have w0 := hB.2.2.1 i b2.1 hi
        refine sX12_laysFars_95 ?_
        rw [m_0 hM' (by omega) (by omega)]
        refine ⟨by omega, fun c => ⟨qR_of (by omega) (by omega), ih (i + 1) fl g q _ _ (by omega) hf (BF_next hB hi (by omega)) hq⟩, fun c => ?_⟩
        have hs' : s < a 1 := by omega
        have e1 := w0.2.1 1 (by omega)
        have o := on_wf w0.1 w0.2.1 hs hs'
        have ko := rk_b o.1
        refine m_swapsRow hM' w0.2.1 w0.1 hr hs (by omega) (fun g2 hr2 hf2 => ?_)
        refine m_numberOfRow (fM g2 (f28 g g2 hf hf2)) o.2.1 o.1 hr2 ?_
        refine m_swapsRow (fM g2 (f28 g g2 hf hf2)) o.2.1 o.1 hr2 hs (by rw [o.2.1 1 (by omega)]; exact hs') (fun g3 hr3 hf3 => ⟨by omega, ?_⟩)
        rw [o.2.2] at hr3
        have hf' : fr PV h g3 := f28 g2 g3 (f28 g g2 hf hf2) hf3
        have r26 : g3 12 0 26 = g 12 0 26 := by rw [hf3 12 0 26 (by omega), hf2 12 0 26 (by omega)]
        have r27 : g3 12 0 27 = g 12 0 27 := by rw [hf3 12 0 27 (by omega), hf2 12 0 27 (by omega)]
        rw [r26, r27]
        have hq' : ∀ j, 0 ≤ j → j < fl → g3 12 0 27 (Int.toNat j) = rk (q j) := fun j j0 j1 => by rw [r27]; exact hq j j0 j1
        refine ⟨fun c2 => ?_, fun c2 => ⟨qR_of (by omega) (by omega), ihs hs' (by omega) fl g3 q _ hi hf' hr3 ?_ hq'⟩⟩
        · rw [hq i b2.1 hi]
          have kq := rk_b w0.1
          have BN := BF_new hB hi hs hs' c2
          have fb : g 12 0 26 (Int.toNat (rk (q i))) < 5040 := by
            have := BF_le hB i.toNat i b2.1 hi (by omega)
            omega
          have f0 := w0.2.2
          have f0 : 0 ≤ g 12 0 26 (Int.toNat (rk (q i))) := f0
          refine ⟨by omega, by omega, qR_of (by omega) (by omega), by omega, by omega, qR_of (by omega) (by omega), qR_of (by omega) (by omega), ihs hs' (by omega) (fl + 1) _ (fun j => if j = fl then aOn (q i) s else q j) _ (by omega) (fr_trans hf' (fr_trans (fr_up ⟨rfl, by omega⟩) (fr_up ⟨rfl, by omega⟩))) ?_ (BN.2 _ _ (fun y y0 y1 => ?_) (fun j j0 j1 => if_neg (by omega)) (if_pos rfl)) (fun j j0 j1 => ?_)⟩
          · have : (fun j => if j = fl then aOn (q i) s else q j) i = q i := if_neg (by omega)
            show rQ _ ((fun j => if j = fl then aOn (q i) s else q j) i)
            rw [this]
            exact rQ_fr hr3 (by rw [up_j (by omega), up_j (by omega)])
          · show (qup (qup g3 12 0 26 (Int.toNat (rk (aOn (q i) s))) (g 12 0 26 (Int.toNat (rk (q i))) + 1)) 12 0 27 (Int.toNat fl) (rk (aOn (q i) s))) 12 0 26 (Int.toNat y) = _
            rw [up_j (by omega), up_I y0 ko.1, r26]
          · rw [up_I j0 (by omega), up_j (by omega)]
            by_cases e : j = fl
            · rw [if_pos e]
              show _ = rk (if j = fl then aOn (q i) s else q j)
              rw [if_pos e]
            · rw [if_neg e]
              show _ = rk (if j = fl then aOn (q i) s else q j)
              rw [if_neg e]
              exact hq' j j0 (by omega)
        · rw [r26]
          refine BF_skip hB hi hs hs' ?_
          show 0 ≤ g 12 0 26 (Int.toNat (rk (aOn (q i) s)))
          omega
  refine q_up (n := 5040) (C := fun y => y ≤ 5040 → ∀ g, fr PV h g → (∀ x, 0 ≤ x → x < y → g 12 0 26 (Int.toNat x) = -1) → qT (d + 3) 279 2 [qo 12 0, qi y, qu, qu, qu] [] g R) ?_ 0 (by omega) (by omega) h fr_rfl (fun x x0 x1 => absurd x1 (by omega))
  intro y hy ih hy5 g hf hz
  refine sX12_laysFars_2 ⟨fun c => ?_, fun c => ⟨by omega, qR_of (by omega) (by omega), ih (by omega) (by omega) _ (fr_trans hf (fr_up ⟨rfl, by omega⟩)) (fun x x0 x1 => ?_)⟩⟩
  · refine q_up (n := a 0) (C := fun p => p ≤ a 0 → ∀ g, fr PV h g → (∀ x, 0 ≤ x → x < 5040 → g 12 0 26 (Int.toNat x) = -1) → (∀ p', 0 ≤ p' → p' < p → g 12 0 28 (Int.toNat p') = gl p') → qT (d + 3) 279 24 [qo 12 0, qi p, qu, qu, qu] [] g R) ?_ 0 (by omega) hn.1 g hf (fun x x0 x1 => hz x x0 (by omega)) (fun p' p0 p1 => absurd p1 (by omega))
    clear hz hf ih
    intro p hp ihp hpn g hf hz hr
    have hM' := fM g hf
    refine sX12_laysFars_24 ?_
    rw [m_0 hM' (by omega) (by omega)]
    refine ⟨by omega, fun c2 => ?_, fun c2 => ⟨by omega, by omega, qR_of (by omega) (by omega), ihp (by omega) (by omega) _ (fr_trans hf (fr_up ⟨rfl, by omega⟩)) (fun x x0 x1 => by rw [up_j (by omega)]; exact hz x x0 x1) (fun p' p0 p1 => ?_)⟩⟩
    · have hr0 : rQ g g0 := by
        intro p' p0 p1
        have e0 := hA0 0 (by omega)
        rw [hr p' p0 (by omega), hg0 p' p0 (by omega)]
      refine m_numberOfRow hM' hA0 hW0 hr0 ?_
      dsimp only [qri]
      rw [up_at]
      refine ⟨by omega, by omega, by omega, outer 5040 0 1 _ (fun _ => g0) _ _ rfl (fr_trans hf (fr_trans (fr_up ⟨rfl, by omega⟩) (fr_up ⟨rfl, by omega⟩))) (BF_one hW0 hA0 hg0 (fun x x0 x1 => ?_)) (fun j j0 j1 => ?_)⟩
      · show (qup (qup g 12 0 27 (Int.toNat 0) (rk g0)) 12 0 26 (Int.toNat (rk g0)) 0) 12 0 26 (Int.toNat x) = if x = rk g0 then 0 else -1
        rw [up_I x0 hk0.1, up_j (by omega), hz x x0 x1]
      · rw [show j = 0 by omega, up_j (by omega), up_at]
    · rw [up_I p0 hp]
      by_cases e : p' = p
      · rw [if_pos e, e, hf 12 0 29 (by omega)]
        exact hgl p hp (by omega)
      · rw [if_neg e]; exact hr p' p0 (by omega)
  · rw [up_I x0 hy]
    by_cases e : x = y
    · rw [if_pos e]
    · rw [if_neg e]; exact hz x x0 (by omega)
end Fa
