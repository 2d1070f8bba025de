section Sa
variable {d : Nat} {R : Option qV → qH → Prop} {h : qH} {a : qB} {B : Int} {gl : Int → Int}
theorem m_farNow {g0 : qB} (hM : qM h 0 a) (hW : qwf B a) (hgl : ∀ p, 0 ≤ p → p < a 0 → h 12 0 29 (Int.toNat p) = gl p) (hW0 : qwf B g0) (hA0 : bA a g0) (hg0 : isG a gl g0) (hR : ∀ h' F, fr PV h h' → rL B a gl F → rQ h' a → (∀ b, F b = h' 12 0 26 (Int.toNat (rk b))) → R (some (qi (F a))) h') : qT (d + 4) 281 0 [qo 12 0] [] h R := by
  refine sX12_farNow_0 (m_laysFars hM hW hgl hW0 hA0 hg0 (fun g1 q fl hf1 hB => ?_))
  have hL := BF_end (far := fun y => g1 12 0 26 (Int.toNat y)) hB
  have ka := rk_b hW
  refine m_rowNow (m_fr hM (hf1 12 0 20 (by omega))) hW (fun g2 hr hf2 => ⟨by omega, ?_⟩)
  rw [hf2 12 0 26 (by omega)]
  exact hR g2 (fun b => g1 12 0 26 (Int.toNat (rk b))) (fr_trans hf1 (fr_mono hf2 (fun c i j hP => ⟨hP.1, by omega⟩))) hL hr (fun b => by rw [hf2 12 0 26 (by omega)])
theorem m_stairAt {g0 : qB} {G : qB → Int} {row : Int → Int} {k : Int} (hM : qM h 0 a) (hW : qwf B a) (hgl : ∀ p, 0 ≤ p → p < a 0 → h 12 0 29 (Int.toNat p) = gl p) (hW0 : qwf B g0) (hA0 : bA a g0) (hg0 : isG a gl g0) (hG : rL B a gl G) (hG1 : G a ≤ 21) (hrow : 0 ≤ G a → pR a G row (G a).toNat a 0) (h1 : 0 ≤ k → k < G a → ∀ h', fr PV h h' → R (some (qi (row k))) h') (h0 : ¬ (0 ≤ k ∧ k < G a) → ∀ h', fr PV h h' → R (some (qi (-1))) h') : qT (d + 5) 282 0 [qo 12 0, qi k, qu, qu, qu] [] h R := by
  have m1 := (hG a hW bA_rfl).1
  have hmm := wf_m hW
  refine sX12_stairAt_0 (m_farNow hM hW hgl hW0 hA0 hg0 (fun g1 F hf1 hF hr1 hFe => ?_))
  have eF : ∀ b, qwf B b → bA a b → F b = G b := fun b hWb hAb => rL_uniq hF hG hWb hAb
  dsimp only [qri]
  rw [eF a hW bA_rfl]
  refine ⟨qR_of (by omega) (by omega), m_isIn (fun c1 c2 => ⟨fun _ => ?_, fun c3 => absurd (by decide) c3⟩) (fun c1 => ⟨fun c3 => absurd rfl c3, fun _ => h0 (by omega) g1 hf1⟩)⟩
  have hk : k < G a := by omega
  have fM : ∀ g, fr PV h g → qM g 0 a := fun g hf => m_fr hM (hf 12 0 20 (by omega))
  have f28 : ∀ g g', fr PV h g → fr P28 g g' → fr PV h g' := fun g g' hf hf' => fr_trans hf (fr_mono hf' (fun c i j hP => ⟨hP.1, by omega⟩))
  have main : ∀ (m : Nat) (i : Int) (b : qB) (g : qH) (fnd : Int), 0 ≤ i → i + m = k + 1 → fr PV h g → fr P28 g1 g → rQ g b → qwf B b → bA a b → G b = G a - i → pR a G row (G a - i).toNat b i → (0 < i → fnd = row (i - 1)) → qT (d + 5) 282 25 [qo 12 0, qi k, qi (G a - i), qi fnd, qi i] [] g R := by
    intro m
    induction m with
    | zero =>
      intro i b g fnd i0 im hf _ _ _ _ _ _ hfd
      refine sX12_stairAt_25 ⟨fun _ => ?_, fun c => absurd (by omega) c⟩
      rw [hfd (by omega), show i - 1 = k by omega]
      exact h1 c1 hk g hf
    | succ m ih =>
      intro i b g fnd i0 im hf hf' hr hWb hAb hGb hp _
      have e1 := hAb 1 (by omega)
      rw [show (G a - i).toNat = (G a - (i + 1)).toNat + 1 by omega] at hp
      obtain ⟨⟨p0, p1, p2, p3⟩, p4⟩ := hp
      refine sX12_stairAt_25 ⟨fun c => absurd c (by omega), fun _ => ⟨qR_of (by omega) (by omega), m_swapsRow (fM g hf) hAb hWb hr (by omega) (by omega) (fun g2 hr2 hf2 => ?_)⟩⟩
      rw [show G a - i + (-1) = G a - (i + 1) by omega]
      refine q_up (n := row i) (C := fun s => s ≤ row i → ∀ g, fr PV h g → fr P28 g1 g → rQ g (aOn b s) → qT (d + 5) 282 41 [qo 12 0, qi k, qi (G a - (i + 1)), qi s, qi i] [] g R) ?_ 0 (by omega) p0 g2 (f28 g g2 hf hf2) (fr_trans hf' hf2) hr2
      clear hr2 hf2 hr hf hf'
      intro s hs ihs hsm g hf hf' hr
      have hs' : s < a 1 := by omega
      have o := on_wf hWb hAb hs hs'
      have ko := rk_b o.1
      have eo := o.2.1 1 (by omega)
      refine sX12_stairAt_41 (m_numberOfRow (fM g hf) o.2.1 o.1 hr ⟨by omega, ?_⟩)
      have e26 : g 12 0 26 (Int.toNat (rk (aOn b s))) = G (aOn b s) := by
        rw [hf' 12 0 26 (by omega), ← hFe]
        exact eF _ o.1 o.2.1
      rw [e26]
      refine ⟨fun c3 => ⟨qR_of (by omega) (by omega), ?_⟩, fun c3 => ?_⟩
      · have es : s = row i := by
          by_cases e : s = row i
          · exact e
          · exact absurd (by omega) (p3 s hs (by omega))
        rw [es] at hr o ⊢
        exact ih (i + 1) (aOn b (row i)) g (row i) (by omega) (by omega) hf hf' hr o.1 o.2.1 (by omega) p4 (fun _ => by rw [show i + 1 - 1 = i by omega])
      · have ns : s < row i := by
          by_cases e : s = row i
          · rw [e] at c3; omega
          · omega
        refine m_swapsRow (fM g hf) o.2.1 o.1 hr hs (by omega) (fun g3 hr3 hf3 => ⟨qR_of (by omega) (by omega), ?_⟩)
        rw [o.2.2] at hr3
        refine m_swapsRow (fM g3 (f28 g g3 hf hf3)) hAb hWb hr3 (by omega) (by omega) (fun g4 hr4 hf4 => ?_)
        exact ihs ns (by omega) g4 (f28 g3 g4 (f28 g g3 hf hf3) hf4) (fr_trans hf' (fr_trans hf3 hf4)) hr4
  have M := main (k + 1).toNat 0 a g1 (-1) (by omega) (by omega) hf1 fr_rfl hr1 hW bA_rfl (by omega) (by rw [Int.sub_zero]; exact hrow (by omega)) (fun c => absurd c (by omega))
  rw [Int.sub_zero] at M
  exact M
theorem m_goesHome (hM : qM h 0 a) (hW : qwf B a) (hR : ∀ h', fr (fun c _ j => c = 12 ∧ j = 29) h h' → (∀ p, 0 ≤ p → p < a 0 → h' 12 0 29 (Int.toNat p) = p) → R none h') : qT (d + 1) 283 0 [qo 12 0, qu] [] h R := by
  have hn := wf_n hW
  refine sX12_goesHome_0 ?_
  refine q_up (n := a 0) (C := fun p => p ≤ a 0 → ∀ g, fr (fun c _ j => c = 12 ∧ j = 29) h g → (∀ q, 0 ≤ q → q < p → g 12 0 29 (Int.toNat q) = q) → qT (d + 1) 283 2 [qo 12 0, qi p] [] g R) ?_ 0 (by omega) hn.1 h fr_rfl (fun q q0 q1 => absurd q1 (by omega))
  intro p hp ih hpn g hf hq
  refine sX12_goesHome_2 ?_
  rw [m_0 (m_fr hM (hf 12 0 20 (by omega))) (by omega) (by omega)]
  refine ⟨by omega, fun c => hR g hf (fun q q0 q1 => hq q q0 (by omega)), fun c => ⟨by omega, qR_of (by omega) (by omega), ih (by omega) (by omega) _ (fr_trans hf (fr_up ⟨rfl, rfl⟩)) (fun q q0 q1 => ?_)⟩⟩
  rw [up_I q0 hp]
  by_cases e : q = p
  · rw [if_pos e, e]
  · rw [if_neg e]; exact hq q q0 (by omega)
theorem x_aimHome (hR : ∀ h', fr (fun c _ j => c = 6 ∧ j = 4) h h' → (∀ p, 0 ≤ p → p < 7 → h' 6 0 4 (Int.toNat p) = p) → R none h') : qT (d + 1) 36 0 [qo 6 0, qu] [] h R := by
  refine sX6_aimHome_0 ?_
  refine q_up (n := 7) (C := fun p => p ≤ 7 → ∀ g, fr (fun c _ j => c = 6 ∧ j = 4) h g → (∀ q, 0 ≤ q → q < p → g 6 0 4 (Int.toNat q) = q) → qT (d + 1) 36 2 [qo 6 0, qi p] [] g R) ?_ 0 (by omega) (by omega) h fr_rfl (fun q q0 q1 => absurd q1 (by omega))
  intro p hp ih hpn g hf hq
  refine sX6_aimHome_2 ⟨fun c => hR g hf (fun q q0 q1 => hq q q0 (by omega)), fun c => ⟨by omega, qR_of (by omega) (by omega), ih (by omega) (by omega) _ (fr_trans hf (fr_up ⟨rfl, rfl⟩)) (fun q q0 q1 => ?_)⟩⟩
  rw [up_I q0 hp]
  by_cases e : q = p
  · rw [if_pos e, e]
  · rw [if_neg e]; exact hq q q0 (by omega)
end Sa
