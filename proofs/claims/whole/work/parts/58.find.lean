/-! relabelled: who is to live there -/
def gI (n : Int) (gl inv : Int → Int) : Prop := (∀ p, 0 ≤ p → p < n → 0 ≤ gl p ∧ gl p < n ∧ inv (gl p) = p) ∧ ∀ v, 0 ≤ v → v < n → 0 ≤ inv v ∧ inv v < n ∧ gl (inv v) = v
theorem gI_ex {B : Int} {a g0 : qB} {gl : Int → Int} (hW : qwf B g0) (hA : bA a g0) (hg : isG a gl g0) : ∃ inv, gI (a 0) gl inv := by
  have e0 := hA 0 (by omega)
  have hx : ∀ v : Int, ∃ o : Int, 0 ≤ v → v < a 0 → 0 ≤ o ∧ o < a 0 ∧ gl o = v := by
    intro v
    by_cases c : 0 ≤ v ∧ v < a 0
    · obtain ⟨w, w0, w1, w2⟩ := aLive_ex hW c.1 (by omega)
      exact ⟨w, fun _ _ => ⟨w0, by omega, by rw [← hg w w0 (by omega)]; exact w2⟩⟩
    · exact ⟨0, fun c1 c2 => absurd ⟨c1, c2⟩ c⟩
  refine ⟨fun v => (hx v).choose, fun p p0 p1 => ?_, fun v v0 v1 => (hx v).choose_spec v0 v1⟩
  have l := wf_live hW p0 (by omega : p < g0 0)
  rw [hg p p0 p1] at l
  have s := (hx (gl p)).choose_spec l.1 (by omega)
  refine ⟨l.1, by omega, ?_⟩
  show (hx (gl p)).choose = p
  refine wf_inj hW s.1 (by omega) p0 (by omega) ?_
  rw [hg _ s.1 s.2.1, hg p p0 p1]
  exact s.2.2
def rel (inv : Int → Int) (b : qB) : qB := fun x => if 14 ≤ x ∧ x < 21 then inv (b x) else b x
theorem rel_l {inv : Int → Int} {b : qB} {p : Int} (p0 : 0 ≤ p) (p7 : p < 7) : rel inv b (14 + p) = inv (b (14 + p)) := if_pos (by omega)
theorem rel_o {inv : Int → Int} {b : qB} {x : Int} (h : x < 14 ∨ 21 ≤ x) : rel inv b x = b x := if_neg (by omega)
section Re
variable {B : Int} {a b : qB} {gl inv : Int → Int}
theorem rel_A (hA : bA a b) : bA a (rel inv b) := fun x hx => by rw [rel_o hx]; exact hA x hx
theorem rel_wf (hW : qwf B b) (hg : gI (b 0) gl inv) : qwf B (rel inv b) := by
  have hn := wf_n hW
  have e : rel inv b = mix b (rel inv b) := by
    funext x
    unfold mix
    by_cases c : 14 ≤ x ∧ x < 21
    · rw [if_pos c]
    · rw [if_neg c]; exact if_neg c
  rw [e]
  refine mix_wf hW (fun p p0 p1 => ?_) (fun p q p0 p1 q0 q1 he => ?_)
  · rw [rel_l p0 (by omega)]
    have l := wf_live hW p0 p1
    have := hg.2 _ l.1 l.2
    exact ⟨this.1, this.2.1⟩
  · rw [rel_l p0 (by omega), rel_l q0 (by omega)] at he
    have l1 := wf_live hW p0 p1
    have l2 := wf_live hW q0 q1
    refine wf_inj hW p0 p1 q0 q1 ?_
    rw [← (hg.2 _ l1.1 l1.2).2.2, ← (hg.2 _ l2.1 l2.2).2.2, he]
theorem rel_on (hW : qwf B b) {s : Int} (s0 : 0 ≤ s) (hs : s < b 1) : rel inv (aOn b s) = aOn (rel inv b) s := by
  have hn := wf_n hW
  have hm := wf_m hW
  have h3 := wf_st hW s0 hs
  have e1 : rel inv b (70 + s) = b (70 + s) := rel_o (by omega)
  have e2 : rel inv b (80 + s) = b (80 + s) := rel_o (by omega)
  show _ = aSwap (rel inv b) (rel inv b (70 + s)) (rel inv b (80 + s))
  rw [e1, e2]
  funext x
  unfold aSwap aSet
  by_cases c : 14 ≤ x ∧ x < 21
  · have hx : x = 14 + (x - 14) := by omega
    rw [show rel inv (aOn b s) x = inv (aOn b s x) from if_pos c, show rel inv b x = inv (b x) from if_pos c, rel_l h3.1.1 (by omega), rel_l h3.2.1.1 (by omega)]
    rw [hx, aOn_at hW s0 hs]
    by_cases c1 : x - 14 = b (80 + s)
    · rw [if_pos c1, if_pos (by omega)]
    · rw [if_neg c1, if_neg (show ¬ (14 + (x - 14) = 14 + b (80 + s)) by omega)]
      by_cases c2 : x - 14 = b (70 + s)
      · rw [if_pos c2, if_pos (by omega)]
      · rw [if_neg c2, if_neg (show ¬ (14 + (x - 14) = 14 + b (70 + s)) by omega)]
  · rw [show rel inv (aOn b s) x = aOn b s x from if_neg c, aOn_hi hW s0 hs (by omega), if_neg (by omega), if_neg (by omega)]
    exact (if_neg c).symm
theorem rL_rel {F : qB → Int} (hg : gI (a 0) gl inv) (h : rL B a gId F) : rL B a gl (fun b => F (rel inv b)) := by
  intro b hW hA
  have hn := wf_n hW
  have e0 := hA 0 (by omega)
  have e1 := hA 1 (by omega)
  obtain ⟨r1, r2, r3, r4, r5⟩ := h (rel inv b) (rel_wf hW (gl := gl) (by rw [e0]; exact hg)) (rel_A hA)
  refine ⟨r1, fun c => r2 (fun p p0 p1 => ?_), fun c p p0 p1 => ?_, fun c s s0 s1 => ?_, fun c => ?_⟩
  · rw [rel_l p0 (by omega), c p p0 p1]
    exact (hg.1 p p0 p1).2.2
  · have q1 := r3 c p p0 p1
    rw [rel_l p0 (by omega)] at q1
    have l := wf_live hW p0 (by omega : p < b 0)
    have q1 : inv (b (14 + p)) = p := q1
    rw [← (hg.2 _ l.1 (by omega)).2.2, q1]
  · dsimp only
    rw [rel_on hW s0 (by omega)]
    exact r4 c s s0 s1
  · obtain ⟨s, s0, s1, s2⟩ := r5 c
    refine ⟨s, s0, s1, ?_⟩
    dsimp only
    rw [rel_on hW s0 (by omega)]
    exact s2
end Re
/-- the first of the shortest rows -/
def pR (a : qB) (G : qB → Int) (row : Int → Int) : Nat → qB → Int → Prop
  | 0, _, _ => True
  | k + 1, b, i => (0 ≤ row i ∧ row i < a 1 ∧ G (aOn b (row i)) = G b - 1 ∧ ∀ s, 0 ≤ s → s < row i → G (aOn b s) ≠ G b - 1) ∧ pR a G row k (aOn b (row i)) (i + 1)
theorem pR_more {a b : qB} {G : qB → Int} {row : Int → Int} {k : Nat} {i s : Int} (e : row i = s) (s0 : 0 ≤ s) (s1 : s < a 1) (h2 : G (aOn b s) = G b - 1) (h3 : ∀ s', 0 ≤ s' → s' < s → G (aOn b s') ≠ G b - 1) (hp : pR a G row k (aOn b s) (i + 1)) : pR a G row (k + 1) b i := by
  refine ⟨?_, ?_⟩
  · rw [e]; exact ⟨s0, s1, h2, h3⟩
  · rw [e]; exact hp
section Fi
variable {d : Nat} {R : Option qV → qH → Prop} {h : qH} {a : qB} {B : Int} {gl inv : Int → Int}
theorem x_orderOf {b : qB} (hQ : qQX h 0 b) (hW : qwf B b) (hg : gI (b 0) gl inv) (hgl : ∀ p, 0 ≤ p → p < b 0 → h 6 0 4 (Int.toNat p) = gl p) (hR : ∀ N : Nat, cdN N (rel inv b) → R (some (qi (N : Int))) h) : qT (d + 1) 40 0 [qo 6 0, qo 7 0, qu, qu, qu] [] h R := by
  have hn := wf_n hW
  have z0 : rel inv b 0 = b 0 := rel_o (by omega)
  refine sX6_orderOf_0 ?_
  refine q_up (n := b 0) (C := fun p => p ≤ b 0 → ∀ (N : Nat) z, cdP N (rel inv b) p → qT (d + 1) 40 4 [qo 6 0, qo 7 0, qi (N : Int), qi p, z] [] h R) ?_ 0 (by omega) hn.1 0 _ cdP_0
  intro p hp ih hpn N z hN
  refine sX6_orderOf_4 ?_
  rw [qx_n hQ]
  refine ⟨fun c => hR N (cdP_N (by omega) (by rw [z0, show b 0 = p by omega]; exact hN)), fun c => ?_⟩
  have hp' : p < b 0 := by omega
  have l := wf_live hW hp hp'
  have iv := hg.2 _ l.1 l.2
  obtain ⟨N', eN, cN⟩ := cdP_add hN hp (by omega) (by rw [rel_l hp (by omega)]; exact iv.1) (by rw [rel_l hp (by omega)]; omega)
  rw [rel_l hp (by omega)] at eN
  refine q_up (n := b 0) (C := fun o => o ≤ b 0 → qT (d + 1) 40 15 [qo 6 0, qo 7 0, qi (if o ≤ inv (b (14 + p)) then (N : Int) else (N' : Int)), qi p, qi o] [] h R) ?_ 0 (by omega) hn.1 |> fun H => (by
    rw [if_pos iv.1] at H
    exact H)
  intro o ho iho hon
  refine sX6_orderOf_15 ?_
  rw [qx_n hQ]
  refine ⟨fun c2 => ⟨qR_of (by omega) (by omega), ?_⟩, fun c2 => ⟨by omega, by omega, ?_⟩⟩
  · rw [if_neg (by omega)]
    exact ih hp' (by omega) N' _ cN
  · have ho' : o < b 0 := by omega
    rw [hgl o ho ho', qx_live hQ hW hp hp']
    have iho := iho ho' (by omega)
    refine ⟨fun c3 => ⟨qR_of (by omega) (by omega), ?_⟩, fun c3 => ⟨qR_of (by omega) (by omega), qR_of (by omega) (by omega), ?_⟩⟩
    · have ne : o ≠ inv (b (14 + p)) := fun e => c3 (by rw [e]; exact iv.2.2)
      by_cases c4 : o ≤ inv (b (14 + p))
      · rw [if_pos c4]
        rw [if_pos (by omega)] at iho
        exact iho
      · rw [if_neg c4]
        rw [if_neg (by omega)] at iho
        exact iho
    · have eo : o = inv (b (14 + p)) := by
        have q1 := (hg.1 o ho ho').2.2
        have q2 : gl o = b (14 + p) := by omega
        rw [q2] at q1
        exact q1.symm
      rw [if_pos (by omega)]
      rw [if_neg (by omega), ← eN, ← eo] at iho
      exact iho
abbrev P58 : Nat → Nat → Nat → Prop := fun c _ j => c = 6 ∧ (j = 5 ∨ j = 8)
theorem x_stepNearer {r : qB} {N : Nat} {F : qB → Int} (hF : ∀ b, F b = h 6 0 0 (Int.toNat (rk b))) (ht : tS h a) (hL : rL B a gId F) (hW : qwf B r) (hA : bA a r) (hc : cdN N r) (hk : 0 < F r) (hl : 0 ≤ h 6 0 8 0 ∧ h 6 0 8 0 < 24) (hb : F r ≤ 100) (hR : ∀ (s : Int) (N' : Nat), 0 ≤ s → s < a 1 → F (aOn r s) = F r - 1 → (∀ s', 0 ≤ s' → s' < s → F (aOn r s') ≠ F r - 1) → cdN N' (aOn r s) → R (some (qi (N' : Int))) (qup (qup h 6 0 5 (Int.toNat (h 6 0 8 0)) s) 6 0 8 0 (h 6 0 8 0 + 1))) : qT (d + 3) 39 0 [qo 6 0, qi (N : Int), qi (F r), qu, qu] [] h R := by
  have e1 := hA 1 (by omega)
  have hm := wf_m hW
  obtain ⟨s1, t0, t1, t2⟩ := (hL r hW hA).2.2.2.2 hk
  refine sX6_stepNearer_0 ?_
  refine q_up (n := a 1) (C := fun s => s ≤ a 1 → ∀ z, (∀ s', 0 ≤ s' → s' < s → F (aOn r s') ≠ F r - 1) → qT (d + 3) 39 2 [qo 6 0, qi (N : Int), qi (F r), qi s, z] [] h R) ?_ 0 (by omega) (by omega) _ (fun s' s0 s1 => absurd s1 (by omega))
  intro s hs ih hsm z hy
  refine sX6_stepNearer_2 ?_
  rw [ht.2.1]
  refine ⟨fun c => absurd t2 (hy s1 t0 (by omega)), fun c => ⟨by omega, by omega, ?_⟩⟩
  have hs' : s < a 1 := by omega
  have o := on_wf hW hA hs hs'
  have ko := rk_b o.1
  have eo := o.2.1 0 (by omega)
  rw [(ht.2.2 s hs hs').1, (ht.2.2 s hs hs').2, ← hA (70 + s) (by omega), ← hA (80 + s) (by omega)]
  refine x_exchangeIn hc hW hs (by omega) (fun M hM => ?_)
  dsimp only [qri]
  rw [ht.1, ← eo]
  refine x_rank hM o.1 ?_
  dsimp only [qri]
  rw [← hF]
  refine ⟨by omega, qR_of (by omega) (by omega), fun c2 => ⟨qR_of (by omega) (by omega), ih hs' (by omega) _ (fun s' q0 q1 => ?_)⟩, fun c2 => ⟨hl, qR_of (by omega) (by omega), hR s M hs hs' (by omega) hy hM⟩⟩
  by_cases e : s' = s
  · rw [e]; exact c2
  · exact hy s' q0 (by omega)
abbrev PN : Nat → Nat → Nat → Prop := fun c _ j => c = 6 ∧ (j = 0 ∨ j = 1 ∨ j = 2 ∨ j = 3 ∨ j = 5 ∨ j = 6 ∨ j = 7 ∨ j = 8)
theorem x_find (hQ : qQX h 0 a) (hW : qwf B a) (hT : tB h) (hg : gI (a 0) gl inv) (hgl : ∀ p, 0 ≤ p → p < a 0 → h 6 0 4 (Int.toNat p) = gl p) (hR : ∀ h' G, fr PN h h' → tB h' → rL B a gl G → (G a < 0 → R (some (qi 0)) h') ∧ (0 ≤ G a → h' 6 0 8 0 = G a → G a ≤ 21 → pR a G (fun i => h' 6 0 5 (Int.toNat i)) (G a).toNat a 0 → R (some (qi 1)) h')) : qT (d + 6) 38 0 [qo 6 0, qo 7 0, qu, qu] [] h R := by
  have hn := wf_n hW
  refine sX6_find_0 (x_makeTable hQ hW hT (fun g1 hf1 hS1 hL1 => ?_))
  have hQ1 : qQX (qup g1 6 0 8 0 0) 0 a := qx_fr hQ (by funext j; rw [up_j (by omega)]; exact hf1 7 0 j (by omega))
  have hW' := rel_wf hW hg
  have hA' : bA a (rel inv a) := rel_A bA_rfl
  refine x_orderOf hQ1 hW hg (fun p p0 p1 => by rw [up_j (by omega), hf1 6 0 4 (by omega)]; exact hgl p p0 p1) (fun N hN => ?_)
  dsimp only [qri]
  rw [qx_n hQ1, show a 0 = rel inv a 0 from (rel_o (by omega)).symm]
  have kr := rk_b hW'
  refine x_rank hN hW' ⟨by omega, ?_⟩
  rw [up_j (by omega : ¬ ((6 : Nat) = 6 ∧ (0 : Nat) = 0 ∧ (0 : Nat) = 8))]
  -- how far by the table
  obtain ⟨F, hF⟩ : ∃ F : qB → Int, ∀ b, F b = g1 6 0 0 (Int.toNat (rk b)) := ⟨_, fun _ => rfl⟩
  have hLF : rL B a gId F := by
    have : F = fun b => g1 6 0 0 (Int.toNat (rk b)) := funext hF
    rw [this]; exact hL1
  have hLG := rL_rel hg hLF
  rw [← hF]
  have f0 : fr PN h (qup g1 6 0 8 0 0) := fr_trans (fr_mono hf1 (fun c i j hP => ⟨hP.1, by omega⟩)) (fr_up ⟨rfl, by omega⟩)
  have tBx : ∀ g, fr P58 (qup g1 6 0 8 0 0) g → tB g := fun g hf => by
    right
    refine ⟨B, a, hW, tS_fr hS1 ?_ ?_ ?_ ?_, ?_⟩
    · rw [hf 6 0 2 (by omega), up_j (by omega)]
    · rw [hf 6 0 3 (by omega), up_j (by omega)]
    · rw [hf 6 0 6 (by omega), up_j (by omega)]
    · rw [hf 6 0 7 (by omega), up_j (by omega)]
    · rw [hf 6 0 0 (by omega), up_j (by omega)]; exact hL1
  have m1 := (hLF _ hW' hA').1
  refine ⟨fun c => ⟨by omega, (hR _ _ f0 (tBx _ fr_rfl) hLG).1 (by show F (rel inv a) < 0; omega)⟩, fun c => ?_⟩
  have F21 : F (rel inv a) ≤ 21 := by
    obtain ⟨k, k1, k2⟩ := gC_wk hW' hA' (wk_gC (F (rel inv a)).toNat _ hW' hA' (wk_rL hLF _ _ hW' hA' (by omega)))
    have := rL_wk hLF k _ hW' hA' k2
    omega
  refine ⟨fun c2 => ?_, fun c2 => absurd (by omega) c2⟩
  have main : ∀ (k : Nat) (b : qB) (N : Nat) (g : qH), fr P58 (qup g1 6 0 8 0 0) g → qwf B b → bA a b → cdN N (rel inv b) → F (rel inv b) = k → g 6 0 8 0 = F (rel inv a) - k → (k : Int) ≤ F (rel inv a) → (∀ g', fr P58 (qup g1 6 0 8 0 0) g' → g' 6 0 8 0 = F (rel inv a) → (∀ i, 0 ≤ i → i < F (rel inv a) - k → g' 6 0 5 (Int.toNat i) = g 6 0 5 (Int.toNat i)) → pR a (fun b => F (rel inv b)) (fun i => g' 6 0 5 (Int.toNat i)) k b (F (rel inv a) - k) → R (some (qi 1)) g') → qT (d + 6) 38 43 [qo 6 0, qo 7 0, qi (N : Int), qi (k : Int)] [] g R := by
    intro k
    induction k with
    | zero =>
      intro b N g hf _ _ _ _ h8 _ H
      exact sX6_find_43 ⟨fun _ => ⟨by omega, H g hf (by omega) (fun _ _ _ => rfl) trivial⟩, fun c => absurd (by decide) c⟩
    | succ k ih =>
      intro b N g hf hWb hAb hNb hk h8 hle H
      have e0 := hAb 0 (by omega)
      have e1 := hAb 1 (by omega)
      have hWr := rel_wf hWb (gl := gl) (by rw [e0]; exact hg)
      refine sX6_find_43 ⟨fun c => absurd c (by omega), fun _ => ?_⟩
      rw [← hk]
      have tg : tS g a := tS_fr hS1 (by rw [hf 6 0 2 (by omega), up_j (by omega)]) (by rw [hf 6 0 3 (by omega), up_j (by omega)]) (by rw [hf 6 0 6 (by omega), up_j (by omega)]) (by rw [hf 6 0 7 (by omega), up_j (by omega)])
      have hFg : ∀ b, F b = g 6 0 0 (Int.toNat (rk b)) := fun b => by rw [hF, hf 6 0 0 (by omega), up_j (by omega)]
      refine x_stepNearer (r := rel inv b) hFg tg hLF hWr (rel_A hAb) hNb (by omega) (by omega) (by omega) (fun s N' s0 s1 s2 s3 hN' => ⟨qR_of (by omega) (by omega), ?_⟩)
      rw [show F (rel inv b) + (-1) = (k : Int) by omega]
      have o := on_wf hWb hAb s0 s1
      have er : rel inv (aOn b s) = aOn (rel inv b) s := rel_on hWb s0 (by omega)
      refine ih (aOn b s) N' _ (fr_trans hf (fr_trans (fr_up ⟨rfl, by omega⟩) (fr_up ⟨rfl, by omega⟩))) o.1 o.2.1 (by rw [er]; exact hN') (by rw [er, s2]; omega) (by rw [up_at]; omega) (by omega) (fun g' hf' k8 k5 kp => ?_)
      have rr : ∀ i, 0 ≤ i → i < F (rel inv a) - k → g' 6 0 5 (Int.toNat i) = if i = g 6 0 8 0 then s else g 6 0 5 (Int.toNat i) := by
        intro i i0 i1
        rw [k5 i i0 i1, up_j (by omega), up_I i0 (by omega)]
      have ri : g' 6 0 5 (Int.toNat (F (rel inv a) - ((k + 1 : Nat) : Int))) = s := by
        rw [rr _ (by omega) (by omega), if_pos (by omega)]
      refine H g' hf' k8 (fun i i0 i1 => by rw [rr i i0 (by omega), if_neg (by omega)]) (pR_more (s := s) ri s0 s1 ?_ (fun s' t0 t1 => ?_) ?_)
      · show F (rel inv (aOn b s)) = _
        rw [er]; exact s2
      · show F (rel inv (aOn b s')) ≠ _
        rw [rel_on hWb t0 (by omega)]; exact s3 s' t0 t1
      · rw [show F (rel inv a) - ((k + 1 : Nat) : Int) + 1 = F (rel inv a) - (k : Int) by omega]
        exact kp
  have M := main (F (rel inv a)).toNat a N (qup g1 6 0 8 0 0) fr_rfl hW bA_rfl hN (by omega) (by rw [up_at]; omega) (by omega) (fun g' hf' k8 _ kp => ?_)
  · rw [show (((F (rel inv a)).toNat : Nat) : Int) = F (rel inv a) by omega] at M
    exact M
  · refine (hR g' _ (fr_trans f0 (fr_mono hf' (fun c i j hP => ⟨hP.1, by omega⟩))) (tBx g' hf') hLG).2 (by show 0 ≤ F (rel inv a); omega) k8 F21 ?_
    rw [show F (rel inv a) - (((F (rel inv a)).toNat : Nat) : Int) = 0 by omega] at kp
    exact kp
end Fi
