/-! what was read is a well-formed run of STEPS -/
section Sg
variable {n m : Int} {D D' : Int → Int → Int} {C C' : Nat → Int → Int}
theorem dSeg_refl : ∀ (k dd : Nat) (f l : Int), dSeg n m D C k dd f f l l
  | 0, _, _, _ => ⟨rfl, rfl⟩
  | _ + 1, _, _, _ => Or.inl ⟨rfl, rfl⟩
theorem dSeg_up : ∀ (k dd : Nat) {f t l e : Int}, dSeg n m D C k dd f t l e → dSeg n m D C (k + 1) dd f t l e
  | 0, dd, f, t, l, e, h => Or.inl h
  | k + 1, dd, f, t, l, e, h => by
    rcases h with h | ⟨h1, h2, h3⟩
    · exact Or.inl h
    · refine Or.inr ⟨h1, h2, ?_⟩
      rcases h3 with ⟨a1, a2, a3⟩ | ⟨a1, a2, E, a3, a4, a5, a6, a7⟩
      · exact Or.inl ⟨a1, a2, dSeg_up k dd a3⟩
      · exact Or.inr ⟨a1, a2, E, a3, a4, a5, dSeg_up k _ a6, dSeg_up k dd a7⟩
theorem dSeg_mono {k k' dd : Nat} {f t l e : Int} (h : dSeg n m D C k dd f t l e) (hk : k ≤ k') : dSeg n m D C k' dd f t l e := by
  induction hk with
  | refl => exact h
  | step _ ih => exact dSeg_up _ _ ih
theorem stepOK_c {s l : Int} (h : stepOK n m D C s l) (hD : dAg (D' s) (D s)) (hC : ∀ j, j < 4 → C' j l = C j l) : stepOK n m D' C' s l := by
  obtain ⟨a0, a1, a2, a5, a6⟩ := hD
  unfold stepOK at *
  rw [hC 0 (by omega), hC 1 (by omega), hC 2 (by omega), hC 3 (by omega), a0]
  obtain ⟨g0, g1, g2, g3, g4, g5, g6, g7, g8⟩ := h
  refine ⟨g0, fun c => ?_, fun c => ?_, fun c => ?_, fun c => ?_, g5, fun c => ?_, fun c => ?_, g8⟩
  · rw [a1 (by omega) (by omega)]; exact g1 c
  · rw [a1 (by omega) (by omega)]; exact g2 c
  · rw [a1 (by omega) (by omega)]; exact g3 c
  · rw [a1 (by omega) (by omega), a2 (by omega)]; exact g4 c
  · have g6 := g6 c
    rw [a1 (by omega) (by omega), a5 c]
    refine ⟨g6.1, g6.2.1, fun c1 => ?_, fun c1 => ?_, fun c1 => ?_⟩
    · rw [a2 (by omega)]; exact g6.2.2.1 c1
    · rw [(a6 c (by omega)).1, (a6 c (by omega)).2]; exact g6.2.2.2.1 c1
    · rw [(a6 c (by omega)).1, (a6 c (by omega)).2]; exact g6.2.2.2.2 c1
  · rw [a1 (by omega) (by omega)]; exact g7 c
theorem dAg_rfl {f : Int → Int} : dAg f f := ⟨rfl, fun _ _ => rfl, fun _ => rfl, fun _ => rfl, fun _ _ => ⟨rfl, rfl⟩⟩
theorem dSeg_c : ∀ (k dd : Nat) {f t l e : Int}, dSeg n m D C k dd f t l e → (∀ s, f ≤ s → s < t → dAg (D' s) (D s) ∧ D' s 8 = D s 8) → (∀ j, j < 5 → ∀ l', l ≤ l' → l' < e → C' j l' = C j l') → dSeg n m D' C' k dd f t l e
  | 0, dd, f, t, l, e, h, hD, hC => h
  | k + 1, dd, f, t, l, e, h, hD, hC => by
    have le := dSeg_le _ _ h
    rcases h with h | ⟨h1, h2, h3⟩
    · exact Or.inl h
    · have d0 := hD f (by omega) h1
      have hl : l < e := by omega
      refine Or.inr ⟨h1, stepOK_c h2 d0.1 (fun j j4 => hC j (by omega) l (by omega) hl), ?_⟩
      rw [d0.1.1, d0.2]
      rcases h3 with ⟨a1, a2, a3⟩ | ⟨a1, a2, E, a3, a4, a5, a6, a7⟩
      · exact Or.inl ⟨a1, a2, dSeg_c k dd a3 (fun s s0 s1 => hD s (by omega) s1) (fun j j5 l' l0 l1 => hC j j5 l' (by omega) l1)⟩
      · have b6 := dSeg_le _ _ a6
        have b7 := dSeg_le _ _ a7
        refine Or.inr ⟨a1, a2, E, by rw [hC 4 (by omega) l (by omega) hl]; exact a3, by rw [hC 4 (by omega) E (by omega) (by omega)]; exact a4, by rw [hC 0 (by omega) E (by omega) (by omega)]; exact a5, dSeg_c k _ a6 (fun s s0 s1 => hD s (by omega) (by omega)) (fun j j5 l' l0 l1 => hC j j5 l' (by omega) (by omega)), dSeg_c k dd a7 (fun s s0 s1 => hD s (by omega) s1) (fun j j5 l' l0 l1 => hC j j5 l' (by omega) l1)⟩
theorem dSeg_snoc : ∀ (k dd : Nat) {f t l e : Int}, dSeg n m D C k dd f t l e → stepOK n m D C t e → (D t 0 < 5 ∨ D t 0 = 7) → D t 8 = t + 1 → dSeg n m D C (k + 1) dd f (t + 1) l (e + 1)
  | 0, dd, f, t, l, e, h, h1, h2, h3 => by
    obtain ⟨e1, e2⟩ := h
    subst e1; subst e2
    exact Or.inr ⟨by omega, h1, Or.inl ⟨h2, h3, dSeg_refl _ _ _ _⟩⟩
  | k + 1, dd, f, t, l, e, h, h1, h2, h3 => by
    rcases h with ⟨e1, e2⟩ | ⟨g1, g2, g3⟩
    · subst e1; subst e2
      exact Or.inr ⟨by omega, h1, Or.inl ⟨h2, h3, dSeg_refl _ _ _ _⟩⟩
    · refine Or.inr ⟨by omega, g2, ?_⟩
      rcases g3 with ⟨a1, a2, a3⟩ | ⟨a1, a2, E, a3, a4, a5, a6, a7⟩
      · exact Or.inl ⟨a1, a2, dSeg_snoc k dd a3 h1 h2 h3⟩
      · exact Or.inr ⟨a1, a2, E, a3, a4, a5, dSeg_up k _ a6, dSeg_snoc k dd a7 h1 h2 h3⟩
theorem dSeg_block {ki : Nat} {E t2 : Int} : ∀ (k dd : Nat) {f t l e : Int}, dSeg n m D C k dd f t l e → stepOK n m D C t e → (D t 0 = 5 ∨ D t 0 = 6) → 0 < dd → D t 8 = t2 → C 4 e = E → C 4 E = e → C 0 E = 17 → dSeg n m D C ki (dd - 1) (t + 1) t2 (e + 1) E → dSeg n m D C (k + ki + 1) dd f t2 l (E + 1)
  | 0, dd, f, t, l, e, h, h1, h2, h3, h4, h5, h6, h7, h8 => by
    obtain ⟨e1, e2⟩ := h
    subst e1; subst e2
    have le := dSeg_le _ _ h8
    refine Or.inr ⟨by omega, h1, Or.inr ⟨h2, h3, E, h5, h6, h7, ?_, ?_⟩⟩
    · rw [h4]; exact dSeg_mono h8 (by omega)
    · rw [h4]; exact dSeg_refl _ _ _ _
  | k + 1, dd, f, t, l, e, h, h1, h2, h3, h4, h5, h6, h7, h8 => by
    have le := dSeg_le _ _ h8
    rw [show k + 1 + ki + 1 = (k + ki + 1) + 1 by omega]
    rcases h with ⟨e1, e2⟩ | ⟨g1, g2, g3⟩
    · subst e1; subst e2
      refine Or.inr ⟨by omega, h1, Or.inr ⟨h2, h3, E, h5, h6, h7, ?_, ?_⟩⟩
      · rw [h4]; exact dSeg_mono h8 (by omega)
      · rw [h4]; exact dSeg_refl _ _ _ _
    · refine Or.inr ⟨by omega, g2, ?_⟩
      rcases g3 with ⟨a1, a2, a3⟩ | ⟨a1, a2, E', a3, a4, a5, a6, a7⟩
      · exact Or.inl ⟨a1, a2, dSeg_block k dd a3 h1 h2 h3 h4 h5 h6 h7 h8⟩
      · exact Or.inr ⟨a1, a2, E', a3, a4, a5, dSeg_mono a6 (by omega), dSeg_block k dd a7 h1 h2 h3 h4 h5 h6 h7 h8⟩
end Sg
def dS (n m : Int) (D : Int → Int → Int) (C : Nat → Int → Int) (dd : Nat) (f t l e : Int) : Prop := ∃ k, dSeg n m D C k dd f t l e
def dOpen (n m : Int) (D : Int → Int → Int) (C : Nat → Int → Int) : List (Int × Int) → Int → Int → Prop
  | [], f, l => dS n m D C 3 0 f 0 l
  | x :: r, f, l => dS n m D C (2 - r.length) (x.1 + 1) f (x.2 + 1) l ∧ stepOK n m D C x.1 x.2 ∧ (D x.1 0 = 5 ∨ D x.1 0 = 6) ∧ r.length < 3 ∧ dOpen n m D C r x.1 x.2
section So
variable {n m : Int} {D D' : Int → Int → Int} {C C' : Nat → Int → Int}
theorem dOpen_c : ∀ (stk : List (Int × Int)) {f l : Int}, dOpen n m D C stk f l → (∀ s, s < f → D' s = D s) → (∀ j l', l' < l → C' j l' = C j l') → dOpen n m D' C' stk f l
  | [], f, l, ⟨k, h⟩, hD, hC => ⟨k, dSeg_c _ _ h (fun s _ s1 => by rw [hD s s1]; exact ⟨dAg_rfl, rfl⟩) (fun j _ l' _ l1 => hC j l' l1)⟩
  | x :: r, f, l, ⟨⟨k, h⟩, h2, h3, h4, h5⟩, hD, hC => by
    have le := dSeg_le _ _ h
    have ex : D' x.1 = D x.1 := hD x.1 (by omega)
    refine ⟨⟨k, dSeg_c _ _ h (fun s _ s1 => by rw [hD s s1]; exact ⟨dAg_rfl, rfl⟩) (fun j _ l' _ l1 => hC j l' l1)⟩, stepOK_c h2 (by rw [ex]; exact dAg_rfl) (fun j _ => hC j x.2 (by omega)), by rw [ex]; exact h3, h4, dOpen_c r h5 (fun s s1 => hD s (by omega)) (fun j l' l1 => hC j l' (by omega))⟩
theorem dOpen_snoc {stk : List (Int × Int)} {t e : Int} (h : dOpen n m D C stk t e) (h1 : stepOK n m D C t e) (h2 : D t 0 < 5 ∨ D t 0 = 7) (h3 : D t 8 = t + 1) : dOpen n m D C stk (t + 1) (e + 1) := by
  cases stk with
  | nil => obtain ⟨k, h⟩ := h; exact ⟨k + 1, dSeg_snoc _ _ h h1 h2 h3⟩
  | cons x r => obtain ⟨⟨k, h⟩, g⟩ := h; exact ⟨⟨k + 1, dSeg_snoc _ _ h h1 h2 h3⟩, g⟩
theorem dOpen_block {stk : List (Int × Int)} {t e t2 E : Int} (h : dOpen n m D C stk t e) (h1 : stepOK n m D C t e) (h2 : D t 0 = 5 ∨ D t 0 = 6) (hl : stk.length < 3) (h4 : D t 8 = t2) (h5 : C 4 e = E) (h6 : C 4 E = e) (h7 : C 0 E = 17) (h8 : dS n m D C (2 - stk.length) (t + 1) t2 (e + 1) E) : dOpen n m D C stk t2 (E + 1) := by
  obtain ⟨ki, h8⟩ := h8
  cases stk with
  | nil => obtain ⟨k, h⟩ := h; exact ⟨_, dSeg_block _ _ h h1 h2 (by omega) h4 h5 h6 h7 h8⟩
  | cons x r =>
    obtain ⟨⟨k, h⟩, g⟩ := h
    rw [List.length_cons] at hl h8
    exact ⟨⟨_, dSeg_block _ _ h h1 h2 (by omega) h4 h5 h6 h7 (by rw [show 2 - r.length - 1 = 2 - (r.length + 1) by omega]; exact h8)⟩, g⟩
theorem dAg_8' {s y s' : Int} : dAg (dSet D s y s') (D s') := by
  have e : ∀ x, x ≠ 8 → dSet D s y s' x = D s' x := fun x hx => if_neg (fun c => hx c.2)
  unfold dAg
  rw [e 0 (by omega), e 1 (by omega), e 2 (by omega), e 5 (by omega), e 6 (by omega), e 7 (by omega)]
  exact dAg_rfl
theorem dsOK_step {w s l : Int} {v : dLn} (hw : 0 ≤ stW w) (h : dsOK n m w v) (mt : Int) : stepOK n m (dAdd D s w v) (cAdd C l v.2.1 v.2.2.1 v.2.2.2.1 v.2.2.2.2 mt) s l := by
  have e : ∀ x, dAdd D s w v s x = if x = 0 then stW w else if x = 1 then v.2.2.1 else if x = 2 then v.2.2.2.1 else if x = 5 then tsW v.2.1 else if x = 6 then v.2.2.2.1 else if x = 7 then v.2.2.2.2 else s + 1 := fun x => if_pos rfl
  have e0 : dAdd D s w v s 0 = stW w := e 0
  have e1 : dAdd D s w v s 1 = v.2.2.1 := e 1
  have e2 : dAdd D s w v s 2 = v.2.2.2.1 := e 2
  have e5 : dAdd D s w v s 5 = tsW v.2.1 := e 5
  have e6 : dAdd D s w v s 6 = v.2.2.2.1 := e 6
  have e7 : dAdd D s w v s 7 = v.2.2.2.2 := e 7
  have c : ∀ j, cAdd C l v.2.1 v.2.2.1 v.2.2.2.1 v.2.2.2.2 mt j l = if j = 0 then v.2.1 else if j = 1 then v.2.2.1 else if j = 2 then v.2.2.2.1 else if j = 3 then v.2.2.2.2 else mt := fun j => if_pos rfl
  have c0 := c 0
  have c1 := c 1
  have c2 := c 2
  have c3 := c 3
  rw [if_pos rfl] at c0
  rw [if_neg (by omega), if_pos rfl] at c1
  rw [if_neg (by omega), if_neg (by omega), if_pos rfl] at c2
  rw [if_neg (by omega), if_neg (by omega), if_neg (by omega), if_pos rfl] at c3
  unfold stepOK
  rw [e0, e1, e2, e5, e6, e7, c0, c1, c2, c3]
  obtain ⟨h1, h2, h3, h4, h5, h6⟩ := h
  have cas : w = 8 ∨ w = 9 ∨ w = 10 ∨ w = 11 ∨ w = 12 ∨ w = 13 ∨ w = 16 ∨ w = 18 := by
    unfold stW at hw
    by_cases q8 : w = 8
    · omega
    by_cases q9 : w = 9
    · omega
    by_cases q10 : w = 10
    · omega
    by_cases q11 : w = 11
    · omega
    by_cases q12 : w = 12
    · omega
    by_cases q13 : w = 13
    · omega
    by_cases q16 : w = 16
    · omega
    by_cases q18 : w = 18
    · omega
    rw [if_neg q8, if_neg q9, if_neg q10, if_neg q11, if_neg q12, if_neg q13, if_neg q16, if_neg q18] at hw
    omega
  rcases cas with q | q | q | q | q | q | q | q <;> subst q
  · rw [show stW 8 = 0 from by decide]; omega
  · rw [show stW 9 = 1 from by decide]; omega
  · rw [show stW 10 = 2 from by decide]; omega
  · rw [show stW 11 = 3 from by decide]; omega
  · rw [show stW 12 = 4 from by decide]; omega
  · rw [show stW 13 = 5 from by decide]
    rcases h5 rfl with g | g | g | g
    · rw [g.1, show tsW 14 = 0 from by decide]; omega
    · rw [g.1, show tsW 15 = 1 from by decide]; omega
    · rw [g.1, show tsW 5 = 2 from by decide]; omega
    · rw [g.1, show tsW 3 = 3 from by decide]; omega
  · rw [show stW 16 = 6 from by decide]; omega
  · rw [show stW 18 = 7 from by decide]; omega
theorem stW_b (w : Int) : stW w ≤ 7 := by unfold stW; (repeat' split) <;> omega
theorem dRun_seg {b : Int → Int} {nn : Int} {Y : Int → Int} (m0 : 0 ≤ n) : ∀ (k : Nat) {p ns nl ns' nl' : Int} {D D' : Int → Int → Int} {C C' : Nat → Int → Int} {stk : List (Int × Int)}, p ≤ nn → dOpen n m D C stk ns nl → dInv ns nl stk → dRun b nn Y n m k p ns nl D C stk = .inr (ns', nl', D', C') → dS n m D' C' 3 0 ns' 0 nl' ∧ dInv ns' nl' [] := by
  intro k
  induction k with
  | zero => intro p ns nl ns' nl' D D' C C' stk pn ho hi h; cases h
  | succ k ih =>
    intro p ns nl ns' nl' D D' C C' stk pn ho hi h
    by_cases c0 : tkK b nn p = 0
    · cases stk with
      | nil =>
        rw [dRun_0 c0] at h
        have e := Sum.inr.inj h
        have e1 : ns = ns' := congrArg (fun z => z.1) e
        have e2 : nl = nl' := congrArg (fun z => z.2.1) e
        have e3 : D = D' := congrArg (fun z => z.2.2.1) e
        have e4 : C = C' := congrArg (fun z => z.2.2.2) e
        subst e1; subst e2; subst e3; subst e4
        exact ⟨ho, hi⟩
      | cons x r => rw [dRun_00 c0] at h; cases h
    · have t1 := tk_lt (b := b) pn c0
      by_cases c17 : tkW b nn p = 17
      · cases stk with
        | nil => rw [dRun_e0 c0 c17] at h; cases h
        | cons x r =>
          cases hs : rdStop b nn (tkE b nn p) with
          | inl e => rw [dRun_e1 c0 c17 hs] at h; cases h
          | inr q =>
            rw [dRun_e c0 c17 hs] at h
            have si := rdStop_i hs
            have t2 := tk_lt (b := b) t1.2 (by omega)
            refine ih (by omega) ?_ (dInv_pop hi) h
            obtain ⟨⟨ki, g1⟩, g2, g3, g4, g5⟩ := ho
            have ix := hi.2.2.2.2 x List.mem_cons_self
            have le := dSeg_le _ _ g1
            have dN : ∀ s, s ≠ x.1 → dSet D x.1 ns s = D s := fun s hs => by funext y; exact if_neg (fun c => hs c.1)
            have cN : ∀ j l', l' ≠ nl → l' ≠ x.2 → cEnd C x.2 nl j l' = C j l' := fun j l' hl hx => by unfold cEnd cAdd; rw [if_neg hl]; exact if_neg (fun c => hx c.2)
            have cL : ∀ j, j < 4 → cEnd C x.2 nl j x.2 = C j x.2 := fun j j4 => by unfold cEnd cAdd; rw [if_neg (by omega)]; exact if_neg (fun c => by omega)
            refine dOpen_block (t := x.1) (e := x.2) (dOpen_c r g5 (fun s s1 => dN s (by omega)) (fun j l' l1 => cN j l' (by omega) (by omega))) (stepOK_c g2 (dAg_8' (D := D)) cL) ?_ g4 ?_ ?_ ?_ ?_ ⟨ki, dSeg_c _ _ g1 (fun s s0 s1 => by rw [dN s (by omega)]; exact ⟨dAg_rfl, rfl⟩) (fun j _ l' l0 l1 => cN j l' (by omega) (by omega))⟩
            · have : dSet D x.1 ns x.1 0 = D x.1 0 := if_neg (fun c => by omega)
              rw [this]; exact g3
            · exact if_pos ⟨rfl, rfl⟩
            · unfold cEnd cAdd; rw [if_neg (by omega)]; exact if_pos ⟨rfl, rfl⟩
            · unfold cEnd cAdd; rw [if_pos rfl, if_neg (by omega), if_neg (by omega), if_neg (by omega), if_neg (by omega)]
            · unfold cEnd cAdd; rw [if_pos rfl, if_pos rfl]
      · cases hA : dsA b nn Y n m ns stk.length p with
        | inl e => rw [dRun_l c0 c17 hA] at h; cases h
        | inr v =>
          cases hs : rdStop b nn v.1 with
          | inl e => rw [dRun_s c0 c17 hA hs] at h; cases h
          | inr q =>
            rw [dRun_r c0 c17 hA hs] at h
            have ai := dsA_i pn m0 hA
            have si := rdStop_i hs
            have t2 := tk_lt (b := b) ai.2.1 (by omega)
            have hd := dInv_if hi pn m0 hA (nl := nl)
            obtain ⟨w, hw⟩ : ∃ w, tkW b nn p = w := ⟨_, rfl⟩
            rw [hw] at h hd ai
            refine ih (by omega) ?_ hd h
            have ws := stW_i (w := w)
            have wb := stW_b w
            have so := dsOK_step (D := D) (C := C) (s := ns) (l := nl) ai.2.2.1 ai.2.2.2.2.2 (-1)
            have o1 : dOpen n m (dAdd D ns w v) (cAdd C nl v.2.1 v.2.2.1 v.2.2.2.1 v.2.2.2.2 (-1)) stk ns nl := dOpen_c stk ho (fun s s1 => dAdd_ne (by omega)) (fun j l' l1 => if_neg (by omega))
            have e0 : dAdd D ns w v ns 0 = stW w := by unfold dAdd; rw [if_pos rfl, if_pos rfl]
            by_cases op : w = 13 ∨ w = 16
            · rw [if_pos op]
              have l3 := ai.2.2.2.2.1 op
              exact ⟨⟨0, ⟨rfl, rfl⟩⟩, so, by rw [e0]; exact ws.2.2.2.2.1.mpr op, by omega, o1⟩
            · rw [if_neg op]
              refine dOpen_snoc o1 so ?_ ?_
              · rw [e0]
                have := fun e => op (ws.2.2.2.2.1.mp e)
                omega
              · unfold dAdd; rw [if_pos rfl, if_neg (by decide), if_neg (by decide), if_neg (by decide), if_neg (by decide), if_neg (by decide), if_neg (by decide)]
theorem dAll_seg {b : Int → Int} {nn ns nl : Int} {Y : Int → Int} (m0 : 0 ≤ n) (n0 : 0 ≤ nn) (h : dAll b nn Y n m = .inr (ns, nl, D, C)) : dS n m D C 3 0 ns 0 nl ∧ dInv ns nl [] := by
  have h0 : dOpen n m (fun _ _ => 0) (fun _ _ => 0) [] 0 0 := ⟨0, ⟨rfl, rfl⟩⟩
  exact dRun_seg (b := b) (Y := Y) m0 301 n0 h0 dInv_0 h
end So
