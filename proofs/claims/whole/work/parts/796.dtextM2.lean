/-! the Model reads a STEP, a text of DECADES -/
def dfr (h h' : qH) : Prop := (∀ c i j, ¬ (c = 12 ∧ ((12 ≤ j ∧ j ≤ 20) ∨ j = 25)) → h' c i j = h c i j) ∧ (∀ y : Int, 0 ≤ y → y < 1590 → h' 12 0 20 (Int.toNat y) = h 12 0 20 (Int.toNat y))
theorem dfr_rfl {h : qH} : dfr h h := ⟨fun _ _ _ _ => rfl, fun _ _ _ => rfl⟩
theorem dfr_trans {h h' h'' : qH} (h1 : dfr h h') (h2 : dfr h' h'') : dfr h h'' := ⟨fun c i j k => (h2.1 c i j k).trans (h1.1 c i j k), fun y y0 y1 => (h2.2 y y0 y1).trans (h1.2 y y0 y1)⟩
theorem dfr_r {h h' : qH} (hf : fr PMr h h') : dfr h h' := ⟨fun c i j k => hf c i j (by omega), fun y _ _ => by rw [hf 12 0 20 (by omega)]⟩
theorem dfr_b {x1 : Int} {h h' : qH} (hf : bfr x1 h h') (hx : 1590 ≤ x1) : dfr h h' := ⟨fun c i j k => hf.1 c i j (by omega), fun y y0 y1 => hf.2 y y0 (by omega)⟩
theorem dfr_20 {h : qH} {y v : Int} (hy : 1590 ≤ y) : dfr h (qup h 12 0 20 (Int.toNat y) v) := ⟨fun c i j k => up_j (by omega), fun z z0 z1 => by rw [up_k (by omega)]⟩
theorem dfr_25 {h : qH} {v : Int} : dfr h (qup h 12 0 25 0 v) := ⟨fun c i j k => up_j (by omega), fun z z0 z1 => by rw [up_j (by omega)]⟩
theorem bM_d {h h' : qH} {b : Int → Int} {n : Int} {a : qB} {Y : Int → Int} (hb : bM h b n a Y) (hf : dfr h h') : bM h' b n a Y := by
  obtain ⟨h1, h2, h3⟩ := hb
  refine ⟨?_, fun x x0 x1 => ?_, ?_, h3.2.1, h3.2.2.1, fun j j0 j1 => ?_⟩
  · unfold txM at *; rw [hf.1 12 0 9 (by omega), hf.1 12 0 7 (by omega)]; exact h1
  · rw [hf.2 _ (by omega) (by omega)]; exact h2 x x0 x1
  · rw [hf.2 _ (by omega) (by omega)]; exact h3.1
  · rw [hf.1 12 0 22 (by omega)]; exact h3.2.2.2 j j0 j1
def dAg (f g : Int → Int) : Prop := f 0 = g 0 ∧ (g 0 ≠ 4 → g 0 ≠ 7 → f 1 = g 1) ∧ (g 0 = 3 ∨ (g 0 = 5 ∧ g 5 = 1) → f 2 = g 2) ∧ (g 0 = 5 → f 5 = g 5) ∧ (g 0 = 5 → 2 ≤ g 5 → f 6 = g 6 ∧ f 7 = g 7)
theorem stW_i {w : Int} : (stW w = 3 → w = 11) ∧ (stW w = 5 → w = 13) ∧ (w = 12 → stW w = 4) ∧ (w = 18 → stW w = 7) ∧ ((stW w = 5 ∨ stW w = 6) ↔ (w = 13 ∨ w = 16)) ∧ (w = 17 → stW w < 0) ∧ (w = -1 → stW w < 0) := by
  unfold stW
  refine ⟨?_, ?_, ?_, ?_, ?_, ?_, ?_⟩ <;> (repeat' split) <;> omega
theorem tsW_i {w : Int} : (tsW w = 1 → w = 15) ∧ (2 ≤ tsW w → w = 5 ∨ w = 3) := by
  unfold tsW
  refine ⟨?_, ?_⟩ <;> (repeat' split) <;> omega
theorem dAv_g {f : Int → Int} {w s : Int} {v : dLn} {D : Int → Int → Int} (hv : dAv f w v) : dAg f (dAdd D s w v s) := by
  have e : ∀ x, dAdd D s w v s x = if x = 0 then stW w else if x = 1 then v.2.2.1 else if x = 2 then v.2.2.2.1 else if x = 5 then tsW v.2.1 else if x = 6 then v.2.2.2.1 else if x = 7 then v.2.2.2.2 else s + 1 := fun x => if_pos rfl
  have e0 : dAdd D s w v s 0 = stW w := e 0
  have e1 : dAdd D s w v s 1 = v.2.2.1 := e 1
  have e2 : dAdd D s w v s 2 = v.2.2.2.1 := e 2
  have e5 : dAdd D s w v s 5 = tsW v.2.1 := e 5
  have e6 : dAdd D s w v s 6 = v.2.2.2.1 := e 6
  have e7 : dAdd D s w v s 7 = v.2.2.2.2 := e 7
  have si := stW_i (w := w)
  have ti := tsW_i (w := v.2.1)
  unfold dAg
  rw [e0, e1, e2, e5, e6, e7]
  obtain ⟨a0, a1, a2, a5, a6⟩ := hv
  refine ⟨a0, fun c4 c7 => a1 (fun e => c4 (si.2.2.1 e)) (fun e => c7 (si.2.2.2.1 e)), fun c => a2 ?_, fun c => a5 (si.2.1 c), fun c c2 => a6 (si.2.1 c) (ti.2 c2)⟩
  rcases c with c | ⟨c, c2⟩
  · exact Or.inl (si.1 c)
  · exact Or.inr ⟨si.2.1 c, ti.1 c2⟩
theorem dAdd_ne {D : Int → Int → Int} {s s' w : Int} {v : dLn} (h : s' ≠ s) : dAdd D s w v s' = D s' := by funext x; exact if_neg h
theorem dSet_add {D : Int → Int → Int} {s w : Int} {v : dLn} : dSet (dAdd D s w v) s (s + 1) = dAdd D s w v := by
  funext s' x
  unfold dSet
  by_cases c : s' = s ∧ x = 8
  · rw [if_pos c, c.1, c.2]; unfold dAdd; rw [if_pos rfl, if_neg (by decide), if_neg (by decide), if_neg (by decide), if_neg (by decide), if_neg (by decide), if_neg (by decide)]
  · rw [if_neg c]
def tdM (h : qH) (b : Int → Int) (n : Int) (a : qB) (Y : Int → Int) (ns : Int) (stk : List (Int × Int)) (D : Int → Int → Int) : Prop := bM h b n a Y ∧ h 12 0 25 0 = ns ∧ (∀ s, 0 ≤ s → s < ns → dAg (fun x => h 12 0 20 (Int.toNat (1590 + 9 * s + x))) (D s)) ∧ (∀ s, 0 ≤ s → s < ns → (∀ q, q ∈ stk → q.1 ≠ s) → h 12 0 20 (Int.toNat (1590 + 9 * s + 8)) = D s 8)
section Dn
variable {h : qH} {b : Int → Int} {n B : Int} {a : qB} {Y : Int → Int}
theorem tdM_r {h' : qH} {ns : Int} {stk : List (Int × Int)} {D : Int → Int → Int} (hm : tdM h b n a Y ns stk D) (hf : fr PMr h h') : tdM h' b n a Y ns stk D := by
  refine ⟨bM_d hm.1 (dfr_r hf), by rw [hf 12 0 25 (by omega)]; exact hm.2.1, ?_, ?_⟩
  · rw [hf 12 0 20 (by omega)]; exact hm.2.2.1
  · rw [hf 12 0 20 (by omega)]; exact hm.2.2.2
theorem dAg_8 {f : Int → Int} {D : Int → Int → Int} {s s' y : Int} (h : dAg f (D s')) : dAg f (dSet D s y s') := by
  have e : ∀ x, x ≠ 8 → dSet D s y s' x = D s' x := fun x hx => if_neg (fun c => hx c.2)
  unfold dAg
  rw [e 0 (by omega), e 1 (by omega), e 2 (by omega), e 5 (by omega), e 6 (by omega), e 7 (by omega)]
  exact h
theorem tdM_close {ns1 ns nl : Int} {stk : List (Int × Int)} {D : Int → Int → Int} (hm : tdM h b n a Y ns1 ((ns, nl) :: stk) D) (s0 : 0 ≤ ns) : tdM (qup h 12 0 20 (Int.toNat (1590 + 9 * ns + 8)) ns1) b n a Y ns1 stk (dSet D ns ns1) := by
  obtain ⟨m1, m2, m3, m4⟩ := hm
  refine ⟨bM_d m1 (dfr_20 (by omega)), by rw [up_j (by omega)]; exact m2, fun s s1 s2 => dAg_8 ?_, fun s s1 s2 sn => ?_⟩
  · have := m3 s s1 s2
    have e : ∀ x, 0 ≤ x → x < 8 → qup h 12 0 20 (Int.toNat (1590 + 9 * ns + 8)) ns1 12 0 20 (Int.toNat (1590 + 9 * s + x)) = h 12 0 20 (Int.toNat (1590 + 9 * s + x)) := fun x x0 x8 => by rw [up_k (by omega)]
    unfold dAg at *
    dsimp only at *
    rw [e 0 (by omega) (by omega), e 1 (by omega) (by omega), e 2 (by omega) (by omega), e 5 (by omega) (by omega), e 6 (by omega) (by omega), e 7 (by omega) (by omega)]
    exact this
  · unfold dSet
    by_cases c : s = ns
    · rw [if_pos ⟨c, rfl⟩, c]; exact up_at
    · rw [if_neg (fun e => c e.1), up_k (by omega)]
      exact m4 s s1 s2 (fun q hq => by
        rcases List.mem_cons.mp hq with e | e
        · rw [e]; exact fun e2 => c e2.symm
        · exact sn q e)
theorem m_readStep (hW : qwf B a) : ∀ (k : Nat) {d dd : Nat} {R : Option qV → qH → Prop} {h : qH} {p ns nl : Int} {D : Int → Int → Int} {C : Nat → Int → Int} {stk : List (Int × Int)}, dd + stk.length = 3 → tdM h b n a Y ns stk D → mK h b n p → (0 ≤ p ∧ p ≤ n) → n - p < k → (tkK b n p = 0 → stk ≠ []) → (tkW b n p = 17 → stk = []) → dInv ns nl stk → (∀ e, dRun b n Y (a 0) (a 1) k p ns nl D C stk = .inl e → ∀ h', dfr h h' → mF h' e → R none h') → (∀ (k' : Nat) p' ns' nl' D' C', dRun b n Y (a 0) (a 1) k p ns nl D C stk = dRun b n Y (a 0) (a 1) k' p' ns' nl' D' C' stk → k' < k → p < p' → p' ≤ n → n - p' < k' → ns < ns' → dInv ns' nl' stk → ∀ h', dfr h h' → mK h' b n p' → tdM h' b n a Y ns' stk D' → R none h') → qT (d + dd + 10) 237 0 [qo 12 0, qi (stk.length : Int), qu, qu, qu] [] h R := by
  have w0 := wf_n hW
  intro k
  induction k using Nat.strongRecOn with
  | ind k IH =>
  intro d dd R h p ns nl D C stk hdd hm hk hp hn hk0 h17 hi he hx
  cases k with
  | zero => exfalso; omega
  | succ k =>
  have hs := tkS_b (b := b) hp.2
  have hE := tkE_b (b := b) hp.2
  obtain ⟨w, hw⟩ : ∃ w, tkW b n p = w := ⟨_, rfl⟩
  have si := stW_i (w := w)
  have i1 := hi.1
  obtain ⟨x1, hx1⟩ : ∃ x1 : Int, (stk.length : Int) = x1 := ⟨_, rfl⟩
  -- a FAULT ahead of the STEP's place
  have bad82 : ∀ g e x3, dfr h g → mF g e → dRun b n Y (a 0) (a 1) (k + 1) p ns nl D C stk = .inl e → qT (d + dd + 10) 237 82 [qo 12 0, qi x1, qi (stW w), qi x3, qu] [] g R := fun g e x3 hf hF hr => tX12_readStep_82 ⟨fun c => absurd c (mF_gt hF), fun _ => he e hr g hf hF⟩
  have bad56 : ∀ g e x3, dfr h g → mF g e → dRun b n Y (a 0) (a 1) (k + 1) p ns nl D C stk = .inl e → qT (d + dd + 10) 237 56 [qo 12 0, qi x1, qi (stW w), qi x3, qu] [] g R := fun g e x3 hf hF hr => tX12_readStep_56 ⟨fun _ => bad82 g e x3 hf hF hr, fun c => absurd (mF_ne hF) c⟩
  have bad30 : ∀ g e x3, dfr h g → mF g e → dRun b n Y (a 0) (a 1) (k + 1) p ns nl D C stk = .inl e → qT (d + dd + 10) 237 30 [qo 12 0, qi x1, qi (stW w), qi x3, qu] [] g R := fun g e x3 hf hF hr => tX12_readStep_30 ⟨fun _ => bad56 g e x3 hf hF hr, fun c => absurd (mF_ne hF) c⟩
  -- a FAULT behind it
  have bad191 : ∀ g e x3, dfr h g → mF g e → dRun b n Y (a 0) (a 1) (k + 1) p ns nl D C stk = .inl e → ns < 30 → qT (d + dd + 10) 237 191 [qo 12 0, qi x1, qi (stW w), qi x3, qi (1590 + 9 * ns)] [] g R := fun g e x3 hf hF hr n30 => tX12_readStep_191 ⟨qR_of (by omega) (by omega), by omega, he e hr _ (dfr_trans hf (dfr_20 (by omega))) (mF_20 hF)⟩
  have bad169 : ∀ g e x3, dfr h g → mF g e → dRun b n Y (a 0) (a 1) (k + 1) p ns nl D C stk = .inl e → ns < 30 → qT (d + dd + 10) 237 169 [qo 12 0, qi x1, qi (stW w), qi x3, qi (1590 + 9 * ns)] [] g R := by
    intro g e x3 hf hF hr n30
    have step : qT (d + dd + 9) 194 0 [qo 12 0, qi 59] [] g (fun w6 g7 => qri w6 fun r8 => qT (d + dd + 9) 212 0 [qo 12 0, qi r8] [] g7 (fun w9 g10 => qrv w9 (qT (d + dd + 10) 237 191 [qo 12 0, qi x1, qi (stW w), qi x3, qi (1590 + 9 * ns)] [] g10 R))) := m_isSign (fun _ _ => m_mustB hF (bad191 g e x3 hf hF hr n30)) (fun _ => m_mustB hF (bad191 g e x3 hf hF hr n30))
    exact tX12_readStep_169 ⟨fun _ => bad191 g e x3 hf hF hr n30, fun _ => m_isEnd (fun _ => m_mustB hF step) (fun _ => m_mustB hF step)⟩
  have bad141 : ∀ g e x3, dfr h g → mF g e → dRun b n Y (a 0) (a 1) (k + 1) p ns nl D C stk = .inl e → ns < 30 → qT (d + dd + 10) 237 141 [qo 12 0, qi x1, qi (stW w), qi x3, qi (1590 + 9 * ns)] [] g R := fun g e x3 hf hF hr n30 => tX12_readStep_141 ⟨fun _ => bad169 g e x3 hf hF hr n30, fun _ => ⟨fun _ => bad169 g e x3 hf hF hr n30, fun c => absurd (mF_ne hF) c⟩⟩
  -- a sign
  have stop59 : ∀ g q', mK g b n q' → ((g 12 0 14 0 = 3 ∧ g 12 0 17 0 = 59) ↔ tkG b n q' = 59) := by
    intro g q' hkg
    rw [hkg.2.2.1]
    unfold tkG
    constructor
    · rintro ⟨s1, s2⟩
      rw [if_pos s1, ← hkg.2.2.2.2.2.1 s1]; exact s2
    · intro s1
      by_cases c3 : tkK b n q' = 3
      · rw [if_pos c3] at s1
        exact ⟨c3, by rw [hkg.2.2.2.2.2.1 c3]; exact s1⟩
      · rw [if_neg c3] at s1; omega
  -- the inner STEPS
  have inner : 0 < dd → ns < 30 → (stW w = 5 ∨ stW w = 6) → ∀ (k1 : Nat), k1 < k + 1 → ∀ {g : qH} {p1 ns1 nl1 : Int} {D1 : Int → Int → Int} {C1 : Nat → Int → Int}, dfr h g → tdM g b n a Y ns1 ((ns, nl) :: stk) D1 → mK g b n p1 → (p < p1 ∧ p1 ≤ n) → n - p1 < k1 → ns < ns1 → dInv ns1 nl1 ((ns, nl) :: stk) → dRun b n Y (a 0) (a 1) (k + 1) p ns nl D C stk = dRun b n Y (a 0) (a 1) k1 p1 ns1 nl1 D1 C1 ((ns, nl) :: stk) → qT (d + dd + 10) 237 141 [qo 12 0, qi x1, qi (stW w), qi 1, qi (1590 + 9 * ns)] [] g R := by
    intro dd0 n30 opn k1
    induction k1 using Nat.strongRecOn with
    | ind k1 IH1 =>
    intro k1k g p1 ns1 nl1 D1 C1 hf hmg hkg hp1 hn1 hns hi1 er
    cases k1 with
    | zero => exfalso; omega
    | succ k1 =>
    have hs1 := tkS_b (b := b) hp1.2
    have hE1 := tkE_b (b := b) hp1.2
    have ew := mT_W hkg.2
    refine tX12_readStep_141 ⟨fun c => absurd c (by decide), fun _ => ⟨fun c => absurd hkg.1 c, fun _ => m_isEnd (fun e17 => ⟨fun _ => ?_, fun c => absurd (by decide) c⟩) (fun n17 => ⟨fun c => absurd rfl c, fun _ => ⟨qR_of (by omega) (by omega), ?_⟩⟩)⟩⟩
    · have w17 : tkW b n p1 = 17 := by rw [← ew]; exact e17
      have k1n : tkK b n p1 ≠ 0 := by rw [tkW_k (by omega)]; decide
      have t1 := tk_lt (b := b) hp1.2 k1n
      refine tX12_readStep_169 ⟨fun c => absurd c (by decide), fun _ => m_isEnd (fun _ => m_mustT hmg.1.1 hkg (by omega) hp1.2 (fun g2 hf2 hk2 => ?_)) (fun c => absurd e17 c)⟩
      have sg := stop59 g2 _ hk2
      refine m_isSign (fun s1 s2 => ?_) (fun s1 => m_mustF hk2 (fun g3 hf3 hF => ?_))
      · have st := rdStop_y (sg.mp ⟨s1, s2⟩)
        have hm2 := tdM_r hmg hf2
        have t2 := tk_lt (b := b) t1.2 (by rw [tkG_n4 (sg.mp ⟨s1, s2⟩)]; decide)
        refine m_mustT hm2.1.1 hk2 (by omega) t1.2 (fun g3 hf3 hk3 => tX12_readStep_191 ⟨qR_of (by omega) (by omega), by omega, ?_⟩)
        have hm3 := tdM_r hm2 hf3
        rw [hm3.2.1]
        exact hx k1 _ ns1 (nl1 + 1) (dSet D1 ns ns1) (cEnd C1 nl nl1) (by rw [er]; exact dRun_e k1n w17 st) (by omega) (by omega) t2.2 (by omega) hns (dInv_pop hi1) _ (dfr_trans hf (dfr_trans (dfr_r hf2) (dfr_trans (dfr_r hf3) (dfr_20 (by omega))))) (mK_20 hk3) (tdM_close hm3 i1.1)
      · exact bad191 g3 _ 1 (dfr_trans hf (dfr_trans (dfr_r hf2) (dfr_r hf3))) hF (by rw [er]; exact dRun_e1 k1n w17 (rdStop_n (fun e => s1 (sg.mpr e)))) n30
    · obtain ⟨d2, hd2⟩ : ∃ d2, dd = d2 + 1 := ⟨dd - 1, by omega⟩
      subst hd2
      have ex : x1 + 1 = (((ns, nl) :: stk).length : Int) := by rw [List.length_cons, ← hx1]; omega
      rw [ex]
      refine IH (k1 + 1) k1k (d := d) (dd := d2) (by rw [List.length_cons]; omega) hmg hkg ⟨by omega, hp1.2⟩ hn1 (fun _ => by intro c; cases c) (fun e => absurd (by rw [ew]; exact e) n17) hi1 (fun e h2 g2 f2 F2 => bad141 g2 e 1 (dfr_trans hf f2) F2 (by rw [er]; exact h2) n30) (fun k' p' ns' nl' D' C' h2 l1 l2 l3 l4 l5 hi2 g2 f2 hk2 hm2 => ?_)
      exact IH1 k' l1 (by omega) (dfr_trans hf f2) hm2 hk2 ⟨by omega, l3⟩ l4 (by omega) hi2 (by rw [er]; exact h2)
  -- the STEP itself
  have step90 : ∀ x3 : Int, (x3 = if stW w = 5 ∨ stW w = 6 then 1 else 0) → 0 ≤ stW w → ns < 30 → ((stW w = 5 ∨ stW w = 6) → 0 < dd) → qT (d + dd + 10) 237 90 [qo 12 0, qi x1, qi (stW w), qi x3, qu] [] h R := by
    intro x3 ex3 sw n30 hop
    have c0 : tkK b n p ≠ 0 := by
      intro e
      have : w = -1 := by rw [← hw]; unfold tkW; rw [if_neg (by omega)]
      have := si.2.2.2.2.2.2 this
      omega
    have c17 : tkW b n p ≠ 17 := fun e => by have := si.2.2.2.2.2.1 (by rw [← hw]; exact e); omega
    have eA : dsA b n Y (a 0) (a 1) ns stk.length p = dsB b n Y (a 0) (a 1) w (tkE b n p) := by
      unfold dsA
      rw [hw, if_neg (by omega), if_neg (by omega), if_neg]
      intro c
      have := hop (si.2.2.2.2.1.mpr c.1)
      omega
    have t1 := tk_lt (b := b) hp.2 c0
    refine tX12_readStep_90 ?_
    rw [hm.2.1]
    refine ⟨qR_of (by omega) (by omega), qR_of (by omega) (by omega), qR_of (by omega) (by omega), ?_⟩
    have hk1 : mK (qup h 12 0 25 0 (ns + 1)) b n p := mK_fr hk (fun j j0 j1 => up_j (by omega))
    have hb1 : bM (qup h 12 0 25 0 (ns + 1)) b n a Y := bM_d hm.1 dfr_25
    refine m_next hb1.1 hk1 hp.1 hp.2 (fun g2 hf2 hk2 => ⟨by omega, ?_⟩)
    obtain ⟨h3, hh3⟩ : ∃ h3, qup g2 12 0 20 (Int.toNat (1590 + 9 * ns)) (stW w) = h3 := ⟨_, rfl⟩
    rw [hh3]
    have f3 : dfr h h3 := by rw [← hh3]; exact dfr_trans dfr_25 (dfr_trans (dfr_r hf2) (dfr_20 (by omega)))
    have hk3 : mK h3 b n (tkE b n p) := by rw [← hh3]; exact mK_20 hk2
    have c3 : h3 12 0 20 (Int.toNat (1590 + 9 * ns)) = stW w := by rw [← hh3]; exact up_at
    have c25 : h3 12 0 25 0 = ns + 1 := by rw [← hh3, up_j (by omega), hf2 12 0 25 (by omega)]; exact up_at
    have cell : ∀ y : Int, 0 ≤ y → y < 1590 + 9 * ns → h3 12 0 20 (Int.toNat y) = h 12 0 20 (Int.toNat y) := fun y y0 y1 => by rw [← hh3, up_k (by omega), hf2 12 0 20 (by omega), up_j (by omega)]
    have fail141 : ∀ g e, dfr h g → mF g e → dRun b n Y (a 0) (a 1) (k + 1) p ns nl D C stk = .inl e → qT (d + dd + 9) 194 0 [qo 12 0, qi 59] [] g (fun w5 g6 => qri w5 fun r7 => qT (d + dd + 9) 212 0 [qo 12 0, qi r7] [] g6 (fun w8 g9 => qrv w8 (qT (d + dd + 10) 237 141 [qo 12 0, qi x1, qi (stW w), qi x3, qi (1590 + 9 * ns)] [] g9 R))) := fun g e fg hF hr => m_isSign (fun _ _ => m_mustB hF (bad141 g e x3 fg hF hr n30)) (fun _ => m_mustB hF (bad141 g e x3 fg hF hr n30))
    refine m_readRest (d := d + dd) (w := w) (q := tkE b n p) sw (by omega) (bM_d hm.1 f3) hk3 (by omega) hE.2.1 hW c3 ⟨fun e h1 g4 f4 F4 => fail141 g4 e (dfr_trans f3 (dfr_b f4 (by omega))) F4 (dRun_l c0 c17 (by rw [eA]; exact h1)), fun v h1 g4 f4 hk4 hv => ?_⟩
    have eAv : dsA b n Y (a 0) (a 1) ns stk.length p = .inr v := by rw [eA]; exact h1
    have ai := dsA_i hp.2 w0.1 eAv
    have f04 : dfr h g4 := dfr_trans f3 (dfr_b f4 (by omega))
    have sg := stop59 g4 _ hk4
    refine m_isSign (fun s1 s2 => ?_) (fun s1 => m_mustF hk4 (fun g5 hf5 hF => bad141 g5 _ x3 (dfr_trans f04 (dfr_r hf5)) hF (dRun_s c0 c17 eAv (rdStop_n (fun e => s1 (sg.mpr e)))) n30))
    have st := rdStop_y (sg.mp ⟨s1, s2⟩)
    have t2 := tk_lt (b := b) ai.2.1 (by rw [tkG_n4 (sg.mp ⟨s1, s2⟩)]; decide)
    have er := dRun_r (k := k) (D := D) (C := C) (nl := nl) c0 c17 eAv st
    rw [hw] at er
    have hd := dInv_if hi hp.2 w0.1 eAv (nl := nl)
    rw [hw] at hd
    have hb4 : bM g4 b n a Y := bM_d hm.1 f04
    have ai1 := ai.1
    have ai2 := ai.2.1
    refine m_mustT hb4.1 hk4 (by omega) ai.2.1 (fun g5 hf5 hk5 => ?_)
    have hm4 : tdM g4 b n a Y (ns + 1) ((ns, nl) :: stk) (dAdd D ns w v) := by
      refine ⟨hb4, by rw [f4.1 12 0 25 (by omega)]; exact c25, fun s s0 s1 => ?_, fun s s0 s1 sn => ?_⟩
      · by_cases cs : s = ns
        · subst cs; exact dAv_g hv
        · rw [dAdd_ne cs]
          have e : ∀ x, 0 ≤ x → x < 9 → g4 12 0 20 (Int.toNat (1590 + 9 * s + x)) = h 12 0 20 (Int.toNat (1590 + 9 * s + x)) := fun x x0 x9 => by rw [f4.2 _ (by omega) (by omega), cell _ (by omega) (by omega)]
          have := hm.2.2.1 s s0 (by omega)
          unfold dAg at *
          dsimp only at *
          rw [e 0 (by omega) (by omega), e 1 (by omega) (by omega), e 2 (by omega) (by omega), e 5 (by omega) (by omega), e 6 (by omega) (by omega), e 7 (by omega) (by omega)]
          exact this
      · have cs : s ≠ ns := fun e => sn (ns, nl) List.mem_cons_self e.symm
        rw [dAdd_ne cs, f4.2 _ (by omega) (by omega), cell _ (by omega) (by omega)]
        exact hm.2.2.2 s s0 (by omega) (fun q hq => sn q (List.mem_cons_of_mem _ hq))
    have hm5 := tdM_r hm4 hf5
    have f05 : dfr h g5 := dfr_trans f04 (dfr_r hf5)
    by_cases opn : stW w = 5 ∨ stW w = 6
    · rw [if_pos opn] at ex3
      rw [if_pos (si.2.2.2.2.1.mp opn)] at er hd
      subst ex3
      exact inner (hop opn) n30 opn k (by omega) f05 hm5 hk5 (by omega) (by omega) (by omega) hd er
    · rw [if_neg opn] at ex3
      rw [if_neg (fun e => opn (si.2.2.2.2.1.mpr e))] at er hd
      subst ex3
      refine tX12_readStep_141 ⟨fun _ => tX12_readStep_169 ⟨fun _ => tX12_readStep_191 ⟨qR_of (by omega) (by omega), by omega, ?_⟩, fun c => absurd rfl c⟩, fun c => absurd rfl c⟩
      rw [hm5.2.1]
      have hm6 := tdM_close hm5 i1.1
      rw [dSet_add] at hm6
      exact hx k _ (ns + 1) (nl + 1) _ _ er (by omega) (by omega) t2.2 (by omega) (by omega) hd _ (dfr_trans f05 (dfr_20 (by omega))) (mK_20 hk5) hm6
  have core : ∀ x3 : Int, (x3 = if stW w = 5 ∨ stW w = 6 then 1 else 0) → qT (d + dd + 10) 237 22 [qo 12 0, qi x1, qi (stW w), qi x3, qu] [] h R := by
    intro x3 ex3
    refine tX12_readStep_22 ⟨fun sw => ?_, fun sw => m_amiss hk (fun g hf hF => bad30 g _ x3 (dfr_r hf) hF ?_)⟩
    · have c0 : tkK b n p ≠ 0 := by
        intro e
        have : w = -1 := by rw [← hw]; unfold tkW; rw [if_neg (by omega)]
        have := si.2.2.2.2.2.2 this
        omega
      have c17 : tkW b n p ≠ 17 := fun e => by have := si.2.2.2.2.2.1 (by rw [← hw]; exact e); omega
      refine tX12_readStep_30 ⟨fun c => absurd hk.1 c, fun _ => ?_⟩
      rw [hm.2.1]
      refine ⟨fun n30 => tX12_readStep_56 ⟨fun c => absurd hk.1 c, fun _ => ?_⟩, fun e30 => ?_⟩
      · have go82 : ((stW w = 5 ∨ stW w = 6) → 0 < dd) → qT (d + dd + 10) 237 82 [qo 12 0, qi x1, qi (stW w), qi x3, qu] [] h R := fun hop => tX12_readStep_82 ⟨fun _ => step90 x3 ex3 sw (by omega) hop, fun c => absurd (by rw [hk.1]; decide) c⟩
        refine ⟨fun c3 => go82 (fun c => by rw [if_pos c] at ex3; omega), fun c3 => ⟨fun c4 => go82 (fun _ => by omega), fun c4 => ?_⟩⟩
        have opn : stW w = 5 ∨ stW w = 6 := by
          by_cases c : stW w = 5 ∨ stW w = 6
          · exact c
          · rw [if_neg c] at ex3; omega
        rw [hk.2.1]
        refine m_fail hk.1 (by omega) (fun g hf hF => bad82 g _ x3 (dfr_r hf) hF (dRun_l c0 c17 ?_))
        unfold dsA
        rw [hw, if_neg (by omega), if_neg (by omega), if_pos ⟨si.2.2.2.2.1.mp opn, by omega⟩]
      · rw [hk.2.1]
        refine m_fail hk.1 (by omega) (fun g hf hF => bad56 g _ x3 (dfr_r hf) hF (dRun_l c0 c17 ?_))
        unfold dsA
        rw [hw, if_neg (by omega), if_pos (by omega)]
    · by_cases c0 : tkK b n p = 0
      · cases stk with
        | nil => exact absurd rfl (hk0 c0)
        | cons y r => exact dRun_00 c0
      · by_cases c17 : tkW b n p = 17
        · have e := h17 c17
          subst e
          exact dRun_e0 c0 c17
        · refine dRun_l c0 c17 ?_
          unfold dsA
          rw [hw, if_pos (by omega)]
  rw [hx1]
  refine tX12_readStep_0 (m_stepWord ?_)
  rw [mT_W hk.2, hw]
  exact ⟨fun e => core 1 (by rw [if_pos (Or.inl e)]), fun n5 => ⟨fun n6 => core 0 (by rw [if_neg (by omega)]), fun e6 => core 1 (by rw [if_pos (by omega)])⟩⟩
theorem m_dLoop (hW : qwf B a) {x : Int} {d : Nat} {R : Option qV → qH → Prop} : ∀ (k : Nat) {h : qH} {p ns nl : Int} {D : Int → Int → Int} {C : Nat → Int → Int}, tdM h b n a Y ns [] D → mK h b n p → (0 ≤ p ∧ p ≤ n) → n - p < k → dInv ns nl [] → (∀ e, dRun b n Y (a 0) (a 1) k p ns nl D C [] = .inl e → ∀ h', dfr h h' → mF h' e → qT (d + 14) 238 28 [qo 12 0, qi x, qu] [] h' R) → (∀ ns' nl' D' C', dRun b n Y (a 0) (a 1) k p ns nl D C [] = .inr (ns', nl', D', C') → ∀ h', dfr h h' → h' 12 0 12 0 = 0 → h' 12 0 14 0 = 0 → dInv ns' nl' [] → tdM h' b n a Y ns' [] D' → qT (d + 14) 238 28 [qo 12 0, qi x, qu] [] h' R) → qT (d + 14) 238 28 [qo 12 0, qi x, qu] [] h R := by
  intro k
  induction k using Nat.strongRecOn with
  | ind k IH =>
  intro h p ns nl D C hm hk hp hn hi he hv
  cases k with
  | zero => exfalso; omega
  | succ k =>
  by_cases c0 : tkK b n p = 0
  · exact hv ns nl D C (dRun_0 c0) h dfr_rfl hk.1 (by rw [hk.2.2.1]; exact c0) hi hm
  · refine sX12_decades_28 ⟨fun c => absurd hk.1 c, fun _ => ⟨fun c => absurd (by rw [← hk.2.2.1]; exact c) c0, fun _ => ?_⟩⟩
    refine m_readStep hW (k + 1) (d := d) (dd := 3) (stk := []) (C := C) (nl := nl) (by rw [List.length_nil]) hm hk hp hn (fun e => absurd e c0) (fun _ => rfl) hi (fun e h1 g f1 F1 => he e h1 g f1 F1) (fun k' p' ns' nl' D' C' h1 l1 l2 l3 l4 l5 hi2 g f1 hk1 hm1 => ?_)
    exact IH k' l1 hm1 hk1 (by omega) l4 hi2 (fun e h2 h' f' F' => he e (by rw [h1]; exact h2) h' (dfr_trans f1 f') F') (fun ns2 nl2 D2 C2 h2 h' f' => hv ns2 nl2 D2 C2 (by rw [h1]; exact h2) h' (dfr_trans f1 f'))
end Dn
