/-! the class reads DECADES: end, the loop -/
def dInv (ns nl : Int) (stk : List (Int × Int)) : Prop := (0 ≤ ns ∧ ns ≤ 30) ∧ 0 ≤ nl ∧ nl + stk.length ≤ 2 * ns ∧ stk.length ≤ 3 ∧ ∀ x, x ∈ stk → (0 ≤ x.1 ∧ x.1 < ns) ∧ (0 ≤ x.2 ∧ x.2 < nl)
theorem dInv_0 : dInv 0 0 [] := ⟨by omega, by omega, by rw [List.length_nil]; omega, by rw [List.length_nil]; omega, fun x hx => by cases hx⟩
theorem dInv_add {ns nl : Int} {stk : List (Int × Int)} (hi : dInv ns nl stk) (h30 : ns < 30) : dInv (ns + 1) (nl + 1) stk := by
  obtain ⟨h1, h2, h3, h4, h5⟩ := hi
  refine ⟨by omega, by omega, by omega, h4, fun x hx => ?_⟩
  have := h5 x hx
  omega
theorem dInv_push {ns nl : Int} {stk : List (Int × Int)} (hi : dInv ns nl stk) (h30 : ns < 30) (h3 : (stk.length : Int) < 3) : dInv (ns + 1) (nl + 1) ((ns, nl) :: stk) := by
  obtain ⟨h1, h2, h3, h4, h5⟩ := hi
  refine ⟨by omega, by omega, by rw [List.length_cons]; omega, by rw [List.length_cons]; omega, fun x hx => ?_⟩
  rcases List.mem_cons.mp hx with e | e
  · subst e; dsimp only; omega
  · have := h5 x e; omega
theorem dInv_pop {ns nl : Int} {x : Int × Int} {r : List (Int × Int)} (hi : dInv ns nl (x :: r)) : dInv ns (nl + 1) r := by
  obtain ⟨h1, h2, h3, h4, h5⟩ := hi
  rw [List.length_cons] at h3 h4
  refine ⟨by omega, by omega, by omega, by omega, fun y hy => ?_⟩
  have := h5 y (List.mem_cons_of_mem _ hy)
  omega
theorem dInv_if {b : Int → Int} {n p ns nl nn m : Int} {Y : Int → Int} {v : dLn} {stk : List (Int × Int)} (hi : dInv ns nl stk) (pn : p ≤ n) (n0 : 0 ≤ nn) (h : dsA b n Y nn m ns stk.length p = .inr v) : dInv (ns + 1) (nl + 1) (if tkW b n p = 13 ∨ tkW b n p = 16 then (ns, nl) :: stk else stk) := by
  have i := dsA_i pn n0 h
  by_cases c : tkW b n p = 13 ∨ tkW b n p = 16
  · rw [if_pos c]; exact dInv_push hi i.2.2.2.1 (i.2.2.2.2.1 c)
  · rw [if_neg c]; exact dInv_add hi i.2.2.2.1
section De
variable {d : Nat} {R : Option qV → qH → Prop} {h : qH} {b : Int → Int} {n ns nl B : Int} {a : qB} {X Y : Int → Int} {C : Nat → Int → Int}
theorem x_close {x : Int × Int} {r : List (Int × Int)} (hc : tdC h b n a X ns nl C (x :: r)) (hi : dInv ns nl (x :: r)) (hR : ∀ h', fr PDr h h' → h' 9 = h 9 → tdC h' b n a X ns (nl + 1) (cEnd C x.2 nl) r → R (some (qi 1)) h') : qT (d + 3) 15 0 [qo 2 0, qo 1 1] [] h R := by
  obtain ⟨d1, d2, d3, d4, d5, d6, d7, d8⟩ := hc
  obtain ⟨i1, i2, i3, i4, i5⟩ := hi
  have i6 := i5 x List.mem_cons_self
  rw [List.length_cons] at i3 i4 d7
  refine sX2_close_0 ?_
  rw [up_at, d7]
  refine ⟨fun _ => ⟨qR_of (by omega) (by omega), by omega, ?_⟩, fun c => absurd (show (0 : Int) < ((r.length + 1 : Nat) : Int) by omega) c⟩
  rw [show ((r.length + 1 : Nat) : Int) - 1 = (r.length : Int) by omega]
  have o1 : h 2 0 0 (Int.toNat (r.length : Int)) = x.2 := d8.1
  rw [o1]
  refine sX1_addEnd_0 ⟨fun c => absurd c (by omega), fun _ => ?_⟩
  have e7 : (qup h 2 0 1 0 (r.length : Int)) 1 1 7 0 = nl := by rw [up_j (by omega)]; exact d5
  rw [e7]
  refine ⟨fun c => absurd c (by omega), fun _ => ⟨fun c => absurd c (by omega), fun _ => ⟨by omega, ?_⟩⟩⟩
  have hc1 : tdC (qup (qup h 2 0 1 0 (r.length : Int)) 1 1 4 (Int.toNat x.2) nl) b n a X ns nl (fun j l' => if j = 4 ∧ l' = x.2 then nl else C j l') r := by
    refine ⟨?_, ?_, ?_, ?_, ?_, ?_, ?_, ?_⟩
    · unfold txC at *; rw [up_j (by omega), up_j (by omega), up_j (by omega), up_j (by omega), up_j (by omega), up_j (by omega)]; exact d1
    · exact qx_fr d2 (funext fun j => by rw [up_j (by omega), up_j (by omega)])
    · rw [up_j (by omega), up_j (by omega)]; exact d3
    · rw [up_j (by omega), up_j (by omega)]; exact d4
    · rw [up_j (by omega), up_j (by omega)]; exact d5
    · intro j j5 l l0 l1
      by_cases cj : j = 4
      · subst cj
        rw [up_I l0 i6.2.1, up_j (by omega)]
        show (if l = x.2 then nl else _) = if (4 : Nat) = 4 ∧ l = x.2 then nl else C 4 l
        by_cases cl : l = x.2
        · rw [if_pos cl, if_pos ⟨rfl, cl⟩]
        · rw [if_neg cl, if_neg (fun e => cl e.2)]; exact d6 4 (by omega) l l0 l1
      · rw [up_j (by omega), up_j (by omega)]
        show _ = if j = 4 ∧ l = x.2 then nl else C j l
        rw [if_neg (fun e => cj e.1)]
        exact d6 j j5 l l0 l1
    · rw [up_j (by omega)]; exact up_at
    · refine stkC_c r (fun j j0 j1 => ?_) d8.2
      show qup _ 1 1 4 _ _ 2 0 0 (Int.toNat j) = h 2 0 0 (Int.toNat j)
      rw [up_j (by omega), up_j (by omega)]
  refine x_addLine hc1 i2 (by omega) (fun g f1 e9 hc2 => ?_)
  obtain ⟨c1, c2, c3, c4, c5, c6, c7, c8⟩ := hc2
  dsimp only [qrv]
  rw [c5, show nl + 1 - 1 = nl by omega]
  refine ⟨qR_of (by omega) (by omega), by omega, by omega, ?_⟩
  refine hR _ (fr_trans (fr_up (by omega)) (fr_trans (fr_up (by omega)) (fr_trans f1 (fr_up (by omega))))) (by funext i j; rw [up_j (by omega), e9, up_j (by omega), up_j (by omega)]) ⟨?_, ?_, ?_, ?_, ?_, ?_, ?_, ?_⟩
  · unfold txC at *; rw [up_j (by omega), up_j (by omega), up_j (by omega)]; exact c1
  · exact qx_fr c2 (funext fun j => by rw [up_j (by omega)])
  · rw [up_j (by omega)]; exact c3
  · rw [up_j (by omega)]; exact c4
  · rw [up_j (by omega)]; exact c5
  · intro j j5 l l0 l1
    by_cases cj : j = 4
    · subst cj
      rw [up_I l0 i2]
      unfold cEnd
      by_cases cl : l = nl
      · rw [if_pos cl]; unfold cAdd; rw [if_pos cl, if_neg (by omega), if_neg (by omega), if_neg (by omega), if_neg (by omega)]
      · rw [if_neg cl, c6 4 (by omega) l l0 l1]; unfold cAdd; rw [if_neg cl, if_neg cl]
    · rw [up_j (by omega), c6 j j5 l l0 l1]
      unfold cEnd cAdd
      by_cases cl : l = nl
      · rw [if_pos cl, if_pos cl]
        by_cases e0 : j = 0
        · rw [if_pos e0, if_pos e0]
        rw [if_neg e0, if_neg e0]
        by_cases e0 : j = 1
        · rw [if_pos e0, if_pos e0]
        rw [if_neg e0, if_neg e0]
        by_cases e0 : j = 2
        · rw [if_pos e0, if_pos e0]
        rw [if_neg e0, if_neg e0]
        rw [if_pos (by omega), if_pos (by omega)]
      · rw [if_neg cl, if_neg cl]
  · rw [up_j (by omega)]; exact c7
  · rw [up_j (by omega)]; exact c8
theorem x_dLoop (n3 : n ≤ 300) (hW : qwf B a) (hN : nmR X Y (a 0)) : ∀ (k : Nat) {h : qH} {x p ns nl : Int} {D : Int → Int → Int} {C : Nat → Int → Int} {stk : List (Int × Int)} {z5 z6 : qV}, tdC h b n a X ns nl C stk → h 9 0 3 0 = p → (0 ≤ x ∧ x ≤ p ∧ p ≤ n) → n - p < k → dInv ns nl stk → (∀ e, dRun b n Y (a 0) (a 1) k p ns nl D C stk = .inl e → ∀ h', fr PDr h h' → fC h' e → R (some (qi 0)) h') → (∀ ns' nl' D' C', dRun b n Y (a 0) (a 1) k p ns nl D C stk = .inr (ns', nl', D', C') → ∀ h', fr PDr h h' → h' 1 1 6 0 = ns' → h' 1 1 7 0 = nl' → (∀ j, j < 5 → ∀ l, 0 ≤ l → l < nl' → h' 1 1 j (Int.toNat l) = C' j l) → R (some (qi 1)) h') → qT (d + 6) 12 17 [qo 2 0, qo 9 0, qo 7 0, qo 1 1, qi x, z5, z6] [] h R := by
  have w0 := wf_n hW
  intro k
  induction k with
  | zero => intro h x p ns nl D C stk z5 z6 hc h3 hp hk; omega
  | succ k ih =>
    intro h x p ns nl D C stk z5 z6 hc h3 hp hk hi he hx
    refine sX2_readText_17 ⟨fun c9 => absurd c9 (by omega), fun _ => ?_⟩
    refine x_take hc.1 h3 (by omega) hp.2.2 (fun h4 g hf hk' => ⟨fun _ => ?_, fun c2 => absurd (by decide) c2⟩) (fun h4 g hf k1 k2 => ⟨fun c2 => absurd rfl c2, fun _ => ⟨by omega, ?_⟩⟩)
    · have hc1 := tdC_fr hc hf
      have hE := tkE_b (b := b) hp.2.2
      have hs := tkS_b (b := b) hp.2.2
      rw [hk'.2.1, hk'.2.2.2.2.1]
      refine ⟨fun c0 => ?_, fun c0 => ?_⟩
      · obtain ⟨w, hw⟩ : ∃ w, tkW b n p = w := ⟨_, rfl⟩
        by_cases c17 : w = 17
        · subst c17
          rw [hw]
          cases stk with
          | nil =>
            refine tX2_begin_0 ⟨fun c => absurd rfl c, fun _ => ?_⟩
            rw [hc1.2.2.2.2.2.2.1]
            refine ⟨fun c => absurd c (by rw [List.length_nil]; decide), fun _ => x_fail (fun h' f' F' => ⟨fun _ => ⟨by omega, fun _ => ⟨fun c => absurd rfl c, fun _ => ⟨by omega, he _ (dRun_e0 c0 hw) h' (fr_trans (PTp_d hf) (PTp_d f')) (by rw [amF_2 h4]; rw [hk'.1] at F'; exact F')⟩⟩, fun c => absurd rfl c⟩, fun c => absurd rfl c⟩)⟩
          | cons y r =>
            refine tX2_begin_0 ⟨fun c => absurd rfl c, fun _ => ?_⟩
            rw [hc1.2.2.2.2.2.2.1]
            refine ⟨fun _ => ⟨by omega, fun c => absurd c (by decide), fun _ => ⟨fun _ => ?_, fun c => absurd (by decide) c⟩⟩, fun c => absurd (show (0 : Int) < ((y :: r).length : Int) by rw [List.length_cons]; omega) c⟩
            refine sX2_readRest_0 ⟨fun e => absurd e (by decide), fun _ => ⟨fun e => absurd e (by decide), fun _ => ⟨fun e => absurd e (by decide), fun _ => ⟨fun e => absurd e (by decide), fun _ => ⟨fun e => absurd e (by decide), fun _ => ⟨fun e => absurd e (by decide), fun _ => ⟨fun e => absurd e (by decide), fun _ => ⟨fun e => absurd e (by decide), fun _ => ⟨fun e => absurd e (by decide), fun _ => ⟨fun _ => ?_, fun c => absurd rfl c⟩⟩⟩⟩⟩⟩⟩⟩⟩⟩
            refine x_close hc1 hi (fun g2 f2 e9 hc2 => ⟨by omega, fun c => absurd c (by decide), fun _ => ?_⟩)
            have f12 : fr PDr h g2 := fr_trans (PTp_d hf) f2
            refine x_takeStop (p := tkE b n p) hc2.1 (by rw [e9]; exact hk'.2.2.1) (by omega) hE.2.1 (fun e h1 g3 hf3 hF => ⟨fun _ => ⟨fun c => absurd rfl c, fun _ => ⟨by omega, he e (dRun_e1 c0 hw h1) g3 (fr_trans f12 (PTp_d hf3)) hF⟩⟩, fun c => absurd rfl c⟩) (fun q h1 g3 hf3 k3 => ⟨fun c => absurd c (by decide), fun _ => ⟨fun _ => ⟨qR_of (by omega) (by omega), ?_⟩, fun c => absurd (by decide) c⟩⟩)
            have t1 := tk_lt (b := b) hp.2.2 c0
            have si := rdStop_i h1
            have t2 := tk_lt (b := b) t1.2 (by omega)
            exact ih (D := dSet D y.1 ns) (tdC_fr hc2 hf3) k3 (by omega) (by omega) (dInv_pop hi) (fun e h2 h' f' F' => he e (by rw [dRun_e c0 hw h1]; exact h2) h' (fr_trans f12 (fr_trans (PTp_d hf3) f')) F') (fun ns' nl' D' C' h2 h' f' => hx ns' nl' D' C' (by rw [dRun_e c0 hw h1]; exact h2) h' (fr_trans f12 (fr_trans (PTp_d hf3) f')))
        · rw [hw]
          refine x_begin (Y := Y) hw c17 hc1 hk' h4 hi.1.1 hi.2.2.2.1 (fun e h1 g2 f2 F2 => ⟨fun _ => ⟨fun c => absurd rfl c, fun _ => ⟨by omega, he e (dRun_l c0 (by rw [hw]; exact c17) h1) g2 (fr_trans (PTp_d hf) f2) F2⟩⟩, fun c => absurd rfl c⟩) (fun sy eA c30 g2 f2 e9 hc2 => ⟨fun c => absurd c (by decide), fun _ => ?_⟩)
          have f12 : fr PDr h g2 := fr_trans (PTp_d hf) f2
          have hlen := hi.2.2.1
          have n6 : nl < 60 := by omega
          -- behind the body
          have tail : ∀ g3 (v : dLn), fr PDr h g3 → dsA b n Y (a 0) (a 1) ns stk.length p = .inr v → g3 9 0 3 0 = v.1 → tdC g3 b n a X (ns + 1) (nl + 1) (cAdd C nl v.2.1 v.2.2.1 v.2.2.2.1 v.2.2.2.2 (-1)) (if w = 13 ∨ w = 16 then (ns, nl) :: stk else stk) → qT (d + 5) 95 0 [qo 9 0] [] g3 (fun w10 g11 => qri w10 fun r12 => (r12 = 0 → ((0 : Int) ≠ 0 → qR (x + 1) ∧ qT (d + 6) 12 17 [qo 2 0, qo 9 0, qo 7 0, qo 1 1, qi (x + 1), qi w, qi 0] [] g11 R) ∧ (¬ ((0 : Int) ≠ 0) → ((0 : Int) = 0 ∨ (0 : Int) = 1) ∧ R (some (qi 0)) g11)) ∧ (¬ (r12 = 0) → ((1 : Int) ≠ 0 → qR (x + 1) ∧ qT (d + 6) 12 17 [qo 2 0, qo 9 0, qo 7 0, qo 1 1, qi (x + 1), qi w, qi 1] [] g11 R) ∧ (¬ ((1 : Int) ≠ 0) → ((0 : Int) = 0 ∨ (0 : Int) = 1) ∧ R (some (qi 0)) g11))) := by
            intro g3 v f3 hv k3 hc3
            have ai := dsA_i hp.2.2 w0.1 hv
            refine x_takeStop (p := v.1) hc3.1 k3 (by omega) ai.2.1 (fun e h1 g4 hf4 hF => ⟨fun _ => ⟨fun c => absurd rfl c, fun _ => ⟨by omega, he e (dRun_s c0 (by rw [hw]; exact c17) hv h1) g4 (fr_trans f3 (PTp_d hf4)) hF⟩⟩, fun c => absurd rfl c⟩) (fun q h1 g4 hf4 l3 => ⟨fun c => absurd c (by decide), fun _ => ⟨fun _ => ⟨qR_of (by omega) (by omega), ?_⟩, fun c => absurd (by decide) c⟩⟩)
            have si := rdStop_i h1
            have t2 := tk_lt (b := b) ai.2.1 (by omega)
            have hd := dInv_if hi hp.2.2 w0.1 hv
            rw [hw] at hd
            have hr := dRun_r (k := k) (D := D) (C := C) (nl := nl) c0 (by rw [hw]; exact c17) hv h1
            rw [hw] at hr
            exact ih (D := dAdd D ns w v) (tdC_fr hc3 hf4) l3 (by omega) (by omega) hd (fun e h2 h' f' F' => he e (by rw [hr]; exact h2) h' (fr_trans f3 (fr_trans (PTp_d hf4) f')) F') (fun ns' nl' D' C' h2 h' f' => hx ns' nl' D' C' (by rw [hr]; exact h2) h' (fr_trans f3 (fr_trans (PTp_d hf4) f')))
          refine ⟨fun n13 => ?_, fun e13 => ?_⟩
          · refine x_readRest (B := B) (Y := Y) (q := tkE b n p) ?_ hc2 hW hN (by rw [e9]; exact hk'.2.2.1) (by omega) hE.2.1 hi.2.1 n6 ⟨fun e h1 g3 f3 F3 => ⟨fun _ => ⟨fun c => absurd rfl c, fun _ => ⟨by omega, he e (dRun_l c0 (by rw [hw]; exact c17) (by rw [eA]; exact h1)) g3 (fr_trans f12 f3) F3⟩⟩, fun c => absurd rfl c⟩, fun v h1 g3 f3 k3 hc3 => ⟨fun c => absurd c (by decide), fun _ => tail g3 v (fr_trans f12 f3) (by rw [eA]; exact h1) k3 hc3⟩⟩
            unfold stW at sy
            by_cases q8 : w = 8
            · omega
            by_cases q9 : w = 9
            · omega
            by_cases q10 : w = 10
            · omega
            by_cases q11 : w = 11
            · omega
            by_cases q12 : w = 12
            · omega
            by_cases q16 : w = 16
            · omega
            by_cases q18 : w = 18
            · omega
            rw [if_neg q8, if_neg q9, if_neg q10, if_neg q11, if_neg q12, if_neg n13, if_neg q16, if_neg q18] at sy
            omega
          · have e13 := Decidable.not_not.mp e13
            have eB : dsB b n Y (a 0) (a 1) w (tkE b n p) = dsT b n Y (a 0) (a 1) (tkE b n p) := by unfold dsB; rw [if_neg (by omega), if_neg (by omega), if_neg (by omega), if_neg (by omega), if_pos e13]
            exact x_readTest (B := B) (Y := Y) (q := tkE b n p) hc2 hW hN (by rw [e9]; exact hk'.2.2.1) (by omega) hE.2.1 hi.2.1 n6 ⟨fun e h1 g3 f3 F3 => ⟨fun _ => ⟨fun c => absurd rfl c, fun _ => ⟨by omega, he e (dRun_l c0 (by rw [hw]; exact c17) (by rw [eA, eB]; exact h1)) g3 (fr_trans f12 f3) F3⟩⟩, fun c => absurd rfl c⟩, fun v h1 g3 f3 k3 hc3 => ⟨fun c => absurd c (by decide), fun _ => tail g3 v (fr_trans f12 f3) (by rw [eA, eB]; exact h1) k3 hc3⟩⟩
      · have c0 := Decidable.not_not.mp c0
        rw [hc1.2.2.2.2.2.2.1]
        cases stk with
        | nil => exact ⟨fun _ => ⟨by omega, hx ns nl D C (dRun_0 c0) g (PTp_d hf) hc1.2.2.2.1 hc1.2.2.2.2.1 hc1.2.2.2.2.2.1⟩, fun c => absurd rfl c⟩
        | cons y r => exact ⟨fun c => absurd c (by rw [List.length_cons]; omega), fun _ => x_fail (fun h' f' F' => ⟨fun _ => ⟨by omega, he _ (dRun_00 c0) h' (fr_trans (PTp_d hf) (PTp_d f')) (by rw [amF_2 h4]; rw [hk'.1] at F'; exact F')⟩, fun c => absurd rfl c⟩)⟩
    · have ew : tkW b n p = -1 := by unfold tkW; rw [if_neg (by omega)]
      have e1 : dsA b n Y (a 0) (a 1) ns stk.length p = .inl (amF b n p) := by
        unfold dsA
        rw [ew]
        exact if_pos (by decide)
      exact he _ (dRun_l (by omega) (by omega) e1) g (PTp_d hf) (by rw [amF_4 h4]; exact ⟨k1, k2⟩)
noncomputable def dAll (b : Int → Int) (n : Int) (Y : Int → Int) (nn m : Int) : Rs (Int × Int × (Int → Int → Int) × (Nat → Int → Int)) := dRun b n Y nn m 301 0 0 0 (fun _ _ => 0) (fun _ _ => 0) []
abbrev PDs : Nat → Nat → Nat → Prop := fun c i j => (c = 9 ∧ 3 ≤ j) ∨ c = 2 ∨ (c = 1 ∧ i = 1)
theorem x_dText (n3 : n ≤ 300) (ht : txC h b n) (h3 : h 9 0 3 0 = 0) (hQ : qQX h 0 a) (hW : qwf B a) (hX : ∀ j, 0 ≤ j → j < a 0 → h 7 0 0 (Int.toNat j) = X j) (hN : nmR X Y (a 0)) (he : ∀ e, dAll b n Y (a 0) (a 1) = .inl e → ∀ h', fr PDs h h' → fC h' e → R (some (qi 0)) h') (hx : ∀ ns nl D C, dAll b n Y (a 0) (a 1) = .inr (ns, nl, D, C) → ∀ h', fr PDs h h' → h' 1 1 5 0 = 1 → h' 1 1 6 0 = ns → h' 1 1 7 0 = nl → (∀ j, j < 5 → ∀ l, 0 ≤ l → l < nl → h' 1 1 j (Int.toNat l) = C j l) → R (some (qi 1)) h') : qT (d + 6) 12 0 [qo 2 0, qo 9 0, qo 7 0, qo 1 1, qu, qu, qu] [] h R := by
  have n9 := ht.1
  refine sX2_readText_0 (sX1_clear_0 ⟨by omega, by omega, ?_⟩)
  obtain ⟨g, hg⟩ : ∃ g, (qup (qup (qup (qup (qup h 1 1 5 0 0) 1 1 6 0 0) 1 1 7 0 0) 1 1 5 0 1) 2 0 1 0 0) = g := ⟨_, rfl⟩
  rw [hg]
  have f1 : fr PDs h g := by rw [← hg]; exact fr_trans (fr_up (by omega)) (fr_trans (fr_up (by omega)) (fr_trans (fr_up (by omega)) (fr_trans (fr_up (by omega)) (fr_up (by omega)))))
  have g5 : g 1 1 5 0 = 1 := by rw [← hg, up_j (by omega)]; exact up_at
  have g6 : g 1 1 6 0 = 0 := by rw [← hg, up_j (by omega), up_j (by omega), up_j (by omega)]; exact up_at
  have g7 : g 1 1 7 0 = 0 := by rw [← hg, up_j (by omega), up_j (by omega)]; exact up_at
  have g1 : g 2 0 1 0 = 0 := by rw [← hg]; exact up_at
  have hc : tdC g b n a X 0 0 (fun _ _ => 0) [] := by
    refine ⟨?_, qx_fr hQ (funext fun j => f1 7 0 j (by omega)), ?_, g6, g7, fun j _ l l0 l1 => by omega, g1, trivial⟩
    · unfold txC at *; rw [f1 9 0 2 (by omega), f1 9 0 0 (by omega), f1 90 0 0 (by omega)]; exact ht
    · rw [f1 7 0 0 (by omega)]; exact hX
  refine x_dLoop (D := fun _ _ => 0) n3 hW hN 301 hc (by rw [← hg, up_j (by omega), up_j (by omega), up_j (by omega), up_j (by omega), up_j (by omega)]; exact h3) (by omega) (by omega) dInv_0 (fun e h1 h' f' F' => he e h1 h' (fr_trans f1 (fr_mono f' (fun c i j hP => by omega))) F') (fun ns nl D C h1 h' f' k6 k7 kC => hx ns nl D C h1 h' (fr_trans f1 (fr_mono f' (fun c i j hP => by omega))) (by rw [f' 1 1 5 (by omega)]; exact g5) k6 k7 kC)
end De
