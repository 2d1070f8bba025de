/-! the class's table -/
theorem qi2b_s0 : (List.range 128).all (fun k => decide (qi2b (k : Int) = (k : Int))) = true := by decide +kernel
theorem qi2b_s {x : Int} (h0 : 0 ≤ x) (h1 : x < 128) : qi2b x = x := by
  have := List.all_eq_true.mp qi2b_s0 x.toNat (List.mem_range.mpr (by omega))
  rw [decide_eq_true_eq, show ((x.toNat : Nat) : Int) = x by omega] at this
  exact this
/-- the table is of these people and stairs -/
def tS (h : qH) (a : qB) : Prop := h 6 0 6 0 = a 0 ∧ h 6 0 7 0 = a 1 ∧ ∀ s, 0 ≤ s → s < a 1 → h 6 0 2 (Int.toNat s) = a (70 + s) ∧ h 6 0 3 (Int.toNat s) = a (80 + s)
theorem tS_fr {h h' : qH} {a : qB} (ht : tS h a) (e2 : h' 6 0 2 = h 6 0 2) (e3 : h' 6 0 3 = h 6 0 3) (e6 : h' 6 0 6 = h 6 0 6) (e7 : h' 6 0 7 = h 6 0 7) : tS h' a := by
  unfold tS at *
  rw [e2, e3, e6, e7]
  exact ht
abbrev gId : Int → Int := fun p => p
abbrev PQ : Nat → Nat → Nat → Prop := fun c _ j => c = 6 ∧ (j = 0 ∨ j = 1)
section Ta
variable {d : Nat} {R : Option qV → qH → Prop} {h : qH} {a : qB} {B : Int}
theorem x_spread {g0 : qB} {N0 : Nat} (hW : qwf B a) (ht : tS h a) (hW0 : qwf B g0) (hA0 : bA a g0) (hg0 : isG a gId g0) (hc0 : cdN N0 g0) (hq0 : h 6 0 1 0 = N0) (hf0 : ∀ y, 0 ≤ y → y < 5040 → h 6 0 0 (Int.toNat y) = if y = rk g0 then 0 else -1) (hR : ∀ h', fr PQ h h' → rL B a gId (fun b => h' 6 0 0 (Int.toNat (rk b))) → R none h') : qT (d + 3) 45 0 [qo 6 0, qu, qu, qu, qu, qu, qu, qu] [] h R := by
  have hn := wf_n hW
  have hm := wf_m hW
  have fS : ∀ g, fr PQ h g → tS g a := fun g hf => tS_fr ht (hf 6 0 2 (by omega)) (hf 6 0 3 (by omega)) (hf 6 0 6 (by omega)) (hf 6 0 7 (by omega))
  refine sX6_spread_0 ?_
  have outer : ∀ (N : Nat) (i fl : Int) (g : qH) (q : Int → qB) z1 z2 z3 z4 z5, (5040 - i).toNat = N → fr PQ h g → BF B a gId (fun y => g 6 0 0 (Int.toNat y)) q fl i 0 → (∀ j, 0 ≤ j → j < fl → ∃ M : Nat, g 6 0 1 (Int.toNat j) = M ∧ cdN M (q j)) → qT (d + 3) 45 4 [qo 6 0, qi fl, qi i, z1, z2, z3, z4, z5] [] g R := by
    intro N
    induction N with
    | zero =>
      intro i fl g q z1 z2 z3 z4 z5 hN hf hB hq
      have b1 := hB.1
      have b2 := hB.2.1
      refine sX6_spread_4 ⟨fun c => hR g hf (BF_end (far := fun y => g 6 0 0 (Int.toNat y)) (q := q) (fl := fl) ?_), fun c => absurd c (by omega)⟩
      rw [show i = fl by omega] at hB
      exact hB
    | succ N ih =>
      intro i fl g q z1 z2 z3 z4 z5 hN hf hB hq
      have b1 := hB.1
      have b2 := hB.2.1
      refine sX6_spread_4 ⟨fun c => hR g hf (BF_end (far := fun y => g 6 0 0 (Int.toNat y)) (q := q) (fl := fl) ?_), fun c => ⟨fun c2 => absurd c2 (by omega), fun _ => ⟨by omega, ?_⟩⟩⟩
      · rw [show i = fl by omega] at hB
        exact hB
      · have hi : i < fl := by omega
        have w0 := hB.2.2.1 i b2.1 hi
        obtain ⟨M, hM, hcM⟩ := hq i b2.1 hi
        have e0 := w0.2.1 0 (by omega)
        have kq := rk_b w0.1
        have fi : 0 ≤ g 6 0 0 (Int.toNat (rk (q i))) ∧ g 6 0 0 (Int.toNat (rk (q i))) ≤ 5040 := by
          have l1 := BF_le hB i.toNat i b2.1 hi (by omega)
          have l2 := w0.2.2
          exact ⟨l2, by omega⟩
        rw [hM, (fS g hf).1, ← e0]
        refine x_rank hcM w0.1 ⟨by omega, qR_of (by omega) (by omega), ?_⟩
        have F0 : g 6 0 0 (Int.toNat (rk (q i))) = g 6 0 0 (Int.toNat (rk (q i))) := rfl
        generalize hF : g 6 0 0 (Int.toNat (rk (q i))) = Fi at fi
        generalize hqi : q i = qi' at w0 hcM hF kq e0
        clear hM F0
        refine q_up (n := a 1) (C := fun s => s ≤ a 1 → ∀ (fl : Int) (g : qH) (q : Int → qB) z4 z5, i < fl → q i = qi' → g 6 0 0 (Int.toNat (rk (q i))) = Fi → fr PQ h g → BF B a gId (fun y => g 6 0 0 (Int.toNat y)) q fl i s → (∀ j, 0 ≤ j → j < fl → ∃ M : Nat, g 6 0 1 (Int.toNat j) = M ∧ cdN M (q j)) → qT (d + 3) 45 43 [qo 6 0, qi fl, qi i, qi (M : Int), qi (Fi + 1), qi s, z4, z5] [] g R) ?_ 0 (by omega) hm.1 fl g q z4 z5 hi hqi (by rw [hqi]; exact hF) hf hB hq
        clear hqi hF hB hq hf
        intro s hs ihs hsm fl g q z4 z5 hi hqi hF hf hB hq
        have b1 := hB.1
        have tt := fS g hf
        refine sX6_spread_43 ?_
        rw [tt.2.1]
        refine ⟨fun c => ⟨qR_of (by omega) (by omega), ih (i + 1) fl g q _ _ _ _ _ (by omega) hf (BF_next hB hi (by omega)) hq⟩, fun c => ⟨by omega, by omega, ?_⟩⟩
        have hs' : s < a 1 := by omega
        have e1 := w0.2.1 1 (by omega)
        have o := on_wf w0.1 w0.2.1 hs hs'
        have ko := rk_b o.1
        have eo := o.2.1 0 (by omega)
        rw [(tt.2.2 s hs hs').1, (tt.2.2 s hs hs').2, ← w0.2.1 (70 + s) (by omega), ← w0.2.1 (80 + s) (by omega)]
        refine x_exchangeIn hcM w0.1 hs (by omega) (fun M' hM' => ?_)
        dsimp only [qri]
        rw [tt.1, ← eo]
        refine x_rank hM' o.1 ⟨by omega, fun c2 => ⟨qR_of (by omega) (by omega), ihs hs' (by omega) fl g q _ _ hi hqi hF hf ?_ hq⟩, fun c2 => ⟨fun c3 => ?_, fun c3 => ?_⟩⟩
        · refine BF_skip hB hi hs hs' ?_
          rw [hqi]
          have := (hB.2.2.2.1 (rk (aOn qi' s)) ko.1 ko.2).1
          have : -1 ≤ g 6 0 0 (Int.toNat (rk (aOn qi' s))) := this
          show 0 ≤ g 6 0 0 (Int.toNat (rk (aOn qi' s)))
          omega
        · have BN := BF_new hB hi hs hs' (by rw [hqi]; show g 6 0 0 (Int.toNat (rk (aOn qi' s))) < 0; omega)
          omega
        · have BN := BF_new hB hi hs hs' (by rw [hqi]; show g 6 0 0 (Int.toNat (rk (aOn qi' s))) < 0; omega)
          have F21 : Fi < 21 := by
            have wi := BF_wk hB Fi.toNat i b2.1 hi (by show g 6 0 0 (Int.toNat (rk (q i))) = _; rw [hF]; omega)
            rw [hqi] at wi
            have wo : wk a gId (Fi.toNat + 1) (aOn qi' s) := ⟨s, hs, hs', by rw [o.2.2]; exact wi⟩
            obtain ⟨k, k1, k2⟩ := gC_wk o.1 o.2.1 (wk_gC _ _ o.1 o.2.1 wo)
            by_cases c4 : Fi < 21
            · exact c4
            · have := BF_depth hB hi k (aOn qi' s) o.1 o.2.1 k2 (by show (k : Int) ≤ g 6 0 0 (Int.toNat (rk (q i))); rw [hF]; omega)
              have : 0 ≤ g 6 0 0 (Int.toNat (rk (aOn qi' s))) := this.1
              omega
          rw [qi2b_s (by omega) (by omega)]
          refine ⟨by omega, by omega, by omega, qR_of (by omega) (by omega), qR_of (by omega) (by omega), ihs hs' (by omega) (fl + 1) _ (fun j => if j = fl then aOn (q i) s else q j) _ _ (by omega) ?_ ?_ (fr_trans hf (fr_trans (fr_up ⟨rfl, by omega⟩) (fr_up ⟨rfl, by omega⟩))) (BN.2 _ _ (fun y y0 y1 => ?_) (fun j j0 j1 => if_neg (by omega)) (if_pos rfl)) (fun j j0 j1 => ?_)⟩
          · show (if i = fl then aOn (q i) s else q i) = qi'
            rw [if_neg (by omega), hqi]
          · show (qup (qup g 6 0 0 (Int.toNat (rk (aOn qi' s))) (Fi + 1)) 6 0 1 (Int.toNat fl) (M' : Int)) 6 0 0 (Int.toNat (rk (if i = fl then aOn (q i) s else q i))) = Fi
            rw [if_neg (by omega), hqi, up_j (by omega), up_I kq.1 ko.1, if_neg ?_]
            · rw [← hqi]; exact hF
            · intro e
              have h1 : g 6 0 0 (Int.toNat (rk (q i))) = g 6 0 0 (Int.toNat (rk (aOn qi' s))) := by rw [hqi, e]
              omega
          · show (qup (qup g 6 0 0 (Int.toNat (rk (aOn qi' s))) (Fi + 1)) 6 0 1 (Int.toNat fl) (M' : Int)) 6 0 0 (Int.toNat y) = if y = rk (aOn (q i) s) then g 6 0 0 (Int.toNat (rk (q i))) + 1 else g 6 0 0 (Int.toNat y)
            rw [up_j (by omega), up_I y0 ko.1, hqi, ← hF, hqi]
          · rw [up_I j0 (by omega)]
            by_cases e : j = fl
            · rw [if_pos e]
              refine ⟨M', rfl, ?_⟩
              show cdN M' (if j = fl then aOn (q i) s else q j)
              rw [if_pos e, hqi]
              exact hM'
            · rw [if_neg e, up_j (by omega)]
              obtain ⟨M2, h1, h2⟩ := hq j j0 (by omega)
              refine ⟨M2, h1, ?_⟩
              show cdN M2 (if j = fl then aOn (q i) s else q j)
              rw [if_neg e]
              exact h2
  refine outer 5040 0 1 h (fun _ => g0) _ _ _ _ _ rfl fr_rfl (BF_one hW0 hA0 hg0 hf0) (fun j j0 j1 => ?_)
  rw [show j = 0 by omega]
  exact ⟨N0, hq0, hc0⟩
end Ta
