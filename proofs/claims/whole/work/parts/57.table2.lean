theorem cp_at {h : qH} {c0 i0 j0 sp c i j dp n k : Nat} (h1 : dp ≤ k) (h2 : k < dp + n) : qcp h c0 i0 j0 sp c i j dp n c i j k = h c0 i0 j0 (sp + (k - dp)) := if_pos ⟨rfl, rfl, ⟨h1, h2⟩, rfl⟩
theorem cp_j {h : qH} {c0 i0 j0 sp c i j dp n c' i' j' : Nat} (n1 : ¬ (c' = c ∧ i' = i ∧ j' = j)) : qcp h c0 i0 j0 sp c i j dp n c' i' j' = h c' i' j' := by
  funext k'
  exact if_neg (fun e => n1 ⟨e.2.1, e.2.2.2, e.1⟩)
/-- who lives where as in b, all else as in a -/
def mix (a b : qB) : qB := fun x => if 14 ≤ x ∧ x < 21 then b x else a x
theorem mix_l {a b : qB} {p : Int} (p0 : 0 ≤ p) (p7 : p < 7) : mix a b (14 + p) = b (14 + p) := if_pos (by omega)
theorem mix_o {a b : qB} {x : Int} (h : x < 14 ∨ 21 ≤ x) : mix a b x = a x := if_neg (by omega)
theorem mix_A {a b : qB} : bA a (mix a b) := fun _ hx => mix_o hx
theorem mix_wf {B : Int} {a b : qB} (hW : qwf B a) (hl : ∀ p, 0 ≤ p → p < a 0 → 0 ≤ b (14 + p) ∧ b (14 + p) < a 0) (hi : ∀ p q, 0 ≤ p → p < a 0 → 0 ≤ q → q < a 0 → b (14 + p) = b (14 + q) → p = q) : qwf B (mix a b) := by
  have hn := wf_n hW
  have hm := wf_m hW
  unfold qwf
  rw [mix_o (by omega : (0 : Int) < 14 ∨ 21 ≤ (0 : Int)), mix_o (by omega : (1 : Int) < 14 ∨ 21 ≤ (1 : Int)), mix_o (by omega : (2 : Int) < 14 ∨ 21 ≤ (2 : Int)), mix_o (by omega : (3 : Int) < 14 ∨ 21 ≤ (3 : Int)), mix_o (by omega : (4 : Int) < 14 ∨ 21 ≤ (4 : Int)), mix_o (by omega : (5 : Int) < 14 ∨ 21 ≤ (5 : Int)), mix_o (by omega : (6 : Int) < 14 ∨ 21 ≤ (6 : Int))]
  refine ⟨wf_n hW, wf_m hW, wf_odds hW, wf_cool hW, wf_night hW, wf_quar hW, wf_made hW, ?_, ?_, ?_, ?_, ?_⟩
  · intro x hx hxn
    rw [mix_o (by omega)]
    exact wf_temp hW hx hxn
  · intro x hx hxn
    rw [mix_l hx (by omega)]
    exact hl x hx hxn
  · intro x y hx hxn hy hyn he
    rw [mix_l hx (by omega), mix_l hy (by omega)] at he
    exact hi x y hx hxn hy hyn he
  · intro x y hx hxn hy hyn
    rw [mix_o (by omega)]
    exact wf_like hW hx hxn hy hyn
  · intro s hs hsm
    rw [mix_o (by omega), mix_o (by omega), mix_o (by omega)]
    exact wf_st hW hs hsm
/-- the same stairs -/
def gS (a a' : qB) : Prop := a' 0 = a 0 ∧ a' 1 = a 1 ∧ ∀ s, 0 ≤ s → s < a 1 → a' (70 + s) = a (70 + s) ∧ a' (80 + s) = a (80 + s)
theorem rL_to {B B0 : Int} {a a0 : qB} {f : Int → Int} (hW0 : qwf B0 a0) (hW : qwf B a) (hg : gS a a0) (h : rL B0 a0 gId (fun b => f (rk b))) : rL B a gId (fun b => f (rk b)) := by
  have hn := wf_n hW
  have hm := wf_m hW
  obtain ⟨g0, g1, g2⟩ := hg
  intro b hWb hA
  have e0 := hA 0 (by omega)
  have e1 := hA 1 (by omega)
  have hW' : qwf B0 (mix a0 b) := mix_wf hW0 (fun p p0 p1 => by have := wf_live hWb p0 (by omega : p < b 0); omega) (fun p q p0 p1 q0 q1 e => wf_inj hWb p0 (by omega) q0 (by omega) e)
  have m0 : mix a0 b 0 = b 0 := by rw [mix_o (by omega)]; omega
  have l0 : ∀ p, 0 ≤ p → p < b 0 → mix a0 b (14 + p) = b (14 + p) := fun p p0 p1 => mix_l p0 (by omega)
  have kb : rk (mix a0 b) = rk b := rk_c m0 (by omega) l0
  have ko : ∀ s, 0 ≤ s → s < a 1 → rk (aOn (mix a0 b) s) = rk (aOn b s) := by
    intro s s0 s1
    have o1 := on_wf hWb hA s0 s1
    have o2 := on_wf hW' mix_A s0 (by omega : s < a0 1)
    have h3 := wf_st hWb s0 (by omega : s < b 1)
    have z1 : aOn b s 0 = b 0 := aOn_hi hWb s0 (by omega) (by omega)
    have z2 : aOn (mix a0 b) s 0 = b 0 := by
      rw [aOn_hi hW' s0 (by rw [mix_o (by omega)]; omega) (by omega)]
      exact m0
    refine rk_c (by omega) (by omega) (fun p p0 p1 => ?_)
    rw [aOn_at hWb s0 (by omega), aOn_at hW' s0 (by rw [mix_o (by omega)]; omega)]
    rw [mix_o (by omega : 70 + s < 14 ∨ 21 ≤ 70 + s), mix_o (by omega : 80 + s < 14 ∨ 21 ≤ 80 + s), (g2 s s0 s1).1, (g2 s s0 s1).2, ← hA (70 + s) (by omega), ← hA (80 + s) (by omega), l0 _ h3.1.1 h3.1.2, l0 _ h3.2.1.1 h3.2.1.2, l0 p p0 (by omega)]
  obtain ⟨r1, r2, r3, r4, r5⟩ := h (mix a0 b) hW' mix_A
  dsimp only at r1 r2 r3 r4 r5 ⊢
  rw [kb] at r1 r2 r3 r4 r5
  refine ⟨r1, fun c => r2 (fun p p0 p1 => ?_), fun c p p0 p1 => ?_, fun c s s0 s1 => ?_, fun c => ?_⟩
  · rw [l0 p p0 (by omega)]; exact c p p0 (by omega)
  · have := r3 c p p0 (by omega)
    rwa [l0 p p0 (by omega)] at this
  · have := r4 c s s0 (by omega)
    rw [ko s s0 s1] at this
    exact this
  · obtain ⟨s, s0, s1, s2⟩ := r5 c
    refine ⟨s, s0, by omega, ?_⟩
    rw [ko s s0 (by omega)] at s2
    exact s2
/-- the class's table, if there is one, tells how far it is home -/
def tB (h : qH) : Prop := h 6 0 6 0 = -1 ∨ ∃ B0 a, qwf B0 a ∧ tS h a ∧ rL B0 a gId (fun b => h 6 0 0 (Int.toNat (rk b)))
abbrev PK : Nat → Nat → Nat → Prop := fun c _ j => c = 6 ∧ (j = 0 ∨ j = 1 ∨ j = 2 ∨ j = 3 ∨ j = 6 ∨ j = 7)
def hmB (a : qB) : qB := mix a (fun x => x - 14)
theorem hm_l {a : qB} {p : Int} (p0 : 0 ≤ p) (p7 : p < 7) : hmB a (14 + p) = p := by
  unfold hmB
  rw [mix_l p0 p7]
  omega
theorem hm_wf {B : Int} {a : qB} (hW : qwf B a) : qwf B (hmB a) := mix_wf hW (fun p p0 p1 => by omega) (fun p q p0 p1 q0 q1 e => by omega)
section Tb
variable {d : Nat} {R : Option qV → qH → Prop} {h : qH} {a : qB} {B : Int}
theorem x_isTableOf (hQ : qQX h 0 a) (hW : qwf B a) (h1 : tS h a → R (some (qi 1)) h) (h0 : ¬ tS h a → R (some (qi 0)) h) : qT (d + 1) 43 0 [qo 6 0, qo 7 0, qu] [] h R := by
  have hm := wf_m hW
  refine sX6_isTableOf_0 ?_
  rw [qx_n hQ, qx_m hQ]
  refine ⟨fun c => ⟨by omega, h0 (fun e => c e.1)⟩, fun c => ⟨fun c2 => ?_, fun c2 => ⟨by omega, h0 (fun e => c2 e.2.1)⟩⟩⟩
  refine q_up (n := a 1) (C := fun s => s ≤ a 1 → (∀ s', 0 ≤ s' → s' < s → h 6 0 2 (Int.toNat s') = a (70 + s') ∧ h 6 0 3 (Int.toNat s') = a (80 + s')) → qT (d + 1) 43 26 [qo 6 0, qo 7 0, qi s] [] h R) ?_ 0 (by omega) hm.1 (fun s' s0 s1 => absurd s1 (by omega))
  intro s hs ih hsm hy
  refine sX6_isTableOf_26 ?_
  rw [c2]
  refine ⟨fun c3 => ⟨by omega, h1 ⟨by omega, c2, fun s' s0 s1 => hy s' s0 (by omega)⟩⟩, fun c3 => ?_⟩
  have hs' : s < a 1 := by omega
  rw [qx_one hQ hW hs hs', qx_two hQ hW hs hs']
  refine ⟨by omega, by omega, fun c4 => ⟨by omega, h0 (fun e => c4 (e.2.2 s hs hs').1)⟩, fun c4 => ⟨by omega, by omega, fun c5 => ⟨qR_of (by omega) (by omega), ih hs' (by omega) (fun s' s0 s1 => ?_)⟩, fun c5 => ⟨by omega, h0 (fun e => c5 (e.2.2 s hs hs').2)⟩⟩⟩
  by_cases e : s' = s
  · rw [e]; exact ⟨by omega, c5⟩
  · exact hy s' s0 (by omega)
theorem x_makeTable (hQ : qQX h 0 a) (hW : qwf B a) (hT : tB h) (hR : ∀ h', fr PK h h' → tS h' a → rL B a gId (fun b => h' 6 0 0 (Int.toNat (rk b))) → R none h') : qT (d + 4) 44 0 [qo 6 0, qo 7 0, qu, qu] [] h R := by
  have hn := wf_n hW
  have hm := wf_m hW
  refine sX6_makeTable_0 (x_isTableOf hQ hW (fun hS => ⟨fun c => absurd c (by decide), fun _ => ?_⟩) (fun hS => ⟨fun _ => ?_, fun c => absurd rfl c⟩))
  · refine hR h fr_rfl hS ?_
    rcases hT with c | ⟨B0, a0, hW0, hS0, hL0⟩
    · have := hS.1
      omega
    · refine rL_to (f := fun y => h 6 0 0 (Int.toNat y)) hW0 hW ⟨?_, ?_, fun s s0 s1 => ?_⟩ hL0
      · rw [← hS.1, hS0.1]
      · rw [← hS.2.1, hS0.2.1]
      · have e1 : a0 1 = a 1 := by rw [← hS.2.1, hS0.2.1]
        have q1 := hS.2.2 s s0 s1
        have q2 := hS0.2.2 s s0 (by omega)
        exact ⟨by omega, by omega⟩
  · rw [qx_n hQ, qx_m hQ]
    refine ⟨by omega, by omega, ?_⟩
    have f1 : fr PK h (qcp (qcp (qup (qup h 6 0 6 0 (a 0)) 6 0 7 0 (a 1)) 7 0 4 (Int.toNat 0) 6 0 2 (Int.toNat 0) (Int.toNat 10)) 7 0 5 (Int.toNat 0) 6 0 3 (Int.toNat 0) (Int.toNat 10)) := fr_trans (fr_up ⟨rfl, by omega⟩) (fr_trans (fr_up ⟨rfl, by omega⟩) (fr_trans (fr_cp ⟨rfl, by omega⟩) (fr_cp ⟨rfl, by omega⟩)))
    have t1 : tS (qcp (qcp (qup (qup h 6 0 6 0 (a 0)) 6 0 7 0 (a 1)) 7 0 4 (Int.toNat 0) 6 0 2 (Int.toNat 0) (Int.toNat 10)) 7 0 5 (Int.toNat 0) 6 0 3 (Int.toNat 0) (Int.toNat 10)) a := by
      refine ⟨?_, ?_, fun s s0 s1 => ⟨?_, ?_⟩⟩
      · rw [cp_j (by omega), cp_j (by omega), up_j (by omega), up_at]
      · rw [cp_j (by omega), cp_j (by omega), up_at]
      · rw [cp_j (by omega), cp_at (by omega) (by omega), up_j (by omega), up_j (by omega), show Int.toNat 0 + (Int.toNat s - Int.toNat 0) = Int.toNat s by omega]
        exact qx_one hQ hW s0 s1
      · rw [cp_at (by omega) (by omega), cp_j (by omega), up_j (by omega), up_j (by omega), show Int.toNat 0 + (Int.toNat s - Int.toNat 0) = Int.toNat s by omega]
        exact qx_two hQ hW s0 s1
    generalize (qcp (qcp (qup (qup h 6 0 6 0 (a 0)) 6 0 7 0 (a 1)) 7 0 4 (Int.toNat 0) 6 0 2 (Int.toNat 0) (Int.toNat 10)) 7 0 5 (Int.toNat 0) 6 0 3 (Int.toNat 0) (Int.toNat 10)) = g at f1 t1
    have hW0 := hm_wf hW
    have hk0 := rk_b hW0
    have fS : ∀ g', fr PQ g g' → tS g' a := fun g' hf => tS_fr t1 (hf 6 0 2 (by omega)) (hf 6 0 3 (by omega)) (hf 6 0 6 (by omega)) (hf 6 0 7 (by omega))
    have fK : ∀ g', fr PQ g g' → fr PK h g' := fun g' hf => fr_trans f1 (fr_mono hf (fun c i j hP => ⟨hP.1, by omega⟩))
    refine q_up (n := 5040) (C := fun y => y ≤ 5040 → ∀ g', fr PQ g g' → (∀ x, 0 ≤ x → x < y → g' 6 0 0 (Int.toNat x) = -1) → qT (d + 4) 44 57 [qo 6 0, qo 7 0, qi y, qu] [] g' R) ?_ 0 (by omega) (by omega) g fr_rfl (fun x x0 x1 => absurd x1 (by omega))
    intro y hy ih hy5 g' hf hz
    refine sX6_makeTable_57 ⟨fun c => ?_, fun c => ⟨by omega, by omega, qR_of (by omega) (by omega), ih (by omega) (by omega) _ (fr_trans hf (fr_up ⟨rfl, by omega⟩)) (fun x x0 x1 => ?_)⟩⟩
    · have S' := fS g' hf
      refine q_up (n := a 0) (C := fun p => p ≤ a 0 → ∀ N : Nat, cdP N (hmB a) p → qT (d + 4) 44 81 [qo 6 0, qo 7 0, qi (N : Int), qi p] [] g' R) ?_ 0 (by omega) hn.1 0 cdP_0
      intro p hp ihp hpn N hN
      refine sX6_makeTable_81 ?_
      rw [S'.1]
      have z0 : hmB a 0 = a 0 := mix_o (by omega)
      refine ⟨fun c2 => ?_, fun c2 => ?_⟩
      · have ep : p = hmB a 0 := by omega
        rw [ep] at hN
        have hc := cdP_N (by omega) hN
        rw [← z0]
        refine x_rank hc hW0 ⟨by omega, by omega, by omega, x_spread (a := a) (g0 := hmB a) (N0 := N) hW (fS _ (fr_trans hf (fr_trans (fr_up ⟨rfl, by omega⟩) (fr_up ⟨rfl, by omega⟩)))) hW0 mix_A (fun p p0 p1 => hm_l p0 (by omega)) hc up_at (fun x x0 x1 => ?_) (fun g2 hf2 hL => ?_)⟩
        · rw [up_j (by omega), up_I x0 hk0.1, hz x x0 (by omega)]
        · have f2 : fr PQ g g2 := fr_trans hf (fr_trans (fr_up ⟨rfl, by omega⟩) (fr_trans (fr_up ⟨rfl, by omega⟩) hf2))
          exact hR g2 (fK g2 f2) (fS g2 f2) hL
      · obtain ⟨N', e1, e2⟩ := cdP_add hN hp (by omega) (by rw [hm_l hp (by omega)]; omega) (by rw [hm_l hp (by omega)]; omega)
        rw [hm_l hp (by omega)] at e1
        rw [e1]
        exact ⟨qR_of (by omega) (by omega), qR_of (by omega) (by omega), ihp (by omega) (by omega) N' e2⟩
    · rw [up_I x0 hy]
      by_cases e : x = y
      · rw [if_pos e]
      · rw [if_neg e]; exact hz x x0 (by omega)
end Tb
