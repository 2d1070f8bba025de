/-! the class reads DECADES -/
abbrev PDr : Nat → Nat → Nat → Prop := fun c i j => (c = 9 ∧ 3 ≤ j) ∨ c = 2 ∨ (c = 1 ∧ i = 1 ∧ j ≠ 5)
theorem PTp_d {h h' : qH} (hf : fr PTp h h') : fr PDr h h' := fr_mono hf (fun c i j hP => Or.inl hP)
def stkC (o : Int → Int) : List (Int × Int) → Prop
  | [] => True
  | x :: r => o r.length = x.2 ∧ stkC o r
theorem stkC_c {o o' : Int → Int} : ∀ (s : List (Int × Int)), (∀ j, 0 ≤ j → j < s.length → o' j = o j) → stkC o s → stkC o' s
  | [], _, _ => trivial
  | x :: r, e, h => ⟨by rw [e _ (by omega) (by rw [List.length_cons]; omega)]; exact h.1, stkC_c r (fun j j0 j1 => e j j0 (by rw [List.length_cons]; omega)) h.2⟩
def tdC (h : qH) (b : Int → Int) (n : Int) (a : qB) (X : Int → Int) (ns nl : Int) (C : Nat → Int → Int) (stk : List (Int × Int)) : Prop := txC h b n ∧ qQX h 0 a ∧ (∀ j, 0 ≤ j → j < a 0 → h 7 0 0 (Int.toNat j) = X j) ∧ h 1 1 6 0 = ns ∧ h 1 1 7 0 = nl ∧ (∀ j, j < 5 → ∀ l, 0 ≤ l → l < nl → h 1 1 j (Int.toNat l) = C j l) ∧ h 2 0 1 0 = stk.length ∧ stkC (fun j => h 2 0 0 (Int.toNat j)) stk
section Dc
variable {d : Nat} {R : Option qV → qH → Prop} {h : qH} {b : Int → Int} {n p ns nl B : Int} {a : qB} {X Y : Int → Int} {C : Nat → Int → Int} {stk : List (Int × Int)}
theorem tdC_fr {h' : qH} (hc : tdC h b n a X ns nl C stk) (hf : fr PTp h h') : tdC h' b n a X ns nl C stk := by
  obtain ⟨c1, c2, c3, c4, c5, c6, c7, c8⟩ := hc
  refine ⟨txC_fr c1 hf, qx_fr c2 (funext fun j => hf 7 0 j (by omega)), ?_, ?_, ?_, ?_, ?_, ?_⟩
  · rw [hf 7 0 0 (by omega)]; exact c3
  · rw [hf 1 1 6 (by omega)]; exact c4
  · rw [hf 1 1 7 (by omega)]; exact c5
  · intro j j5; rw [hf 1 1 j (by omega)]; exact c6 j j5
  · rw [hf 2 0 1 (by omega)]; exact c7
  · rw [hf 2 0 0 (by omega)]; exact c8
theorem x_addLine {c0 c1 c2 c3 : Int} (hc : tdC h b n a X ns nl C stk) (n0 : 0 ≤ nl) (n6 : nl < 60) (hR : ∀ h', fr PDr h h' → h' 9 = h 9 → tdC h' b n a X ns (nl + 1) (cAdd C nl c0 c1 c2 c3 (-1)) stk → R none h') : qT (d + 1) 10 0 [qo 1 1, qi c0, qi c1, qi c2, qi c3] [] h R := by
  obtain ⟨d1, d2, d3, d4, d5, d6, d7, d8⟩ := hc
  refine sX1_addLine_0 ?_
  rw [d5]
  refine ⟨fun c => absurd c (by omega), fun _ => ⟨by omega, by omega, by omega, by omega, by omega, qR_of (by omega) (by omega), ?_⟩⟩
  have e1 : ∀ (i j : Nat), ¬ i = 1 → (qup (qup (qup (qup (qup (qup h 1 1 0 (Int.toNat nl) c0) 1 1 1 (Int.toNat nl) c1) 1 1 2 (Int.toNat nl) c2) 1 1 3 (Int.toNat nl) c3) 1 1 4 (Int.toNat nl) (-1)) 1 1 7 0 (nl + 1)) i = h i := fun i _ hi => by
    funext i' j'
    rw [up_j (by omega), up_j (by omega), up_j (by omega), up_j (by omega), up_j (by omega), up_j (by omega)]
  refine hR _ (fr_trans (fr_up (by omega)) (fr_trans (fr_up (by omega)) (fr_trans (fr_up (by omega)) (fr_trans (fr_up (by omega)) (fr_trans (fr_up (by omega)) (fr_up (by omega))))))) (e1 9 0 (by omega)) ⟨?_, ?_, ?_, ?_, up_at, ?_, ?_, ?_⟩
  · unfold txC at *
    rw [e1 9 0 (by omega), e1 90 0 (by omega)]
    exact d1
  · exact qx_fr d2 (by rw [e1 7 0 (by omega)])
  · rw [e1 7 0 (by omega)]; exact d3
  · rw [up_j (by omega), up_j (by omega), up_j (by omega), up_j (by omega), up_j (by omega), up_j (by omega)]; exact d4
  · intro j j5 l l0 l1
    unfold cAdd
    have hj : j = 0 ∨ j = 1 ∨ j = 2 ∨ j = 3 ∨ j = 4 := by omega
    rcases hj with e | e | e | e | e <;> subst e
    · rw [up_j (by omega), up_j (by omega), up_j (by omega), up_j (by omega), up_j (by omega), up_I l0 n0]
      by_cases c : l = nl
      · rw [if_pos c, if_pos c, if_pos rfl]
      · rw [if_neg c, if_neg c]; exact d6 0 (by omega) l l0 (by omega)
    · rw [up_j (by omega), up_j (by omega), up_j (by omega), up_j (by omega), up_I l0 n0]
      by_cases c : l = nl
      · rw [if_pos c, if_pos c, if_neg (by omega), if_pos rfl]
      · rw [if_neg c, if_neg c, up_j (by omega)]; exact d6 1 (by omega) l l0 (by omega)
    · rw [up_j (by omega), up_j (by omega), up_j (by omega), up_I l0 n0]
      by_cases c : l = nl
      · rw [if_pos c, if_pos c, if_neg (by omega), if_neg (by omega), if_pos rfl]
      · rw [if_neg c, if_neg c, up_j (by omega), up_j (by omega)]; exact d6 2 (by omega) l l0 (by omega)
    · rw [up_j (by omega), up_j (by omega), up_I l0 n0]
      by_cases c : l = nl
      · rw [if_pos c, if_pos c, if_neg (by omega), if_neg (by omega), if_neg (by omega), if_pos rfl]
      · rw [if_neg c, if_neg c, up_j (by omega), up_j (by omega), up_j (by omega)]; exact d6 3 (by omega) l l0 (by omega)
    · rw [up_j (by omega), up_I l0 n0]
      by_cases c : l = nl
      · rw [if_pos c, if_pos c, if_neg (by omega), if_neg (by omega), if_neg (by omega), if_neg (by omega)]
      · rw [if_neg c, if_neg c, up_j (by omega), up_j (by omega), up_j (by omega), up_j (by omega)]; exact d6 4 (by omega) l l0 (by omega)
  · rw [e1 2 0 (by omega)]; exact d7
  · rw [e1 2 0 (by omega)]; exact d8
theorem x_keep {c0 c1 c2 : Int} (hc : tdC h b n a X ns nl C stk) (n0 : 0 ≤ nl) (n6 : nl < 60) (hR : ∀ h', fr PDr h h' → h' 9 = h 9 → tdC h' b n a X ns (nl + 1) (cAdd C nl c0 c1 c2 0 (-1)) stk → R (some (qi 1)) h') : qT (d + 2) 16 0 [qo 2 0, qo 1 1, qi c0, qi c1, qi c2] [] h R :=
  sX2_keep_0 (x_addLine hc n0 n6 (fun h' f' e9 hc' => ⟨by omega, hR h' f' e9 hc'⟩))
/-- what a reader of a part owes -/
def xOwe (h : qH) (b : Int → Int) (n : Int) (a : qB) (X : Int → Int) (ns nl : Int) (C : Nat → Int → Int) (stk : List (Int × Int)) (r : Rs dLn) (R : Option qV → qH → Prop) : Prop :=
  (∀ e, r = .inl e → ∀ h', fr PDr h h' → fC h' e → R (some (qi 0)) h') ∧ (∀ v : dLn, r = .inr v → ∀ h', fr PDr h h' → h' 9 0 3 0 = v.1 → tdC h' b n a X ns (nl + 1) (cAdd C nl v.2.1 v.2.2.1 v.2.2.2.1 v.2.2.2.2 (-1)) stk → R (some (qi 1)) h')
theorem xOwe_fr {g : qH} {r : Rs dLn} (ho : xOwe h b n a X ns nl C stk r R) (hf : fr PDr h g) : xOwe g b n a X ns nl C stk r R := ⟨fun e he h' f' F' => ho.1 e he h' (fr_trans hf f') F', fun v hv h' f' => ho.2 v hv h' (fr_trans hf f')⟩
theorem x_numKeep {lo hi q w : Int} {r : Rs dLn} (hr : r = rb (rdNum b n lo hi q) (fun v => .inr (v.2, w, v.1, 0, 0))) (hc : tdC h b n a X ns nl C stk) (h3 : h 9 0 3 0 = q) (q0 : 0 ≤ q) (qn : q ≤ n) (n0 : 0 ≤ nl) (n6 : nl < 60) (ho : xOwe h b n a X ns nl C stk r R) : qT (d + 3) 97 0 [qo 9 0, qi lo, qi hi] [] h (fun w1 g2 => qri w1 fun r3 => (r3 = 0 → ((0 : Int) = 0 ∨ (0 : Int) = 1) ∧ R (some (qi 0)) g2) ∧ (¬ (r3 = 0) → qT (d + 3) 16 0 [qo 2 0, qo 1 1, qi w, qi (g2 9 0 6 0), qi 0] [] g2 (fun w4 g5 => qri w4 fun r6 => (r6 = 0 → ((0 : Int) = 0 ∨ (0 : Int) = 1) ∧ R (some (qi 0)) g5) ∧ (¬ (r6 = 0) → ((1 : Int) = 0 ∨ (1 : Int) = 1) ∧ R (some (qi 1)) g5)))) := by
  refine x_takeNumber (p := q) hc.1 h3 q0 qn (fun e h1 g hf hF => ⟨fun _ => ⟨by omega, ho.1 e (by rw [hr]; exact rb_l h1) g (PTp_d hf) hF⟩, fun c => absurd rfl c⟩) (fun v p' h1 g hf g6 g3 => ⟨fun c => absurd c (by decide), fun _ => ?_⟩)
  rw [g6]
  refine x_keep (tdC_fr hc hf) n0 n6 (fun g2 f2 e9 hc2 => ⟨fun c => absurd c (by decide), fun _ => ⟨by omega, ho.2 (p', w, v, 0, 0) (by rw [hr, rb_r h1]) g2 (fr_trans (PTp_d hf) f2) (by rw [e9]; exact g3) hc2⟩⟩)
theorem x_readRest {w q : Int} (hw : w = 8 ∨ w = 9 ∨ w = 10 ∨ w = 11 ∨ w = 12 ∨ w = 16 ∨ w = 18) (hc : tdC h b n a X ns nl C stk) (hW : qwf B a) (hN : nmR X Y (a 0)) (h3 : h 9 0 3 0 = q) (q0 : 0 ≤ q) (qn : q ≤ n) (n0 : 0 ≤ nl) (n6 : nl < 60) (ho : xOwe h b n a X ns nl C stk (dsB b n Y (a 0) (a 1) w q) R) : qT (d + 4) 14 0 [qo 2 0, qi w, qo 9 0, qo 7 0, qo 1 1] [] h R := by
  have w0 := wf_n hW
  have w1 := wf_m hW
  refine sX2_readRest_0 ?_
  rw [qx_m hc.2.1]
  obtain ⟨r, hr⟩ : ∃ r, dsB b n Y (a 0) (a 1) w q = r := ⟨_, rfl⟩
  rw [hr] at ho
  unfold dsB at hr
  refine ⟨fun e => ⟨qR_of (by omega) (by omega), ?_⟩, fun n8 => ⟨fun e => ⟨qR_of (by omega) (by omega), ?_⟩, fun n9 => ⟨fun e => ?_, fun n10 => ⟨fun e => ?_, fun n11 => ⟨fun e => ?_, fun n12 => ⟨fun e => by omega, fun n13 => ⟨fun e => by omega, fun n14 => ⟨fun e => by omega, fun n15 => ⟨fun e => ?_, fun n16 => ⟨fun e => by omega, fun n17 => ?_⟩⟩⟩⟩⟩⟩⟩⟩⟩⟩
  · rw [if_pos (by omega)] at hr
    exact x_numKeep hr.symm hc h3 q0 qn n0 n6 ho
  · rw [if_pos (by omega)] at hr
    exact x_numKeep hr.symm hc h3 q0 qn n0 n6 ho
  · rw [if_neg (by omega), if_pos (by omega)] at hr
    exact x_numKeep hr.symm hc h3 q0 qn n0 n6 ho
  · rw [if_neg (by omega), if_neg (by omega), if_neg (by omega), if_pos (by omega)] at hr
    refine x_takePerson (p := q) (m := a 0) (X := X) (Y := Y) hc.1 h3 q0 qn (qx_n hc.2.1) w0.1 w0.2 hc.2.2.1 hN (fun e h1 g hf hF => ⟨fun _ => ⟨by omega, ho.1 e (by rw [← hr]; exact rb_l h1) g (PTp_d hf) hF⟩, fun c => absurd rfl c⟩) (fun i p' h1 hi g hf g11 g4 g3 => ⟨fun c => absurd c (by decide), fun _ => ?_⟩)
    have ep := (rdPer_i w0.1 h1).2.1
    have hE := tkE_b (b := b) (n := n) (p := q) qn
    have hs := tkS_b (b := b) (n := n) (p := q) qn
    rw [rb_r h1] at hr
    have hc1 := tdC_fr hc hf
    refine x_takeNumberT (p := p') hc1.1 g3 (by omega) (by omega) (fun e h2 g2 hf2 hF => ⟨fun _ => ⟨by omega, ho.1 e (by rw [← hr]; exact rb_l h2) g2 (fr_trans (PTp_d hf) (PTp_d (PTt_p hf2))) hF⟩, fun c => absurd rfl c⟩) (fun v p2 h2 g2 hf2 k6 k3 => ⟨fun c => absurd c (by decide), fun _ => ?_⟩)
    rw [rb_r h2] at hr
    rw [k6, show g2 9 0 11 0 = i by rw [hf2 9 0 11 (by omega)]; exact g11]
    exact x_keep (tdC_fr hc1 (PTt_p hf2)) n0 n6 (fun g3 f3 e9 hc3 => ⟨fun c => absurd c (by decide), fun _ => ⟨by omega, ho.2 (p2, w, i, v, 0) hr.symm g3 (fr_trans (PTp_d hf) (fr_trans (PTp_d (PTt_p hf2)) f3)) (by rw [e9]; exact k3) hc3⟩⟩)
  · rw [if_neg (by omega), if_neg (by omega), if_neg (by omega), if_neg (by omega), if_neg (by omega)] at hr
    exact x_keep hc n0 n6 (fun g f e9 hc2 => ⟨by omega, ho.2 (q, w, 0, 0, 0) hr.symm g f (by rw [e9]; exact h3) hc2⟩)
  · rw [if_neg (by omega), if_neg (by omega), if_pos (by omega)] at hr
    exact x_numKeep hr.symm hc h3 q0 qn n0 n6 ho
  · rw [if_neg (by omega), if_neg (by omega), if_neg (by omega), if_neg (by omega), if_neg (by omega)] at hr
    exact x_keep hc n0 n6 (fun g f e9 hc2 => ⟨by omega, ho.2 (q, w, 0, 0, 0) hr.symm g f (by rw [e9]; exact h3) hc2⟩)
end Dc
