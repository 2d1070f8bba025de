/-! the class reads DECADES: tests, the loop -/
section Dd
variable {d : Nat} {R : Option qV → qH → Prop} {h : qH} {b : Int → Int} {n p ns nl B : Int} {a : qB} {X Y : Int → Int} {C : Nat → Int → Int} {stk : List (Int × Int)}
theorem x_takeCompares {q : Int} (ht : txC h b n) (h3 : h 9 0 3 0 = q) (q0 : 0 ≤ q) (qn : q ≤ n) (he : ¬ (tkG b n q = 60 ∨ tkG b n q = 62 ∨ tkG b n q = 61) → ∀ h', fr PTp h h' → fC h' (amF b n q) → R (some (qi 0)) h') (hx : (tkG b n q = 60 ∨ tkG b n q = 62 ∨ tkG b n q = 61) → ∀ h', fr PTp h h' → h' 9 0 8 0 = tkG b n q → h' 9 0 3 0 = tkE b n q → R (some (qi 1)) h') : qT (d + 3) 98 0 [qo 9 0] [] h R := by
  refine sX9_takeCompares_0 (x_take ht h3 q0 qn (fun h4 g hf hk => ⟨fun _ => ?_, fun c => absurd (by decide) c⟩) (fun h4 g hf k1 k2 => ⟨fun c => absurd rfl c, fun _ => ⟨by omega, ?_⟩⟩))
  · rw [hk.2.2.2.2.2.1]
    have yes : (tkG b n q = 60 ∨ tkG b n q = 62 ∨ tkG b n q = 61) → R (some (qi 1)) g := fun e => hx e g hf hk.2.2.2.2.2.1 hk.2.2.1
    refine ⟨fun c => ⟨by omega, yes (by omega)⟩, fun c => ⟨fun c2 => ⟨by omega, yes (by omega)⟩, fun c2 => ⟨fun c3 => ⟨by omega, yes (by omega)⟩, fun c3 => x_fail (fun h' f' F' => ⟨fun _ => ⟨by omega, he (by omega) h' (fr_trans hf f') (by rw [amF_2 h4]; rw [hk.1] at F'; exact F')⟩, fun c4 => absurd rfl c4⟩)⟩⟩⟩
  · refine he ?_ g hf (by rw [amF_4 h4]; exact ⟨k1, k2⟩)
    unfold tkG
    rw [if_neg (by omega)]
    omega
theorem x_readCompares {t x q : Int} (hc : tdC h b n a X ns nl C stk) (h3 : h 9 0 3 0 = q) (q0 : 0 ≤ q) (qn : q ≤ n) (n0 : 0 ≤ nl) (n6 : nl < 60) (ho : xOwe h b n a X ns nl C stk (dsK b n t x q) R) : qT (d + 4) 19 0 [qo 2 0, qo 9 0, qo 1 1, qi t, qi x, qi 9, qu] [] h R := by
  have hE := tkE_b (b := b) (n := n) (p := q) qn
  have hs := tkS_b (b := b) (n := n) (p := q) qn
  unfold dsK at ho
  refine sX2_readCompares_0 (x_takeCompares hc.1 h3 q0 qn (fun ns g hf hF => ⟨fun c => absurd rfl c, fun _ => ⟨by omega, ho.1 _ (if_neg ns) g (PTp_d hf) hF⟩⟩) (fun ys g hf g8 g3 => ⟨fun _ => ?_, fun c => absurd (by decide) c⟩))
  rw [if_pos ys] at ho
  rw [g8]
  have hc1 := tdC_fr hc hf
  refine x_takeNumber (p := tkE b n q) hc1.1 g3 (by omega) (by omega) (fun e h2 g2 hf2 hF => ⟨fun c => absurd rfl c, fun _ => ⟨by omega, ho.1 e (rb_l h2) g2 (fr_trans (PTp_d hf) (PTp_d hf2)) hF⟩⟩) (fun v p2 h2 g2 hf2 k6 k3 => ⟨fun _ => ?_, fun c => absurd (by decide) c⟩)
  rw [k6]
  exact x_addLine (tdC_fr hc1 hf2) n0 n6 (fun g3 f3 e9 hc3 => ⟨by omega, ho.2 (p2, t, x, v, tkG b n q) (rb_r h2) g3 (fr_trans (PTp_d hf) (fr_trans (PTp_d hf2) f3)) (by rw [e9]; exact k3) hc3⟩)
theorem x_readTest {q : Int} (hc : tdC h b n a X ns nl C stk) (hW : qwf B a) (hN : nmR X Y (a 0)) (h3 : h 9 0 3 0 = q) (q0 : 0 ≤ q) (qn : q ≤ n) (n0 : 0 ≤ nl) (n6 : nl < 60) (ho : xOwe h b n a X ns nl C stk (dsT b n Y (a 0) (a 1) q) R) : qT (d + 5) 17 0 [qo 2 0, qo 9 0, qo 7 0, qo 1 1] [] h R := by
  have w0 := wf_n hW
  have w1 := wf_m hW
  have hE := tkE_b (b := b) (n := n) (p := q) qn
  have hs := tkS_b (b := b) (n := n) (p := q) qn
  have hE1 := tkE_b (b := b) (n := n) (p := tkE b n q) hE.2.1
  have hs1 := tkS_b (b := b) (n := n) (p := tkE b n q) hE.2.1
  obtain ⟨r, hr⟩ : ∃ r, dsT b n Y (a 0) (a 1) q = r := ⟨_, rfl⟩
  rw [hr] at ho
  unfold dsT at hr
  refine sX2_readTest_0 (x_take hc.1 h3 q0 qn (fun h4 g hf hk => ⟨fun _ => ?_, fun c => absurd (by decide) c⟩) (fun h4 g hf k1 k2 => ⟨fun c => absurd rfl c, fun _ => ⟨by omega, ?_⟩⟩))
  · have hc1 := tdC_fr hc hf
    have ho1 := xOwe_fr ho (PTp_d hf)
    rw [hk.2.2.2.2.1, qx_m hc1.2.1]
    have cmpK : ∀ (K : Option qV → qH → Prop), (fun w7 g8 => qri w7 fun r9 => (r9 = 0 → ((0 : Int) = 0 ∨ (0 : Int) = 1) ∧ R (some (qi 0)) g8) ∧ (¬ (r9 = 0) → ((1 : Int) = 0 ∨ (1 : Int) = 1) ∧ R (some (qi 1)) g8)) = K → ∀ k r, xOwe k b n a X ns nl C stk r R → xOwe k b n a X ns nl C stk r K := by
      intro K eK k r ho
      subst eK
      exact ⟨fun e he h' f' F' => ⟨fun _ => ⟨by omega, ho.1 e he h' f' F'⟩, fun c => absurd rfl c⟩, fun v hv h' f' k3 hc' => ⟨fun c => absurd c (by decide), fun _ => ⟨by omega, ho.2 v hv h' f' k3 hc'⟩⟩⟩
    refine ⟨fun e => ?_, fun n3 => ⟨fun e => ⟨qR_of (by omega) (by omega), ?_⟩, fun n5 => ⟨fun e => ?_, fun n14 => ⟨fun e => ?_, fun n15 => ?_⟩⟩⟩⟩
    · rw [if_neg (by omega), if_neg (by omega), if_neg (by omega), if_pos e] at hr
      refine x_takePerson (p := tkE b n q) (m := a 0) (X := X) (Y := Y) hc1.1 hk.2.2.1 (by omega) hE.2.1 (qx_n hc1.2.1) w0.1 w0.2 hc1.2.2.1 hN (fun e h1 g2 hf2 hF => ⟨fun _ => ⟨by omega, ho1.1 e (by rw [← hr]; exact rb_l h1) g2 (PTp_d hf2) hF⟩, fun c => absurd rfl c⟩) (fun i p' h1 hi g2 hf2 g11 g4 g3 => ⟨fun c => absurd c (by decide), fun _ => ?_⟩)
      have ep := (rdPer_i w0.1 h1).2.1
      rw [rb_r h1] at hr
      rw [g11]
      exact x_readCompares (tdC_fr hc1 hf2) g3 (by omega) (by omega) n0 n6 (cmpK _ rfl g2 _ (by rw [show dsK b n 3 i p' = r from hr]; exact xOwe_fr ho1 (PTp_d hf2)))
    · rw [if_neg (by omega), if_neg (by omega), if_pos e] at hr
      refine x_takeNumber (p := tkE b n q) hc1.1 hk.2.2.1 (by omega) hE.2.1 (fun e h1 g2 hf2 hF => ⟨fun _ => ⟨by omega, ho1.1 e (by rw [← hr]; exact rb_l h1) g2 (PTp_d hf2) hF⟩, fun c => absurd rfl c⟩) (fun i p' h1 g2 hf2 g6 g3 => ⟨fun c => absurd c (by decide), fun _ => ?_⟩)
      have ep := (rdNum_i h1).2.1
      rw [rb_r h1] at hr
      rw [g6]
      exact x_readCompares (tdC_fr hc1 hf2) g3 (by omega) (by omega) n0 n6 (cmpK _ rfl g2 _ (by rw [show dsK b n 5 i p' = r from hr]; exact xOwe_fr ho1 (PTp_d hf2)))
    · rw [if_pos e] at hr
      refine x_takePerson (p := tkE b n q) (m := a 0) (X := X) (Y := Y) hc1.1 hk.2.2.1 (by omega) hE.2.1 (qx_n hc1.2.1) w0.1 w0.2 hc1.2.2.1 hN (fun e h1 g2 hf2 hF => ⟨fun _ => ⟨by omega, ho1.1 e (by rw [← hr]; exact rb_l h1) g2 (PTp_d hf2) hF⟩, fun c => absurd rfl c⟩) (fun i p' h1 hi g2 hf2 g11 g4 g3 => ⟨fun c => absurd c (by decide), fun _ => ?_⟩)
      rw [rb_r h1] at hr
      rw [g11]
      exact x_keep (tdC_fr hc1 hf2) n0 n6 (fun g3' f3 e9 hc3 => ⟨fun c => absurd c (by decide), fun _ => ⟨by omega, ho1.2 (p', 14, i, 0, 0) hr.symm g3' (fr_trans (PTp_d hf2) f3) (by rw [e9]; exact g3) hc3⟩⟩)
    · rw [if_neg (by omega), if_pos e] at hr
      refine sX2_readLivesTest_0 ?_
      refine x_takePerson (p := tkE b n q) (m := a 0) (X := X) (Y := Y) hc1.1 hk.2.2.1 (by omega) hE.2.1 (qx_n hc1.2.1) w0.1 w0.2 hc1.2.2.1 hN (fun e h1 g2 hf2 hF => ⟨fun c => absurd rfl c, fun _ => ⟨by omega, by omega, ho1.1 e (by rw [← hr]; exact rb_l h1) g2 (PTp_d hf2) hF⟩⟩) (fun i p' h1 hi g2 hf2 g11 g4 g3 => ⟨fun _ => ?_, fun c => absurd (by decide) c⟩)
      have ep := (rdPer_i w0.1 h1).2.1
      rw [rb_r h1] at hr
      have hc2 := tdC_fr hc1 hf2
      refine x_takePerson (p := p') (m := a 0) (X := X) (Y := Y) hc2.1 g3 (by omega) (by omega) (qx_n hc2.2.1) w0.1 w0.2 hc2.2.2.1 hN (fun e h2 g4 hf4 hF => ⟨fun _ => ⟨by omega, by omega, ho1.1 e (by rw [← hr]; exact rb_l h2) g4 (fr_trans (PTp_d hf2) (PTp_d hf4)) hF⟩, fun c => absurd rfl c⟩) (fun j p2 h2 hj g4 hf4 k11 k4 k3 => ⟨fun c => absurd c (by decide), fun _ => ?_⟩)
      rw [rb_r h2] at hr
      rw [g11, k11]
      exact x_keep (tdC_fr hc2 hf4) n0 n6 (fun g5 f5 e9 hc5 => ⟨fun c => absurd c (by decide), fun _ => ⟨by omega, by omega, ho1.2 (p2, 15, i, j, 0) hr.symm g5 (fr_trans (PTp_d hf2) (fr_trans (PTp_d hf4) f5)) (by rw [e9]; exact k3) hc5⟩⟩)
    · rw [if_neg (by omega), if_neg (by omega), if_neg (by omega), if_neg (by omega)] at hr
      exact x_fail (fun h' f' F' => ⟨by omega, ho1.1 _ hr.symm h' (PTp_d f') (by rw [amF_2 h4]; rw [hk.1] at F'; exact F')⟩)
  · have ew : tkW b n q = -1 := by unfold tkW; rw [if_neg (by omega)]
    rw [if_neg (by omega), if_neg (by omega), if_neg (by omega), if_neg (by omega)] at hr
    exact ho.1 _ hr.symm g (PTp_d hf) (by rw [amF_4 h4]; exact ⟨k1, k2⟩)
/-- begin: what stands there; a STEP is counted -/
theorem x_begin {w : Int} (hw : tkW b n p = w) (n17 : w ≠ 17) (hc : tdC h b n a X ns nl C stk) (hk : tkC h b n p) (h4 : tkK b n p ≠ 4) (s0 : 0 ≤ ns) (s3 : stk.length ≤ 3) (he : ∀ e, dsA b n Y (a 0) (a 1) ns stk.length p = .inl e → ∀ h', fr PDr h h' → fC h' e → R (some (qi 0)) h') (hx : 0 ≤ stW w → dsA b n Y (a 0) (a 1) ns stk.length p = dsB b n Y (a 0) (a 1) w (tkE b n p) → ns < 30 → ∀ h', fr PDr h h' → h' 9 = h 9 → tdC h' b n a X (ns + 1) nl C (if w = 13 ∨ w = 16 then (ns, nl) :: stk else stk) → R (some (qi 1)) h') : qT (d + 2) 13 0 [qo 2 0, qi w, qo 9 0, qo 1 1, qu] [] h R := by
  obtain ⟨d1, d2, d3, d4, d5, d6, d7, d8⟩ := hc
  unfold dsA at he hx
  rw [hw] at he hx
  have stwn : ¬ (w = 13 ∨ w = 16 ∨ w = 18 ∨ (8 ≤ w ∧ w ≤ 12)) → stW w < 0 := fun c => by
    unfold stW
    rw [if_neg (by omega), if_neg (by omega), if_neg (by omega), if_neg (by omega), if_neg (by omega), if_neg (by omega), if_neg (by omega), if_neg (by omega)]; omega
  have stwy : (w = 13 ∨ w = 16 ∨ w = 18 ∨ (8 ≤ w ∧ w ≤ 12)) → 0 ≤ stW w := fun c => by
    unfold stW
    have : w = 8 ∨ w = 9 ∨ w = 10 ∨ w = 11 ∨ w = 12 ∨ w = 13 ∨ w = 16 ∨ w = 18 := by omega
    rcases this with e | e | e | e | e | e | e | e <;> subst e <;> decide
  have no : ¬ (w = 13 ∨ w = 16 ∨ w = 18 ∨ (8 ≤ w ∧ w ≤ 12)) → qT (d + 1) 89 0 [qo 9 0, qi 2] [] h (fun w1 g2 => qri w1 fun r3 => (r3 = 0 ∨ r3 = 1) ∧ R (some (qi r3)) g2) := fun c => x_fail (fun h' f' F' => ⟨by omega, he _ (if_pos (stwn c)) h' (PTp_d f') (by rw [amF_2 h4]; rw [hk.1] at F'; exact F')⟩)
  have go : ∀ x : Int, (w = 13 ∨ w = 16 ∨ w = 18 ∨ (8 ≤ w ∧ w ≤ 12)) → (x = if w = 13 ∨ w = 16 then 1 else 0) → qT (d + 2) 13 75 [qo 2 0, qi w, qo 9 0, qo 1 1, qi x] [] h R := by
    intro x cw ex
    have sy := stwy cw
    rw [if_neg (show ¬ stW w < 0 by omega)] at he hx
    refine tX2_begin_75 ?_
    rw [d4]
    refine ⟨fun c30 => tX2_begin_91 ?_, fun c30 => x_fail (fun h' f' F' => ⟨by omega, he _ (if_pos (by omega)) h' (PTp_d f') (by rw [hk.1] at F'; exact F')⟩)⟩
    rw [if_neg (show ¬ 30 ≤ ns by omega)] at he hx
    rw [d7]
    have last : ¬ ((w = 13 ∨ w = 16) ∧ 3 ≤ (stk.length : Int)) → qT (d + 2) 13 111 [qo 2 0, qi w, qo 9 0, qo 1 1, qi x] [] h R := by
      intro nd
      rw [if_neg nd] at hx
      refine tX2_begin_111 ?_
      rw [d4]
      refine ⟨qR_of (by omega) (by omega), tX2_begin_121 ?_⟩
      rw [up_j (by omega), up_j (by omega), d7, d5]
      refine ⟨fun cx => ⟨by omega, ?_⟩, fun cx => ?_⟩
      · have nw : ¬ (w = 13 ∨ w = 16) := fun e => by rw [if_pos e] at ex; omega
        rw [if_neg nw] at hx
        refine hx sy rfl c30 _ (fr_up (by omega)) (by funext i j; rw [up_j (by omega)]) ⟨?_, ?_, ?_, up_at, ?_, ?_, ?_, ?_⟩
        · unfold txC at *; rw [up_j (by omega), up_j (by omega), up_j (by omega)]; exact d1
        · exact qx_fr d2 (funext fun j => up_j (by omega))
        · rw [up_j (by omega)]; exact d3
        · rw [up_j (by omega)]; exact d5
        · intro j j5; rw [up_j (by omega)]; exact d6 j j5
        · rw [up_j (by omega)]; exact d7
        · rw [up_j (by omega)]; exact d8
      · have yw : w = 13 ∨ w = 16 := by
          by_cases e : w = 13 ∨ w = 16
          · exact e
          · rw [if_neg e] at ex; omega
        rw [if_pos yw] at hx
        refine ⟨by omega, qR_of (by omega) (by omega), by omega, ?_⟩
        refine hx sy rfl c30 _ (fr_trans (fr_up (by omega)) (fr_trans (fr_up (by omega)) (fr_up (by omega)))) (by funext i j; rw [up_j (by omega), up_j (by omega), up_j (by omega)]) ⟨?_, ?_, ?_, ?_, ?_, ?_, ?_, ?_, ?_⟩
        · unfold txC at *; rw [up_j (by omega), up_j (by omega), up_j (by omega), up_j (by omega), up_j (by omega), up_j (by omega), up_j (by omega), up_j (by omega), up_j (by omega)]; exact d1
        · exact qx_fr d2 (funext fun j => by rw [up_j (by omega), up_j (by omega), up_j (by omega)])
        · rw [up_j (by omega), up_j (by omega), up_j (by omega)]; exact d3
        · rw [up_j (by omega), up_j (by omega)]; exact up_at
        · rw [up_j (by omega), up_j (by omega), up_j (by omega)]; exact d5
        · intro j j5; rw [up_j (by omega), up_j (by omega), up_j (by omega)]; exact d6 j j5
        · rw [up_at, List.length_cons]; omega
        · show _ = nl
          rw [up_j (by omega)]; exact up_at
        · refine stkC_c stk (fun j j0 j1 => ?_) d8
          show qup _ 2 0 1 0 _ 2 0 0 (Int.toNat j) = h 2 0 0 (Int.toNat j)
          rw [up_j (by omega), up_k (by omega), up_j (by omega)]
    refine ⟨fun cx => last (fun e => by rw [if_pos e.1] at ex; omega), fun cx => ⟨fun c3 => last (by omega), fun c3 => ?_⟩⟩
    have yw : w = 13 ∨ w = 16 := by
      by_cases e : w = 13 ∨ w = 16
      · exact e
      · rw [if_neg e] at ex; omega
    exact x_fail (fun h' f' F' => ⟨by omega, he _ (if_pos ⟨yw, by omega⟩) h' (PTp_d f') (by rw [hk.1] at F'; exact F')⟩)
  refine tX2_begin_0 ⟨fun _ => ⟨fun c13 => tX2_begin_46 ⟨fun _ => go 1 (by omega) (by rw [if_pos (by omega)]), fun c => absurd (by decide) c⟩, fun c13 => ⟨fun c16 => tX2_begin_46 ⟨fun c => absurd rfl c, fun _ => ⟨fun c18 => go 0 (by omega) (by rw [if_neg (by omega)]), fun c18 => ⟨fun c8 => no (by omega), fun c8 => ⟨fun c12 => go 0 (by omega) (by rw [if_neg (by omega)]), fun c12 => no (by omega)⟩⟩⟩⟩, fun c16 => tX2_begin_46 ⟨fun _ => go 1 (by omega) (by rw [if_pos (by omega)]), fun c => absurd (by decide) c⟩⟩⟩, fun c => absurd n17 c⟩
end Dd
