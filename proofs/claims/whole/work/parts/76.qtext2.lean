/-! the class reads a part: person, stair, like, swap -/
section Qd
variable {d : Nat} {R : Option qV → qH → Prop} {h : qH} {b : Int → Int} {n p o c B : Int} {a : qB} {X Y : Int → Int}
theorem tqC_q {h' : qH} (hc : tqC h b n a X o c) {a' : qB} {X' : Int → Int} (hf : fr PQr h h') (hg : ∀ j, h' 8 0 j = h 8 0 j) (hQ : qQX h' 1 a') (hX : ∀ j, 0 ≤ j → j < a' 0 → h' 7 1 0 (Int.toNat j) = X' j) : tqC h' b n a' X' o c :=
  ⟨txC_q hc.1 hf, hQ, hX, by rw [hg]; exact hc.2.2.2.1, by rw [hg]; exact hc.2.2.2.2⟩
theorem x_readPerson (hc : tqC h b n a X o c) (hk : tkC h b n p) (pn : 0 ≤ p ∧ p ≤ n) (hW : qwf B a) (hN : nmR X Y (a 0)) {r : Rs (Int × qB)} (hr : r = if a 0 < 7 then qtP b n a Y (tkE b n p) else .inl (6, tkS b n p)) (he : ∀ e, qtZ b n r = .inl e → ∀ h', fr PQr h h' → fC h' e → R (some (qi 0)) h') (hx : ∀ q a', qtZ b n r = .inr (q, a') → ∀ h', fr PQr h h' → h' 9 0 3 0 = q → tqC h' b n a' (qtM 2 (a 0) (tkX b n (tkE b n p)) X) o c → R (some (qi 1)) h') : qT (d + 4) 83 0 [qo 8 0, qo 9 0, qo 7 1, qu] [] h R := by
  have hs := tkS_b (b := b) pn.2
  have hE := tkE_b (b := b) pn.2
  have w0 := wf_n hW
  obtain ⟨q, hq⟩ : ∃ q, tkE b n p = q := ⟨_, rfl⟩
  have hk3 : h 9 0 3 0 = q := by rw [← hq]; exact hk.2.2.1
  rw [hq] at hr hx hE
  refine sX8_readPerson_0 ?_
  rw [qx_n hc.2.1]
  refine ⟨fun c7 => ?_, fun c7 => x_qFail hk.1 (by rw [hr, if_neg c7]) he⟩
  rw [if_pos c7] at hr
  refine x_takeName (p := q) hc.1 hk3 (by omega) (by omega) (fun nn g hf hF => ⟨fun c2 => absurd rfl c2, fun _ => ⟨by omega, he _ (qtZ_l (by rw [hr]; unfold qtP; exact if_neg nn)) g (PTp_q hf) hF⟩⟩) (fun nn g hf g10 g4 g3 => ⟨fun _ => ?_, fun c2 => absurd (by decide) c2⟩)
  have hr2 : r = if 0 ≤ fnd Y (a 0) (tkY b n q) then .inl (3, tkS b n q) else qtO b n 3 3 (tkE b n q) (aCome a) := by rw [hr]; unfold qtP; rw [if_pos nn]
  have hc1 := tqC_fr hc hf
  have hE1 := tkE_b (b := b) (n := n) (p := q) (by omega)
  have hs1 := tkS_b (b := b) (n := n) (p := q) (by omega)
  rw [g10]
  refine x_findName (m := a 0) (X := X) (Y := Y) (y := tkY b n q) (qx_n hc1.2.1) w0.1 w0.2 hc1.2.2.1 hN (tk_nm (by omega) nn.1 nn.2.2) ?_
  dsimp only [qri]
  have fq := fnd_qfst (Y := Y) (y := tkY b n q) (a 0) w0.1
  refine ⟨fun c1 => ?_, fun c1 => x_qFail g4 (by rw [hr2, if_pos (by rcases fq with ⟨q0, _⟩ | ⟨q1, _⟩ <;> omega)]) (fun e h1 h' f' F' => he e h1 h' (fr_trans (PTp_q hf) f') F')⟩
  rw [if_neg (by omega)] at hr2
  rw [g10]
  refine x_addPerson hc1.2.1 hW c7 (fun k hQ kf kn => ?_)
  have kf' : fr PQr g k := fr_g7 kf (fun j => by omega)
  have hc2 : tqC k b n (aCome a 3) (qtM 2 (a 0) (tkX b n q) X) o c := tqC_q hc1 kf' (fun j => by rw [kf 8 0 (by omega)]) hQ (fun j j0 j1 => by
    have e0 : aCome a 3 0 = a 0 + 1 := by unfold aCome; rw [if_pos rfl]
    rw [e0] at j1
    rw [kn]
    unfold qtM
    by_cases cj : j = a 0
    · rw [if_pos (by omega), if_pos ⟨rfl, cj⟩]
    · rw [if_neg (by omega), if_neg (fun e => cj e.2)]; exact hc1.2.2.1 j j0 (by omega))
  have f2 : fr PQr h k := fr_trans (PTp_q hf) kf'
  obtain ⟨X', hX'⟩ : ∃ X', qtM 2 (a 0) (tkX b n q) X = X' := ⟨_, rfl⟩
  rw [hX'] at hc2 hx
  refine x_take (p := tkE b n q) hc2.1 (by rw [kf 9 0 (by omega)]; exact g3) (by omega) (by omega) (fun h4 g2 hf2 hk2 => ⟨fun _ => ?_, fun c2 => absurd (by decide) c2⟩) (fun h4 g2 hf2 k1 k2 => ⟨fun c2 => absurd rfl c2, fun _ => ⟨by omega, ?_⟩⟩)
  · have hc3 := tqC_fr hc2 hf2
    have f3 : fr PQr h g2 := fr_trans f2 (PTp_q hf2)
    rw [hk2.2.2.2.2.1]
    refine ⟨fun cw => ?_, fun cw => ?_⟩
    · exact x_qIsStop hc3 hk2 h4 (by rw [hr2]; unfold qtO; rw [if_neg cw]) (fun e h1 h' f' F' => he e h1 h' (fr_trans f3 f') F') (fun q' a' h1 h' f' => hx q' a' h1 h' (fr_trans f3 f'))
    · have cw := Decidable.not_not.mp cw
      have hr3 : r = rb (rdNum b n 0 9 (tkE b n (tkE b n q))) (fun v => .inr (v.2, aCome a v.1)) := by rw [hr2]; unfold qtO; rw [if_pos cw]
      have hE2 := tkE_b (b := b) (n := n) (p := tkE b n q) (by omega)
      have hs2 := tkS_b (b := b) (n := n) (p := tkE b n q) (by omega)
      refine x_hasPerson hc3.2.1 (fun _ _ => ⟨fun _ => ?_, fun c2 => absurd (by decide) c2⟩) (fun c2 => absurd ⟨w0.1, by unfold aCome; rw [if_pos rfl]; omega⟩ c2)
      refine x_takeNumber (p := tkE b n (tkE b n q)) hc3.1 hk2.2.2.1 (by omega) (by omega) (fun e h1 g4 hf4 hF => ⟨fun c2 => absurd rfl c2, fun _ => ⟨by omega, he e (qtZ_l (by rw [hr3]; exact rb_l h1)) g4 (fr_trans f3 (PTp_q hf4)) hF⟩⟩) (fun v p' h1 g4 hf4 k6 k3 => ⟨fun _ => ⟨by omega, ?_⟩, fun c2 => absurd (by decide) c2⟩)
      have hi := rdNum_i h1
      have hc4 := tqC_fr hc3 hf4
      have hE3 := tkE_b (b := b) (n := n) (p := tkE b n (tkE b n q)) (by omega)
      have hs3 := tkS_b (b := b) (n := n) (p := tkE b n (tkE b n q)) (by omega)
      rw [k6]
      have al := asl_temp (p := a 0) w0.1 c7
      have hc5 : tqC (qup g4 7 1 1 (Int.toNat (a 0)) v) b n (aCome a v) X' o c := tqC_q hc4 (fr_up (by omega)) (fun j => up_j (by omega)) (by rw [← come_set w0.1]; exact qx_put' hc4.2.1 (by omega) al.1 al.2) (fun j j0 j1 => by rw [up_j (by omega)]; exact hc4.2.2.1 j j0 j1)
      have f5 : fr PQr h (qup g4 7 1 1 (Int.toNat (a 0)) v) := fr_trans f3 (fr_trans (PTp_q hf4) (fr_up (by omega)))
      exact x_qStop (q := p') hc5 (by rw [up_j (by omega)]; exact k3) (by omega) (by omega) (by rw [hr3, rb_r h1]) (fun e h1 h' f' F' => he e h1 h' (fr_trans f5 f') F') (fun q' a' h1 h' f' => hx q' a' h1 h' (fr_trans f5 f'))
  · have e1 : r = .inr (tkE b n q, aCome a 3) := by
      rw [hr2]; unfold qtO; rw [if_neg]
      unfold tkW; rw [if_neg (by omega)]; omega
    have e2 : rdStop b n (tkE b n q) = .inl (amF b n (tkE b n q)) := rdStop_n (fun e => by have := tkG_n4 e; omega)
    exact he _ (qtZ_e e1 e2) g2 (fr_trans f2 (PTp_q hf2)) (by rw [amF_4 h4]; exact ⟨k1, k2⟩)
theorem x_readStair (hc : tqC h b n a X o c) (hk : tkC h b n p) (pn : 0 ≤ p ∧ p ≤ n) (hW : qwf B a) (hN : nmR X Y (a 0)) {r : Rs (Int × qB)} (hr : r = if a 1 < 10 then qtS b n a Y (tkE b n p) else .inl (6, tkS b n p)) (he : ∀ e, qtZ b n r = .inl e → ∀ h', fr PQr h h' → fC h' e → R (some (qi 0)) h') (hx : ∀ q a', qtZ b n r = .inr (q, a') → ∀ h', fr PQr h h' → h' 9 0 3 0 = q → tqC h' b n a' X o c → R (some (qi 1)) h') : qT (d + 4) 84 0 [qo 8 0, qo 9 0, qo 7 1, qu, qu] [] h R := by
  have hs := tkS_b (b := b) pn.2
  have hE := tkE_b (b := b) pn.2
  have w0 := wf_n hW
  have w1 := wf_m hW
  obtain ⟨q, hq⟩ : ∃ q, tkE b n p = q := ⟨_, rfl⟩
  have hk3 : h 9 0 3 0 = q := by rw [← hq]; exact hk.2.2.1
  rw [hq] at hr hE
  refine sX8_readStair_0 ?_
  rw [qx_m hc.2.1]
  refine ⟨fun c7 => ?_, fun c7 => x_qFail hk.1 (by rw [hr, if_neg c7]) he⟩
  rw [if_pos c7] at hr
  unfold qtS at hr
  have hE1 := tkE_b (b := b) (n := n) (p := q) (by omega)
  have hs1 := tkS_b (b := b) (n := n) (p := q) (by omega)
  refine x_takePerson (p := q) (m := a 0) (X := X) (Y := Y) hc.1 hk3 (by omega) (by omega) (qx_n hc.2.1) w0.1 w0.2 hc.2.2.1 hN (fun e h1 g hf hF => ⟨fun c2 => absurd rfl c2, fun _ => ⟨by omega, he e (qtZ_l (by rw [hr]; exact rb_l h1)) g (PTp_q hf) hF⟩⟩) (fun i p' h1 hi g hf g11 g4 g3 => ⟨fun _ => ?_, fun c2 => absurd (by decide) c2⟩)
  have ep := (rdPer_i w0.1 h1).2.1
  have hE2 := tkE_b (b := b) (n := n) (p := p') (by omega)
  have hs2 := tkS_b (b := b) (n := n) (p := p') (by omega)
  rw [rb_r h1] at hr
  have hc1 := tqC_fr hc hf
  refine x_takePerson (p := p') (m := a 0) (X := X) (Y := Y) hc1.1 g3 (by omega) (by omega) (qx_n hc1.2.1) w0.1 w0.2 hc1.2.2.1 hN (fun e h2 g2 hf2 hF => ⟨fun c2 => absurd rfl c2, fun _ => ⟨by omega, he e (qtZ_l (by rw [hr]; exact rb_l h2)) g2 (fr_trans (PTp_q hf) (PTp_q hf2)) hF⟩⟩) (fun j p2 h2 hj g2 hf2 k11 k4 k3 => ⟨fun _ => ?_, fun c2 => absurd (by decide) c2⟩)
  have ep2 := (rdPer_i w0.1 h2).2.1
  rw [rb_r h2] at hr
  have hc2 := tqC_fr hc1 hf2
  have f2 : fr PQr h g2 := fr_trans (PTp_q hf) (PTp_q hf2)
  have again : ∀ k, fr PQr h k → k 9 0 4 0 = tkS b n p' → (i = j ∨ qtE a i j) → qT (d + 3) 89 0 [qo 9 0, qi 5] [] k (fun w g => qri w fun r => (r = 0 ∨ r = 1) ∧ R (some (qi r)) g) := fun k fk k4 hh => x_qFail k4 (by rw [hr]; exact if_pos hh) (fun e h1 h' f' F' => he e h1 h' (fr_trans fk f') F')
  rw [g11, k11]
  refine ⟨fun e => again g2 f2 k4 (Or.inl e.symm), fun ne => x_hasStairBetween hc2.2.1 hW (fun hex => ⟨fun c2 => absurd c2 (by decide), fun _ => again g2 f2 k4 (Or.inr ?_)⟩) (fun hex => ⟨fun _ => ?_, fun c2 => absurd rfl c2⟩)⟩
  · obtain ⟨s, s0, s1, s2, s3⟩ := hex
    exact ⟨s, s0, s1, by omega⟩
  rw [if_neg (show ¬ (i = j ∨ qtE a i j) by
    rintro (e | ⟨s, s0, s1, s2⟩)
    · exact ne e.symm
    · exact hex ⟨s, s0, s1, by omega, by omega⟩)] at hr
  rw [k11]
  refine x_addStair hc2.2.1 hW c7 (fun k hQ kf => ?_)
  have kf' : fr PQr g2 k := fr_f7 kf (fun j _ => by omega)
  have eb0 : ∀ v, aBuild a i j v 0 = a 0 := fun v => by unfold aBuild; rw [aSet_ne (by omega), aSet_ne (by omega), aSet_ne (by omega), aSet_ne (by omega)]
  have eb1 : ∀ v, aBuild a i j v 1 = a 1 + 1 := fun v => by unfold aBuild; rw [aSet_eq rfl]
  have hc3 : tqC k b n (aBuild a i j 0) X o c := tqC_q hc2 kf' (fun j => by rw [kf.1 8 0 (by omega)]) hQ (fun j' j0 j1 => by rw [kf.2]; exact hc2.2.2.1 j' j0 (by rw [eb0] at j1; exact j1))
  have f3 : fr PQr h k := fr_trans f2 kf'
  have hE3 := tkE_b (b := b) (n := n) (p := p2) (by omega)
  have hs3 := tkS_b (b := b) (n := n) (p := p2) (by omega)
  refine x_take (p := p2) hc3.1 (by rw [kf.1 9 0 (by omega)]; exact k3) (by omega) (by omega) (fun h4 g3 hf3 hk2 => ⟨fun _ => ?_, fun c2 => absurd (by decide) c2⟩) (fun h4 g3 hf3 k1 k2 => ⟨fun c2 => absurd rfl c2, fun _ => ⟨by omega, ?_⟩⟩)
  · have hc4 := tqC_fr hc3 hf3
    have f4 : fr PQr h g3 := fr_trans f3 (PTp_q hf3)
    rw [hk2.2.2.2.2.1]
    refine ⟨fun cw => ?_, fun cw => ?_⟩
    · exact x_qIsStop hc4 hk2 h4 (by rw [hr]; unfold qtO; rw [if_neg cw]) (fun e h1 h' f' F' => he e h1 h' (fr_trans f4 f') F') (fun q' a' h1 h' f' => hx q' a' h1 h' (fr_trans f4 f'))
    · have cw := Decidable.not_not.mp cw
      have hr3 : r = rb (rdNum b n 0 9 (tkE b n p2)) (fun v => .inr (v.2, aBuild a i j v.1)) := by rw [hr]; unfold qtO; rw [if_pos cw]
      refine x_hasStair hc4.2.1 (fun _ _ => ⟨fun _ => ?_, fun c2 => absurd (by decide) c2⟩) (fun c2 => absurd ⟨w1.1, by rw [eb1]; omega⟩ c2)
      refine x_takeNumber (p := tkE b n p2) hc4.1 hk2.2.2.1 (by omega) (by omega) (fun e h1 g4 hf4 hF => ⟨fun c2 => absurd rfl c2, fun _ => ⟨by omega, he e (qtZ_l (by rw [hr3]; exact rb_l h1)) g4 (fr_trans f4 (PTp_q hf4)) hF⟩⟩) (fun v p3 h1 g4 hf4 l6 l3 => ⟨fun _ => ⟨by omega, ?_⟩, fun c2 => absurd (by decide) c2⟩)
      have hi := rdNum_i h1
      have hc5 := tqC_fr hc4 hf4
      have hE4 := tkE_b (b := b) (n := n) (p := tkE b n p2) (by omega)
      have hs4 := tkS_b (b := b) (n := n) (p := tkE b n p2) (by omega)
      rw [l6]
      have al := asl_grud (s := a 1) w1.1 c7
      have hc6 : tqC (qup g4 7 1 6 (Int.toNat (a 1)) v) b n (aBuild a i j v) X o c := tqC_q hc5 (fr_up (by omega)) (fun j => up_j (by omega)) (by rw [← build_set w1.1]; exact qx_put' hc5.2.1 (by omega) al.1 al.2) (fun j' j0 j1 => by rw [up_j (by omega)]; exact hc5.2.2.1 j' j0 (by rw [eb0] at j1 ⊢; exact j1))
      have f5 : fr PQr h (qup g4 7 1 6 (Int.toNat (a 1)) v) := fr_trans f4 (fr_trans (PTp_q hf4) (fr_up (by omega)))
      exact x_qStop (q := p3) hc6 (by rw [up_j (by omega)]; exact l3) (by omega) (by omega) (by rw [hr3, rb_r h1]) (fun e h1 h' f' F' => he e h1 h' (fr_trans f5 f') F') (fun q' a' h1 h' f' => hx q' a' h1 h' (fr_trans f5 f'))
  · have e1 : r = .inr (p2, aBuild a i j 0) := by
      rw [hr]; unfold qtO
      exact if_neg (show ¬ tkW b n p2 = 5 by unfold tkW; rw [if_neg (show ¬ tkK b n p2 = 1 by omega)]; omega)
    have e2 : rdStop b n p2 = .inl (amF b n p2) := rdStop_n (fun e => by have := tkG_n4 e; omega)
    exact he _ (qtZ_e e1 e2) g3 (fr_trans f3 (PTp_q hf3)) (by rw [amF_4 h4]; exact ⟨k1, k2⟩)
theorem x_readLike (hc : tqC h b n a X o c) (hk : tkC h b n p) (pn : 0 ≤ p ∧ p ≤ n) (hW : qwf B a) (hN : nmR X Y (a 0)) {r : Rs (Int × qB)} (hr : r = qtL b n a Y (tkE b n p)) (he : ∀ e, qtZ b n r = .inl e → ∀ h', fr PQr h h' → fC h' e → R (some (qi 0)) h') (hx : ∀ q a', qtZ b n r = .inr (q, a') → ∀ h', fr PQr h h' → h' 9 0 3 0 = q → tqC h' b n a' X o c → R (some (qi 1)) h') : qT (d + 4) 85 0 [qo 8 0, qo 9 0, qo 7 1, qu, qu] [] h R := by
  have hs := tkS_b (b := b) pn.2
  have hE := tkE_b (b := b) pn.2
  have w0 := wf_n hW
  obtain ⟨q, hq⟩ : ∃ q, tkE b n p = q := ⟨_, rfl⟩
  have hk3 : h 9 0 3 0 = q := by rw [← hq]; exact hk.2.2.1
  rw [hq] at hr hE
  unfold qtL at hr
  have hE1 := tkE_b (b := b) (n := n) (p := q) (by omega)
  have hs1 := tkS_b (b := b) (n := n) (p := q) (by omega)
  refine sX8_readLike_0 ?_
  refine x_takePerson (p := q) (m := a 0) (X := X) (Y := Y) hc.1 hk3 (by omega) (by omega) (qx_n hc.2.1) w0.1 w0.2 hc.2.2.1 hN (fun e h1 g hf hF => ⟨fun c2 => absurd rfl c2, fun _ => ⟨by omega, he e (qtZ_l (by rw [hr]; exact rb_l h1)) g (PTp_q hf) hF⟩⟩) (fun i p' h1 hi g hf g11 g4 g3 => ⟨fun _ => ?_, fun c2 => absurd (by decide) c2⟩)
  have ep := (rdPer_i w0.1 h1).2.1
  have hE2 := tkE_b (b := b) (n := n) (p := p') (by omega)
  have hs2 := tkS_b (b := b) (n := n) (p := p') (by omega)
  rw [rb_r h1] at hr
  have hc1 := tqC_fr hc hf
  refine x_takePerson (p := p') (m := a 0) (X := X) (Y := Y) hc1.1 g3 (by omega) (by omega) (qx_n hc1.2.1) w0.1 w0.2 hc1.2.2.1 hN (fun e h2 g2 hf2 hF => ⟨fun c2 => absurd rfl c2, fun _ => ⟨by omega, he e (qtZ_l (by rw [hr]; exact rb_l h2)) g2 (fr_trans (PTp_q hf) (PTp_q hf2)) hF⟩⟩) (fun j p2 h2 hj g2 hf2 k11 k4 k3 => ⟨fun _ => ?_, fun c2 => absurd (by decide) c2⟩)
  have ep2 := (rdPer_i w0.1 h2).2.1
  have hE3 := tkE_b (b := b) (n := n) (p := p2) (by omega)
  have hs3 := tkS_b (b := b) (n := n) (p := p2) (by omega)
  rw [rb_r h2] at hr
  have hc2 := tqC_fr hc1 hf2
  have f2 : fr PQr h g2 := fr_trans (PTp_q hf) (PTp_q hf2)
  refine x_takeNumber (p := p2) hc2.1 k3 (by omega) (by omega) (fun e h3 g4 hf4 hF => ⟨fun c2 => absurd rfl c2, fun _ => ⟨by omega, he e (qtZ_l (by rw [hr]; exact rb_l h3)) g4 (fr_trans f2 (PTp_q hf4)) hF⟩⟩) (fun v p3 h3 g4 hf4 l6 l3 => ⟨fun _ => ?_, fun c2 => absurd (by decide) c2⟩)
  have hi3 := rdNum_i h3
  have hc3 := tqC_fr hc2 hf4
  rw [rb_r h3] at hr
  rw [g11, k11, l6]
  have al := asl_like (p := i) (q := j) hi.1 (by omega) hj.1 (by omega)
  refine sX7_setLiking_0 ⟨qR_of (by omega) (by omega), qR_of (by omega) (by omega), by omega, ?_⟩
  have hc4 : tqC (qup g4 7 1 3 (Int.toNat (i * 7 + j)) v) b n (aSet a (21 + 7 * i + j) v) X o c := tqC_q hc3 (fr_up (by omega)) (fun j => up_j (by omega)) (qx_put' hc3.2.1 (by omega) al.1 al.2) (fun j' j0 j1 => by rw [up_j (by omega)]; exact hc3.2.2.1 j' j0 (by rw [aSet_ne (by omega)] at j1; exact j1))
  have f4 : fr PQr h (qup g4 7 1 3 (Int.toNat (i * 7 + j)) v) := fr_trans f2 (fr_trans (PTp_q hf4) (fr_up (by omega)))
  exact x_qStop (q := p3) hc4 (by rw [up_j (by omega)]; exact l3) (by omega) (by omega) hr (fun e h1 h' f' F' => he e h1 h' (fr_trans f4 f') F') (fun q' a' h1 h' f' => hx q' a' h1 h' (fr_trans f4 f'))
theorem x_readSwap (hc : tqC h b n a X o c) (hk : tkC h b n p) (pn : 0 ≤ p ∧ p ≤ n) (hW : qwf B a) (hN : nmR X Y (a 0)) {r : Rs (Int × qB)} (hr : r = qtV b n a Y (tkE b n p)) (he : ∀ e, qtZ b n r = .inl e → ∀ h', fr PQr h h' → fC h' e → R (some (qi 0)) h') (hx : ∀ q a', qtZ b n r = .inr (q, a') → ∀ h', fr PQr h h' → h' 9 0 3 0 = q → tqC h' b n a' X o c → R (some (qi 1)) h') : qT (d + 4) 86 0 [qo 8 0, qo 9 0, qo 7 1, qu] [] h R := by
  have hs := tkS_b (b := b) pn.2
  have hE := tkE_b (b := b) pn.2
  have w0 := wf_n hW
  obtain ⟨q, hq⟩ : ∃ q, tkE b n p = q := ⟨_, rfl⟩
  have hk3 : h 9 0 3 0 = q := by rw [← hq]; exact hk.2.2.1
  rw [hq] at hr hE
  unfold qtV at hr
  have hE1 := tkE_b (b := b) (n := n) (p := q) (by omega)
  have hs1 := tkS_b (b := b) (n := n) (p := q) (by omega)
  refine sX8_readSwap_0 ?_
  refine x_takePerson (p := q) (m := a 0) (X := X) (Y := Y) hc.1 hk3 (by omega) (by omega) (qx_n hc.2.1) w0.1 w0.2 hc.2.2.1 hN (fun e h1 g hf hF => ⟨fun c2 => absurd rfl c2, fun _ => ⟨by omega, he e (qtZ_l (by rw [hr]; exact rb_l h1)) g (PTp_q hf) hF⟩⟩) (fun i p' h1 hi g hf g11 g4 g3 => ⟨fun _ => ?_, fun c2 => absurd (by decide) c2⟩)
  have ep := (rdPer_i w0.1 h1).2.1
  have hE2 := tkE_b (b := b) (n := n) (p := p') (by omega)
  have hs2 := tkS_b (b := b) (n := n) (p := p') (by omega)
  rw [rb_r h1] at hr
  have hc1 := tqC_fr hc hf
  refine x_takePerson (p := p') (m := a 0) (X := X) (Y := Y) hc1.1 g3 (by omega) (by omega) (qx_n hc1.2.1) w0.1 w0.2 hc1.2.2.1 hN (fun e h2 g2 hf2 hF => ⟨fun c2 => absurd rfl c2, fun _ => ⟨by omega, he e (qtZ_l (by rw [hr]; exact rb_l h2)) g2 (fr_trans (PTp_q hf) (PTp_q hf2)) hF⟩⟩) (fun j p2 h2 hj g2 hf2 k11 k4 k3 => ⟨fun _ => ?_, fun c2 => absurd (by decide) c2⟩)
  have ep2 := (rdPer_i w0.1 h2).2.1
  have hE3 := tkE_b (b := b) (n := n) (p := p2) (by omega)
  have hs3 := tkS_b (b := b) (n := n) (p := p2) (by omega)
  rw [rb_r h2] at hr
  have hc2 := tqC_fr hc1 hf2
  have f2 : fr PQr h g2 := fr_trans (PTp_q hf) (PTp_q hf2)
  rw [g11, k11]
  refine ⟨fun ne => ?_, fun e => x_qFail k4 (by rw [hr]; exact if_pos (by show i = j; omega)) (fun e h1 h' f' F' => he e h1 h' (fr_trans f2 f') F')⟩
  rw [if_neg (show ¬ i = j by omega)] at hr
  refine x_exchange hc2.2.1 hW hi.1 hi.2 hj.1 hj.2 (fun k hQ kf => ?_)
  have kf' : fr PQr g2 k := fr_f7 kf (fun j _ => by omega)
  have hc3 : tqC k b n (aSwap a i j) X o c := tqC_q hc2 kf' (fun j => by rw [kf.1 8 0 (by omega)]) hQ (fun j' j0 j1 => by rw [kf.2]; exact hc2.2.2.1 j' j0 (by rw [aSwap_ne (by omega) (by omega)] at j1; exact j1))
  have f3 : fr PQr h k := fr_trans f2 kf'
  exact x_qStop (q := p2) hc3 (by rw [kf.1 9 0 (by omega)]; exact k3) (by omega) (by omega) hr (fun e h1 h' f' F' => he e h1 h' (fr_trans f3 f') F') (fun q' a' h1 h' f' => hx q' a' h1 h' (fr_trans f3 f'))
end Qd
