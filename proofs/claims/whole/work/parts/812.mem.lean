section SNE
variable {adr : qA} {dA : Nat → ClassId} {A : Nat → Prop} {D : va_G} {L : Nat} {xs : Nat → Int32} {p : Program} {l : Launch} {e : Env} {Rm : Room} {s : State} {m : MethodId} {args : Array Value} {below : List Frame} {meth : Method} {c : Code} {Q : State → Prop} {y k0 n0 : Nat}
variable {pc : Nat} {ls st : List qV} {h : qH}
theorem qTab {cA : ClassId} {i : Nat} {ty : FieldType} (hh : (qtys dA)[i]? = some (cA, ty)) : (qtys dA)[i]? = some (cA, ty) := hh
theorem qat_3 {c j : Nat} (hk : (qal c j).1 = 3) : qat c j = 3 ∨ qat c j = 4 ∨ qat c j = 5 := by
  unfold qat
  rw [hk]
  show (match j with | 0 => 3 | 8 => 4 | _ => 5) = 3 ∨ (match j with | 0 => 3 | 8 => 4 | _ => 5) = 4 ∨ (match j with | 0 => 3 | 8 => 4 | _ => 5) = 5
  split
  · exact Or.inl rfl
  · exact Or.inr (Or.inl rfl)
  · exact Or.inr (Or.inr rfl)
/-- a field is read -/
theorem z_get (F : qFr adr dA A D L xs p s m args c y Rm) {idx a b k : Nat} {z : Int} {cs : List (Int × Nat)} (hd : decode (qby y) pc = .ok (.getfield idx, 3)) (hex : qex y pc (.getfield idx, pc + 3, a, b, k, z, cs)) (H : qget (.getfield idx, pc + 3, a, b, k, z, cs) ls st h (qZ adr dA A D L xs p l e Rm s m args below meth c Q y k0 n0)) : qZ adr dA A D L xs p l e Rm s m args below meth c Q y k0 n0 pc ls st h := by
  obtain ⟨hx, hb, hml, hown, hts, hK, hO, hD, hfr, hlo⟩ := F
  obtain ⟨C, T, N, hc, hbN, hlk, hfk, hob⟩ := hex
  dsimp only at hc hbN hlk hfk hob
  obtain ⟨hin, hnf, -⟩ := qC_cls hc
  obtain ⟨c', i, r, rfl, hcc, G⟩ := qget_of H
  clear H
  dsimp only at hcc G
  subst hcc
  have go : ∀ (v : qV), (qhok h → (c', i, 0) ∈ qids → qvok v) → qfv adr h c' i b = qtr adr v → qZ adr dA A D L xs p l e Rm s m args below meth c Q y k0 n0 (pc + 3) ls (v :: r) h → qZ adr dA A D L xs p l e Rm s m args below meth c Q y k0 n0 pc ls (qo c' i :: r) h := by
    intro v hv1 hv2 Hz
    refine z_st Hz (fun hh _ hst => qs_c (hv1 hh (qs_h hst)) (qs_t hst)) (fun lsr H locs hst hl hh ho hP hS w => ?_)
    obtain ⟨q0, hq0, hq1⟩ := qws_at (adr := adr) (dA := dA) (h := h) (qs_h hst)
    refine va_get hx hb hts hin hown hK hP q0 hq1 hc b hbN (hts _ hlk) (fun _ q => q) (v := qtr adr v) ?_ hd w
    rw [List.getElem?_map, List.getElem?_range (by rw [hnf]; exact hbN), Option.map_some, hv2]
  rcases G with ⟨h1, H⟩ | ⟨h1, H⟩ | ⟨h1, c'', i'', w, h2, H⟩ | ⟨h1, h2, h3, H⟩
  · subst h1
    refine go (ql (h c' i b 0)) (fun hh _ => ?_) ?_ H
    · have := hh c' i b 0
      show qRL _
      unfold qsk at this
      have hne : (qal c' b).1 ≠ 0 ∧ (qal c' b).1 ≠ 1 ∧ (qal c' b).1 ≠ 2 := qal_sc hc hbN (by rw [hfk]; decide)
      rw [hfk] at this
      split at this
      · rename_i q; exact absurd q hne.1
      · exact this
      · rename_i q; exact absurd q hne.2.2
      · exact this
    · unfold qfv; rw [hfk]; rfl
  · subst h1
    refine go (qa c' i b) (fun _ hm => Or.inl (qids_arr hm hc hbN hfk)) ?_ H
    unfold qfv; rw [hfk]; rfl
  · subst h1
    obtain ⟨c3, i3, w3, e1, e2⟩ := hob rfl
    rw [h2] at e1
    cases e1
    refine go (qo c''.toNat i'') (fun _ hm => qids_obj hm hc hbN hfk e2) ?_ H
    unfold qfv; rw [hfk]
    show Value.ref (adr ((qfo c' b).1, (qfo c' b).2, 0)) = _
    rw [e2]
    rfl
  · refine go (qi (h c' i b 0)) (fun hh _ => qrg_R ?_ (hh c' i b 0)) ?_ H
    · unfold qsk
      have hne : (qal c' b).1 ≠ 0 ∧ (qal c' b).1 ≠ 1 ∧ (qal c' b).1 ≠ 2 := qal_sc hc hbN (by rw [hfk]; exact h2)
      rw [hfk]
      split
      · decide
      · rename_i q; exact absurd q hne.2.1
      · decide
      · split
        · exact absurd rfl h1
        · decide
    · unfold qfv; rw [hfk]
      split
      · exact absurd rfl h1
      · exact absurd rfl h2
      · exact absurd rfl h3
      · rfl
/-- a field is written -/
theorem z_put (F : qFr adr dA A D L xs p s m args c y Rm) {idx a b k : Nat} {z : Int} {cs : List (Int × Nat)} (hd : decode (qby y) pc = .ok (.putfield idx, 3)) (hex : qex y pc (.putfield idx, pc + 3, a, b, k, z, cs)) (H : qput (.putfield idx, pc + 3, a, b, k, z, cs) ls st h (qZ adr dA A D L xs p l e Rm s m args below meth c Q y k0 n0)) : qZ adr dA A D L xs p l e Rm s m args below meth c Q y k0 n0 pc ls st h := by
  obtain ⟨hx, hb, hml, hown, hts, hK, hO, hD, hfr, hlo⟩ := F
  obtain ⟨C, T, N, hc, hbN, hlk, hfk, hfin, hpd⟩ := hex
  dsimp only at hc hbN hlk hfk hfin hpd
  obtain ⟨hin, hnf, ty0, hty, hnm⟩ := qC_cls hc
  obtain ⟨c', i, r, hcc, G⟩ := qput_of H
  clear H
  dsimp only at hcc G
  subst hcc
  have go : ∀ (v : qV) (x : Int), k ≠ 2 → k ≠ 3 → (qvok v → qrg (qsk c' b) x) → (qvok v → narrow (qfty k) (qtr adr v) = qtr adr v ∧ fits (qfty k) (qtr adr v) = true) → qfv adr (qup h c' i b 0 x) c' i b = qtr adr v → qZ adr dA A D L xs p l e Rm s m args below meth c Q y k0 n0 (pc + 3) ls r (qup h c' i b 0 x) → qZ adr dA A D L xs p l e Rm s m args below meth c Q y k0 n0 pc ls (v :: qo c' i :: r) h := by
    intro v x hk2 hk3 hv0 hv1 hv2 Hz
    refine z_hp Hz (fun hst => qs_t (qs_t hst)) (fun hh hst => qhok_up hh (hv0 (qs_h hst))) (fun hst c i j k hc90 => qup_ne (fun q => ?_)) (fun lsr H locs hsz hst hh hP hS w => ?_)
    · have := qids_0 (qs_h (qs_t hst)); omega
    · obtain ⟨q0, hq0, hq1⟩ := qws_at (adr := adr) (dA := dA) (h := h) (qs_h (qs_t hst))
      refine va_put hx hb hts hin ty0 hty hnm hown hK hP (hD h) hS q0 hq1 hc b hbN (hts _ hlk) (fun _ q => q) hfin hpd (hv1 (qs_h hst)).1 (hv1 (qs_h hst)).2 ?_ hd (fun H1 locs1 hP1 hD1 hS1 => w H1 locs1 ?_ hS1)
      · rw [List.length_map, List.length_range, hnf]; exact hbN
      · rw [← qws_put hq0 (by rw [hfk]; exact hk2) (by rw [hnf]; exact hbN) hv2]
        exact hP1
  rcases G with ⟨x, rfl, hk, H⟩ | ⟨x, rfl, hk, H⟩
  · rcases hk with hk | ⟨hk, hx01⟩
    · subst hk
      refine go (qi x) x (by decide) (by decide) (fun hv => ?_) (fun _ => ⟨rfl, rfl⟩) ?_ H
      · have hne : (qal c' b).1 ≠ 0 ∧ (qal c' b).1 ≠ 1 ∧ (qal c' b).1 ≠ 2 := qal_sc hc hbN (by rw [hfk]; decide)
        unfold qsk
        rw [hfk]
        split
        · exact hv
        · rename_i q; exact absurd q hne.2.1
        · rename_i q; exact absurd q hne.2.2
        · exact hv
      · unfold qfv; rw [hfk]
        show Value.int (Int32.ofInt (qup h c' i b 0 x c' i b 0)) = _
        rw [qup_eq]; rfl
    · subst hk
      refine go (qi x) x (by decide) (by decide) (fun hv => ?_) (fun _ => ?_) ?_ H
      · have hne : (qal c' b).1 ≠ 0 ∧ (qal c' b).1 ≠ 1 ∧ (qal c' b).1 ≠ 2 := qal_sc hc hbN (by rw [hfk]; decide)
        unfold qsk
        rw [hfk]
        split
        · exact hv
        · rename_i q; exact absurd q hne.2.1
        · rename_i q; exact absurd q hne.2.2
        · exact hv
      · rcases hx01 with rfl | rfl
        · exact ⟨(by decide : narrow .boolean (.int (Int32.ofInt 0)) = .int (Int32.ofInt 0)), (by decide : fits .boolean (.int (Int32.ofInt 0)) = true)⟩
        · exact ⟨(by decide : narrow .boolean (.int (Int32.ofInt 1)) = .int (Int32.ofInt 1)), (by decide : fits .boolean (.int (Int32.ofInt 1)) = true)⟩
      · unfold qfv; rw [hfk]
        show Value.int (Int32.ofInt (qup h c' i b 0 x c' i b 0)) = _
        rw [qup_eq]; rfl
  · subst hk
    refine go (ql x) x (by decide) (by decide) (fun hv => ?_) (fun _ => ⟨rfl, rfl⟩) ?_ H
    · have hne : (qal c' b).1 ≠ 0 ∧ (qal c' b).1 ≠ 1 ∧ (qal c' b).1 ≠ 2 := qal_sc hc hbN (by rw [hfk]; decide)
      unfold qsk
      rw [hfk]
      split
      · rename_i q; exact absurd q hne.1
      · exact hv
      · rename_i q; exact absurd q hne.2.2
      · exact hv
    · unfold qfv; rw [hfk]
      show Value.long (Int64.ofInt (qup h c' i b 0 x c' i b 0)) = _
      rw [qup_eq]; rfl
/-- a place of an array is read -/
theorem z_ald (F : qFr adr dA A D L xs p s m args c y Rm) {c' i j : Nat} {k : Int} {r : List qV} {t : Nat} (hk : (qal c' j).1 = t) (hbd : 0 ≤ k ∧ k < qlen h c' j) (ins : Instr) (hd : decode (qby y) pc = .ok (ins, 1)) (v : qV) (hcase : (t = 0 ∧ ins = .iaload ∧ v = qi (h c' i j k.toNat)) ∨ (t = 1 ∧ ins = .laload ∧ v = ql (h c' i j k.toNat)) ∨ (t = 2 ∧ ins = .baload ∧ v = qi (h c' i j k.toNat)) ∨ (t = 3 ∧ ins = .aaload ∧ v = qo (qra c' j).1 ((qra c' j).2 + k.toNat))) (Hz : qZ adr dA A D L xs p l e Rm s m args below meth c Q y k0 n0 (pc + 1) ls (v :: r) h) : qZ adr dA A D L xs p l e Rm s m args below meth c Q y k0 n0 pc ls (qi k :: qa c' i j :: r) h := by
  obtain ⟨hx, hb, hml, hown, hts, hK, hO, hD, hfr, hlo⟩ := F
  intro lsr H locs hh ho hst hls hln hl hP hS
  have hkR : qR k := qs_h hst
  have ha := qs_h (qs_t hst)
  have hvok : qvok v := by
    rcases hcase with ⟨h1, h2, h3⟩ | ⟨h1, h2, h3⟩ | ⟨h1, h2, h3⟩ | ⟨h1, h2, h3⟩
    · subst h3; have := hh c' i j k.toNat; rw [qsk_0 (hk.trans h1)] at this; exact this
    · subst h3; have := hh c' i j k.toNat; rw [qsk_1 (hk.trans h1)] at this; exact this
    · subst h3; have := hh c' i j k.toNat; rw [qsk_2 (hk.trans h1)] at this; exact qrg_R (by decide) this
    · subst h3
      rcases ha with hm | hp | hp
      · have hm' : (c', i, j + 1) ∈ qids := hm
        rw [qlen_in hm'] at hbd
        exact qids_ra hm' (hk.trans h1) (by omega)
      · cases hp; rw [h1] at hk; exact absurd hk (by decide)
      · cases hp; rw [h1] at hk; exact absurd hk (by decide)
  have w := Hz lsr H locs hh ho (qs_c hvok (qs_t (qs_t hst))) hls hln hl hP hS
  rcases ha with hm | hp | hp
  · have hln' : qlen h c' j = (qal c' j).2 := qlen_in hm
    obtain ⟨h13, hf2, h4, hz0, hz1⟩ := qids_2 hm
    rw [hln'] at hbd
    obtain ⟨hin, hcl⟩ := qn_in (n := (qal c' j).2.toNat) hkR hbd.1 (by omega)
    obtain ⟨q0, hq0, hq1⟩ := qws_at (adr := adr) (dA := dA) (h := h) hm
    rcases hcase with ⟨h1, h2, h3⟩ | ⟨h1, h2, h3⟩ | ⟨h1, h2, h3⟩ | ⟨h1, h2, h3⟩
    · subst h2; subst h3
      rw [qce_0 (hk.trans h1)] at hq1
      refine va_iald hx hb hK hP q0 0 hq1 rfl hin hd ?_
      rw [hcl]; exact w
    · subst h2; subst h3
      rw [qce_1 (hk.trans h1)] at hq1
      refine va_lald hx hb hK hP q0 1 hq1 rfl hin hd ?_
      rw [hcl]; exact w
    · subst h2; subst h3
      rw [qce_2 (hk.trans h1)] at hq1
      refine va_bald hx hb hK hP q0 2 hq1 rfl hin hd ?_
      rw [hcl]; exact w
    · subst h2; subst h3
      rw [qce_3 (hk.trans h1)] at hq1
      have hty : ∃ C, (qtys dA)[qat c' j]? = some (dA (qat c' j), .object C) := by
        rcases qat_3 (hk.trans h1) with e | e | e
        · rw [e]; exact ⟨_, rfl⟩
        · rw [e]; exact ⟨_, rfl⟩
        · rw [e]; exact ⟨_, rfl⟩
      obtain ⟨C, hty⟩ := hty
      refine va_aldq hx hb hK hP q0 (qat c' j) hq1 hty hin hd ?_
      rw [hcl]; exact w
  · cases hp
    obtain ⟨-, -, -, -, ⟨cell, g1, g2, g3, g4, g5⟩, g6, -, -⟩ := hO
    have hl19 : qlen h 90 0 = 19 := rfl
    rw [hl19] at hbd
    obtain ⟨hin, hcl⟩ := qn_in (n := 19) hkR hbd.1 (by omega)
    rcases hcase with ⟨h1, h2, h3⟩ | ⟨h1, h2, h3⟩ | ⟨h1, h2, h3⟩ | ⟨h1, h2, h3⟩
    · rw [h1] at hk; exact absurd hk (by decide)
    · subst h2; subst h3
      refine W.lald (v := .long (Int64.ofInt (h 90 0 0 k.toNat))) hx hb (by rw [hS.2.1 _ (Array.getElem?_eq_some_iff.mp g1).1 g6]; exact g1) g2 g3 (fun q => hin (q.imp id (fun q2 => Nat.le_trans g4.1 q2))) ?_ rfl rfl hd w
      rw [hcl, g5 _ (by omega), ho.1 _ (by omega)]
    · rw [h1] at hk; exact absurd hk (by decide)
    · rw [h1] at hk; exact absurd hk (by decide)
  · cases hp
    obtain ⟨gX, gl, gA, -, -, -, -, gL⟩ := hO
    have hlL : qlen h 91 0 = L := ho.2.2
    rw [hlL] at hbd
    obtain ⟨hin, hcl⟩ := qn_in (n := L) hkR hbd.1 hbd.2
    rcases hcase with ⟨h1, h2, h3⟩ | ⟨h1, h2, h3⟩ | ⟨h1, h2, h3⟩ | ⟨h1, h2, h3⟩
    · subst h2; subst h3
      refine va_sld hx hb gX gl gA hS hin hd ?_
      rw [hcl]
      have e1 : Int32.ofInt (h 91 0 0 k.toNat) = xs k.toNat := by rw [ho.2.1 _ (by omega), Int32.ofInt_toInt]
      rw [← e1]; exact w
    · rw [h1] at hk; exact absurd hk (by decide)
    · rw [h1] at hk; exact absurd hk (by decide)
    · rw [h1] at hk; exact absurd hk (by decide)
/-- a place of an array is written -/
theorem z_ast (F : qFr adr dA A D L xs p s m args c y Rm) {c' i j : Nat} {k : Int} {r : List qV} {t : Nat} (hk : (qal c' j).1 = t) (hbd : 0 ≤ k ∧ k < qlen h c' j) (ins : Instr) (hd : decode (qby y) pc = .ok (ins, 1)) (h90 : c' < 90) (v : qV) (x : Int) (hcase : (t = 0 ∧ ins = .iastore ∧ v = qi x) ∨ (t = 1 ∧ ins = .lastore ∧ v = ql x) ∨ (t = 2 ∧ ins = .bastore ∧ v = qi x ∧ -128 ≤ x ∧ x ≤ 127)) (Hz : qZ adr dA A D L xs p l e Rm s m args below meth c Q y k0 n0 (pc + 1) ls r (qup h c' i j k.toNat x)) : qZ adr dA A D L xs p l e Rm s m args below meth c Q y k0 n0 pc ls (v :: qi k :: qa c' i j :: r) h := by
  obtain ⟨hx, hb, hml, hown, hts, hK, hO, hD, hfr, hlo⟩ := F
  refine z_hp Hz (fun hst => qs_t (qs_t (qs_t hst))) (fun hh hst => qhok_up hh ?_) (fun hst c i j k hc90 => qup_ne (fun q => by omega)) (fun lsr H locs hsz hst hh hP hS w => ?_)
  · have hv := qs_h hst
    rcases hcase with ⟨h1, h2, h3⟩ | ⟨h1, h2, h3⟩ | ⟨h1, h2, h3, h4, h5⟩
    · rw [qsk_0 (hk.trans h1)]; subst h3; exact hv
    · rw [qsk_1 (hk.trans h1)]; subst h3; exact hv
    · rw [qsk_2 (hk.trans h1)]; exact ⟨h4, h5⟩
  · have hkR : qR k := qs_h (qs_t hst)
    rcases qs_h (qs_t (qs_t hst)) with hm | hp | hp
    · have hln' : qlen h c' j = (qal c' j).2 := qlen_in hm
      obtain ⟨h13, hf2, h4, hz0, hz1⟩ := qids_2 hm
      rw [hln'] at hbd
      obtain ⟨hin, hcl⟩ := qn_in (n := (qal c' j).2.toNat) hkR hbd.1 (by omega)
      obtain ⟨q0, hq0, hq1⟩ := qws_at (adr := adr) (dA := dA) (h := h) hm
      have hoth : ∀ c2 i2 j2 k2, ¬ (c2 = c' ∧ i2 = i ∧ j2 = j) → qup h c' i j k.toNat x c2 i2 j2 k2 = h c2 i2 j2 k2 := fun c2 i2 j2 k2 hn => qup_ne (fun q => hn ⟨q.2.1, q.2.2.2, q.1⟩)
      rcases hcase with ⟨h1, h2, h3⟩ | ⟨h1, h2, h3⟩ | ⟨h1, h2, h3, h5, h6⟩
      · subst h2; subst h3
        rw [qce_0 (hk.trans h1)] at hq1
        refine va_iast hx hb hK hP (hD h) hS q0 0 hq1 rfl hin hd (fun H1 locs1 hP1 hD1 hS1 => w H1 locs1 ?_ hS1)
        rw [← qws_ast hq0 hoth rfl]
        rw [qce_0 (hk.trans h1)]
        rw [hcl] at hP1
        have e1 : (fun k' => Int32.ofInt (qup h c' i j k.toNat x c' i j k')) = upd (fun k => Int32.ofInt (h c' i j k)) k.toNat (Int32.ofInt x) := by
          funext k'
          unfold qup upd
          by_cases hkk : k' = k.toNat
          · simp [hkk]
          · simp [hkk]
        rw [e1]; exact hP1
      · subst h2; subst h3
        rw [qce_1 (hk.trans h1)] at hq1
        refine va_last hx hb hK hP (hD h) hS q0 1 hq1 rfl hin hd (fun H1 locs1 hP1 hD1 hS1 => w H1 locs1 ?_ hS1)
        rw [← qws_ast hq0 hoth rfl]
        rw [qce_1 (hk.trans h1)]
        rw [hcl] at hP1
        have e1 : (fun k' => Int64.ofInt (qup h c' i j k.toNat x c' i j k')) = vp_updL (fun k => Int64.ofInt (h c' i j k)) k.toNat (Int64.ofInt x) := by
          funext k'
          unfold qup vp_updL
          by_cases hkk : k' = k.toNat
          · simp [hkk]
          · simp [hkk]
        rw [e1]; exact hP1
      · subst h2; subst h3
        rw [qce_2 (hk.trans h1)] at hq1
        refine va_bast hx hb hK hP (hD h) hS q0 2 hq1 rfl hin hd (fun H1 locs1 hP1 hD1 hS1 => w H1 locs1 ?_ hS1)
        rw [← qws_ast hq0 hoth rfl]
        rw [qce_2 (hk.trans h1)]
        rw [hcl] at hP1
        have hnb : vp_nar .byte (Int32.ofInt x) = Int32.ofInt x := by
          rw [vp_nar_byte]
          apply Int32.toInt_inj.mp
          rw [Int32.toInt8_ofInt, Int8.toInt_toInt32, qn1 ⟨by omega, by omega⟩]
          exact Int8.toInt_ofInt_of_le (by omega) (by omega)
        rw [hnb] at hP1
        have e1 : (fun k' => Int32.ofInt (qup h c' i j k.toNat x c' i j k')) = upd (fun k => Int32.ofInt (h c' i j k)) k.toNat (Int32.ofInt x) := by
          funext k'
          unfold qup upd
          by_cases hkk : k' = k.toNat
          · simp [hkk]
          · simp [hkk]
        rw [e1]; exact hP1
    · cases hp; omega
    · cases hp; omega
end SNE
