section SNF
variable {adr : qA} {dA : Nat → ClassId} {A : Nat → Prop} {D : va_G} {L : Nat} {xs : Nat → Int32} {p : Program} {l : Launch} {e : Env} {Rm : Room} {s : State} {m : MethodId} {args : Array Value} {below : List Frame} {meth : Method} {c : Code} {Q : State → Prop} {y k0 n0 : Nat}
variable {pc : Nat} {ls st : List qV} {h : qH}
theorem qsw1_of {x : Int} {d : Nat} {K : Nat → Prop} (offs : List Int) : ∀ (lo : Int) (cs : List (Int × Nat)), qsw1 pc lo offs cs → qsw x cs d K → ((x < lo ∨ lo + offs.length ≤ x) ∧ K d) ∨ (lo ≤ x ∧ x < lo + offs.length ∧ ∃ off t, offs[(x - lo).toNat]? = some off ∧ (pc : Int) + off = ((t : Nat) : Int) ∧ K t) := by
  induction offs with
  | nil =>
    intro lo cs h1 h2
    match cs, h1, h2 with
    | [], _, h2 => exact Or.inl ⟨by simp; omega, h2⟩
  | cons o offs ih =>
    intro lo cs h1 h2
    match cs, h1, h2 with
    | (v, t) :: cs, h1, h2 =>
      obtain ⟨⟨hv, ht⟩, h1⟩ := h1
      subst hv
      by_cases hx : x = v
      · subst hx
        refine Or.inr ⟨Int.le_refl _, by simp; omega, o, t, by simp, ht, h2.1 rfl⟩
      · rcases ih (v + 1) cs h1 (h2.2 hx) with ⟨h3, h4⟩ | ⟨h3, h4, off, t', h5, h6, h7⟩
        · refine Or.inl ⟨?_, h4⟩
          simp only [List.length_cons]
          omega
        · refine Or.inr ⟨by omega, by simp only [List.length_cons]; omega, off, t', ?_, h6, h7⟩
          rw [show (x - v).toNat = (x - (v + 1)).toNat + 1 by omega, List.getElem?_cons_succ]
          exact h5
theorem qsw2_of {x : Int} {d : Nat} {K : Nat → Prop} {df : Int} (hd : (pc : Int) + df = d) (ps : List (Int × Int)) : ∀ (cs : List (Int × Nat)), qsw2 pc ps cs → qsw x cs d K → ∃ t : Nat, (pc : Int) + Op.lookupswitch.offset ps df x = t ∧ K t := by
  induction ps with
  | nil =>
    intro cs h1 h2
    match cs, h1, h2 with
    | [], _, h2 => exact ⟨d, by first | exact hd | simpa [Op.lookupswitch.offset] using hd, h2⟩
  | cons o ps ih =>
    intro cs h1 h2
    match o, cs, h1, h2 with
    | (w, o), (v, t) :: cs, h1, h2 =>
      obtain ⟨⟨hv, ht⟩, h1⟩ := h1
      subst hv
      rw [Op.lookupswitch.offset_cons]
      by_cases hx : x = v
      · refine ⟨t, ?_, h2.1 hx⟩
        first | rw [if_pos hx] | rw [if_pos (by simpa using hx)] | rw [if_pos hx.symm]
        exact ht
      · obtain ⟨t', h5, h6⟩ := ih cs h1 (h2.2 hx)
        refine ⟨t', ?_, h6⟩
        first | rw [if_neg hx] | rw [if_neg (by simpa using hx)] | rw [if_neg (fun e => hx e.symm)]
        exact h5
theorem z_tsw (F : qFr adr dA A D L xs p s m args c y Rm) {df lo hi : Int} {offs : Array Int} {n : Nat} (hd : decode (qby y) pc = .ok (.tableswitch df lo hi offs, n)) {a : Nat} {cs : List (Int × Nat)} (h1 : (pc : Int) + df = a) (h2 : hi = lo + offs.size - 1) (h3 : qsw1 pc lo offs.toList cs) {x : Int} {r : List qV} (H : qsw x cs a fun t => qZ adr dA A D L xs p l e Rm s m args below meth c Q y k0 n0 t ls r h) : qZ adr dA A D L xs p l e Rm s m args below meth c Q y k0 n0 pc ls (qi x :: r) h := by
  obtain ⟨hx, hb, hml, hown, hts, hK, hO, hD, hfr, hlo⟩ := F
  intro lsr H0 locs hh ho hst hls hln hl hP hS
  have hxR : qR x := qs_h hst
  rcases qsw1_of offs.toList lo cs h3 H with ⟨h4, h5⟩ | ⟨h4, h5, off, t, h6, h7, h8⟩
  · refine lv_tableOut hx hb hd ?_ h1 (h5 lsr H0 locs hh ho (qs_t hst) hls hln hl hP hS)
    rw [qn1 hxR]
    simp only [Array.length_toList] at h4
    omega
  · refine lv_tableIn hx hb hd ?_ ?_ (off := off) ?_ h7 (h8 lsr H0 locs hh ho (qs_t hst) hls hln hl hP hS)
    · rw [qn1 hxR]; omega
    · rw [qn1 hxR]; simp only [Array.length_toList] at h5; omega
    · rw [qn1 hxR, ← Array.getElem?_toList]; exact h6
theorem z_lsw (F : qFr adr dA A D L xs p s m args c y Rm) {df : Int} {ps : Array (Int × Int)} {n : Nat} (hd : decode (qby y) pc = .ok (.lookupswitch df ps, n)) {a : Nat} {cs : List (Int × Nat)} (h1 : (pc : Int) + df = a) (h2 : (ps.toList.zip (ps.toList.drop 1)).all (fun (a, next) => a.1 < next.1) = true) (h3 : qsw2 pc ps.toList cs) {x : Int} {r : List qV} (H : qsw x cs a fun t => qZ adr dA A D L xs p l e Rm s m args below meth c Q y k0 n0 t ls r h) : qZ adr dA A D L xs p l e Rm s m args below meth c Q y k0 n0 pc ls (qi x :: r) h := by
  obtain ⟨hx, hb, hml, hown, hts, hK, hO, hD, hfr, hlo⟩ := F
  intro lsr H0 locs hh ho hst hls hln hl hP hS
  have hxR : qR x := qs_h hst
  obtain ⟨t, h4, h5⟩ := qsw2_of h1 ps.toList cs h3 H
  refine lv_lookup hx hb hd h2 (off := Op.lookupswitch.offset ps.toList df x) (by rw [qn1 hxR]) h4 (h5 lsr H0 locs hh ho (qs_t hst) hls hln hl hP hS)
theorem qcat_eq (r : List qV) : ((r.map (qtr adr)).map fun v => v.category).sum = qcat r := by
  induction r with
  | nil => rfl
  | cons v r ih =>
    rw [List.map_cons, List.map_cons, List.sum_cons, ih]
    rcases v with x | x | x | x | x
    · exact Nat.add_comm _ _
    · exact Nat.add_comm _ _
    · exact Nat.add_comm _ _
    · exact Nat.add_comm _ _
    · exact Nat.add_comm _ _
theorem qcat_app (a b : List qV) : qcat (a ++ b) = qcat a + qcat b := by
  induction a with
  | nil => simp [qcat]
  | cons v r ih =>
    rcases v with x | x | x | x | x <;> simp only [List.cons_append, qcat, ih] <;> omega
theorem qcat_rev (a : List qV) : qcat a.reverse = qcat a := by
  induction a with
  | nil => rfl
  | cons v r ih =>
    rw [List.reverse_cons, qcat_app, ih]
    rcases v with x | x | x | x | x <;> simp [qcat]
/-- the contract of a method at a depth -/
def qMet (l : Launch) (adr : qA) (dA : Nat → ClassId) (A : Nat → Prop) (D : va_G) (L : Nat) (xs : Nat → Int32) (d a : Nat) (as : List qV) (h : qH) (R : Option qV → qH → Prop) : Prop :=
  Met l (qnm a) (Cond.code (qnm a) (qby a) (qml a) (qrt a) :: lw_good) ({ frames := d, cells := 0, slots := 0, locals := 64 * d })
    (va_Pc (as.map (qtr adr)) (fun U => qhok h ∧ qro L xs h ∧ va_P D vwCl (qws adr dA h) U.heap ∧ va_K D vwCl (qtys dA) U ∧ qRO adr A L xs U U.heap))
    (fun _ st oc t => (∃ v h', oc = .returned (v.map (qtr adr)) ∧ R v h' ∧ (∀ w, v = some w → qvok w) ∧ qhok h' ∧ qro L xs h' ∧ va_P D vwCl (qws adr dA h') t.heap) ∧ va_F A st t) 0 0 A
theorem qMet_blind {L : Nat} {xs : Nat → Int32} {av : List Value} : FrameBlind (va_Pc av (fun U => qhok h ∧ qro L xs h ∧ va_P D vwCl (qws adr dA h) U.heap ∧ va_K D vwCl (qtys dA) U ∧ qRO adr A L xs U U.heap)) := by
  intro a U g mk q
  obtain ⟨q0, q1, q2, qP, qK, qO⟩ := q
  exact ⟨q0, q1, q2, qP, va_K.moved (u := U) (U := U.calling g mk a) (Vm.Alike.refl U.vm) qK, qO⟩
/-- behind a call -/
theorem z_after {R' : Option qV → qH → Prop} {free : Addr → Prop} {a0 : Array Value} {r : List qV} {k : Nat} {lsr : Array Slot} {H : Heap} {locs : List Loc} {st0 : List Value}
    (hr : va_Run p l e Rm s m args below meth c H locs k0 n0 0 0 (F0 m pc lsr st0) (r.map (qtr adr)) (fun st oc t => (∃ v h', oc = .returned (v.map (qtr adr)) ∧ qret k v h' r (fun st' h'' => qZ adr dA A D L xs p l e Rm s m args below meth c Q y k0 n0 (pc + 3) ls st' h'') ∧ (∀ w, v = some w → qvok w) ∧ qhok h' ∧ qro L xs h' ∧ va_P D vwCl (qws adr dA h') t.heap) ∧ va_F A st t) A)
    (hr0 : ∀ v ∈ r, qvok v) (hls : ∀ v ∈ ls, qlok v) (hln : ls.length = qml y) (hl : lv_has lsr (qml y) (qlv adr ls)) (hS : va_S A s.heap H locs) : W p l e Rm s m args below meth c H locs k0 n0 Q (F0 m pc lsr st0) := by
  intro T hT X
  obtain ⟨v, st₀, t, T', L', h0, X', hL, e1, e2, ⟨⟨v', h', hv, hq, hok, hh', ho', hP'⟩, hz, hk⟩, stp⟩ := hr T hT X
  cases hv
  rw [h0] at hz hk
  have hS1 : va_S A s.heap T'.heap (locs ++ L') := ⟨Nat.le_trans hS.1 (by rw [e1]; exact hz), fun q h1 h2 => by rw [e1, hk q (Nat.lt_of_lt_of_le h1 hS.1) h2]; exact hS.2.1 q h1 h2, fun q hq => by
      rcases List.mem_append.mp hq with h | h
      · exact hS.2.2 q h
      · exact hL q h⟩
  rw [← e1] at hP'
  have key : ∀ st' : List qV, qZ adr dA A D L xs p l e Rm s m args below meth c Q y k0 n0 (pc + 3) ls st' h' → (∀ w ∈ st', qvok w) → (v'.map (qtr adr)).toList ++ r.map (qtr adr) = st'.map (qtr adr) → ∃ t, Steps p.tables e below (T.setTop (F0 m pc lsr st0)) t ∧ Q t := by
    intro st' Hz hst' est
    obtain ⟨t2, a1, b1⟩ := Hz lsr T'.heap (locs ++ L') hh' ho' hst' hls hln hl hP' hS1 T' rfl X'
    refine ⟨t2, stp t2 ?_, b1⟩
    rw [est]
    exact a1
  rcases k with _ | _ | k
  · obtain ⟨x, rfl, Hz⟩ := qri_of hq
    exact key _ Hz (qs_c (hok _ rfl) hr0) rfl
  · obtain ⟨x, rfl, Hz⟩ := qrl_of hq
    exact key _ Hz (qs_c (hok _ rfl) hr0) rfl
  · obtain ⟨rfl, Hz⟩ := qrv_of hq
    exact key _ Hz hr0 rfl
theorem qG (a : Nat) (ha : qmok a) : GoodIn lw_good (Cond.code (qnm a) (qby a) (qml a) (qrt a) :: lw_good) := by
  intro w hw
  rcases List.mem_cons.mp hw with rfl | hw
  · exact lw_good_good _ ha.1
  · exact lw_good_good _ hw
theorem z_call (F : qFr adr dA A D L xs p s m args c y Rm) {d : Nat} (hk0 : k0 ≤ Rm.cells ∧ n0 ≤ Rm.slots) (hroom : d + 1 ≤ Rm.frames ∧ 64 * (d + 1) ≤ Rm.locals) (hC : ∀ a as h R', qT d a 0 (qpad (qml a) (qflat as)) [] h R' → (∀ v ∈ as, qvok v) → qmok a → qcat as ≤ qml a → qMet l adr dA A D L xs d a as h R')
    {idx a b k : Nat} {z : Int} {cs : List (Int × Nat)} (hd : decode (qby y) pc = .ok (.invokevirtual idx, 3)) (hex : qex y pc (.invokevirtual idx, pc + 3, a, b, k, z, cs)) (hrc : qrecv (qcn a) b st = true) (H : qcall (qC d) (.invokevirtual idx, pc + 3, a, b, k, z, cs) (b + 1) ls st h (qZ adr dA A D L xs p l e Rm s m args below meth c Q y k0 n0)) : qZ adr dA A D L xs p l e Rm s m args below meth c Q y k0 n0 pc ls st h := by
  obtain ⟨hx, hb, hml, hown, hts, hK, hO, hD, hfr, hlo⟩ := F
  obtain ⟨ha, hm, hlk, hin, hsel, hpd, hcl, hrk⟩ := hex
  dsimp only at ha hm hlk hin hsel hpd hcl hrk
  unfold qcall at H
  obtain ⟨hb1, H⟩ := qb_of H
  dsimp only at hb1 H
  simp only [Bool.and_eq_true, Nat.ble_eq] at hb1
  obtain ⟨⟨hlen, hcat⟩, hcat2⟩ := hb1
  unfold qrecv at hrc
  split at hrc
  · rename_i c' i' hgc
    have hcc : c' = qcn a := Nat.eq_of_beq_eq_true hrc
    subst hcc
    intro lsr H0 locs hh ho hst hls hln hl hP hS
    have hrecv : (qcn a, i', 0) ∈ qids := hst _ (List.mem_of_getElem? hgc)
    have htk : st.take (b + 1) = st.take b ++ [qo (qcn a) i'] := by rw [List.take_add_one, hgc]; rfl
    have has : (st.take (b + 1)).reverse = qo (qcn a) i' :: (st.take b).reverse := by rw [htk]; simp
    have hst1 : ∀ v ∈ (st.take (b + 1)).reverse, qvok v := fun v hv => hst v (List.mem_of_mem_take (List.mem_reverse.mp hv))
    have hqc : qcat (st.take (b + 1)).reverse ≤ qml a := by rw [qcat_rev]; exact hcat2
    have hM := hC a _ h _ H hst1 hm hqc
    obtain ⟨q0, hq0, hq1⟩ := qws_at (adr := adr) (dA := dA) (h := h) hrecv
    obtain ⟨rc, hrc1, hrc2⟩ : ∃ rc, vwCl[qcn a]? = some rc ∧ rc.1 = (qnm a).cls := by
      cases hv : vwCl[qcn a]? with
      | none => rw [hv] at hcl; cases hcl
      | some rc => rw [hv] at hcl; exact ⟨rc, rfl, Option.some.inj hcl⟩
    have hrun := va_runV (n := b) (index := idx) (cc := qby y) (nL := qml y) (Ts := lw_good) (own := qown y) (C := (qnm a).cls) (b := adr (qcn a, i', 0)) (As := (st.take b).reverse.map (qtr adr)) (rest := (st.drop (b + 1)).map (qtr adr)) (g := F0 m pc lsr (st.map (qtr adr))) (locs := locs) (cells := k0) (slots := n0) (l := l) (e := e) (below := below) (meth := meth) (H := H0) ⟨hx, hb, hml, hown, hts⟩ hM
      ⟨callB_of b hts (qG a hm) rfl rfl rfl (hts _ hm.2.1) (hts _ hlk) ⟨hm.2.2.2.1.1, hm.2.2.2.1.2, hpd⟩ ⟨hroom.1, by have := hm.2.2.2.2; show 8 + (qml a + 11) + 64 * d ≤ Rm.locals; omega⟩, hts _ hin, hts _ hsel⟩
      ⟨qMet_blind, by have := va_recv hK hP hrc1 hq1; rw [hrc2] at this; exact this, fun U hU hW => ⟨by rw [has]; rfl, hh, ho, by rw [hU]; exact hP, va_K.moved hW.alike hK, hO.moved hW (fun a' ha' hna => by rw [hU]; exact hS.2.1 a' ha' hna) (by rw [hU]; exact hS.1)⟩⟩
      rfl (by rw [List.length_map, List.length_reverse, List.length_take]; omega) hl.1
      (by
        show st.map (qtr adr) = _
        rw [← List.map_reverse, List.reverse_reverse]
        conv => lhs; rw [← List.take_append_drop (b + 1) st, htk]
        simp [qtr])
      (lv_room (by rw [qcat_eq]; exact hcat)) hd ⟨by omega, by omega⟩
    exact z_after (a0 := #[]) (free := A) (R' := fun _ _ => True) hrun (fun v hv => hst v (List.mem_of_mem_drop hv)) hls hln hl hS
  · cases hrc
theorem z_callS (F : qFr adr dA A D L xs p s m args c y Rm) {d : Nat} (hk0 : k0 ≤ Rm.cells ∧ n0 ≤ Rm.slots) (hroom : d + 1 ≤ Rm.frames ∧ 64 * (d + 1) ≤ Rm.locals) (hC : ∀ a as h R', qT d a 0 (qpad (qml a) (qflat as)) [] h R' → (∀ v ∈ as, qvok v) → qmok a → qcat as ≤ qml a → qMet l adr dA A D L xs d a as h R')
    {idx a b k : Nat} {z : Int} {cs : List (Int × Nat)} (hd : decode (qby y) pc = .ok (.invokestatic idx, 3)) (hm : qmok a) (hlk : Cond.methodLink (qown y) idx (qnm a) ∈ lw_good) (hstt : Cond.static (qnm a) ∈ lw_good) (hpd : (parseMethodDescriptor (qnm a).desc).map (fun d => d.parameters.length) = some b) (H : qcall (qC d) (.invokestatic idx, pc + 3, a, b, k, z, cs) b ls st h (qZ adr dA A D L xs p l e Rm s m args below meth c Q y k0 n0)) : qZ adr dA A D L xs p l e Rm s m args below meth c Q y k0 n0 pc ls st h := by
  obtain ⟨hx, hb, hml, hown, hts, hK, hO, hD, hfr, hlo⟩ := F
  unfold qcall at H
  obtain ⟨hb1, H⟩ := qb_of H
  dsimp only at hb1 H
  simp only [Bool.and_eq_true, Nat.ble_eq] at hb1
  obtain ⟨⟨hlen, hcat⟩, hcat2⟩ := hb1
  intro lsr H0 locs hh ho hst hls hln hl hP hS
  have hst1 : ∀ v ∈ (st.take b).reverse, qvok v := fun v hv => hst v (List.mem_of_mem_take (List.mem_reverse.mp hv))
  have hqc : qcat (st.take b).reverse ≤ qml a := by rw [qcat_rev]; exact hcat2
  have hM := hC a _ h _ H hst1 hm hqc
  have hrun := va_runS (n := b) (index := idx) (cc := qby y) (nL := qml y) (Ts := lw_good) (own := qown y) (As := (st.take b).reverse.map (qtr adr)) (rest := (st.drop b).map (qtr adr)) (g := F0 m pc lsr (st.map (qtr adr))) (locs := locs) (cells := k0) (slots := n0) (l := l) (e := e) (below := below) (meth := meth) (H := H0) ⟨hx, hb, hml, hown, hts⟩ hM
    ⟨callB_of b hts (qG a hm) rfl rfl rfl (hts _ hm.2.1) (hts _ hlk) ⟨hm.2.2.2.1.1, hm.2.2.2.1.2, hpd⟩ ⟨hroom.1, by have := hm.2.2.2.2; show 8 + (qml a + 11) + 64 * d ≤ Rm.locals; omega⟩, hts _ hstt⟩
    ⟨qMet_blind, fun U hU hW => ⟨rfl, hh, ho, by rw [hU]; exact hP, va_K.moved hW.alike hK, hO.moved hW (fun a' ha' hna => by rw [hU]; exact hS.2.1 a' ha' hna) (by rw [hU]; exact hS.1)⟩⟩
    rfl (by rw [List.length_map, List.length_reverse, List.length_take]; omega) hl.1
    (by
      show st.map (qtr adr) = _
      rw [← List.map_reverse, List.reverse_reverse, ← List.map_append, List.take_append_drop])
    (lv_room (by rw [qcat_eq]; exact hcat)) hd ⟨by omega, by omega⟩
  exact z_after (a0 := #[]) (free := A) (R' := fun _ _ => True) hrun (fun v hv => hst v (List.mem_of_mem_drop hv)) hls hln hl hS
end SNF
