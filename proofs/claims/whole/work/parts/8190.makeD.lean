section MK3
variable {b : Nat} {dA : Nat → ClassId} {D : va_G} {p : Program} {l : Launch} {e : Env} {Rm : Room} {s : State} {m : MethodId} {args : Array Value} {below : List Frame} {meth : Method} {c : Code} {Q : State → Prop} {y c0 s0 : Nat} {xl : List (Nat × Value)}
variable {pc : Nat} {ls st : List cV} {w : List cE}
def cMono (w w' : List cE) : Prop := w.length ≤ w'.length ∧ cslots w ≤ cslots w'
theorem cMono.rf {w : List cE} : cMono w w := ⟨Nat.le_refl _, Nat.le_refl _⟩
theorem cMono.tr {w v u : List cE} (h1 : cMono w v) (h2 : cMono v u) : cMono w u := ⟨Nat.le_trans h1.1 h2.1, Nat.le_trans h1.2 h2.2⟩
theorem cMono.app {w : List cE} {E : cE} : cMono w (w ++ [E]) := ⟨by simp, by rw [cslots_app]; omega⟩
theorem cMono.set {w : List cE} {k : Nat} {E E' : cE} (h : w[k]? = some E) (he : csl E' = csl E) : cMono w (w.set k E') := ⟨by simp, by rw [cslots_set h he]; exact Nat.le_refl _⟩
theorem cbif {α : Type} {bb : Bool} {x : Option α} {y : α} (h : (bif bb then x else none) = some y) : bb = true ∧ x = some y := by
  cases bb with
  | true => exact ⟨rfl, h⟩
  | false => cases h
theorem cnl1 {i : Nat} : ∀ v ∈ [cr i], ∀ x, v ≠ cl x := by
  intro v hv x
  rw [List.mem_singleton.mp hv]
  exact fun q => by cases q
theorem cnl2 {i : Nat} {z : Int} : ∀ v ∈ [cr i, ci z], ∀ x, v ≠ cl x := by
  intro v hv x
  rcases List.mem_cons.mp hv with rfl | hv
  · exact fun q => by cases q
  · rw [List.mem_singleton.mp hv]
    exact fun q => by cases q
theorem ccat (r : List cV) (h : r.length ≤ 4) : ((r.map (ctr b)).map fun v => v.category).sum ≤ 8 := by
  have key : ((r.map (ctr b)).map fun v => v.category).sum ≤ 2 * r.length := by
    clear h
    induction r with
    | nil => exact Nat.le_refl _
    | cons v r ih =>
      rw [List.map_cons, List.map_cons, List.sum_cons, List.length_cons]
      rcases lv_cat (ctr b v) with hc | hc <;> rw [hc] <;> omega
  omega
theorem cml_pos (a : Nat) : 1 ≤ cml a := by
  unfold cml
  repeat' (first | exact Nat.le_of_ble_eq_true rfl | (rw [cond_eq_ite]; split))
set_option maxRecDepth 100000 in
set_option maxHeartbeats 4000000 in
/-- a step is sound; and the world only grows -/
theorem c_step (hx0 : ∀ q ∈ xl, q.1 = 0 ∧ ¬ q.2.category = 2) (F : cFr dA D p s m args meth c y Rm) {d : Nat} (hroomD : d + 1 ≤ Rm.frames ∧ 64 * (d + 1) ≤ Rm.locals) (hC : ∀ a as w w', crun d a as w = some w' → kmok a → as.length ≤ cml a → (∀ v ∈ as, ∀ x, v ≠ cl x) → kMet l b dA D d a as w w') (hM : ∀ a as w w', crun d a as w = some w' → cMono w w')
    {σ' : cS} (hok : kok y pc (cpg y pc)) (h : cstep (crun d) (cpg y pc) ls st w = some (.inl σ')) : cMono w σ'.2.2.2 ∧ (c0 ≤ w.length ∧ s0 ≤ cslots w → σ'.2.2.2.length - c0 ≤ Rm.cells ∧ cslots σ'.2.2.2 - s0 ≤ Rm.slots → cZ b dA D p l e Rm s m args below meth c Q y c0 s0 xl σ' → cZ b dA D p l e Rm s m args below meth c Q y c0 s0 xl (pc, ls, st, w)) := by
  have FF := F
  obtain ⟨hx, hb, hml, hown, hts, hK, hN, hin, hfr, hlo⟩ := F
  generalize cpg y pc = rw at hok h
  obtain ⟨ins, nx, a, bb, k, z, cs⟩ := rw
  rcases hok with hnop | ⟨hd, hnx, hex⟩
  · dsimp only at hnop
    subst hnop
    cases h
  dsimp only at hd hnx
  subst hnx
  cases ins
  all_goals (try (exact nomatch (show (none : Option (cS ⊕ List cE)) = some (Sum.inl σ') from h)))
  case inr.iconst n =>
    cases h
    exact ⟨cMono.rf, fun _ _ Hz => cz_st Hz (fun lsr H locs hl hP hS hsz kw => lv_iconst hx hb hd hex kw)⟩
  case inr.bipush n =>
    cases h
    exact ⟨cMono.rf, fun _ _ Hz => cz_st Hz (fun lsr H locs hl hP hS hsz kw => lv_bipush hx hb hd hex kw)⟩
  case inr.sipush n =>
    cases h
    exact ⟨cMono.rf, fun _ _ Hz => cz_st Hz (fun lsr H locs hl hP hS hsz kw => lv_sipush hx hb hd hex kw)⟩
  case inr.lconst n =>
    cases h
    exact ⟨cMono.rf, fun _ _ Hz => cz_st Hz (fun lsr H locs hl hP hS hsz kw => lv_lconst hx hb hd hex kw)⟩
  case inr.aload_n n =>
    unfold cstep at h
    dsimp only at h
    split at h
    · rename_i i hv
      cases h
      exact ⟨cMono.rf, fun _ _ Hz => cz_st Hz (fun lsr H locs hl hP hS hsz kw => lv_aload_n hx hb hd rfl (hl.2.2 (n.val, .ref (b + i)) (List.mem_append_right _ (clv_mem.mpr (Or.inr ⟨i, hv, rfl⟩)))) kw)⟩
    · cases h
  case inr.iload_n n =>
    unfold cstep at h
    dsimp only at h
    split at h
    · rename_i i hv
      cases h
      exact ⟨cMono.rf, fun _ _ Hz => cz_st Hz (fun lsr H locs hl hP hS hsz kw => lv_iload_n hx hb hd rfl (hl.2.2 (n.val, .int (Int32.ofInt i)) (List.mem_append_right _ (clv_mem.mpr (Or.inl ⟨i, hv, rfl⟩)))) kw)⟩
    · cases h
  case inr.istore_n n =>
    unfold cstep at h
    dsimp only at h
    split at h
    · cases h
      exact ⟨cMono.rf, fun _ _ Hz => cz_sto hx0 hex.2 (wv := .int _) (Or.inl ⟨_, rfl, rfl⟩) Hz (fun lsr H locs hl kw => lv_istore_n hx hb hd rfl hl hex.1 rfl kw)⟩
    · cases h
  case inr.astore_n n =>
    unfold cstep at h
    dsimp only at h
    split at h
    · cases h
      exact ⟨cMono.rf, fun _ _ Hz => cz_sto hx0 hex.2 (wv := .ref _) (Or.inr ⟨_, rfl, rfl⟩) Hz (fun lsr H locs hl kw => lv_astore_n hx hb hd rfl hl hex.1 rfl kw)⟩
    · cases h
  case inr.iinc kk n =>
    unfold cstep at h
    dsimp only at h
    split at h
    · rename_i x hv
      obtain ⟨h1, h⟩ := cbif h
      cases h
      refine ⟨cMono.rf, fun _ _ Hz => cz_sto hx0 hex.2 (wv := .int (Int32.ofInt (x + n))) (Or.inl ⟨_, rfl, rfl⟩) Hz (fun lsr H locs hl kw => ?_)⟩
      obtain ⟨ix, hix⟩ := List.getElem?_of_mem (List.mem_append_right xl (clv_mem.mpr (Or.inl ⟨x, hv, rfl⟩) : (kk, Value.int (Int32.ofInt x)) ∈ clv b ls))
      exact lv_iinc hx hb hd hl hix (by rw [← Int32.ofInt_add]) hex.1 rfl kw
    · cases h
  case inr.iadd =>
    unfold cstep at h
    dsimp only at h
    split at h
    · obtain ⟨h1, h⟩ := cbif h
      cases h
      exact ⟨cMono.rf, fun _ _ Hz => cz_st Hz (fun lsr H locs hl hP hS hsz kw => lv_iadd hx hb hd (by rw [← Int32.ofInt_add]; exact kw))⟩
    · cases h
  case inr.imul =>
    unfold cstep at h
    dsimp only at h
    split at h
    · obtain ⟨h1, h⟩ := cbif h
      cases h
      exact ⟨cMono.rf, fun _ _ Hz => cz_st Hz (fun lsr H locs hl hP hS hsz kw => lv_imul hx hb hd (by rw [← Int32.ofInt_mul]; exact kw))⟩
    · cases h
  case inr.goto off =>
    cases h
    exact ⟨cMono.rf, fun _ _ Hz => cz_st Hz (fun lsr H locs hl hP hS hsz kw => lv_goto hx hb hd hex kw)⟩
  case inr.dup =>
    unfold cstep at h
    dsimp only at h
    split at h
    · cases h
      exact ⟨cMono.rf, fun _ _ Hz => cz_st Hz (fun lsr H locs hl hP hS hsz kw => lv_dup hx hb hd rfl kw)⟩
    · cases h
  case inr.new i =>
    cases h
    refine ⟨cMono.app, fun hc hr Hz => cz_new FF (r := (.new i, pc + 3, a, bb, k, z, cs)) rfl rfl hd hex ?_ hc Hz⟩
    dsimp only at hr
    rw [cslots_app, List.length_append] at hr
    have : cslots [(Sum.inr (a, cdf a) : cE)] = (cdf a).length := rfl
    rw [this] at hr
    exact hr
  case inr.newarray t =>
    unfold cstep at h
    dsimp only at h
    split at h
    · rename_i n st1
      obtain ⟨h1, h⟩ := cbif h
      cases h
      simp only [Bool.and_eq_true, decide_eq_true_eq] at h1
      refine ⟨cMono.app, fun hc hr Hz => cz_newa FF hex hd h1 ?_ hc Hz⟩
      dsimp only at hr
      rw [cslots_app, List.length_append] at hr
      have : cslots [(Sum.inl (a, n.toNat, [], []) : cE)] = n.toNat := rfl
      rw [this] at hr
      exact hr
    · cases h
  case inr.anewarray i =>
    unfold cstep at h
    dsimp only at h
    split at h
    · rename_i n st1
      obtain ⟨h1, h⟩ := cbif h
      cases h
      simp only [Bool.and_eq_true, decide_eq_true_eq] at h1
      refine ⟨cMono.app, fun hc hr Hz => cz_newq FF hex hd h1 ?_ hc Hz⟩
      dsimp only at hr
      rw [cslots_app, List.length_append] at hr
      have : cslots [(Sum.inl (a, n.toNat, [], []) : cE)] = n.toNat := rfl
      rw [this] at hr
      exact hr
    · cases h
  case inr.if_icmp op off =>
    cases op
    all_goals (try (exact nomatch (show (none : Option (cS ⊕ List cE)) = some (Sum.inl σ') from h)))
    unfold cstep at h
    dsimp only at h
    split at h
    · rename_i y' x st1
      obtain ⟨h1, h⟩ := cbif h
      simp only [Bool.and_eq_true, cok, decide_eq_true_eq] at h1
      have hxR : qR x := ⟨h1.1.1, h1.1.2⟩
      have hyR : qR y' := ⟨h1.2.1, h1.2.2⟩
      cases hb2 : decide (y' ≤ x) with
      | true =>
        rw [hb2] at h
        cases h
        have hle : y' ≤ x := of_decide_eq_true hb2
        exact ⟨cMono.rf, fun _ _ Hz => cz_st Hz (fun lsr H locs hl hP hS hsz kw => lv_icmp_ge hx hb hd hex (fun _ => kw) (fun q => absurd ((qn_le hyR hxR).mpr hle) q))⟩
      | false =>
        rw [hb2] at h
        cases h
        have hle : ¬ y' ≤ x := of_decide_eq_false hb2
        exact ⟨cMono.rf, fun _ _ Hz => cz_st Hz (fun lsr H locs hl hP hS hsz kw => lv_icmp_ge hx hb hd hex (fun q => absurd ((qn_le hyR hxR).mp q) hle) (fun _ => kw))⟩
    · cases h
  case inr.getfield idx =>
    unfold cstep at h
    dsimp only at h
    split at h
    · split at h
      · rename_i hw
        split at h
        · rename_i hk
          obtain ⟨h1, h⟩ := cbif h
          cases h
          have e1 := Nat.eq_of_beq_eq_true h1
          subst e1
          exact ⟨cMono.rf, fun _ _ Hz => cz_get FF hd hex hw hk Hz⟩
        · cases h
      · cases h
    · cases h
  case inr.putfield idx =>
    unfold cstep at h
    dsimp only at h
    split at h
    · split at h
      · rename_i hw
        obtain ⟨h1, h⟩ := cbif h
        cases h
        simp only [Bool.and_eq_true] at h1
        have e1 := Nat.eq_of_beq_eq_true h1.1.1
        subst e1
        exact ⟨cMono.set hw (by simp [csl]), fun _ _ Hz => cz_put FF hd hex hw h1.1.2 (Nat.blt_eq.mp h1.2) Hz⟩
      · cases h
    · cases h
  case inr.iastore =>
    unfold cstep at h
    dsimp only at h
    split at h
    · split at h
      · rename_i hw
        obtain ⟨h1, h⟩ := cbif h
        cases h
        simp only [Bool.and_eq_true, decide_eq_true_eq] at h1
        exact ⟨cMono.set hw rfl, fun _ _ Hz => cz_iast FF hd hw h1.1 (Nat.blt_eq.mp h1.2) Hz⟩
      · cases h
    · cases h
  case inr.aastore =>
    unfold cstep at h
    dsimp only at h
    split at h
    · split at h
      · rename_i hw hv
        obtain ⟨h1, h⟩ := cbif h
        cases h
        simp only [Bool.and_eq_true, Bool.or_eq_true, decide_eq_true_eq] at h1
        refine ⟨cMono.set hw rfl, fun _ _ Hz => cz_aast FF hd hw hv ?_ h1.1.1 (Nat.blt_eq.mp h1.1.2) Hz⟩
        rcases h1.2 with (q | q) | q
        · exact Or.inl ⟨Nat.eq_of_beq_eq_true q.1, Nat.eq_of_beq_eq_true q.2⟩
        · exact Or.inr (Or.inl ⟨Nat.eq_of_beq_eq_true q.1, Nat.eq_of_beq_eq_true q.2⟩)
        · exact Or.inr (Or.inr ⟨Nat.eq_of_beq_eq_true q.1, Nat.eq_of_beq_eq_true q.2⟩)
      · cases h
    · cases h
  case inr.invokespecial idx =>
    unfold cstep at h
    dsimp only at h
    split at h
    · rename_i i st1
      obtain ⟨hln, h⟩ := cbif h
      have hln : st1.length ≤ 4 := Nat.ble_eq.mp hln
      have hcat : ((st1.map (ctr b)).map fun v => v.category).sum ≤ 8 := ccat st1 hln
      rcases hex with ⟨h99, hlk⟩ | ⟨ha, hm, hpd, hlk⟩
      · dsimp only at h99
        subst h99
        cases h
        refine ⟨cMono.rf, fun _ _ Hz => cz_st Hz (fun lsr H locs hl hP hS hsz kw => ?_)⟩
        exact W.objInit hx hb hown (hts _ hlk) (hts _ lkobj_i) (hts _ lkobj_c) rfl (by rw [hml]; exact hl.1) rfl hd hfr (by show 2 * 0 + _ + 12 ≤ _; omega) kw
      · dsimp only at ha hm hpd hlk
        rw [show Nat.beq a 99 = false from by
          cases hb : Nat.beq a 99 with
          | false => rfl
          | true => have := Nat.eq_of_beq_eq_true hb; omega, cond_false] at h
        split at h
        · rename_i w' hrun
          cases h
          have hmono := hM _ _ _ _ hrun
          refine ⟨hmono, fun hc hr Hz lsr H locs g1 g2 g3 hl hP hS => ?_⟩
          dsimp only at g1 g2 g3 hl hP hr
          have hMet := hC _ _ _ _ hrun hm (by show 1 ≤ cml a; have := cml_pos a; omega) cnl1
          have hPre : PreS s H (va_Pc ([cr i].map (ctr b)) (fun U => U.heap.size = b + w.length ∧ va_P D vwCl (cws b dA w) U.heap ∧ va_K D vwCl (qtys dA) U ∧ cN U)) [Value.ref (b + i)] := ⟨kMet_blind, fun U hU hW => ⟨rfl, by rw [hU]; exact g3, by rw [hU]; exact hP, va_K.moved hW.alike hK, hN.moved hW⟩⟩
          rcases hlk with hlk | hlk
          · have hrun := va_runIN (n := 0) (index := idx) (cc := cby y) (nL := cml y) (Ts := lw_good) (own := cown y) (host := "QuarrelKeys") (b := b + i) (As := []) (rest := st1.map (ctr b)) (g := F0 m pc lsr ((cr i :: st1).map (ctr b))) (locs := locs) (cells := w.length - c0) (slots := cslots w - s0) (l := l) (e := e) (below := below) (meth := meth) (H := H) ⟨hx, hb, hml, hown, hts⟩ hMet
              ⟨va_cnB 0 hts (kG a hm) rfl rfl rfl (hN.1 _ hlk) (hts _ hm.2.1) ⟨hm.2.2.2.1.1, hm.2.2.2.1.2, hpd⟩ ⟨hroomD.1, by have := hm.2.2.2.2.2.1; show 8 + (cml a + 11) + 64 * d ≤ Rm.locals; omega⟩, hm.2.2.2.2.2.2 ha, hts _ hm.2.2.2.2.1⟩
              hPre rfl rfl hl.1 rfl (lv_room hcat) hd ⟨by have := hmono.1; omega, by have := hmono.2; omega⟩
            exact cz_after hmono hrun hc hl hS Hz
          · have hrun := va_runI (n := 0) (index := idx) (cc := cby y) (nL := cml y) (Ts := lw_good) (own := cown y) (b := b + i) (As := []) (rest := st1.map (ctr b)) (g := F0 m pc lsr ((cr i :: st1).map (ctr b))) (locs := locs) (cells := w.length - c0) (slots := cslots w - s0) (l := l) (e := e) (below := below) (meth := meth) (H := H) ⟨hx, hb, hml, hown, hts⟩ hMet
              (cwI 0 hts (kG a hm) rfl rfl rfl (hts _ hm.2.1) (hts _ hlk) (hts _ hm.2.2.2.2.1) (hm.2.2.2.2.2.2 ha) ⟨hm.2.2.2.1.1, hm.2.2.2.1.2, hpd⟩ ⟨hroomD.1, by have := hm.2.2.2.2.2.1; show 8 + (cml a + 11) + 64 * d ≤ Rm.locals; omega⟩)
              hPre rfl rfl hl.1 rfl (lv_room hcat) hd ⟨by have := hmono.1; omega, by have := hmono.2; omega⟩
            exact cz_after hmono hrun hc hl hS Hz
        · cases h
    · cases h
  case inr.invokevirtual idx =>
    unfold cstep at h
    dsimp only at h
    split at h
    · rename_i x i st1
      split at h
      · rename_i c2 fs2 hw
        obtain ⟨h1, h2⟩ := cbif h
        clear h
        simp only [Bool.and_eq_true] at h1
        have e1 := Nat.eq_of_beq_eq_true h1.1
        subst e1
        have hln : st1.length ≤ 4 := Nat.ble_eq.mp h1.2
        have hcat : ((st1.map (ctr b)).map fun v => v.category).sum ≤ 8 := ccat st1 hln
        obtain ⟨ha, hm, hpd, hlk, hsel, hcl⟩ := hex
        dsimp only at ha
        subst ha
        split at h2
        · rename_i w' hrun
          cases h2
          have hmono := hM _ _ _ _ hrun
          refine ⟨hmono, fun hc hr Hz lsr H locs g1 g2 g3 hl hP hS => ?_⟩
          dsimp only at g1 g2 g3 hl hP hr
          have hMet := hC _ _ _ _ hrun hm (show 2 ≤ cml 13 by decide) cnl2
          have hrc := va_recv hK hP (q := (RX12, TX12, 49)) (ci := 12) rfl (cws_at hw)
          have hrun := va_runV (n := 1) (index := idx) (cc := cby y) (nL := cml y) (Ts := lw_good) (own := cown y) (C := (cnm 13).cls) (b := b + i) (As := [.int (Int32.ofInt x)]) (rest := st1.map (ctr b)) (g := F0 m pc lsr ((ci x :: cr i :: st1).map (ctr b))) (locs := locs) (cells := w.length - c0) (slots := cslots w - s0) (l := l) (e := e) (below := below) (meth := meth) (H := H) ⟨hx, hb, hml, hown, hts⟩ hMet
            ⟨callB_of 1 hts (kG 13 hm) rfl rfl rfl (hts _ hm.2.1) (hts _ hlk) ⟨hm.2.2.2.1.1, hm.2.2.2.1.2, hpd⟩ ⟨hroomD.1, by have := hm.2.2.2.2.2.1; show 8 + (cml 13 + 11) + 64 * d ≤ Rm.locals; omega⟩, hts _ hm.2.2.2.2.1, hts _ hsel⟩
            ⟨kMet_blind, by rw [hcl]; exact hrc, fun U hU hW => ⟨rfl, by rw [hU]; exact g3, by rw [hU]; exact hP, va_K.moved hW.alike hK, hN.moved hW⟩⟩
            rfl rfl hl.1 rfl (lv_room hcat) hd ⟨by have := hmono.1; omega, by have := hmono.2; omega⟩
          exact cz_after hmono hrun hc hl hS Hz
        · cases h2
      · cases h
    · cases h
  case inr.return_ =>
    unfold cstep at h
    dsimp only at h
    split at h
    · cases h
    · cases h
end MK3
