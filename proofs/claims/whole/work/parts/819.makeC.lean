section MK2
variable {b : Nat} {dA : Nat → ClassId} {D : va_G} {p : Program} {l : Launch} {e : Env} {Rm : Room} {s : State} {m : MethodId} {args : Array Value} {below : List Frame} {meth : Method} {c : Code} {Q : State → Prop} {y c0 s0 : Nat} {xl : List (Nat × Value)}
variable {pc : Nat} {ls st : List cV} {w : List cE}
theorem cfit_ok {k : Nat} {v : cV} {ty : FieldType} (hv : cfit k v = true) (ht : cfty k ty) : narrow ty (ctr b v) = ctr b v ∧ fits ty (ctr b v) = true := by
  rcases v with x | x | _ | i
  · match k, hv, ht with
    | 0, hv, ht =>
      have ht : ty = .int := ht
      subst ht
      exact ⟨rfl, rfl⟩
    | 4, hv, ht =>
      have ht : ty = .boolean := ht
      subst ht
      have hv : (decide (x = 0) || decide (x = 1)) = true := hv
      simp only [Bool.or_eq_true, decide_eq_true_eq] at hv
      rcases hv with rfl | rfl
      · exact ⟨(by decide : narrow .boolean (.int (Int32.ofInt 0)) = .int (Int32.ofInt 0)), (by decide : fits .boolean (.int (Int32.ofInt 0)) = true)⟩
      · exact ⟨(by decide : narrow .boolean (.int (Int32.ofInt 1)) = .int (Int32.ofInt 1)), (by decide : fits .boolean (.int (Int32.ofInt 1)) = true)⟩
    | 1, hv, _ => cases hv
    | 2, hv, _ => cases hv
    | 3, hv, _ => cases hv
    | k + 5, hv, _ => cases hv
  · match k, hv, ht with
    | 1, hv, ht =>
      have ht : ty = .long := ht
      subst ht
      exact ⟨rfl, rfl⟩
    | 0, hv, _ => cases hv
    | 2, hv, _ => cases hv
    | 3, hv, _ => cases hv
    | 4, hv, _ => cases hv
    | k + 5, hv, _ => cases hv
  · match k, hv, ht with
    | 0, hv, _ => cases hv
    | 1, hv, _ => cases hv
    | 2, hv, _ => cases hv
    | 3, hv, _ => cases hv
    | 4, hv, _ => cases hv
    | k + 5, hv, _ => cases hv
  · match k, hv, ht with
    | 2, hv, ht => exact ht (b + i)
    | 3, hv, ht => exact ht (b + i)
    | 0, hv, _ => cases hv
    | 1, hv, _ => cases hv
    | 4, hv, _ => cases hv
    | k + 5, hv, _ => cases hv
theorem cz_put (F : cFr dA D p s m args meth c y Rm) {idx i a bb k : Nat} {z : Int} {cs : List (Int × Nat)} {fs : List cV} {v : cV} (hd : decode (cby y) pc = .ok (.putfield idx, 3)) (hex : kex y pc (.putfield idx, pc + 3, a, bb, k, z, cs)) (hi : w[i]? = some (.inr (a, fs))) (hv : cfit k v = true) (hl : bb < fs.length) (Hz : cZ b dA D p l e Rm s m args below meth c Q y c0 s0 xl (pc + 3, ls, st, w.set i (.inr (a, fs.set bb v)))) : cZ b dA D p l e Rm s m args below meth c Q y c0 s0 xl (pc, ls, v :: cr i :: st, w) := by
  obtain ⟨hx, hb, hml, hown, hts, hK, hN, hin, hfr, hlo⟩ := F
  obtain ⟨hy, C, T, N, hc, hbN, hlk, hdecl, ty, hpd, hct⟩ := hex
  dsimp only at hc hbN hlk hdecl hpd hct
  obtain ⟨hwin, hnf, ty0, hty, hnm⟩ := qC_cls hc
  obtain ⟨hn, hfit⟩ := cfit_ok (b := b) hv hct
  refine cz_hp hi (by simp [csl]) Hz (fun lsr H locs hP hS hsz hat kk => ?_)
  have hD := cws_D (b := b) (dA := dA) (w := w)
  have hap := va_apart (own := cown y) hts hwin ty0 hty hnm hK hc
  obtain ⟨r, h1, cell, q1, q2, q3, q4⟩ := hP i _ hat
  have hr : r = (C, T, N) := Option.some.inj (h1.symm.trans hc)
  subst hr
  obtain ⟨hSl, hfc, kC, hkC, hkind⟩ := hK.1 a _ hc
  obtain ⟨cf, kf, fi, f, hfi, hsl⟩ := hSl bb hbN
  have hst := (u_facts hfc hkC (u_lays hts hwin hbN) hfi).1
  have hlay := hts _ (hwin _ (u_in_lay hbN))
  unfold u_lay at hlay
  have fin : ∀ (H' : Heap), H'[b + i]? = some (cell.setSlot (D.2 a bb) (ctr b v)) → H'.size = H.size → (∀ q, q ≠ b + i → H'[q]? = H[q]?) → W p l e Rm s m args below meth c H' (locs ++ [⟨b + i, D.2 a bb⟩]) (w.length - c0) (cslots w - s0) Q (F0 m (pc + 3) lsr (st.map (ctr b))) := by
    intro H' e1 e2 e3
    refine kk H' _ e2 (hP.set hD hat ⟨_, hc, t_OB.to (V := updV (vp_V (fs.map (ctr b))) bb (ctr b v)) ⟨_, e1, q2, q3, t_set q4 hap hbN (ctr b v)⟩ (fun j _ => ?_)⟩ e3) (hS.put e2 e3 (Nat.le_add_right b i))
    rw [List.map_set]
    exact vp_updV_set (by simpa using hl) (ctr b v) j
  cases hfin : (T bb).2.2.2 with
  | false =>
    rw [if_neg (by rw [hfin]; decide)] at hlay
    have h6 := u_store hfc hkC hkind hlay hfi hpd hn hfit
    refine W.putK hx hb (f := f) ⟨hown, hts _ hlk, ⟨_, _, _, hfi⟩, hst⟩ (by rw [q2]; exact h6) q1 q3 (by rw [hsl]; exact k2_hasslot (q4 bb hbN)) rfl rfl hd fun H' e1 e2 e3 => ?_
    rw [hsl] at e1 ⊢
    exact fin H' e1 e2 e3
  | true =>
    rw [if_pos hfin] at hlay
    have hcf : m.cls = cf := by
      obtain ⟨_, _, c', _, _, _, -, -, hf', -, -, -, hown2, -⟩ := Cond.laysFinal_spec hlay
      have e1 : c' = cf := by have := hfi.symm.trans hf'; simp at this; exact this.1.symm
      rw [hdecl] at hown2
      rw [← e1]; exact Option.some.inj (hown.symm.trans hown2)
    have h6 := u_fits hfc hkC hkind (Or.inr hlay) hfi hpd hn hfit
    refine W.putFinK hx hb hown (hts _ hlk) hfi hst hcf (hin hy) (by rw [q2]; exact h6) q1 q3 (by rw [hsl]; exact k2_hasslot (q4 bb hbN)) rfl rfl hd fun H' e1 e2 e3 => ?_
    rw [hsl] at e1 ⊢
    exact fin H' e1 e2 e3
theorem cz_get (F : cFr dA D p s m args meth c y Rm) {idx i a bb kk k : Nat} {z : Int} {cs : List (Int × Nat)} {fs : List cV} (hd : decode (cby y) pc = .ok (.getfield idx, 3)) (hex : kex y pc (.getfield idx, pc + 3, a, bb, kk, z, cs)) (hi : w[i]? = some (.inr (a, fs))) (hk : fs[bb]? = some (cr k)) (Hz : cZ b dA D p l e Rm s m args below meth c Q y c0 s0 xl (pc + 3, ls, cr k :: st, w)) : cZ b dA D p l e Rm s m args below meth c Q y c0 s0 xl (pc, ls, cr i :: st, w) := by
  obtain ⟨hx, hb, hml, hown, hts, hK, hN, hin, hfr, hlo⟩ := F
  obtain ⟨C, T, N, hc, hbN, hlk⟩ := hex
  dsimp only at hc hbN hlk
  refine cz_st Hz (fun lsr H locs hl hP hS hsz kw => ?_)
  refine va_get hx hb hts (qC_cls hc).1 hown hK hP i (cws_at hi) hc bb hbN (hts _ hlk) (fun _ q => q) (v := .ref (b + k)) ?_ hd kw
  rw [List.getElem?_map, hk]
  rfl
theorem cz_iast (F : cFr dA D p s m args meth c y Rm) {i n : Nat} {rs : List (Option Nat)} {log : List (Nat × Int)} {x k : Int} (hd : decode (cby y) pc = .ok (.iastore, 1)) (hi : w[i]? = some (.inl (0, n, rs, log))) (hk : 0 ≤ k ∧ k < n) (hn : n < 10000) (Hz : cZ b dA D p l e Rm s m args below meth c Q y c0 s0 xl (pc + 1, ls, st, w.set i (.inl (0, n, rs, (k.toNat, x) :: log)))) : cZ b dA D p l e Rm s m args below meth c Q y c0 s0 xl (pc, ls, ci x :: ci k :: cr i :: st, w) := by
  obtain ⟨hx, hb, hml, hown, hts, hK, hN, hin, hfr, hlo⟩ := F
  have hkR : qR k := ⟨by omega, by omega⟩
  obtain ⟨hin, hcl⟩ := qn_in (n := n) hkR hk.1 hk.2
  refine cz_hp (E' := .inl (0, n, rs, (k.toNat, x) :: log)) hi rfl Hz (fun lsr H locs hP hS hsz hat kk => ?_)
  have hD := cws_D (b := b) (dA := dA) (w := w)
  have ha : H[b + i]? = some (vp_cell (dA 0) (n, .inl (fun k => Int32.ofInt (clog log k)))) := hP i _ hat
  refine W.iast hx hb ha ((hK.2 0 _ rfl).1 n (fun j => .int (Int32.ofInt (clog log j)))) (fun q => by cases q) (by show ¬ (_ < 0 ∨ (arrV _ _ _).slots.size ≤ _); rw [arrV_size]; exact hin) rfl rfl hd fun H1 e1 z1 oq => ?_
  refine kk H1 _ z1 (hP.set hD hat ?_ oq) (hS.put z1 oq (Nat.le_add_right b i))
  show H1[b + i]? = some (vp_cell _ _)
  rw [e1, vp_cell_i, hcl]
  show _ = some (vp_cell (dA 0) (n, .inl (fun j => Int32.ofInt (clog ((k.toNat, x) :: log) j))))
  rw [vp_cell_i, arrV_store]
  congr 2
  funext q
  show updV _ _ _ q = .int (Int32.ofInt (bif Nat.beq k.toNat q then x else clog log q))
  unfold updV
  by_cases hq : q = k.toNat
  · subst hq
    simp
  · rw [if_neg hq]
    cases hb : Nat.beq k.toNat q with
    | true => exact absurd (Nat.eq_of_beq_eq_true hb).symm hq
    | false => rfl
theorem crf_set {rs : List (Option Nat)} {k v : Nat} : crf b ((rs ++ List.replicate (k + 1 - rs.length) none).set k (some v)) = va_up (crf b rs) k (some (b + v)) := by
  funext j
  unfold crf va_up
  rw [List.getElem?_set]
  by_cases hj : j = k
  · subst hj
    rw [if_pos rfl, if_pos (by simp; omega)]
    simp
  · rw [if_neg (fun q => hj q.symm)]
    simp only [hj, if_false]
    by_cases hl : j < rs.length
    · rw [List.getElem?_append_left hl]
    · rw [List.getElem?_append_right (by omega), List.getElem?_eq_none (by omega : rs.length ≤ j), List.getElem?_replicate]
      split
      · rename_i h; split at h
        · cases h
        · cases h
      · rfl
theorem cz_aast (F : cFr dA D p s m args meth c y Rm) {i v n t ci2 : Nat} {rs : List (Option Nat)} {log : List (Nat × Int)} {fs : List cV} {k : Int} (hd : decode (cby y) pc = .ok (.aastore, 1)) (hi : w[i]? = some (.inl (t, n, rs, log))) (hv : w[v]? = some (.inr (ci2, fs))) (ht : (t = 3 ∧ ci2 = 10) ∨ (t = 4 ∧ ci2 = 7) ∨ (t = 5 ∧ ci2 = 1)) (hk : 0 ≤ k ∧ k < n) (hn : n < 10000) (Hz : cZ b dA D p l e Rm s m args below meth c Q y c0 s0 xl (pc + 1, ls, st, w.set i (.inl (t, n, (rs ++ List.replicate (k.toNat + 1 - rs.length) none).set k.toNat (some v), log)))) : cZ b dA D p l e Rm s m args below meth c Q y c0 s0 xl (pc, ls, cr v :: ci k :: cr i :: st, w) := by
  obtain ⟨hx, hb, hml, hown, hts, hK, hN, hin, hfr, hlo⟩ := F
  have hkR : qR k := ⟨by omega, by omega⟩
  obtain ⟨hin, hcl⟩ := qn_in (n := n) hkR hk.1 hk.2
  have hlt : (Int32.ofInt k).toNatClampNeg < n := by rw [hcl]; omega
  have h0 : ¬ Int32.ofInt k < 0 := fun q => hin (Or.inl q)
  refine cz_hp (E' := .inl (t, n, (rs ++ List.replicate (k.toNat + 1 - rs.length) none).set k.toNat (some v), log)) hi rfl Hz (fun lsr H locs hP hS hsz hat kk => ?_)
  have hD := cws_D (b := b) (dA := dA) (w := w)
  have go : ∀ (C : String) (T : u_T) (N : Nat), vwCl[ci2]? = some (C, T, N) → (qtys dA)[t]? = some (dA t, .object C) → (∀ rs log, cce b dA (.inl (t, n, rs, log)) = .inl (dA t, n, .inr (.inr (.inr (.inr (crf b rs)))))) → W p l e Rm s m args below meth c H locs (w.length - c0) (cslots w - s0) Q (F0 m pc lsr ((cr v :: ci k :: cr i :: st).map (ctr b))) := by
    intro C T N hc hty hcc
    rw [hcc] at hat
    have ha : H[b + i]? = some (vp_cell (dA t) (n, .inr (.inr (.inr (.inr (crf b rs)))))) := hP i _ hat
    obtain ⟨r', hr', cellV, g1, g2, g3, -⟩ := hP v _ (cws_at hv)
    have hcls := (hK.1 ci2 _ hc).2
    obtain ⟨kA, comp, k1, k2, k3, -⟩ := (hK.2 t _ hty).2
    have hcomp : comp = D.1 ci2 := Option.some.inj (k3.symm.trans hcls.1)
    subst hcomp
    obtain ⟨kC, hkC, -⟩ := hcls.2
    refine W.aast hx hb ha (fun q h => by cases h) (fun h => by cases h) k1 k2 rfl hkC ⟨h0, by show _ < (arrV _ _ _).slots.size; rw [arrV_size]; exact hlt⟩ g1 (fun q h => by rw [g3] at h; cases h) (by rw [g2]; exact hkC) (by rw [g2]; exact va_assign hcls) rfl rfl hd fun H1 e1 z1 oq => ?_
    refine kk H1 _ z1 (hP.set hD hat ?_ oq) (hS.put z1 oq (Nat.le_add_right b i))
    rw [hcc]
    show H1[b + i]? = some (vp_cell _ _)
    rw [e1, vp_cell_q, hcl, crf_set]
    show _ = some (vp_cell (dA t) (n, .inr (.inr (.inr (.inr (va_up (crf b rs) k.toNat (some (b + v))))))))
    rw [vp_cell_q, arrV_store]
    congr 2
    funext q
    by_cases hq : q = k.toNat
    · subst hq
      simp [updV, va_up, va_rf]
    · simp [updV, va_up, hq]
  rcases ht with ⟨rfl, rfl⟩ | ⟨rfl, rfl⟩ | ⟨rfl, rfl⟩
  · exact go RX10 TX10 3 rfl rfl (fun _ _ => rfl)
  · exact go RX7 TX7 14 rfl rfl (fun _ _ => rfl)
  · exact go RX1 TX1 8 rfl rfl (fun _ _ => rfl)
theorem kG (a : Nat) (ha : kmok a) : GoodIn lw_good (Cond.code (cnm a) (cby a) (cml a) none :: lw_good) := by
  intro w hw
  rcases List.mem_cons.mp hw with rfl | hw
  · exact lw_good_good _ ha.1
  · exact lw_good_good _ hw
theorem kMet_blind {av : List Value} : FrameBlind (va_Pc av (fun U => U.heap.size = b + w.length ∧ va_P D vwCl (cws b dA w) U.heap ∧ va_K D vwCl (qtys dA) U ∧ cN U)) := by
  intro a U g mk q
  obtain ⟨q0, q1, qP, qK, qN⟩ := q
  exact ⟨q0, q1, qP, va_K.moved (u := U) (U := U.calling g mk a) (Vm.Alike.refl U.vm) qK, ⟨fun w hw => by
    obtain ⟨a1, i1, x1, ho, rfl⟩ := cnest_is w hw
    exact va_Nw.same rfl (rfl : U.vm = (U.calling g mk a).vm) (qN.1 _ hw), va_AO.moved (Vm.Alike.refl U.vm) qN.2.1, va_AO.moved (Vm.Alike.refl U.vm) qN.2.2.1, va_AO.moved (Vm.Alike.refl U.vm) qN.2.2.2⟩⟩
theorem cz_after {w' : List cE} {r : List cV} {lsr : Array Slot} {H : Heap} {locs : List Loc} {st0 : List Value} (hmono : w.length ≤ w'.length ∧ cslots w ≤ cslots w')
    (hr : va_Run p l e Rm s m args below meth c H locs (w.length - c0) (cslots w - s0) (w'.length - w.length) (cslots w' - cslots w) (F0 m pc lsr st0) (r.map (ctr b)) (fun st oc t => (oc = .returned none ∧ t.heap.size = b + w'.length ∧ va_P D vwCl (cws b dA w') t.heap) ∧ va_F (fun q => b ≤ q) st t) (fun q => b ≤ q))
    (hc : c0 ≤ w.length ∧ s0 ≤ cslots w) (hl : lv_has lsr (cml y) (xl ++ clv b ls)) (hS : va_S (fun q => b ≤ q) s.heap H locs) (Hz : cZ b dA D p l e Rm s m args below meth c Q y c0 s0 xl (pc + 3, ls, r, w')) : W p l e Rm s m args below meth c H locs (w.length - c0) (cslots w - s0) Q (F0 m pc lsr st0) := by
  intro T hT X
  obtain ⟨v, st₀, t, T', L', h0, X', hL, e1, e2, ⟨⟨hv, hsz, hP'⟩, hz, hk⟩, stp⟩ := hr T hT X
  cases hv
  rw [h0] at hz hk
  have hS1 : va_S (fun q => b ≤ q) s.heap T'.heap (locs ++ L') := ⟨Nat.le_trans hS.1 (by rw [e1]; exact hz), fun q h1 h2 => by rw [e1, hk q (Nat.lt_of_lt_of_le h1 hS.1) h2]; exact hS.2.1 q h1 h2, fun q hq => by
      rcases List.mem_append.mp hq with h | h
      · exact hS.2.2 q h
      · exact hL q h⟩
  rw [← e1] at hP' hsz
  have K := Hz lsr T'.heap (locs ++ L') (by show c0 ≤ w'.length; omega) (by show s0 ≤ cslots w'; omega) hsz hl hP' hS1
  dsimp only at K
  have a1 : w'.length - c0 = w.length - c0 + (w'.length - w.length) := by omega
  have a2 : cslots w' - s0 = cslots w - s0 + (cslots w' - cslots w) := by omega
  rw [a1, a2] at K
  obtain ⟨t2, b1, b2⟩ := K T' rfl X'
  exact ⟨t2, stp t2 b1, b2⟩
end MK2
