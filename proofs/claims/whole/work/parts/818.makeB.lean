section MK
variable {b : Nat} {dA : Nat → ClassId} {D : va_G} {p : Program} {l : Launch} {e : Env} {Rm : Room} {s : State} {m : MethodId} {args : Array Value} {below : List Frame} {meth : Method} {c : Code} {Q : State → Prop} {y c0 s0 : Nat} {xl : List (Nat × Value)}
variable {pc : Nat} {ls st : List cV} {w : List cE}
theorem clv_setx (hx0 : ∀ q ∈ xl, q.1 = 0 ∧ ¬ q.2.category = 2) {k : Nat} (hk1 : 1 ≤ k) {v : cV} {wv : Value} (hv : (∃ x, v = ci x ∧ wv = .int (Int32.ofInt x)) ∨ (∃ i, v = cr i ∧ wv = .ref (b + i))) : ∀ q ∈ xl ++ clv b (ls.set k v), q ∈ (k, wv) :: (xl ++ clv b ls).filter (fun q => !(q.1 == k) && !(q.1 + 1 == k && q.2.category == 2)) := by
  intro q hq
  rcases List.mem_append.mp hq with hq | hq
  · obtain ⟨h1, h2⟩ := hx0 q hq
    refine List.mem_cons_of_mem _ (List.mem_filter.mpr ⟨List.mem_append_left _ hq, ?_⟩)
    have hb1 : (q.1 == k) = false := by rw [h1]; simp; omega
    have hb2 : (q.2.category == 2) = false := by simpa using h2
    rw [hb1, hb2]
    simp
  · rcases List.mem_cons.mp (clv_set hv q hq) with h | h
    · exact List.mem_cons.mpr (Or.inl h)
    · obtain ⟨h1, h2⟩ := List.mem_filter.mp h
      exact List.mem_cons_of_mem _ (List.mem_filter.mpr ⟨List.mem_append_right _ h1, h2⟩)
theorem cz_st {pc' : Nat} {st' : List cV} (Hz : cZ b dA D p l e Rm s m args below meth c Q y c0 s0 xl (pc', ls, st', w)) (kk : ∀ (lsr : Array Slot) (H : Heap) (locs : List Loc), lv_has lsr (cml y) (xl ++ clv b ls) → va_P D vwCl (cws b dA w) H → va_S (fun q => b ≤ q) s.heap H locs → H.size = b + w.length → W p l e Rm s m args below meth c H locs (w.length - c0) (cslots w - s0) Q (F0 m pc' lsr (st'.map (ctr b))) → W p l e Rm s m args below meth c H locs (w.length - c0) (cslots w - s0) Q (F0 m pc lsr (st.map (ctr b)))) : cZ b dA D p l e Rm s m args below meth c Q y c0 s0 xl (pc, ls, st, w) :=
  fun lsr H locs h1 h2 h3 hl hP hS => kk lsr H locs hl hP hS h3 (Hz lsr H locs h1 h2 h3 hl hP hS)
theorem cz_sto (hx0 : ∀ q ∈ xl, q.1 = 0 ∧ ¬ q.2.category = 2) {pc' k : Nat} (hk1 : 1 ≤ k) {v : cV} {wv : Value} {r : List cV} (hv : (∃ x, v = ci x ∧ wv = .int (Int32.ofInt x)) ∨ (∃ i, v = cr i ∧ wv = .ref (b + i))) (Hz : cZ b dA D p l e Rm s m args below meth c Q y c0 s0 xl (pc', ls.set k v, r, w)) (kk : ∀ (lsr : Array Slot) (H : Heap) (locs : List Loc), lv_has lsr (cml y) (xl ++ clv b ls) → (∀ lsr' : Array Slot, lv_has lsr' (cml y) ((k, wv) :: (xl ++ clv b ls).filter (fun q => !(q.1 == k) && !(q.1 + 1 == k && q.2.category == 2))) → W p l e Rm s m args below meth c H locs (w.length - c0) (cslots w - s0) Q (F0 m pc' lsr' (r.map (ctr b)))) → W p l e Rm s m args below meth c H locs (w.length - c0) (cslots w - s0) Q (F0 m pc lsr (st.map (ctr b)))) : cZ b dA D p l e Rm s m args below meth c Q y c0 s0 xl (pc, ls, st, w) :=
  fun lsr H locs h1 h2 h3 hl hP hS => kk lsr H locs hl (fun lsr' hl' => Hz lsr' H locs h1 h2 h3 (hl'.mono (clv_setx hx0 hk1 hv)) hP hS)
/-- a cell is made -/
theorem cz_al {pc' : Nat} {r : List cV} {E : cE} {N : Nat} (hE : csl E = N) (Hz : cZ b dA D p l e Rm s m args below meth c Q y c0 s0 xl (pc', ls, cr w.length :: r, w ++ [E])) (kk : ∀ (lsr : Array Slot) (H : Heap) (locs : List Loc), va_P D vwCl (cws b dA w) H → va_S (fun q => b ≤ q) s.heap H locs → H.size = b + w.length → (∀ (H1 : Heap), H1.size = b + w.length + 1 → (∀ q, q < b + w.length → H1[q]? = H[q]?) → va_at D vwCl (b + w.length, cce b dA E) H1 → W p l e Rm s m args below meth c H1 locs (w.length - c0 + 1) (cslots w - s0 + N) Q (F0 m pc' lsr (.ref (b + w.length) :: r.map (ctr b)))) → W p l e Rm s m args below meth c H locs (w.length - c0) (cslots w - s0) Q (F0 m pc lsr (st.map (ctr b)))) : cZ b dA D p l e Rm s m args below meth c Q y c0 s0 xl (pc, ls, st, w) := by
  intro lsr H locs h1 h2 h3 hl hP hS
  dsimp only at h1 h2 h3 hl hP
  refine kk lsr H locs hP hS h3 (fun H1 z1 o1 hat => ?_)
  have hP1 : va_P D vwCl (cws b dA (w ++ [E])) H1 := by
    rw [cws_app]
    refine (hP.kept (fun k x hx => o1 x.1 (by have := (hP k x hx).lt; omega))).app (fun k x hx => ?_)
    have hz : k < 1 := (List.getElem?_eq_some_iff.mp hx).1
    rw [show k = 0 by omega] at hx
    cases hx
    exact hat
  have hS1 : va_S (fun q => b ≤ q) s.heap H1 locs := ⟨Nat.le_trans hS.1 (by omega), fun x g1 g2 => (o1 x (by have := hS.1; omega)).trans (hS.2.1 x g1 g2), hS.2.2⟩
  have K := Hz lsr H1 locs (by simp; omega) (by rw [cslots_app]; omega) (by simp; omega) hl hP1 hS1
  dsimp only at K
  have e1 : (w ++ [E]).length - c0 = w.length - c0 + 1 := by simp; omega
  have e2 : cslots (w ++ [E]) - s0 = cslots w - s0 + N := by
    rw [cslots_app]
    show cslots w + (csl E + 0) - s0 = _
    rw [hE]
    omega
  rw [e1, e2] at K
  exact K
theorem cz_new (F : cFr dA D p s m args meth c y Rm) {i a : Nat} {r : qrow} (hr : r.1 = .new i) (ha : r.2.2.1 = a) (hd : decode (cby y) pc = .ok (.new i, 3)) (hex : kex y pc r) (hroom : w.length + 1 - c0 ≤ Rm.cells ∧ cslots w + (cdf a).length - s0 ≤ Rm.slots) (hc0 : c0 ≤ w.length ∧ s0 ≤ cslots w) (Hz : cZ b dA D p l e Rm s m args below meth c Q y c0 s0 xl (pc + 3, ls, cr w.length :: st, w ++ [.inr (a, cdf a)])) : cZ b dA D p l e Rm s m args below meth c Q y c0 s0 xl (pc, ls, st, w) := by
  obtain ⟨hx, hb, hml, hown, hts, hK, hN, hin, hfr, hlo⟩ := F
  obtain ⟨r1, r2, r3, r4⟩ := r
  dsimp only at hr
  subst hr
  obtain ⟨C, T, N, hc, hcl, hins, hini, hlen, ty, hty, hdv⟩ := hex
  dsimp only at ha hc hlen hdv
  rw [ha] at hc hlen hdv
  have hKn := hK.1 a _ hc
  refine cz_al (E := .inr (a, cdf a)) (N := N) hlen Hz (fun lsr H locs hP hS hsz kk => ?_)
  refine W.newcK hx hb hown (hts _ hcl) (hts _ hins) (hts _ hini) rfl hd (by omega) (by omega) hKn.2.1 hsz fun H1 kC hkC e1 z1 o1 => kk H1 z1 o1 ?_
  exact ⟨_, hc, (u_born ty hts (qC_cls hc).1 hKn hkC e1 hty).to (fun j hj => hdv b j hj)⟩
theorem cz_newa (F : cFr dA D p s m args meth c y Rm) {t : ArrayType} {a : Nat} (ha : (a = 0 ∧ t = .int) ∨ (a = 1 ∧ t = .long) ∨ (a = 2 ∧ t = .byte)) (hd : decode (cby y) pc = .ok (.newarray t, 2)) {n : Int} (hn : 0 ≤ n ∧ n < 10000) (hroom : w.length + 1 - c0 ≤ Rm.cells ∧ cslots w + n.toNat - s0 ≤ Rm.slots) (hc0 : c0 ≤ w.length ∧ s0 ≤ cslots w) (Hz : cZ b dA D p l e Rm s m args below meth c Q y c0 s0 xl (pc + 2, ls, cr w.length :: st, w ++ [.inl (a, n.toNat, [], [])])) : cZ b dA D p l e Rm s m args below meth c Q y c0 s0 xl (pc, ls, ci n :: st, w) := by
  obtain ⟨hx, hb, hml, hown, hts, hK, hN, hin, hfr, hlo⟩ := F
  have hnR : qR n := ⟨by omega, by omega⟩
  have ng : ¬ Int32.ofInt n < 0 := fun hlt => by rw [← qn_of0, qn_lt hnR qn_0] at hlt; omega
  have cl : (Int32.ofInt n).toNatClampNeg = n.toNat := by
    show (Int32.ofInt n).toInt.toNat = n.toNat
    rw [qn1 hnR]
  refine cz_al (E := .inl (a, n.toNat, [], [])) (N := n.toNat) rfl Hz (fun lsr H locs hP hS hsz kk => ?_)
  rcases ha with ⟨rfl, rfl⟩ | ⟨rfl, rfl⟩ | ⟨rfl, rfl⟩
  · refine va_newaK (atype := .int) hx hb (hts _ lkarr_i) rfl hd rfl ng cl (by show n.toNat * 4 ≤ _; omega) (by omega) (by omega) hsz fun H1 cA e1 z1 o1 hAr hNm => kk H1 z1 o1 ?_
    have hcA : cA = dA 0 := Option.some.inj (hNm.symm.trans (hK.2 0 _ rfl).2)
    subst hcA
    exact e1
  · refine va_newaK (atype := .long) hx hb (hts _ lkarr_l) rfl hd rfl ng cl (by show n.toNat * 8 ≤ _; omega) (by omega) (by omega) hsz fun H1 cA e1 z1 o1 hAr hNm => kk H1 z1 o1 ?_
    have hcA : cA = dA 1 := Option.some.inj (hNm.symm.trans (hK.2 1 _ rfl).2)
    subst hcA
    exact e1
  · refine va_newaK (atype := .byte) hx hb (hts _ lkarr_b) rfl hd rfl ng cl (by show n.toNat * 1 ≤ _; omega) (by omega) (by omega) hsz fun H1 cA e1 z1 o1 hAr hNm => kk H1 z1 o1 ?_
    have hcA : cA = dA 2 := Option.some.inj (hNm.symm.trans (hK.2 2 _ rfl).2)
    subst hcA
    exact e1
theorem cz_newq (F : cFr dA D p s m args meth c y Rm) {i a : Nat} (ha : (a = 3 ∧ Cond.classLink (cown y) i RX10 ∈ lw_good) ∨ (a = 4 ∧ Cond.classLink (cown y) i RX7 ∈ lw_good) ∨ (a = 5 ∧ Cond.classLink (cown y) i RX1 ∈ lw_good)) (hd : decode (cby y) pc = .ok (.anewarray i, 3)) {n : Int} (hn : 0 ≤ n ∧ n < 10000) (hroom : w.length + 1 - c0 ≤ Rm.cells ∧ cslots w + n.toNat - s0 ≤ Rm.slots) (hc0 : c0 ≤ w.length ∧ s0 ≤ cslots w) (Hz : cZ b dA D p l e Rm s m args below meth c Q y c0 s0 xl (pc + 3, ls, cr w.length :: st, w ++ [.inl (a, n.toNat, [], [])])) : cZ b dA D p l e Rm s m args below meth c Q y c0 s0 xl (pc, ls, ci n :: st, w) := by
  obtain ⟨hx, hb, hml, hown, hts, hK, hN, hin, hfr, hlo⟩ := F
  have hnR : qR n := ⟨by omega, by omega⟩
  have ng : ¬ Int32.ofInt n < 0 := fun hlt => by rw [← qn_of0, qn_lt hnR qn_0] at hlt; omega
  have cl : (Int32.ofInt n).toNatClampNeg = n.toNat := by
    show (Int32.ofInt n).toInt.toNat = n.toNat
    rw [qn1 hnR]
  have go : ∀ (C : String) (t : Nat), (∀ (rs : List (Option Nat)) (log : List (Nat × Int)) (k : Nat), cce b dA (.inl (t, k, rs, log)) = .inl (dA t, k, .inr (.inr (.inr (.inr (crf b rs)))))) → va_AO C s → Cond.classLink (cown y) i C ∈ lw_good → va_RA s (dA t) (.object C) → cZ b dA D p l e Rm s m args below meth c Q y c0 s0 xl (pc + 3, ls, cr w.length :: st, w ++ [.inl (t, n.toNat, [], [])]) → cZ b dA D p l e Rm s m args below meth c Q y c0 s0 xl (pc, ls, ci n :: st, w) := by
    intro C t hcc hAO hlk hRA Hz
    refine cz_al (E := .inl (t, n.toNat, [], [])) (N := n.toNat) rfl Hz (fun lsr H locs hP hS hsz kk => ?_)
    refine W.anew hx hb hown (hts _ hlk) (va_AO.use hAO) rfl hd rfl ng (by rw [cl]; omega) (by omega) (by rw [cl]; omega) fun cA kA comp f1 f2 f3 f4 => ?_
    obtain ⟨kA', comp', g1, g2, g3, g4⟩ := hRA
    have hcA : cA = dA t := Option.some.inj (f1.symm.trans g4)
    subst hcA
    have K := kk (H.push { cls := dA t, slots := Array.replicate (Int32.ofInt n).toNatClampNeg .null, vm := .none }) (by rw [Array.size_push, hsz]) (fun q hq => by rw [Array.getElem?_push, if_neg (by omega)]) (by
      rw [hcc]
      show _ = some (vp_cell _ _)
      rw [← hsz, Array.getElem?_push_size, cl]
      show _ = some (arrV (dA t) n.toNat (fun _ => .null))
      rw [← arrV_new])
    rw [cl] at K ⊢
    rw [hsz]
    exact K
  rcases ha with ⟨rfl, hlk⟩ | ⟨rfl, hlk⟩ | ⟨rfl, hlk⟩
  · exact go RX10 3 (fun _ _ _ => rfl) hN.2.1 hlk (hK.2 3 _ rfl).2 Hz
  · exact go RX7 4 (fun _ _ _ => rfl) hN.2.2.1 hlk (hK.2 4 _ rfl).2 Hz
  · exact go RX1 5 (fun _ _ _ => rfl) hN.2.2.2 hlk (hK.2 5 _ rfl).2 Hz
/-- a cell changes -/
theorem cz_hp {pc' i : Nat} {r : List cV} {E E' : cE} (hi : w[i]? = some E) (hE : csl E' = csl E) (Hz : cZ b dA D p l e Rm s m args below meth c Q y c0 s0 xl (pc', ls, r, w.set i E')) (kk : ∀ (lsr : Array Slot) (H : Heap) (locs : List Loc), va_P D vwCl (cws b dA w) H → va_S (fun q => b ≤ q) s.heap H locs → H.size = b + w.length → (cws b dA w)[i]? = some (b + i, cce b dA E) → (∀ (H1 : Heap) (locs1 : List Loc), H1.size = H.size → va_P D vwCl ((cws b dA w).set i (b + i, cce b dA E')) H1 → va_S (fun q => b ≤ q) s.heap H1 locs1 → W p l e Rm s m args below meth c H1 locs1 (w.length - c0) (cslots w - s0) Q (F0 m pc' lsr (r.map (ctr b)))) → W p l e Rm s m args below meth c H locs (w.length - c0) (cslots w - s0) Q (F0 m pc lsr (st.map (ctr b)))) : cZ b dA D p l e Rm s m args below meth c Q y c0 s0 xl (pc, ls, st, w) := by
  intro lsr H locs h1 h2 h3 hl hP hS
  dsimp only at h1 h2 h3 hl hP
  refine kk lsr H locs hP hS h3 (cws_at hi) (fun H1 locs1 z1 hP1 hS1 => ?_)
  rw [cws_set rfl] at hP1
  have e2 : cslots (w.set i E') = cslots w := cslots_set hi hE
  have K := Hz lsr H1 locs1 (by simpa using h1) (by rw [e2]; exact h2) (by rw [z1, h3]; simp) hl hP1 hS1
  dsimp only at K
  rw [e2, List.length_set] at K
  exact K
end MK
