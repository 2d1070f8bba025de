theorem in_places {ws : List Jvm.Cond} (ps : List Nat) (hp : ws = ps.filterMap (fun i => tables_1[i]?)) (hg : ws.all goodWord = true) : ∀ w ∈ ws, w ∈ lw_good := by
  intro w hw
  have h1 := List.all_eq_true.mp hg w hw
  rw [hp] at hw
  obtain ⟨i, -, hi⟩ := List.mem_filterMap.mp hw
  exact lw_good_in (List.mem_append_right _ (List.mem_of_getElem? hi)) h1
set_option maxRecDepth 100000 in
theorem inG0 : ∀ w ∈ u_ws RX0 TX0 5, w ∈ lw_good := in_places [378, 380, 382, 384, 386] (by decide +kernel) (by decide +kernel)
set_option maxRecDepth 100000 in
theorem inG1 : ∀ w ∈ u_ws RX1 TX1 8, w ∈ lw_good := in_places [234, 236, 238, 240, 242, 244, 246, 248] (by decide +kernel) (by decide +kernel)
set_option maxRecDepth 100000 in
theorem inG2 : ∀ w ∈ u_ws RX2 TX2 2, w ∈ lw_good := in_places [111, 113] (by decide +kernel) (by decide +kernel)
set_option maxRecDepth 100000 in
theorem inG3 : ∀ w ∈ u_ws RX3 TX3 9, w ∈ lw_good := in_places [347, 349, 351, 353, 355, 357, 359, 361, 363] (by decide +kernel) (by decide +kernel)
set_option maxRecDepth 100000 in
theorem inG4 : ∀ w ∈ u_ws RX4 TX4 2, w ∈ lw_good := in_places [399, 401] (by decide +kernel) (by decide +kernel)
set_option maxRecDepth 100000 in
theorem inG5 : ∀ w ∈ u_ws RX5 TX5 9, w ∈ lw_good := in_places [275, 277, 279, 281, 283, 285, 287, 289, 291] (by decide +kernel) (by decide +kernel)
set_option maxRecDepth 100000 in
theorem inG6 : ∀ w ∈ u_ws RX6 TX6 9, w ∈ lw_good := in_places [311, 313, 315, 317, 319, 321, 323, 325, 327] (by decide +kernel) (by decide +kernel)
set_option maxRecDepth 100000 in
theorem inG7 : ∀ w ∈ u_ws RX7 TX7 14, w ∈ lw_good := in_places [179, 181, 183, 185, 187, 189, 191, 193, 195, 197, 199, 201, 203, 205] (by decide +kernel) (by decide +kernel)
set_option maxRecDepth 100000 in
theorem inG8 : ∀ w ∈ u_ws RX8 TX8 2, w ∈ lw_good := in_places [98, 100] (by decide +kernel) (by decide +kernel)
set_option maxRecDepth 100000 in
theorem inG9 : ∀ w ∈ u_ws RX9 TX9 14, w ∈ lw_good := in_places [60, 62, 64, 66, 68, 70, 72, 74, 76, 78, 80, 82, 84, 86] (by decide +kernel) (by decide +kernel)
set_option maxRecDepth 100000 in
theorem inG10 : ∀ w ∈ u_ws RX10 TX10 3, w ∈ lw_good := in_places [417, 419, 421] (by decide +kernel) (by decide +kernel)
set_option maxRecDepth 100000 in
theorem inG11 : ∀ w ∈ u_ws RX11 TX11 20, w ∈ lw_good := in_places [444, 446, 448, 450, 452, 454, 456, 458, 460, 462, 464, 466, 468, 470, 472, 474, 476, 478, 480, 482] (by decide +kernel) (by decide +kernel)
set_option maxRecDepth 100000 in
theorem inG12 : ∀ w ∈ u_ws RX12 TX12 49, w ∈ lw_good := in_places [1299, 1301, 1303, 1305, 1307, 1309, 1311, 1313, 1315, 1317, 1319, 1321, 1323, 1325, 1327, 1329, 1331, 1333, 1335, 1337, 1339, 1341, 1343, 1345, 1347, 1349, 1351, 1353, 1355, 1357, 1359, 1361, 1363, 1365, 1367, 1369, 1371, 1373, 1375, 1377, 1379, 1381, 1383, 1385, 1387, 1389, 1391, 1393, 1395] (by decide +kernel) (by decide +kernel)
section SND
variable {adr : qA} {dA : Nat → ClassId} {A : Nat → Prop} {D : va_G} {L : Nat} {xs : Nat → Int32} {p : Program} {l : Launch} {e : Env} {Rm : Room} {s : State} {m : MethodId} {args : Array Value} {below : List Frame} {meth : Method} {c : Code} {Q : State → Prop} {y k0 n0 : Nat}
variable {pc : Nat} {ls st : List qV} {h : qH}
theorem qs_c {v : qV} {r : List qV} (hv : qvok v) (hr : ∀ w ∈ r, qvok w) : ∀ w ∈ v :: r, qvok w := List.forall_mem_cons.mpr ⟨hv, hr⟩
theorem qs_h {v : qV} {r : List qV} (hr : ∀ w ∈ v :: r, qvok w) : qvok v := hr v List.mem_cons_self
theorem qs_t {v : qV} {r : List qV} (hr : ∀ w ∈ v :: r, qvok w) : ∀ w ∈ r, qvok w := fun w hw => hr w (List.mem_cons_of_mem _ hw)
theorem z_st {st' : List qV} {pc' : Nat} (Hz : qZ adr dA A D L xs p l e Rm s m args below meth c Q y k0 n0 pc' ls st' h) (hv : qhok h → (∀ v ∈ ls, qlok v) → (∀ v ∈ st, qvok v) → ∀ v ∈ st', qvok v) (kk : ∀ (lsr : Array Slot) (H : Heap) (locs : List Loc), (∀ v ∈ st, qvok v) → lv_has lsr (qml y) (qlv adr ls) → qhok h → qro L xs h → va_P D vwCl (qws adr dA h) H → va_S A s.heap H locs → W p l e Rm s m args below meth c H locs k0 n0 Q (F0 m pc' lsr (st'.map (qtr adr))) → W p l e Rm s m args below meth c H locs k0 n0 Q (F0 m pc lsr (st.map (qtr adr)))) : qZ adr dA A D L xs p l e Rm s m args below meth c Q y k0 n0 pc ls st h :=
  fun lsr H locs hh ho hst hls hln hl hP hS => kk lsr H locs hst hl hh ho hP hS (Hz lsr H locs hh ho (hv hh hls hst) hls hln hl hP hS)
theorem z_ld {v : qV} {k : Nat} {pc' : Nat} (hk : ls[k]? = some v) (hn : v ≠ qu) (Hz : qZ adr dA A D L xs p l e Rm s m args below meth c Q y k0 n0 pc' ls (v :: st) h) (kk : ∀ (lsr : Array Slot) (H : Heap) (locs : List Loc), lsr[k]? = some (.val (qtr adr v)) → W p l e Rm s m args below meth c H locs k0 n0 Q (F0 m pc' lsr ((v :: st).map (qtr adr))) → W p l e Rm s m args below meth c H locs k0 n0 Q (F0 m pc lsr (st.map (qtr adr)))) : qZ adr dA A D L xs p l e Rm s m args below meth c Q y k0 n0 pc ls st h :=
  z_st Hz (fun _ hls hst => qs_c ((hls v (List.mem_of_getElem? hk)).resolve_left hn) hst) (fun lsr H locs _ hl _ _ _ _ w => kk lsr H locs (hl.2.2 (k, qtr adr v) (qlv_mem.mpr ⟨v, hk, hn, rfl⟩)) w)
/-- a store of one word -/
theorem z_sto {v : qV} {k : Nat} {pc' : Nat} {r : List qV} (hv : v ≠ qu) (hc : ∀ x, v ≠ ql x) (Hz : qZ adr dA A D L xs p l e Rm s m args below meth c Q y k0 n0 pc' (qst ls k v) r h) (hok : qvok v) (hr : (∀ v ∈ st, qvok v) → ∀ v ∈ r, qvok v) (kk : ∀ (lsr : Array Slot) (H : Heap) (locs : List Loc), lv_has lsr (qml y) (qlv adr ls) → (∀ lsr' : Array Slot, lv_has lsr' (qml y) ((k, qtr adr v) :: (qlv adr ls).filter (fun q => !(q.1 == k) && !(q.1 + 1 == k && q.2.category == 2))) → W p l e Rm s m args below meth c H locs k0 n0 Q (F0 m pc' lsr' (r.map (qtr adr)))) → W p l e Rm s m args below meth c H locs k0 n0 Q (F0 m pc lsr (st.map (qtr adr)))) : qZ adr dA A D L xs p l e Rm s m args below meth c Q y k0 n0 pc ls st h := by
  intro lsr H locs hh ho hst hls hln hl hP hS
  refine kk lsr H locs hl (fun lsr' hl' => Hz lsr' H locs hh ho (hr hst) ?_ (by rw [qst_len]; exact hln) (hl'.mono ?_) hP hS)
  · intro w hw
    obtain ⟨j, hj⟩ := List.getElem?_of_mem hw
    rcases qst_at ls k v hj with ⟨_, rfl⟩ | e | ⟨_, e, _⟩
    · exact Or.inr hok
    · exact Or.inl e
    · exact hls w (List.mem_of_getElem? e)
  · rintro ⟨j, w⟩ hq
    obtain ⟨u, hu, hn, rfl⟩ := qlv_mem.mp hq
    rcases qst_at ls k v hu with ⟨rfl, rfl⟩ | e | ⟨e1, e2, e3⟩
    · exact List.mem_cons_self
    · exact absurd e hn
    · refine List.mem_cons_of_mem _ (List.mem_filter.mpr ⟨qlv_mem.mpr ⟨u, e2, hn, rfl⟩, ?_⟩)
      have hb1 : (j == k) = false := by simpa using e1
      have hb2 : (j + 1 == k && (qtr adr u).category == 2) = false := by
        cases hx : (j + 1 == k && (qtr adr u).category == 2) with
        | false => rfl
        | true =>
          simp only [Bool.and_eq_true, beq_iff_eq] at hx
          exact absurd ⟨hx.1, (qtr_cat hn).mp hx.2⟩ e3
      simp only [hb1, hb2]
      rfl
/-- a store of two words -/
theorem z_sto2 {x : Int} {k : Nat} {pc' : Nat} {r : List qV} (Hz : qZ adr dA A D L xs p l e Rm s m args below meth c Q y k0 n0 pc' (qst2 ls k (ql x)) r h) (hok : qvok (ql x)) (hr : (∀ v ∈ st, qvok v) → ∀ v ∈ r, qvok v) (kk : ∀ (lsr : Array Slot) (H : Heap) (locs : List Loc), lv_has lsr (qml y) (qlv adr ls) → (∀ lsr' : Array Slot, lv_has lsr' (qml y) ((k, qtr adr (ql x)) :: (qlv adr ls).filter (fun q => !(q.1 == k) && (!(q.1 == k + 1) && !(q.1 + 1 == k && q.2.category == 2)))) → W p l e Rm s m args below meth c H locs k0 n0 Q (F0 m pc' lsr' (r.map (qtr adr)))) → W p l e Rm s m args below meth c H locs k0 n0 Q (F0 m pc lsr (st.map (qtr adr)))) : qZ adr dA A D L xs p l e Rm s m args below meth c Q y k0 n0 pc ls st h := by
  intro lsr H locs hh ho hst hls hln hl hP hS
  refine kk lsr H locs hl (fun lsr' hl' => Hz lsr' H locs hh ho (hr hst) ?_ (by rw [qst2_len]; exact hln) (hl'.mono ?_) hP hS)
  · intro w hw
    obtain ⟨j, hj⟩ := List.getElem?_of_mem hw
    rcases qst2_at ls k (ql x) hj with ⟨_, rfl⟩ | e | ⟨_, _, e, _⟩
    · exact Or.inr hok
    · exact Or.inl e
    · exact hls w (List.mem_of_getElem? e)
  · rintro ⟨j, w⟩ hq
    obtain ⟨u, hu, hn, rfl⟩ := qlv_mem.mp hq
    rcases qst2_at ls k (ql x) hu with ⟨rfl, rfl⟩ | e | ⟨e1, e1', e2, e3⟩
    · exact List.mem_cons_self
    · exact absurd e hn
    · refine List.mem_cons_of_mem _ (List.mem_filter.mpr ⟨qlv_mem.mpr ⟨u, e2, hn, rfl⟩, ?_⟩)
      have hb1 : (j == k) = false := by simpa using e1
      have hb3 : (j == k + 1) = false := by simpa using e1'
      have hb2 : (j + 1 == k && (qtr adr u).category == 2) = false := by
        cases hx : (j + 1 == k && (qtr adr u).category == 2) with
        | false => rfl
        | true =>
          simp only [Bool.and_eq_true, beq_iff_eq] at hx
          exact absurd ⟨hx.1, (qtr_cat hn).mp hx.2⟩ e3
      simp only [hb1, hb2, hb3]
      rfl
/-- the small heap changes with the machine's -/
theorem z_hp {h' : qH} {pc' : Nat} {r : List qV} (Hz : qZ adr dA A D L xs p l e Rm s m args below meth c Q y k0 n0 pc' ls r h') (hr : (∀ v ∈ st, qvok v) → ∀ v ∈ r, qvok v) (hh' : qhok h → (∀ v ∈ st, qvok v) → qhok h') (ho' : (∀ v ∈ st, qvok v) → ∀ c i j k, 90 ≤ c → h' c i j k = h c i j k) (kk : ∀ (lsr : Array Slot) (H : Heap) (locs : List Loc), lsr.size = qml y → (∀ v ∈ st, qvok v) → qhok h → va_P D vwCl (qws adr dA h) H → va_S A s.heap H locs → (∀ (H1 : Heap) (locs1 : List Loc), va_P D vwCl (qws adr dA h') H1 → va_S A s.heap H1 locs1 → W p l e Rm s m args below meth c H1 locs1 k0 n0 Q (F0 m pc' lsr (r.map (qtr adr)))) → W p l e Rm s m args below meth c H locs k0 n0 Q (F0 m pc lsr (st.map (qtr adr)))) : qZ adr dA A D L xs p l e Rm s m args below meth c Q y k0 n0 pc ls st h :=
  fun lsr H locs hh ho hst hls hln hl hP hS => kk lsr H locs hl.1 hst hh hP hS (fun H1 locs1 hP1 hS1 => Hz lsr H1 locs1 (hh' hh hst) (qro_up ho (ho' hst)) (hr hst) hls hln hl hP1 hS1)
theorem qC_cls {a : Nat} {C : String} {T : u_T} {N : Nat} (hc : vwCl[a]? = some (C, T, N)) : (∀ w ∈ u_ws C T N, w ∈ lw_good) ∧ qnf a = N ∧ ∃ ty : Nat → FieldType, (∀ k, k < N → parseFieldDescriptor (T k).2.2.1 = some (ty k)) ∧ ∀ a, a < N → ∀ b, b < N → a ≠ b → (T a).2.1 ≠ (T b).2.1 := by
  have hf : qnf a = N := by unfold qnf; rw [hc]
  refine ⟨?_, hf, ?_⟩
  · match a, hc with
    | 0, hc =>
      have hc : some (RX0, TX0, 5) = some (C, T, N) := hc
      cases hc
      exact inG0
    | 1, hc =>
      have hc : some (RX1, TX1, 8) = some (C, T, N) := hc
      cases hc
      exact inG1
    | 2, hc =>
      have hc : some (RX2, TX2, 2) = some (C, T, N) := hc
      cases hc
      exact inG2
    | 3, hc =>
      have hc : some (RX3, TX3, 9) = some (C, T, N) := hc
      cases hc
      exact inG3
    | 4, hc =>
      have hc : some (RX4, TX4, 2) = some (C, T, N) := hc
      cases hc
      exact inG4
    | 5, hc =>
      have hc : some (RX5, TX5, 9) = some (C, T, N) := hc
      cases hc
      exact inG5
    | 6, hc =>
      have hc : some (RX6, TX6, 9) = some (C, T, N) := hc
      cases hc
      exact inG6
    | 7, hc =>
      have hc : some (RX7, TX7, 14) = some (C, T, N) := hc
      cases hc
      exact inG7
    | 8, hc =>
      have hc : some (RX8, TX8, 2) = some (C, T, N) := hc
      cases hc
      exact inG8
    | 9, hc =>
      have hc : some (RX9, TX9, 14) = some (C, T, N) := hc
      cases hc
      exact inG9
    | 10, hc =>
      have hc : some (RX10, TX10, 3) = some (C, T, N) := hc
      cases hc
      exact inG10
    | 11, hc =>
      have hc : some (RX11, TX11, 20) = some (C, T, N) := hc
      cases hc
      exact inG11
    | 12, hc =>
      have hc : some (RX12, TX12, 49) = some (C, T, N) := hc
      cases hc
      exact inG12
    | n + 13, hc => simp [vwCl] at hc
  · match a, hc with
    | 0, hc =>
      have hc : some (RX0, TX0, 5) = some (C, T, N) := hc
      cases hc
      exact ⟨tyX0, tyX0_ok, nmX0⟩
    | 1, hc =>
      have hc : some (RX1, TX1, 8) = some (C, T, N) := hc
      cases hc
      exact ⟨tyX1, tyX1_ok, nmX1⟩
    | 2, hc =>
      have hc : some (RX2, TX2, 2) = some (C, T, N) := hc
      cases hc
      exact ⟨tyX2, tyX2_ok, nmX2⟩
    | 3, hc =>
      have hc : some (RX3, TX3, 9) = some (C, T, N) := hc
      cases hc
      exact ⟨tyX3, tyX3_ok, nmX3⟩
    | 4, hc =>
      have hc : some (RX4, TX4, 2) = some (C, T, N) := hc
      cases hc
      exact ⟨tyX4, tyX4_ok, nmX4⟩
    | 5, hc =>
      have hc : some (RX5, TX5, 9) = some (C, T, N) := hc
      cases hc
      exact ⟨tyX5, tyX5_ok, nmX5⟩
    | 6, hc =>
      have hc : some (RX6, TX6, 9) = some (C, T, N) := hc
      cases hc
      exact ⟨tyX6, tyX6_ok, nmX6⟩
    | 7, hc =>
      have hc : some (RX7, TX7, 14) = some (C, T, N) := hc
      cases hc
      exact ⟨tyX7, tyX7_ok, nmX7⟩
    | 8, hc =>
      have hc : some (RX8, TX8, 2) = some (C, T, N) := hc
      cases hc
      exact ⟨tyX8, tyX8_ok, nmX8⟩
    | 9, hc =>
      have hc : some (RX9, TX9, 14) = some (C, T, N) := hc
      cases hc
      exact ⟨tyX9, tyX9_ok, nmX9⟩
    | 10, hc =>
      have hc : some (RX10, TX10, 3) = some (C, T, N) := hc
      cases hc
      exact ⟨tyX10, tyX10_ok, nmX10⟩
    | 11, hc =>
      have hc : some (RX11, TX11, 20) = some (C, T, N) := hc
      cases hc
      exact ⟨tyX11, tyX11_ok, nmX11⟩
    | 12, hc =>
      have hc : some (RX12, TX12, 49) = some (C, T, N) := hc
      cases hc
      exact ⟨tyX12, tyX12_ok, nmX12⟩
    | n + 13, hc => simp [vwCl] at hc
end SND

/-- a scalar slot isn't an array's -/
theorem qal_sc {a b : Nat} {C : String} {T : u_T} {N : Nat} (hc : vwCl[a]? = some (C, T, N)) (hb : b < N) (hk : qfk a b ≠ 2) : (qal a b).1 ≠ 0 ∧ (qal a b).1 ≠ 1 ∧ (qal a b).1 ≠ 2 := by
  have hN : qnf a = N := by unfold qnf; rw [hc]
  have ha : a < 13 := by
    rcases Nat.lt_or_ge a 13 with q | q
    · exact q
    · rw [List.getElem?_eq_none (by simpa [vwCl] using q)] at hc; cases hc
  have := (show ∀ a, a < 13 → ∀ b, b < qnf a → qfk a b ≠ 2 → (qal a b).1 ≠ 0 ∧ (qal a b).1 ≠ 1 ∧ (qal a b).1 ≠ 2 by decide +kernel) a ha b (by rw [hN]; exact hb) hk
  exact this
theorem qids_all0 : (qids.all fun id => (List.range 60).all fun b => (!(id.2.2 == 0 && Nat.blt b (qnf id.1) && qfk id.1 b == 2) || qids.elem (id.1, id.2.1, b + 1)) && (!(id.2.2 == 0 && Nat.blt b (qnf id.1) && qfk id.1 b == 3) || qids.elem ((qfo id.1 b).1, (qfo id.1 b).2, 0))) = true := by decide +kernel
theorem qnf_60 : ∀ id ∈ qids, qnf id.1 < 60 := by decide +kernel
theorem qids_all : ∀ id ∈ qids, id.2.2 = 0 → ∀ b, b < qnf id.1 → (qfk id.1 b = 2 → (id.1, id.2.1, b + 1) ∈ qids) ∧ (qfk id.1 b = 3 → ((qfo id.1 b).1, (qfo id.1 b).2, 0) ∈ qids) := by
  intro id hm h0 b hb
  have h1 := List.all_eq_true.mp (List.all_eq_true.mp qids_all0 id hm) b (List.mem_range.mpr (Nat.lt_trans hb (qnf_60 id hm)))
  rw [Bool.and_eq_true] at h1
  refine ⟨fun h => ?_, fun h => ?_⟩
  · have h2 := h1.1
    rw [h0, h, show Nat.blt b (qnf id.1) = true from Nat.blt_eq.mpr hb] at h2
    exact List.elem_iff.mp (by simpa using h2)
  · have h2 := h1.2
    rw [h0, h, show Nat.blt b (qnf id.1) = true from Nat.blt_eq.mpr hb] at h2
    exact List.elem_iff.mp (by simpa using h2)
theorem qids_arr {a i b : Nat} {C : String} {T : u_T} {N : Nat} (hm : (a, i, 0) ∈ qids) (hc : vwCl[a]? = some (C, T, N)) (hb : b < N) (hk : qfk a b = 2) : (a, i, b + 1) ∈ qids := by
  have hN : qnf a = N := by unfold qnf; rw [hc]
  exact (qids_all _ hm rfl b (by rw [hN]; exact hb)).1 hk
theorem qids_obj {a i b : Nat} {C : String} {T : u_T} {N : Nat} (hm : (a, i, 0) ∈ qids) (hc : vwCl[a]? = some (C, T, N)) (hb : b < N) (hk : qfk a b = 3) {c' i' : Nat} (e : qfo a b = (c', i')) : (c', i', 0) ∈ qids := by
  have hN : qnf a = N := by unfold qnf; rw [hc]
  have := (qids_all _ hm rfl b (by rw [hN]; exact hb)).2 hk
  rw [e] at this
  exact this
theorem qids_ra0 : (qids.all fun id => (List.range 60).all fun j => (List.range 5).all fun k => (!(id.2.2 == j + 1 && (qal id.1 j).1 == 3 && decide ((k : Int) < (qal id.1 j).2)) || qids.elem ((qra id.1 j).1, (qra id.1 j).2 + k, 0))) = true := by decide +kernel
theorem qids_small : ∀ id ∈ qids, id.2.2 < 61 ∧ ((qal id.1 (id.2.2 - 1)).1 = 3 → (qal id.1 (id.2.2 - 1)).2 < 5) := by decide +kernel
theorem qids_ra {c i j k : Nat} (hm : (c, i, j + 1) ∈ qids) (hk : (qal c j).1 = 3) (hb : (k : Int) < (qal c j).2) : ((qra c j).1, (qra c j).2 + k, 0) ∈ qids := by
  have h1 := qids_small _ hm
  have h2 := h1.2 hk
  have h3 := h1.1
  dsimp only at h2 h3
  rw [show j + 1 - 1 = j from rfl] at h2
  have h4 := List.all_eq_true.mp (List.all_eq_true.mp (List.all_eq_true.mp qids_ra0 _ hm) j (List.mem_range.mpr (by omega))) k (List.mem_range.mpr (by omega))
  dsimp only at h4
  rw [hk, decide_eq_true hb] at h4
  exact List.elem_iff.mp (by simpa using h4)
