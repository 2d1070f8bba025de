theorem lkmax_s : Cond.static Lib.Math.max.name ∈ lw_good := lw_good_in (List.mem_append_right _ (List.mem_of_getElem? (i := 878) (by decide +kernel))) rfl
theorem lkmax_c : Cond.code Lib.Math.max.name Lib.Math.max.code 2 (some .int) ∈ lw_good := lw_good_in (List.mem_append_right _ (List.mem_of_getElem? (i := 879) (by decide +kernel))) rfl
theorem lkmin_s : Cond.static Lib.Math.min.name ∈ lw_good := lw_good_in (List.mem_append_right _ (List.mem_of_getElem? (i := 578) (by decide +kernel))) rfl
theorem lkmin_c : Cond.code Lib.Math.min.name Lib.Math.min.code 2 (some .int) ∈ lw_good := lw_good_in (List.mem_append_right _ (List.mem_of_getElem? (i := 579) (by decide +kernel))) rfl
theorem lkabs_s : Cond.static Lib.MathLoose.abs_long.x ∈ lw_good := lw_good_in (List.mem_append_right _ (List.mem_of_getElem? (i := 1975) (by decide +kernel))) rfl
theorem lkabs_c : Cond.code Lib.MathLoose.abs_long.x Lib.MathLoose.abs_long.code 2 (some .long) ∈ lw_good := lw_good_in (List.mem_append_right _ (List.mem_of_getElem? (i := 1976) (by decide +kernel))) rfl
theorem lkmath_i : Cond.initialized "java/lang/Math" ∈ lw_good := lw_good_in (List.mem_append_right _ (List.mem_of_getElem? (i := 15) (by decide +kernel))) rfl
theorem lksys_i : Cond.initialized "java/lang/System" ∈ lw_good := lw_good_in (List.mem_append_right _ (List.mem_of_getElem? (i := 14) (by decide +kernel))) rfl
theorem lkcpy_s : Cond.static arraycopyName ∈ lw_good := lw_good_in (List.mem_append_right _ (List.mem_of_getElem? (i := 555) (by decide +kernel))) rfl
theorem lkcpy_n : Cond.native arraycopyName ∈ lw_good := lw_good_in (List.mem_append_right _ (List.mem_of_getElem? (i := 556) (by decide +kernel))) rfl
section SNG
variable {adr : qA} {dA : Nat → ClassId} {A : Nat → Prop} {D : va_G} {L : Nat} {xs : Nat → Int32} {p : Program} {l : Launch} {e : Env} {Rm : Room} {s : State} {m : MethodId} {args : Array Value} {below : List Frame} {meth : Method} {c : Code} {Q : State → Prop} {y k0 n0 : Nat}
variable {pc : Nat} {ls st : List qV} {h : qH}
theorem z_copy (F : qFr adr dA A D L xs p s m args c y Rm) (hk0 : k0 ≤ Rm.cells ∧ n0 ≤ Rm.slots) {idx : Nat} (hd : decode (qby y) pc = .ok (.invokestatic idx, 3)) (hlk : Cond.methodLink (qown y) idx arraycopyName ∈ lw_good) (hcat : qcat st ≤ 20) (H : qcopy st h fun r h' => qZ adr dA A D L xs p l e Rm s m args below meth c Q y k0 n0 (pc + 3) ls r h') : qZ adr dA A D L xs p l e Rm s m args below meth c Q y k0 n0 pc ls st h := by
  obtain ⟨hx, hb, hml, hown, hts, hK, hO, hD, hfr, hlo⟩ := F
  obtain ⟨n, dp, c', i, j, sp, c0, i0, j0, r, rfl, hkk, h90, h90', hk2, ⟨b1, b2, b3, b4, b5⟩, Hz⟩ := qcopy_of H
  refine z_hp Hz (fun hst => qs_t (qs_t (qs_t (qs_t (qs_t hst))))) (fun hh hst => qhok_cp hh ?_) (fun hst c i j k hc90 => ?_) (fun lsr H locs hsz hst hh hP hS w => ?_)
  · rcases (show (qal c' j).1 = 0 ∨ (qal c' j).1 = 1 by omega) with q | q
    · rw [qsk_0 q, qsk_0 (hkk.symm.trans q)]
    · rw [qsk_1 q, qsk_1 (hkk.symm.trans q)]
  · unfold qcp
    rw [if_neg (fun q => by omega)]
  · have hnR : qR n := qs_h hst
    have hdR : qR dp := qs_h (qs_t hst)
    have hm : (c', i, j + 1) ∈ qids := by
      rcases qs_h (qs_t (qs_t hst)) with hm | hp | hp
      · exact hm
      · cases hp; omega
      · cases hp; omega
    have hsR : qR sp := qs_h (qs_t (qs_t (qs_t hst)))
    have hm0 : (c0, i0, j0 + 1) ∈ qids := by
      rcases qs_h (qs_t (qs_t (qs_t (qs_t hst)))) with hm | hp | hp
      · exact hm
      · cases hp; omega
      · cases hp; omega
    rw [qlen_in hm0] at b4
    rw [qlen_in hm] at b5
    have g1 := (qids_2 hm).2.2.2
    have g0 := (qids_2 hm0).2.2.2
    have cl : ∀ z : Int, qR z → (Int32.ofInt z).toNatClampNeg = z.toNat := fun z hz => by
      show (Int32.ofInt z).toInt.toNat = z.toNat
      rw [qn1 hz]
    have ng : ∀ z : Int, qR z → 0 ≤ z → ¬ Int32.ofInt z < 0 := fun z hz h0 hlt => by
      rw [← qn_of0, qn_lt hz qn_0] at hlt; omega
    obtain ⟨q0, hq0, hq1⟩ := qws_at (adr := adr) (dA := dA) (h := h) hm0
    obtain ⟨q2, hq2, hq3⟩ := qws_at (adr := adr) (dA := dA) (h := h) hm
    have hcr : qcat r ≤ 15 := by
      have : qcat (qi n :: qi dp :: qa c' i j :: qi sp :: qa c0 i0 j0 :: r) = qcat r + 1 + 1 + 1 + 1 + 1 := rfl
      omega
    have hloc : ((r.map (qtr adr)).map fun v => v.category).sum + (nativeFrameWords "java/lang/System" "arraycopy" 5 + 11) ≤ Rm.locals := by
      rw [qcat_eq]
      have : nativeFrameWords "java/lang/System" "arraycopy" 5 = 7 := by decide +kernel
      omega
    have hoth : ∀ c2 i2 j2 k2, ¬ (c2 = c' ∧ i2 = i ∧ j2 = j) → qcp h c0 i0 j0 sp.toNat c' i j dp.toNat n.toNat c2 i2 j2 k2 = h c2 i2 j2 k2 := fun c2 i2 j2 k2 hn => if_neg (fun q => hn ⟨q.2.1, q.2.2.2, q.1⟩)
    rcases (show (qal c' j).1 = 0 ∨ (qal c' j).1 = 1 by omega) with q | q
    · have q' := hkk.symm.trans q
      rw [qce_0 q'] at hq1
      rw [qce_0 q] at hq3
      refine va_copyi (ty := .int) hx hb (by rw [hml]; exact hsz.symm) hown (hts _ hlk) (hts _ lkcpy_n) (hts _ lkcpy_s) (hts _ lksys_i) hK hP (hD h) hS q0 q2 0 0 hq1 hq3 rfl rfl rfl (ng sp hsR b1) (ng dp hdR b2) (ng n hnR b3) (by rw [cl sp hsR, cl n hnR]; omega) (by rw [cl dp hdR, cl n hnR]; omega) (fun _ _ => rfl) hfr hloc hd (fun H1 locs1 hP1 hD1 hS1 => w H1 locs1 ?_ hS1)
      rw [← qws_ast hq2 hoth rfl]
      rw [qce_0 q]
      rw [cl sp hsR, cl dp hdR, cl n hnR] at hP1
      have e1 : (fun k' => Int32.ofInt (qcp h c0 i0 j0 sp.toNat c' i j dp.toNat n.toNat c' i j k')) = va_cpy (fun k => Int32.ofInt (h c0 i0 j0 k)) (fun k => Int32.ofInt (h c' i j k)) sp.toNat dp.toNat n.toNat := by
        funext k'
        unfold qcp va_cpy
        by_cases hkk : dp.toNat ≤ k' ∧ k' < dp.toNat + n.toNat
        · rw [if_pos hkk, if_pos ⟨rfl, rfl, hkk, rfl⟩]
        · rw [if_neg hkk, if_neg (fun q => hkk q.2.2.1)]
      rw [e1]; exact hP1
    · have q' := hkk.symm.trans q
      rw [qce_1 q'] at hq1
      rw [qce_1 q] at hq3
      refine va_copyl (ty := .long) hx hb (by rw [hml]; exact hsz.symm) hown (hts _ hlk) (hts _ lkcpy_n) (hts _ lkcpy_s) (hts _ lksys_i) hK hP (hD h) hS q0 q2 1 1 hq1 hq3 rfl rfl rfl (ng sp hsR b1) (ng dp hdR b2) (ng n hnR b3) (by rw [cl sp hsR, cl n hnR]; omega) (by rw [cl dp hdR, cl n hnR]; omega) (fun _ _ => rfl) hfr hloc hd (fun H1 locs1 hP1 hD1 hS1 => w H1 locs1 ?_ hS1)
      rw [← qws_ast hq2 hoth rfl]
      rw [qce_1 q]
      rw [cl sp hsR, cl dp hdR, cl n hnR] at hP1
      have e1 : (fun k' => Int64.ofInt (qcp h c0 i0 j0 sp.toNat c' i j dp.toNat n.toNat c' i j k')) = va_cpy (fun k => Int64.ofInt (h c0 i0 j0 k)) (fun k => Int64.ofInt (h c' i j k)) sp.toNat dp.toNat n.toNat := by
        funext k'
        unfold qcp va_cpy
        by_cases hkk : dp.toNat ≤ k' ∧ k' < dp.toNat + n.toNat
        · rw [if_pos hkk, if_pos ⟨rfl, rfl, hkk, rfl⟩]
        · rw [if_neg hkk, if_neg (fun q => hkk q.2.2.1)]
      rw [e1]; exact hP1
set_option maxRecDepth 100000 in
theorem z_prim (F : qFr adr dA A D L xs p s m args c y Rm) (hk0 : k0 ≤ Rm.cells ∧ n0 ≤ Rm.slots) {idx a b k : Nat} {z : Int} {cs : List (Int × Nat)} (hd : decode (qby y) pc = .ok (.invokestatic idx, 3)) (hex : (a = 1000 ∧ Cond.methodLink (qown y) idx Lib.Math.max.name ∈ lw_good) ∨ (a = 1001 ∧ Cond.methodLink (qown y) idx Lib.Math.min.name ∈ lw_good) ∨ (a = 1002 ∧ Cond.methodLink (qown y) idx Lib.MathLoose.abs_long.x ∈ lw_good) ∨ (a = 1003 ∧ Cond.methodLink (qown y) idx arraycopyName ∈ lw_good)) (hcat : qcat st ≤ 20) (H : qprim (.invokestatic idx, pc + 3, a, b, k, z, cs) ls st h (qZ adr dA A D L xs p l e Rm s m args below meth c Q y k0 n0)) : qZ adr dA A D L xs p l e Rm s m args below meth c Q y k0 n0 pc ls st h := by
  have FF := F
  obtain ⟨hx, hb, hml, hown, hts, hK, hO, hD, hfr, hlo⟩ := F
  unfold qprim at H
  dsimp only at H
  rcases hex with ⟨ha, hlk⟩ | ⟨ha, hlk⟩ | ⟨ha, hlk⟩ | ⟨ha, hlk⟩
  · rw [show a - 1000 = 0 by omega] at H
    obtain ⟨x, y', r, rfl, Hz⟩ := q2_of (show q2 st fun u v r => qZ adr dA A D L xs p l e Rm s m args below meth c Q y k0 n0 (pc + 3) ls (qi (max u v) :: r) h from H)
    have hcr : qcat r ≤ 18 := by
      have : qcat (qi y' :: qi x :: r) = qcat r + 1 + 1 := rfl
      omega
    refine z_st Hz (fun _ _ hst => qs_c ?_ (qs_t (qs_t hst))) (fun lsr H locs hst hl hh ho hP hS w => ?_)
    · have h1 : qR x := qs_h (qs_t hst)
      have h2 : qR y' := qs_h hst
      show qR (max x y')
      unfold qR at *
      omega
    · have h1 : qR x := qs_h (qs_t hst)
      have h2 : qR y' := qs_h hst
      refine va_mmax hx hb (by rw [hml]; exact hl.1.symm) hown (hts _ hlk) (hts _ lkmax_s) (hts _ lkmath_i) (hts _ lkmax_c) hfr (by rw [qcat_eq]; omega) hk0.1 hk0.2 hd ?_
      have e1 : (if Int32.ofInt x < Int32.ofInt y' then Int32.ofInt y' else Int32.ofInt x) = Int32.ofInt (max x y') := by
        rw [Int.max_def]
        by_cases hlt : x < y'
        · rw [if_pos ((qn_lt h1 h2).mpr hlt), if_pos (by omega)]
        · rw [if_neg (fun q => hlt ((qn_lt h1 h2).mp q))]
          by_cases heq : x = y'
          · subst heq; simp
          · rw [if_neg (by omega)]
      rw [e1]; exact w
  · rw [show a - 1000 = 1 by omega] at H
    obtain ⟨x, y', r, rfl, Hz⟩ := q2_of (show q2 st fun u v r => qZ adr dA A D L xs p l e Rm s m args below meth c Q y k0 n0 (pc + 3) ls (qi (min u v) :: r) h from H)
    have hcr : qcat r ≤ 18 := by
      have : qcat (qi y' :: qi x :: r) = qcat r + 1 + 1 := rfl
      omega
    refine z_st Hz (fun _ _ hst => qs_c ?_ (qs_t (qs_t hst))) (fun lsr H locs hst hl hh ho hP hS w => ?_)
    · have h1 : qR x := qs_h (qs_t hst)
      have h2 : qR y' := qs_h hst
      show qR (min x y')
      unfold qR at *
      omega
    · have h1 : qR x := qs_h (qs_t hst)
      have h2 : qR y' := qs_h hst
      refine va_mmin hx hb (by rw [hml]; exact hl.1.symm) hown (hts _ hlk) (hts _ lkmin_s) (hts _ lkmath_i) (hts _ lkmin_c) hfr (by rw [qcat_eq]; omega) hk0.1 hk0.2 hd ?_
      have e1 : (if Int32.ofInt y' < Int32.ofInt x then Int32.ofInt y' else Int32.ofInt x) = Int32.ofInt (min x y') := by
        rw [Int.min_def]
        by_cases hlt : y' < x
        · rw [if_pos ((qn_lt h2 h1).mpr hlt), if_neg (by omega)]
        · rw [if_neg (fun q => hlt ((qn_lt h2 h1).mp q)), if_pos (by omega)]
      rw [e1]; exact w
  · rw [show a - 1000 = 2 by omega] at H
    obtain ⟨x, r, rfl, hx0, Hz⟩ := qL1_of (show qL1 st fun x r => 0 ≤ x ∧ qZ adr dA A D L xs p l e Rm s m args below meth c Q y k0 n0 (pc + 3) ls (ql x :: r) h from H)
    have hcr : qcat r ≤ 18 := by
      have : qcat (ql x :: r) = qcat r + 2 := rfl
      omega
    refine z_st Hz (fun _ _ hst => hst) (fun lsr H locs hst hl hh ho hP hS w => ?_)
    have h1 : qRL x := qs_h hst
    refine va_mabs_long hx hb (by rw [hml]; exact hl.1.symm) hown (hts _ hlk) (hts _ lkabs_s) (hts _ lkmath_i) (hts _ lkabs_c) hfr (by rw [qcat_eq]; omega) hk0.1 hk0.2 hd ?_
    have e1 : (if 0 < Int64.ofInt x then Int64.ofInt x else -Int64.ofInt x) = Int64.ofInt x := by
      by_cases h0 : x = 0
      · subst h0; rfl
      · rw [if_pos]
        rw [Int64.lt_iff_toInt_lt, qn1L h1]
        show (0 : Int) < x
        omega
    rw [e1]; exact w
  · rw [show a - 1000 = 3 by omega] at H
    exact z_copy FF hk0 hd hlk hcat H
/-- what a return needs -/
def qRt (adr : qA) (dA : Nat → ClassId) (A : Nat → Prop) (D : va_G) (L : Nat) (xs : Nat → Int32) (p : Program) (l : Launch) (e : Env) (Rm : Room) (s : State) (m : MethodId) (args : Array Value) (below : List Frame) (meth : Method) (c : Code) (Q : State → Prop) (y k0 n0 : Nat) (R : Option qV → qH → Prop) : Prop :=
  (∀ (x : Int) (h : qH) (H : Heap) (locs : List Loc) (pc : Nat) (lsr : Array Slot), R (some (qi x)) h → qR x → qhok h → qro L xs h → va_P D vwCl (qws adr dA h) H → va_S A s.heap H locs → decode (qby y) pc = .ok (.ireturn, 1) → (qrt y = some .int ∨ (qrt y = some .boolean ∧ (x = 0 ∨ x = 1))) → W p l e Rm s m args below meth c H locs k0 n0 Q (F0 m pc lsr [.int (Int32.ofInt x)])) ∧
  (∀ (x : Int) (h : qH) (H : Heap) (locs : List Loc) (pc : Nat) (lsr : Array Slot), R (some (ql x)) h → qRL x → qhok h → qro L xs h → va_P D vwCl (qws adr dA h) H → va_S A s.heap H locs → decode (qby y) pc = .ok (.lreturn, 1) → qrt y = some .long → W p l e Rm s m args below meth c H locs k0 n0 Q (F0 m pc lsr [.long (Int64.ofInt x)])) ∧
  (∀ (h : qH) (H : Heap) (locs : List Loc) (pc : Nat) (lsr : Array Slot), R none h → qhok h → qro L xs h → va_P D vwCl (qws adr dA h) H → va_S A s.heap H locs → decode (qby y) pc = .ok (.return_, 1) → qrt y = none → W p l e Rm s m args below meth c H locs k0 n0 Q (F0 m pc lsr []))
set_option maxRecDepth 100000 in
theorem z_step (F : qFr adr dA A D L xs p s m args c y Rm) {d : Nat} (hk0 : k0 ≤ Rm.cells ∧ n0 ≤ Rm.slots) (hroom : d + 1 ≤ Rm.frames ∧ 64 * (d + 1) ≤ Rm.locals) (hC : ∀ a as h R', qT d a 0 (qpad (qml a) (qflat as)) [] h R' → (∀ v ∈ as, qvok v) → qmok a → qcat as ≤ qml a → qMet l adr dA A D L xs d a as h R')
    {R : Option qV → qH → Prop} (hRt : qRt adr dA A D L xs p l e Rm s m args below meth c Q y k0 n0 R) (hok : qok y pc (qpg y pc)) (H : qstep (qC d) R (qpg y pc) ls st h (qZ adr dA A D L xs p l e Rm s m args below meth c Q y k0 n0)) : qZ adr dA A D L xs p l e Rm s m args below meth c Q y k0 n0 pc ls st h := by
  have FF := F
  obtain ⟨hx, hb, hml, hown, hts, hK, hO, hD, hfr, hlo⟩ := F
  generalize qpg y pc = rw at hok H
  obtain ⟨ins, nx, a, b, k, z, cs⟩ := rw
  rcases hok with hnop | ⟨⟨n, hd, hn⟩, hex⟩
  · dsimp only at hnop
    subst hnop
    exact H.elim
  dsimp only at hd hn
  cases ins
  case tableswitch df lo hi offs =>
    obtain ⟨x, r, rfl, H⟩ := q1_of H
    exact z_tsw FF hd hex.1 hex.2.1 hex.2.2 H
  case lookupswitch df ps =>
    obtain ⟨x, r, rfl, H⟩ := q1_of H
    exact z_lsw FF hd hex.1 hex.2.1 hex.2.2 H
  all_goals (try (exact False.elim H))
  all_goals (rcases hn with hn | ⟨hn, hnx⟩; exact Bool.noConfusion (show false = true from hn))
  all_goals (subst hn; subst hnx)
  case inr.iconst.inr n => exact z_st H (fun _ _ hst => qs_c hex.2 hst) (fun lsr Hp locs _ _ _ _ _ _ w => lv_iconst hx hb hd hex.1 w)
  case inr.bipush.inr n => exact z_st H (fun _ _ hst => qs_c hex.2 hst) (fun lsr Hp locs _ _ _ _ _ _ w => lv_bipush hx hb hd hex.1 w)
  case inr.sipush.inr n => exact z_st H (fun _ _ hst => qs_c hex.2 hst) (fun lsr Hp locs _ _ _ _ _ _ w => lv_sipush hx hb hd hex.1 w)
  case inr.lconst.inr n => exact z_st H (fun _ _ hst => qs_c hex.2 hst) (fun lsr Hp locs _ _ _ _ _ _ w => lv_lconst hx hb hd hex.1 w)
  case inr.ldc.inr i => exact z_st H (fun _ _ hst => qs_c hex.2 hst) (fun lsr Hp locs _ _ _ _ _ _ w => lv_ldc hx hb hown (hts _ hex.1) hd w)
  case inr.ldc_w.inr i => exact z_st H (fun _ _ hst => qs_c hex.2 hst) (fun lsr Hp locs _ _ _ _ _ _ w => lv_ldcw hx hb hown (hts _ hex.1) hd w)
  case inr.ldc2_w.inr i => exact z_st H (fun _ _ hst => qs_c hex.2 hst) (fun lsr Hp locs _ _ _ _ _ _ w => lv_ldc2 hx hb hown (hts _ hex.1) hd w)
  case inr.iload_n.inr n =>
    obtain ⟨x, hv, H⟩ := qld0_of (v := ls[n.val]?) (f := fun v => qZ adr dA A D L xs p l e Rm s m args below meth c Q y k0 n0 (pc + 1) ls (v :: st) h) H
    exact z_ld hv (fun q => by cases q) H (fun lsr Hp locs hl w => lv_iload_n hx hb hd rfl hl w)
  case inr.iload.inr n =>
    obtain ⟨x, hv, H⟩ := qld0_of (v := ls[n]?) (f := fun v => qZ adr dA A D L xs p l e Rm s m args below meth c Q y k0 n0 (pc + 2) ls (v :: st) h) H
    exact z_ld hv (fun q => by cases q) H (fun lsr Hp locs hl w => lv_iload hx hb hd hl w)
  case inr.lload_n.inr n =>
    obtain ⟨x, hv, H⟩ := qld1_of (v := ls[n.val]?) (f := fun v => qZ adr dA A D L xs p l e Rm s m args below meth c Q y k0 n0 (pc + 1) ls (v :: st) h) H
    exact z_ld hv (fun q => by cases q) H (fun lsr Hp locs hl w => lv_lload_n hx hb hd rfl hl w)
  case inr.lload.inr n =>
    obtain ⟨x, hv, H⟩ := qld1_of (v := ls[n]?) (f := fun v => qZ adr dA A D L xs p l e Rm s m args below meth c Q y k0 n0 (pc + 2) ls (v :: st) h) H
    exact z_ld hv (fun q => by cases q) H (fun lsr Hp locs hl w => lv_lload hx hb hd hl w)
  case inr.aload_n.inr n =>
    obtain ⟨v, hv, H, hv2⟩ := qld2_of (v := ls[n.val]?) (f := fun v => qZ adr dA A D L xs p l e Rm s m args below meth c Q y k0 n0 (pc + 1) ls (v :: st) h) H
    rcases hv2 with ⟨c2, i2, rfl⟩ | ⟨c2, i2, j2, rfl⟩
    · exact z_ld hv (fun q => by cases q) H (fun lsr Hp locs hl w => lv_aload_n hx hb hd rfl hl w)
    · exact z_ld hv (fun q => by cases q) H (fun lsr Hp locs hl w => lv_aload_n hx hb hd rfl hl w)
  case inr.aload.inr n =>
    obtain ⟨v, hv, H, hv2⟩ := qld2_of (v := ls[n]?) (f := fun v => qZ adr dA A D L xs p l e Rm s m args below meth c Q y k0 n0 (pc + 2) ls (v :: st) h) H
    rcases hv2 with ⟨c2, i2, rfl⟩ | ⟨c2, i2, j2, rfl⟩
    · exact z_ld hv (fun q => by cases q) H (fun lsr Hp locs hl w => lv_aload hx hb hd hl w)
    · exact z_ld hv (fun q => by cases q) H (fun lsr Hp locs hl w => lv_aload hx hb hd hl w)
  case inr.istore_n.inr n =>
    obtain ⟨x, r, rfl, H⟩ := q1_of H
    intro lsr Hp locs hh ho hst
    exact z_sto (v := qi x) (fun q => by cases q) (fun _ q => by cases q) H (qs_h hst) (fun hst => qs_t hst) (fun lsr Hp locs hl w => lv_istore_n hx hb hd rfl hl hex rfl w) lsr Hp locs hh ho hst
  case inr.istore.inr n =>
    obtain ⟨x, r, rfl, H⟩ := q1_of H
    intro lsr Hp locs hh ho hst
    exact z_sto (v := qi x) (fun q => by cases q) (fun _ q => by cases q) H (qs_h hst) (fun hst => qs_t hst) (fun lsr Hp locs hl w => lv_istore hx hb hd hl hex rfl w) lsr Hp locs hh ho hst
  case inr.lstore_n.inr n =>
    obtain ⟨x, r, rfl, H⟩ := qL1_of H
    intro lsr Hp locs hh ho hst
    exact z_sto2 H (qs_h hst) (fun hst => qs_t hst) (fun lsr Hp locs hl w => lv_lstore_n hx hb hd rfl hl hex rfl w) lsr Hp locs hh ho hst
  case inr.lstore.inr n =>
    obtain ⟨x, r, rfl, H⟩ := qL1_of H
    intro lsr Hp locs hh ho hst
    exact z_sto2 H (qs_h hst) (fun hst => qs_t hst) (fun lsr Hp locs hl w => lv_lstore hx hb hd hl hex rfl w) lsr Hp locs hh ho hst
  case inr.iinc.inr kk n =>
    obtain ⟨x, hv, hR, H⟩ := qri_of H
    refine z_sto (v := qi (x + n)) (fun q => by cases q) (fun _ q => by cases q) H hR (fun hst => hst) (fun lsr Hp locs hl w => ?_)
    obtain ⟨ix, hix⟩ := List.getElem?_of_mem (qlv_mem.mpr ⟨_, hv, fun q => (by cases q), rfl⟩ : (kk, qtr adr (qi x)) ∈ qlv adr ls)
    exact lv_iinc hx hb hd hl hix (by rw [← Int32.ofInt_add]) hex.1 rfl w
  case inr.iadd.inr =>
    obtain ⟨x, y', r, rfl, hR, H⟩ := q2_of H
    exact z_st H (fun _ _ hst => qs_c hR (qs_t (qs_t hst))) (fun lsr Hp locs _ _ _ _ _ _ w => lv_iadd hx hb hd (by rw [← Int32.ofInt_add]; exact w))
  case inr.isub.inr =>
    obtain ⟨x, y', r, rfl, hR, H⟩ := q2_of H
    exact z_st H (fun _ _ hst => qs_c hR (qs_t (qs_t hst))) (fun lsr Hp locs _ _ _ _ _ _ w => lv_isub hx hb hd (by rw [← Int32.ofInt_sub]; exact w))
  case inr.imul.inr =>
    obtain ⟨x, y', r, rfl, hR, H⟩ := q2_of H
    exact z_st H (fun _ _ hst => qs_c hR (qs_t (qs_t hst))) (fun lsr Hp locs _ _ _ _ _ _ w => lv_imul hx hb hd (by rw [← Int32.ofInt_mul]; exact w))
  case inr.idiv.inr =>
    obtain ⟨x, y', r, rfl, hR, H⟩ := q2_of H
    exact z_st H (fun _ _ hst => qs_c (qn_div (qs_h (qs_t hst)) (qs_h hst) hR.1 hR.2).2 (qs_t (qs_t hst))) (fun lsr Hp locs hst _ _ _ _ _ w => lv_idiv hx hb hd (fun q => by rw [← qn_of0, qn_eq (qs_h hst) qn_0] at q; omega) (by rw [(qn_div (qs_h (qs_t hst)) (qs_h hst) hR.1 hR.2).1]; exact w))
  case inr.irem.inr =>
    obtain ⟨x, y', r, rfl, hR, H⟩ := q2_of H
    exact z_st H (fun _ _ hst => qs_c (qn_rem (qs_h (qs_t hst)) (qs_h hst) hR.1 hR.2).2 (qs_t (qs_t hst))) (fun lsr Hp locs hst _ _ _ _ _ w => lv_irem hx hb hd (fun q => by rw [← qn_of0, qn_eq (qs_h hst) qn_0] at q; omega) (by rw [(qn_rem (qs_h (qs_t hst)) (qs_h hst) hR.1 hR.2).1]; exact w))
  case inr.iand.inr =>
    obtain ⟨x, y', r, rfl, H⟩ := q2_of H
    exact z_st H (fun _ _ hst => qs_c (qnR _) (qs_t (qs_t hst))) (fun lsr Hp locs _ _ _ _ _ _ w => lv_iand hx hb hd (by rw [← Int32.ofInt_toInt (Int32.ofInt x &&& Int32.ofInt y')]; exact w))
  case inr.ior.inr =>
    obtain ⟨x, y', r, rfl, H⟩ := q2_of H
    exact z_st H (fun _ _ hst => qs_c (qnR _) (qs_t (qs_t hst))) (fun lsr Hp locs _ _ _ _ _ _ w => lv_ior hx hb hd (by rw [← Int32.ofInt_toInt (Int32.ofInt x ||| Int32.ofInt y')]; exact w))
  case inr.ixor.inr =>
    obtain ⟨x, y', r, rfl, H⟩ := q2_of H
    exact z_st H (fun _ _ hst => qs_c (qnR _) (qs_t (qs_t hst))) (fun lsr Hp locs _ _ _ _ _ _ w => lv_ixor hx hb hd (by rw [← Int32.ofInt_toInt (Int32.ofInt x ^^^ Int32.ofInt y')]; exact w))
  case inr.ishl.inr =>
    obtain ⟨x, y', r, rfl, H⟩ := q2_of H
    exact z_st H (fun _ _ hst => qs_c (qnR _) (qs_t (qs_t hst))) (fun lsr Hp locs _ _ _ _ _ _ w => lv_ishl hx hb hd (by rw [← Int32.ofInt_toInt (Int32.ofInt x <<< (Int32.ofInt y' &&& 31))]; exact w))
  case inr.ishr.inr =>
    obtain ⟨x, y', r, rfl, H⟩ := q2_of H
    exact z_st H (fun _ _ hst => qs_c (qnR _) (qs_t (qs_t hst))) (fun lsr Hp locs _ _ _ _ _ _ w => lv_ishr hx hb hd (by rw [← Int32.ofInt_toInt (Int32.ofInt x >>> (Int32.ofInt y' &&& 31))]; exact w))
  case inr.iushr.inr =>
    obtain ⟨x, y', r, rfl, H⟩ := q2_of H
    exact z_st H (fun _ _ hst => qs_c (qnR _) (qs_t (qs_t hst))) (fun lsr Hp locs _ _ _ _ _ _ w => lv_iushr hx hb hd (Int32.ofInt_toInt _).symm w)
  case inr.ladd.inr =>
    obtain ⟨x, y', r, rfl, hR, H⟩ := qL2_of H
    exact z_st H (fun _ _ hst => qs_c hR (qs_t (qs_t hst))) (fun lsr Hp locs _ _ _ _ _ _ w => lv_ladd hx hb hd (by rw [← Int64.ofInt_add]; exact w))
  case inr.lsub.inr =>
    obtain ⟨x, y', r, rfl, hR, H⟩ := qL2_of H
    exact z_st H (fun _ _ hst => qs_c hR (qs_t (qs_t hst))) (fun lsr Hp locs _ _ _ _ _ _ w => lv_lsub hx hb hd (by rw [← Int64.ofInt_sub]; exact w))
  case inr.lmul.inr =>
    obtain ⟨x, y', r, rfl, hR, H⟩ := qL2_of H
    exact z_st H (fun _ _ hst => qs_c hR (qs_t (qs_t hst))) (fun lsr Hp locs _ _ _ _ _ _ w => lv_lmul hx hb hd (by rw [← Int64.ofInt_mul]; exact w))
  case inr.ldiv.inr =>
    obtain ⟨x, y', r, rfl, hR, H⟩ := qL2_of H
    exact z_st H (fun _ _ hst => qs_c (qn_ldiv (qs_h (qs_t hst)) (qs_h hst) hR.1 hR.2).2 (qs_t (qs_t hst))) (fun lsr Hp locs hst _ _ _ _ _ w => lv_ldiv hx hb hd (fun q => by have q2 := congrArg Int64.toInt q; rw [qn1L (qs_h hst)] at q2; have q3 : y' = 0 := q2; omega) (by rw [(qn_ldiv (qs_h (qs_t hst)) (qs_h hst) hR.1 hR.2).1]; exact w))
  case inr.lrem.inr =>
    obtain ⟨x, y', r, rfl, hR, H⟩ := qL2_of H
    exact z_st H (fun _ _ hst => qs_c (qn_lrem (qs_h (qs_t hst)) (qs_h hst) hR.1 hR.2).2 (qs_t (qs_t hst))) (fun lsr Hp locs hst _ _ _ _ _ w => lv_lrem hx hb hd (fun q => by have q2 := congrArg Int64.toInt q; rw [qn1L (qs_h hst)] at q2; have q3 : y' = 0 := q2; omega) (by rw [(qn_lrem (qs_h (qs_t hst)) (qs_h hst) hR.1 hR.2).1]; exact w))
  case inr.land.inr =>
    obtain ⟨x, y', r, rfl, H⟩ := qL2_of H
    exact z_st H (fun _ _ hst => qs_c (qnRL _) (qs_t (qs_t hst))) (fun lsr Hp locs _ _ _ _ _ _ w => lv_land hx hb hd (by rw [← Int64.ofInt_toInt (Int64.ofInt x &&& Int64.ofInt y')]; exact w))
  case inr.lor.inr =>
    obtain ⟨x, y', r, rfl, H⟩ := qL2_of H
    exact z_st H (fun _ _ hst => qs_c (qnRL _) (qs_t (qs_t hst))) (fun lsr Hp locs _ _ _ _ _ _ w => lv_lor hx hb hd (by rw [← Int64.ofInt_toInt (Int64.ofInt x ||| Int64.ofInt y')]; exact w))
  case inr.lshl.inr =>
    obtain ⟨x, y', r, rfl, H⟩ := qIL_of H
    exact z_st H (fun _ _ hst => qs_c (qnRL _) (qs_t (qs_t hst))) (fun lsr Hp locs _ _ _ _ _ _ w => lv_lshl hx hb hd (Int64.ofInt_toInt _).symm w)
  case inr.lcmp.inr =>
    obtain ⟨x, y', r, rfl, H⟩ := qL2_of H
    exact z_st H (fun _ _ hst => qs_c (qn_lcmp (qs_h (qs_t hst)) (qs_h hst)).2 (qs_t (qs_t hst))) (fun lsr Hp locs hst _ _ _ _ _ w => W.lcmp hx hb hd (by rw [(qn_lcmp (qs_h (qs_t hst)) (qs_h hst)).1]; exact w))
  case inr.i2l.inr =>
    obtain ⟨x, r, rfl, H⟩ := q1_of H
    exact z_st H (fun _ _ hst => qs_c (qn_i2l (qs_h hst)).2 (qs_t hst)) (fun lsr Hp locs hst _ _ _ _ _ w => lv_i2l hx hb hd (qn_i2l (qs_h hst)).1 w)
  case inr.l2i.inr =>
    obtain ⟨x, r, rfl, H⟩ := qL1_of H
    exact z_st H (fun _ _ hst => qs_c (qnR _) (qs_t hst)) (fun lsr Hp locs hst _ _ _ _ _ w => lv_l2i hx hb hd (Int32.ofInt_toInt _).symm w)
  case inr.i2b.inr =>
    obtain ⟨x, r, rfl, H⟩ := q1_of H
    exact z_st H (fun _ _ hst => qs_c (qnR _) (qs_t hst)) (fun lsr Hp locs hst _ _ _ _ _ w => lv_i2b hx hb hd (Int32.ofInt_toInt _).symm w)
  case inr.i2s.inr =>
    obtain ⟨x, r, rfl, H⟩ := q1_of H
    exact z_st H (fun _ _ hst => qs_c (qnR _) (qs_t hst)) (fun lsr Hp locs hst _ _ _ _ _ w => lv_i2s hx hb hd (Int32.ofInt_toInt _).symm w)
  case inr.dup.inr =>
    obtain ⟨v, r, rfl, hv1, hv2, H⟩ := qdup_of (st := st) (f := fun st' => qZ adr dA A D L xs p l e Rm s m args below meth c Q y k0 n0 (pc + 1) ls st' h) H
    refine z_st H (fun _ _ hst => qs_c (qs_h hst) hst) (fun lsr Hp locs hst _ _ _ _ _ w => lv_dup hx hb hd ?_ w)
    rcases v with x | x | x | x | x
    · rfl
    · exact absurd rfl (hv2 x)
    · rfl
    · rfl
    · rfl
  case inr.dup2.inr =>
    rcases qdup2_of (st := st) (f := fun st' => qZ adr dA A D L xs p l e Rm s m args below meth c Q y k0 n0 (pc + 1) ls st' h) H with ⟨k2, c2, i2, j2, r, rfl, H⟩ | ⟨x, r, rfl, H⟩
    · exact z_st H (fun _ _ hst => qs_c (qs_h hst) (qs_c (qs_h (qs_t hst)) hst)) (fun lsr Hp locs hst _ _ _ _ _ w => lv_dup2_11 hx hb hd rfl rfl w)
    · exact z_st H (fun _ _ hst => qs_c (qs_h hst) hst) (fun lsr Hp locs hst _ _ _ _ _ w => lv_dup2_2 hx hb hd rfl w)
  case inr.pop.inr =>
    obtain ⟨x, r, rfl, H⟩ := q1_of H
    exact z_st H (fun _ _ hst => qs_t hst) (fun lsr Hp locs hst _ _ _ _ _ w => lv_pop hx hb hd rfl w)
  case inr.goto.inr off =>
    exact z_st H (fun _ _ hst => hst) (fun lsr Hp locs hst _ _ _ _ _ w => lv_goto hx hb hd hex w)
  case inr.ifCond.inr op off =>
    obtain ⟨x, r, rfl, H1, H2⟩ := q1_of H
    intro lsr Hp locs hh ho hst hls hln hl hP hS
    have hxR : qR x := qs_h hst
    have w1 : qc op x 0 → W p l e Rm s m args below meth c Hp locs k0 n0 Q (F0 m a lsr (r.map (qtr adr))) := fun q => H1 q lsr Hp locs hh ho (qs_t hst) hls hln hl hP hS
    have w2 : ¬ qc op x 0 → W p l e Rm s m args below meth c Hp locs k0 n0 Q (F0 m (pc + 3) lsr (r.map (qtr adr))) := fun q => H2 q lsr Hp locs hh ho (qs_t hst) hls hln hl hP hS
    cases op
    · exact lv_if_eq hx hb hd hex (fun q => w1 ((qn_eq hxR qn_0).mp q)) (fun q => w2 (fun q' => q ((qn_eq hxR qn_0).mpr q')))
    · exact lv_if_ne hx hb hd hex (fun q => w1 (fun q' => q ((qn_eq hxR qn_0).mpr q'))) (fun q => w2 (fun q' => q' ((qn_eq hxR qn_0).mp q)))
    · exact lv_if_lt hx hb hd hex (fun q => w1 ((qn_lt hxR qn_0).mp q)) (fun q => w2 (fun q' => q ((qn_lt hxR qn_0).mpr q')))
    · exact lv_if_ge hx hb hd hex (fun q => w1 ((qn_le qn_0 hxR).mp q)) (fun q => w2 (fun q' => q ((qn_le qn_0 hxR).mpr q')))
    · exact lv_if_gt hx hb hd hex (fun q => w1 ((qn_lt qn_0 hxR).mp q)) (fun q => w2 (fun q' => q ((qn_lt qn_0 hxR).mpr q')))
    · exact lv_if_le hx hb hd hex (fun q => w1 ((qn_le hxR qn_0).mp q)) (fun q => w2 (fun q' => q ((qn_le hxR qn_0).mpr q')))
  case inr.if_icmp.inr op off =>
    obtain ⟨x, y', r, rfl, H1, H2⟩ := q2_of H
    intro lsr Hp locs hh ho hst hls hln hl hP hS
    have hxR : qR x := qs_h (qs_t hst)
    have hyR : qR y' := qs_h hst
    have w1 : qc op x y' → W p l e Rm s m args below meth c Hp locs k0 n0 Q (F0 m a lsr (r.map (qtr adr))) := fun q => H1 q lsr Hp locs hh ho (qs_t (qs_t hst)) hls hln hl hP hS
    have w2 : ¬ qc op x y' → W p l e Rm s m args below meth c Hp locs k0 n0 Q (F0 m (pc + 3) lsr (r.map (qtr adr))) := fun q => H2 q lsr Hp locs hh ho (qs_t (qs_t hst)) hls hln hl hP hS
    cases op
    · exact lv_icmp_eq hx hb hd hex (fun q => w1 ((qn_eq hxR hyR).mp q)) (fun q => w2 (fun q' => q ((qn_eq hxR hyR).mpr q')))
    · exact lv_icmp_ne hx hb hd hex (fun q => w1 (fun q' => q ((qn_eq hxR hyR).mpr q'))) (fun q => w2 (fun q' => q' ((qn_eq hxR hyR).mp q)))
    · exact lv_icmp_lt hx hb hd hex (fun q => w1 ((qn_lt hxR hyR).mp q)) (fun q => w2 (fun q' => q ((qn_lt hxR hyR).mpr q')))
    · exact lv_icmp_ge hx hb hd hex (fun q => w1 ((qn_le hyR hxR).mp q)) (fun q => w2 (fun q' => q ((qn_le hyR hxR).mpr q')))
    · exact lv_icmp_gt hx hb hd hex (fun q => w1 ((qn_lt hyR hxR).mp q)) (fun q => w2 (fun q' => q ((qn_lt hyR hxR).mpr q')))
    · exact lv_icmp_le hx hb hd hex (fun q => w1 ((qn_le hxR hyR).mp q)) (fun q => w2 (fun q' => q ((qn_le hxR hyR).mpr q')))
  case inr.getfield.inr idx => exact z_get FF hd hex H
  case inr.putfield.inr idx => exact z_put FF hd hex H
  case inr.iaload.inr =>
    obtain ⟨c2, i2, j2, k2, r, rfl, hk, hbd, H⟩ := qidx_of H
    exact z_ald FF hk hbd .iaload hd _ (Or.inl ⟨rfl, rfl, rfl⟩) H
  case inr.laload.inr =>
    obtain ⟨c2, i2, j2, k2, r, rfl, hk, hbd, H⟩ := qidx_of H
    exact z_ald FF hk hbd .laload hd _ (Or.inr (Or.inl ⟨rfl, rfl, rfl⟩)) H
  case inr.baload.inr =>
    obtain ⟨c2, i2, j2, k2, r, rfl, hk, hbd, H⟩ := qidx_of H
    exact z_ald FF hk hbd .baload hd _ (Or.inr (Or.inr (Or.inl ⟨rfl, rfl, rfl⟩))) H
  case inr.aaload.inr =>
    obtain ⟨c2, i2, j2, k2, r, rfl, hk, hbd, H⟩ := qidx_of H
    exact z_ald FF hk hbd .aaload hd _ (Or.inr (Or.inr (Or.inr ⟨rfl, rfl, rfl⟩))) H
  case inr.iastore.inr =>
    obtain ⟨x, st1, rfl, H⟩ := q1_of H
    obtain ⟨c2, i2, j2, k2, r, rfl, hk, hbd, H⟩ := qidx_of H
    obtain ⟨h9, H⟩ := qb_of H
    exact z_ast FF hk hbd .iastore hd (Nat.blt_eq.mp h9) (qi x) x (Or.inl ⟨rfl, rfl, rfl⟩) H
  case inr.lastore.inr =>
    obtain ⟨x, st1, rfl, H⟩ := qL1_of H
    obtain ⟨c2, i2, j2, k2, r, rfl, hk, hbd, H⟩ := qidx_of H
    obtain ⟨h9, H⟩ := qb_of H
    exact z_ast FF hk hbd .lastore hd (Nat.blt_eq.mp h9) (ql x) x (Or.inr (Or.inl ⟨rfl, rfl, rfl⟩)) H
  case inr.bastore.inr =>
    obtain ⟨x, st1, rfl, H⟩ := q1_of H
    obtain ⟨c2, i2, j2, k2, r, rfl, hk, hbd, H⟩ := qidx_of H
    obtain ⟨h9, hb8, H⟩ := qb_of H
    exact z_ast FF hk hbd .bastore hd (Nat.blt_eq.mp h9) (qi x) x (Or.inr (Or.inr ⟨rfl, rfl, rfl, hb8.1, hb8.2⟩)) H
  case inr.arraylength.inr =>
    obtain ⟨c2, i2, j2, r, rfl, G⟩ := qA1_of H
    clear H
    obtain ⟨h9, G2⟩ := qb_of G
    clear G
    have h9 : 89 < c2 := Nat.blt_eq.mp h9
    intro lsr Hp locs hh ho hst hls hln hl hP hS
    rcases qs_h hst with hm | hp | hp
    · exact absurd (qids_2 hm).1 (by omega)
    · cases hp
      obtain ⟨-, -, -, -, ⟨cell, g1, g2, g3, g4, g5⟩, g6, -, -⟩ := hO
      exact W.alen (n := 19) hx hb (by rw [hS.2.1 _ (Array.getElem?_eq_some_iff.mp g1).1 g6]; exact g1) g2 g4.2 rfl rfl hd (G2 lsr Hp locs hh ho (qs_c (show qR 19 by unfold qR; decide) (qs_t hst)) hls hln hl hP hS)
    · cases hp
      obtain ⟨gX, gl, gA, -, -, -, -, gL⟩ := hO
      have hlL : qlen h 91 0 = L := ho.2.2
      rw [hlL] at G2
      refine va_slen hx hb gX gl gA hS hd ?_
      rw [← Int32.ofInt_eq_ofNat]
      exact G2 lsr Hp locs hh ho (qs_c (show qR (L : Int) from ⟨by omega, by omega⟩) (qs_t hst)) hls hln hl hP hS
  case inr.getstatic.inr idx =>
    obtain ⟨h1, h2⟩ := hex
    subst h2
    obtain ⟨-, -, -, gZ, -, -, gN, -⟩ := id hO
    refine z_st H (fun _ _ hst => qs_c (Or.inr (Or.inl rfl)) hst) (fun lsr Hp locs _ _ _ _ _ hS w => va_getsN hx hb gZ hS hown (host := "QuarrelKeys") (by rw [h1]; exact va_Nw.use rfl gN) (fun _ q => q) hd w)
  case inr.invokevirtual.inr idx =>
    obtain ⟨hb2, H⟩ := qb_of H
    simp only [Bool.and_eq_true] at hb2
    exact z_call FF hk0 hroom hC hd hex hb2.1 H
  case inr.invokestatic.inr idx =>
    have H : (bif Nat.blt a 1000 then qcall (qC d) (.invokestatic idx, pc + 3, a, b, k, z, cs) b ls st h (qZ adr dA A D L xs p l e Rm s m args below meth c Q y k0 n0) else (bif Nat.ble (qcat st) 20 then qprim (.invokestatic idx, pc + 3, a, b, k, z, cs) ls st h (qZ adr dA A D L xs p l e Rm s m args below meth c Q y k0 n0) else False)) := H
    rcases hex with ⟨h1, h2, h3, h4, h5, h6⟩ | hex
    · rw [show Nat.blt a 1000 = true from Nat.blt_eq.mpr h1, cond_true] at H
      exact z_callS FF hk0 hroom hC hd h2 h3 h4 h5 H
    · have hge : Nat.blt a 1000 = false := by
        rcases hex with ⟨q, -⟩ | ⟨q, -⟩ | ⟨q, -⟩ | ⟨q, -⟩ <;> (dsimp only at q; subst q; rfl)
      rw [hge, cond_false] at H
      obtain ⟨hct, H⟩ := qb_of H
      exact z_prim FF hk0 hd hex (Nat.ble_eq.mp hct) H
  case inr.ireturn.inr =>
    obtain ⟨x, rfl, H, hz⟩ := qeI_of H
    intro lsr Hp locs hh ho hst hls hln hl hP hS
    refine hRt.1 x h Hp locs pc lsr H (qs_h hst) hh ho hP hS hd ?_
    rcases hex with ⟨_, q⟩ | ⟨q1, q⟩
    · exact Or.inl q
    · dsimp only at q1
      exact Or.inr ⟨q, hz (show k ≠ 0 by omega)⟩
  case inr.lreturn.inr =>
    obtain ⟨x, rfl, H⟩ := qeL_of H
    intro lsr Hp locs hh ho hst hls hln hl hP hS
    exact hRt.2.1 x h Hp locs pc lsr H (qs_h hst) hh ho hP hS hd hex
  case inr.return_.inr =>
    obtain ⟨rfl, H⟩ := qe0_of H
    intro lsr Hp locs hh ho hst hls hln hl hP hS
    exact hRt.2.2 h Hp locs pc lsr H hh ho hP hS hd hex
theorem z_T (hall : ∀ pc, qok y pc (qpg y pc)) (F : qFr adr dA A D L xs p s m args c y Rm) {d : Nat} (hk0 : k0 ≤ Rm.cells ∧ n0 ≤ Rm.slots) (hroom : d + 1 ≤ Rm.frames ∧ 64 * (d + 1) ≤ Rm.locals) (hC : ∀ a as h R', qT d a 0 (qpad (qml a) (qflat as)) [] h R' → (∀ v ∈ as, qvok v) → qmok a → qcat as ≤ qml a → qMet l adr dA A D L xs d a as h R')
    {R : Option qV → qH → Prop} (hRt : qRt adr dA A D L xs p l e Rm s m args below meth c Q y k0 n0 R) (H : qT (d + 1) y pc ls st h R) : qZ adr dA A D L xs p l e Rm s m args below meth c Q y k0 n0 pc ls st h :=
  H (qZ adr dA A D L xs p l e Rm s m args below meth c Q y k0 n0) (fun pc ls st h q => z_step F hk0 hroom hC hRt (hall pc) q)
end SNG
