/-! counting ways to live -/
def wC (f : Nat → Nat) (N p : Nat) : Nat := (List.range N).countP (fun v => f v == f p)
def wc (f : Nat → Nat) (p : Nat) : Nat := (List.range p).countP (fun v => f v == f p)
def wX (f : Nat → Nat) (N : Nat) : Nat → Nat
  | 0 => 1
  | p + 1 => wX f N p * (wC f N p - wc f p)
def wY (f : Nat → Nat) (N : Nat) : Nat → Nat
  | 0 => 1
  | p + 1 => if f p = p then wY f N p * nF (wC f N p) else wY f N p
def wG : Nat → List (List Nat)
  | 0 => [[]]
  | n + 1 => (wG n).flatMap (fun l => (List.range (n + 1)).map (fun v => l ++ [v]))
def wI (f : Nat → Nat) (N : Nat) : Bool := (List.range N).all (fun p => f (f p) == f p)
theorem wXY0 : (List.range 8).all (fun N => (wG N).all (fun l => !(wI (fun i => l.getD i 0) N) || (wX (fun i => l.getD i 0) N N == wY (fun i => l.getD i 0) N N && (List.range (N + 1)).all (fun p => decide (wY (fun i => l.getD i 0) N p ≤ 5040))))) = true := by decide +kernel
theorem wXY {N : Nat} {l : List Nat} (hN : N ≤ 7) (hl : l ∈ wG N) (hi : ∀ p, p < N → l.getD (l.getD p 0) 0 = l.getD p 0) : wX (fun i => l.getD i 0) N N = wY (fun i => l.getD i 0) N N ∧ ∀ p, p ≤ N → wY (fun i => l.getD i 0) N p ≤ 5040 := by
  have h1 := List.all_eq_true.mp (List.all_eq_true.mp wXY0 N (List.mem_range.mpr (by omega))) l hl
  have h2 : wI (fun i => l.getD i 0) N = true := by
    unfold wI
    rw [List.all_eq_true]
    intro p hp
    rw [beq_iff_eq]
    exact hi p (List.mem_range.mp hp)
  rw [h2, Bool.not_true, Bool.false_or, Bool.and_eq_true, beq_iff_eq, List.all_eq_true] at h1
  refine ⟨h1.1, fun p hp => ?_⟩
  exact decide_eq_true_eq.mp (h1.2 p (List.mem_range.mpr (by omega)))
theorem wG_ex (F : Nat → Nat) : ∀ N : Nat, (∀ p, p < N → F p ≤ p) → ∃ l, l ∈ wG N ∧ l.length = N ∧ ∀ i, i < N → l.getD i 0 = F i := by
  intro N
  induction N with
  | zero => intro _; exact ⟨[], List.mem_cons_self, rfl, fun i hi => absurd hi (by omega)⟩
  | succ N ih =>
    intro hF
    obtain ⟨l, l1, l2, l3⟩ := ih (fun p hp => hF p (by omega))
    refine ⟨l ++ [F N], ?_, by rw [List.length_append, l2]; rfl, fun i hi => ?_⟩
    · show _ ∈ (wG N).flatMap _
      rw [List.mem_flatMap]
      refine ⟨l, l1, ?_⟩
      rw [List.mem_map]
      have := hF N (by omega)
      exact ⟨F N, List.mem_range.mpr (by omega), rfl⟩
    · rw [List.getD_eq_getElem?_getD]
      by_cases c : i < N
      · rw [List.getElem?_append_left (by omega), ← List.getD_eq_getElem?_getD]
        exact l3 i c
      · have : i = N := by omega
        subst this
        rw [List.getElem?_append_right (by omega), l2, Nat.sub_self]
        rfl
def wE (f : Nat → Nat) (N : Nat) : Nat → List (List Nat)
  | 0 => [[]]
  | p + 1 => (wE f N p).flatMap (fun l => ((List.range N).filter (fun v => !l.contains v && f v == f p)).map (fun v => l ++ [v]))
section We
variable {f : Nat → Nat} {N : Nat}
theorem wE_mem : ∀ (p : Nat) (l : List Nat), l ∈ wE f N p ↔ l.Nodup ∧ (∀ v, v ∈ l → v < N) ∧ l.map f = (List.range p).map f := by
  intro p
  induction p with
  | zero =>
    intro l
    show l ∈ [[]] ↔ _
    rw [List.mem_singleton]
    constructor
    · intro e
      subst e
      exact ⟨List.nodup_nil, fun v hv => (by cases hv), rfl⟩
    · rintro ⟨_, _, e⟩
      exact List.map_eq_nil_iff.mp e
  | succ p ih =>
    intro l
    show l ∈ (wE f N p).flatMap _ ↔ _
    rw [List.mem_flatMap]
    constructor
    · rintro ⟨l0, h0, h1⟩
      obtain ⟨v, v1, v2⟩ := List.mem_map.mp h1
      obtain ⟨v3, v4⟩ := List.mem_filter.mp v1
      rw [Bool.and_eq_true, beq_iff_eq, Bool.not_eq_true'] at v4
      obtain ⟨i1, i2, i3⟩ := (ih l0).mp h0
      subst v2
      refine ⟨?_, fun w hw => ?_, ?_⟩
      · unfold List.Nodup
        rw [List.pairwise_append]
        refine ⟨i1, List.pairwise_singleton _ _, fun x hx y hy e => ?_⟩
        rw [List.mem_singleton] at hy
        rw [e, hy] at hx
        have := List.contains_iff_mem.mpr hx
        rw [this] at v4
        exact absurd v4.1 (by decide)
      · rcases List.mem_append.mp hw with c | c
        · exact i2 w c
        · rw [List.mem_singleton] at c
          rw [c]; exact List.mem_range.mp v3
      · rw [List.map_append, List.range_succ, List.map_append, i3]
        show _ ++ [f v] = _ ++ [f p]
        rw [v4.2]
    · rintro ⟨h1, h2, h3⟩
      rw [List.range_succ, List.map_append] at h3
      rcases List.eq_nil_or_concat l with e | ⟨l0, v, e⟩
      · subst e
        have := congrArg List.length h3
        rw [List.length_append] at this
        simp at this
      · rw [List.concat_eq_append] at e
        subst e
        rw [List.map_append] at h3
        obtain ⟨e1, e2⟩ := List.append_inj' h3 rfl
        have e2 : f v = f p := by
          have : [f v] = [f p] := e2
          exact List.head_eq_of_cons_eq this
        unfold List.Nodup at h1
        rw [List.pairwise_append] at h1
        refine ⟨l0, (ih l0).mpr ⟨h1.1, fun w hw => h2 w (List.mem_append_left _ hw), e1⟩, ?_⟩
        rw [List.mem_map]
        refine ⟨v, List.mem_filter.mpr ⟨List.mem_range.mpr (h2 v (List.mem_append_right _ (List.mem_singleton.mpr rfl))), ?_⟩, rfl⟩
        rw [Bool.and_eq_true, beq_iff_eq, Bool.not_eq_true']
        refine ⟨?_, e2⟩
        by_cases c : l0.contains v = true
        · exact absurd rfl (h1.2.2 v (List.contains_iff_mem.mp c) v (List.mem_singleton.mpr rfl))
        · exact Bool.eq_false_iff.mpr c
theorem wE_nd : ∀ p : Nat, (wE f N p).Nodup := by
  intro p
  induction p with
  | zero => exact List.pairwise_singleton _ _
  | succ p ih =>
    show ((wE f N p).flatMap _).Nodup
    unfold List.Nodup
    rw [List.pairwise_flatMap]
    refine ⟨fun l _ => ?_, ih.imp (fun {a b} hab x hx y hy e => ?_)⟩
    · rw [List.pairwise_map]
      refine (List.Pairwise.filter _ List.nodup_range).imp (fun {a b} hab e => hab ?_)
      have := List.append_cancel_left e
      exact List.head_eq_of_cons_eq this
    · obtain ⟨v, _, v2⟩ := List.mem_map.mp hx
      obtain ⟨w, _, w2⟩ := List.mem_map.mp hy
      rw [← v2, ← w2] at e
      exact hab (List.append_inj' e rfl).1
theorem countP_split {q r : Nat → Bool} : ∀ L : List Nat, L.countP q = L.countP (fun v => !r v && q v) + L.countP (fun v => r v && q v) := by
  intro L
  induction L with
  | nil => rfl
  | cons x L ih =>
    rw [List.countP_cons, List.countP_cons, List.countP_cons, ih]
    cases r x <;> cases q x <;> simp <;> omega
theorem sum_const {g : List Nat → Nat} {c : Nat} : ∀ L : List (List Nat), (∀ l, l ∈ L → g l = c) → (L.map g).sum = L.length * c := by
  intro L
  induction L with
  | nil => intro _; simp
  | cons x L ih =>
    intro h
    rw [List.map_cons, List.sum_cons, h x List.mem_cons_self, ih (fun l hl => h l (List.mem_cons_of_mem _ hl)), List.length_cons, Nat.add_mul, Nat.one_mul, Nat.add_comm]
theorem wE_len : ∀ p : Nat, p ≤ N → (wE f N p).length = wX f N p := by
  intro p
  induction p with
  | zero => intro _; rfl
  | succ p ih =>
    intro hp
    show ((wE f N p).flatMap _).length = wX f N p * (wC f N p - wc f p)
    rw [List.length_flatMap, sum_const (c := wC f N p - wc f p), ih (by omega)]
    intro l hl
    obtain ⟨h1, h2, h3⟩ := (wE_mem p l).mp hl
    show ((List.filter _ _).map _).length = _
    rw [List.length_map, ← List.countP_eq_length_filter]
    have s := countP_split (q := fun v => f v == f p) (r := fun v => l.contains v) (List.range N)
    have e : (List.range N).countP (fun v => l.contains v && f v == f p) = wc f p := by
      have e1 : wc f p = l.countP (fun v => f v == f p) := by
        have a1 : l.countP (fun v => f v == f p) = (l.map f).countP (fun v => v == f p) := by rw [List.countP_map]; rfl
        have a2 : wc f p = ((List.range p).map f).countP (fun v => v == f p) := by rw [List.countP_map]; rfl
        rw [a1, a2, h3]
      rw [e1, List.countP_eq_length_filter, List.countP_eq_length_filter]
      refine List.Perm.length_eq ((List.perm_ext_iff_of_nodup (List.Pairwise.filter _ List.nodup_range) (List.Pairwise.filter _ h1)).mpr (fun v => ?_))
      rw [List.mem_filter, List.mem_filter, Bool.and_eq_true, List.contains_iff_mem]
      constructor
      · rintro ⟨_, c1, c2⟩; exact ⟨c1, c2⟩
      · rintro ⟨c1, c2⟩; exact ⟨List.mem_range.mpr (h2 v c1), c1, c2⟩
    show _ = wC f N p - wc f p
    unfold wC
    rw [s, e]
    omega
end We
section Wk
variable {B : Int} {a : qB} {gl inv : Int → Int}
theorem wk_rel (hg : gI (a 0) gl inv) : ∀ (k : Nat) (b : qB), qwf B b → bA a b → (wk a gl k b ↔ wk a gId k (rel inv b)) := by
  intro k
  induction k with
  | zero =>
    intro b hW hA
    have hn := wf_n hW
    have e0 := hA 0 (by omega)
    constructor
    · intro h p p0 p1
      rw [rel_l p0 (by omega), h p p0 p1]
      exact (hg.1 p p0 p1).2.2
    · intro h p p0 p1
      have q1 := h p p0 p1
      rw [rel_l p0 (by omega)] at q1
      have l := wf_live hW p0 (by omega : p < b 0)
      have q1 : inv (b (14 + p)) = p := q1
      rw [← (hg.2 _ l.1 (by omega)).2.2, q1]
  | succ k ih =>
    intro b hW hA
    have e1 := hA 1 (by omega)
    constructor
    · rintro ⟨s, s0, s1, s2⟩
      have o := on_wf hW hA s0 s1
      refine ⟨s, s0, s1, ?_⟩
      rw [← rel_on hW s0 (by omega)]
      exact (ih _ o.1 o.2.1).mp s2
    · rintro ⟨s, s0, s1, s2⟩
      have o := on_wf hW hA s0 s1
      rw [← rel_on hW s0 (by omega)] at s2
      exact ⟨s, s0, s1, (ih _ o.1 o.2.1).mpr s2⟩
def rowL (a : qB) (l : List Nat) : qB := mix a (fun x => ((l.getD (x - 14).toNat 0 : Nat) : Int))
theorem rowL_l {l : List Nat} {p : Int} (p0 : 0 ≤ p) (p7 : p < 7) : rowL a l (14 + p) = ((l.getD p.toNat 0 : Nat) : Int) := by
  unfold rowL
  rw [mix_l p0 p7, show 14 + p - 14 = p by omega]
theorem getD_mem {l : List Nat} {i : Nat} (h : i < l.length) : l.getD i 0 ∈ l := by
  rw [List.getD_eq_getElem?_getD, List.getElem?_eq_getElem h]
  exact List.getElem_mem h
theorem ways_count {far : Int → Int} {q : Int → qB} {fl : Int} {f : Nat → Nat} (hW : qwf B a) (hB : BF B a gl far q fl fl 0) (hf : ∀ p r : Nat, (p : Int) < a 0 → (r : Int) < a 0 → (gC a (allP (a 0)) p r ↔ f p = f r)) : fl = ((wX f (a 0).toNat (a 0).toNat : Nat) : Int) := by
  have hn := wf_n hW
  obtain ⟨b1, b2, b3, b4, b5, b6, b7, b8, b9⟩ := hB
  have hB : BF B a gl far q fl fl 0 := ⟨b1, b2, b3, b4, b5, b6, b7, b8, b9⟩
  have w0 := b3 0 (by omega) (by omega)
  obtain ⟨inv, hg⟩ := gI_ex w0.1 w0.2.1 b6.1
  have hL := BF_end hB
  -- rows and lists
  have rl : ∀ c, qwf B c → bA a c → qwf B (rel inv c) ∧ bA a (rel inv c) := fun c hc hA => by
    have e0 := hA 0 (by omega)
    exact ⟨rel_wf hc (gl := gl) (by rw [e0]; exact hg), rel_A hA⟩
  have wfL : ∀ l, l ∈ wE f (a 0).toNat (a 0).toNat → l.length = (a 0).toNat ∧ qwf B (rowL a l) ∧ bA a (rowL a l) := by
    intro l hl
    obtain ⟨h1, h2, h3⟩ := (wE_mem _ l).mp hl
    have hlen : l.length = (a 0).toNat := by
      have := congrArg List.length h3
      rwa [List.length_map, List.length_map, List.length_range] at this
    refine ⟨hlen, mix_wf hW (fun p p0 p1 => ?_) (fun p r p0 p1 r0 r1 e => ?_), mix_A⟩
    · rw [show 14 + p - 14 = p by omega]
      have := h2 _ (getD_mem (l := l) (i := p.toNat) (by omega))
      omega
    · rw [show 14 + p - 14 = p by omega, show 14 + r - 14 = r by omega] at e
      have := (List.getD_inj (xs := l) (fallback := 0) (i := p.toNat) (j := r.toNat) (by omega) (by omega) h1).mp (by omega)
      omega
  have nd1 : ((List.range fl.toNat).map (fun i : Nat => (rk (rel inv (q i))).toNat)).Nodup := by
    unfold List.Nodup
    rw [List.pairwise_map]
    refine List.Pairwise.imp_of_mem ?_ List.nodup_range
    intro i j hi hj hij e
    have hi := List.mem_range.mp hi
    have hj := List.mem_range.mp hj
    have wi := b3 i (by omega) (by omega)
    have wj := b3 j (by omega) (by omega)
    have ri := rl _ wi.1 wi.2.1
    have rj := rl _ wj.1 wj.2.1
    have ki := rk_b ri.1
    have kj := rk_b rj.1
    have sl := rk_sL ri.1 rj.1 ri.2 rj.2 (by omega)
    have sl2 : sL a (q i) (q j) := by
      intro p p0 p1
      have ei := wi.2.1 0 (by omega)
      have ej := wj.2.1 0 (by omega)
      have l1 := wf_live wi.1 p0 (by omega : p < q i 0)
      have l2 := wf_live wj.1 p0 (by omega : p < q j 0)
      have := sl p p0 p1
      rw [rel_l p0 (by omega), rel_l p0 (by omega)] at this
      rw [← (hg.2 _ l1.1 (by omega)).2.2, ← (hg.2 _ l2.1 (by omega)).2.2, this]
    have e2 := sL_rk wi.2.1 wj.2.1 hn.1 sl2
    rcases Nat.lt_or_gt_of_ne hij with c | c
    · exact (b5 i j (by omega) (by omega) (by omega)).1 e2.symm
    · exact (b5 j i (by omega) (by omega) (by omega)).1 e2
  have nd2 : ((wE f (a 0).toNat (a 0).toNat).map (fun l => (rk (rowL a l)).toNat)).Nodup := by
    unfold List.Nodup
    rw [List.pairwise_map]
    refine List.Pairwise.imp_of_mem ?_ (wE_nd _)
    intro l l' hl hl' hll e
    obtain ⟨n1, x1, x2⟩ := wfL l hl
    obtain ⟨n2, y1, y2⟩ := wfL l' hl'
    have k1 := rk_b x1
    have k2 := rk_b y1
    have sl := rk_sL x1 y1 x2 y2 (by omega)
    refine hll (List.ext_getElem (by omega) (fun i h1 h2 => ?_))
    have := sl (i : Int) (by omega) (by omega)
    rw [rowL_l (by omega) (by omega), rowL_l (by omega) (by omega), show ((i : Int)).toNat = i by omega, List.getD_eq_getElem?_getD, List.getD_eq_getElem?_getD, List.getElem?_eq_getElem h1, List.getElem?_eq_getElem h2] at this
    have this : ((l'[i] : Nat) : Int) = ((l[i] : Nat) : Int) := this
    omega
  have hlen : ((List.range fl.toNat).map (fun i : Nat => (rk (rel inv (q i))).toNat)).length = ((wE f (a 0).toNat (a 0).toNat).map (fun l => (rk (rowL a l)).toNat)).length := by
    refine List.Perm.length_eq ((List.perm_ext_iff_of_nodup nd1 nd2).mpr (fun x => ?_))
    rw [List.mem_map, List.mem_map]
    constructor
    · rintro ⟨i, hi, e⟩
      have hi := List.mem_range.mp hi
      have wi := b3 i (by omega) (by omega)
      have ri := rl _ wi.1 wi.2.1
      have e0 := ri.2 0 (by omega)
      have hwk := BF_wk hB (far (rk (q i))).toNat i (by omega) (by omega) (by have := wi.2.2; omega)
      have hgc := wk_gC _ _ ri.1 ri.2 ((wk_rel hg _ _ wi.1 wi.2.1).mp hwk)
      have val : ∀ p : Nat, p < (a 0).toNat → 0 ≤ rel inv (q i) (14 + (p : Int)) ∧ rel inv (q i) (14 + (p : Int)) < a 0 := by
        intro p hp
        have := wf_live ri.1 (p := (p : Int)) (by omega) (by omega)
        omega
      refine ⟨(List.range (a 0).toNat).map (fun p : Nat => (rel inv (q i) (14 + (p : Int))).toNat), (wE_mem _ _).mpr ⟨?_, ?_, ?_⟩, ?_⟩
      · unfold List.Nodup
        rw [List.pairwise_map]
        refine List.Pairwise.imp_of_mem ?_ List.nodup_range
        intro p r hp hr hpr ep
        have hp := List.mem_range.mp hp
        have hr := List.mem_range.mp hr
        have v1 := val p hp
        have v2 := val r hr
        have := wf_inj ri.1 (p := (p : Int)) (q := (r : Int)) (by omega) (by omega) (by omega) (by omega) (by omega)
        omega
      · intro v hv
        obtain ⟨p, hp, e2⟩ := List.mem_map.mp hv
        have v1 := val p (List.mem_range.mp hp)
        omega
      · rw [List.map_map]
        refine List.map_congr_left (fun p hp => ?_)
        have hp := List.mem_range.mp hp
        have v1 := val p hp
        have g1 := hgc (p : Int) (by omega) (by omega)
        have := (hf p (rel inv (q i) (14 + (p : Int))).toNat (by omega) (by omega)).mp (by rw [show (((rel inv (q i) (14 + (p : Int))).toNat : Nat) : Int) = rel inv (q i) (14 + (p : Int)) by omega]; exact g1)
        exact this.symm
      · rw [← e]
        congr 1
        have z0 : rowL a ((List.range (a 0).toNat).map (fun p : Nat => (rel inv (q i) (14 + (p : Int))).toNat)) 0 = a 0 := mix_o (by omega)
        refine rk_c (by omega) (by omega) (fun p p0 p1 => ?_)
        rw [rowL_l p0 (by omega), List.getD_eq_getElem?_getD, List.getElem?_map, List.getElem?_range (by omega)]
        show (((rel inv (q i) (14 + ((p.toNat : Nat) : Int))).toNat : Nat) : Int) = _
        have v1 := val p.toNat (by omega)
        rw [show ((p.toNat : Nat) : Int) = p by omega] at v1 ⊢
        omega
    · rintro ⟨l, hl, e⟩
      obtain ⟨n1, x1, x2⟩ := wfL l hl
      obtain ⟨h1, h2, h3⟩ := (wE_mem _ l).mp hl
      have e0 := x2 0 (by omega)
      have hgc : ∀ p, 0 ≤ p → p < a 0 → gC a (allP (a 0)) p (rowL a l (14 + p)) := by
        intro p p0 p1
        rw [rowL_l p0 (by omega)]
        have hv := h2 _ (getD_mem (l := l) (i := p.toNat) (by omega))
        have g1 := (hf p.toNat (l.getD p.toNat 0) (by omega) (by omega)).mpr ?_
        · rw [show ((p.toNat : Nat) : Int) = p by omega] at g1
          exact g1
        · have := congrArg (fun L => L[p.toNat]?) h3
          rw [List.getElem?_map, List.getElem?_map, List.getElem?_range (by omega), List.getElem?_eq_getElem (by omega : p.toNat < l.length)] at this
          have this : f l[p.toNat] = f p.toNat := Option.some.inj this
          rw [List.getD_eq_getElem?_getD, List.getElem?_eq_getElem (by omega : p.toNat < l.length)]
          exact this.symm
      obtain ⟨k, _, hk⟩ := gC_wk x1 x2 hgc
      -- back to the people's own houses
      have hgs : gI (rowL a l 0) inv gl := by
        rw [e0]
        exact ⟨fun p p0 p1 => by have := hg.2 p p0 p1; exact this, fun v v0 v1 => by have := hg.1 v v0 v1; exact this⟩
      have y1 := rel_wf x1 (gl := inv) (inv := gl) hgs
      have y2 := rel_A (inv := gl) x2
      have sl : sL a (rowL a l) (rel inv (rel gl (rowL a l))) := by
        intro p p0 p1
        have lv := wf_live x1 p0 (by omega : p < rowL a l 0)
        rw [rel_l p0 (by omega), rel_l p0 (by omega)]
        exact (hg.1 _ lv.1 (by omega)).2.2
      have ry := rl _ y1 y2
      have hk2 := (wk_rel hg k _ y1 y2).mpr (wk_c k x1 ry.1 x2 ry.2 sl hk)
      have hf0 := rL_wk hL k _ y1 y2 hk2
      have ky := rk_b y1
      obtain ⟨i, i0, i1, i2⟩ := (b4 _ ky.1 ky.2).2 hf0.1
      refine ⟨i.toNat, List.mem_range.mpr (by omega), ?_⟩
      rw [show ((i.toNat : Nat) : Int) = i by omega, ← e]
      have wi := b3 i i0 i1
      have s2 := rk_sL y1 wi.1 y2 wi.2.1 i2
      have ri := rl _ wi.1 wi.2.1
      have s3 : sL a (rowL a l) (rel inv (q i)) := by
        intro p p0 p1
        rw [← sl p p0 p1, rel_l p0 (by omega), rel_l p0 (by omega), s2 p p0 p1]
      rw [sL_rk x2 ri.2 hn.1 s3]
  rw [List.length_map, List.length_map, List.length_range, wE_len _ (Nat.le_refl _)] at hlen
  omega
end Wk
