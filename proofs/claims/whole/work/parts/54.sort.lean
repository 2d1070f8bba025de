/-! those whom stairs join can be brought home by 21 swaps -/
def gE (a : qB) (p w : Int) : Prop := ∃ s, 0 ≤ s ∧ s < a 1 ∧ ((a (70 + s) = p ∧ a (80 + s) = w) ∨ (a (70 + s) = w ∧ a (80 + s) = p))
def gP' (a : qB) (L : List Int) : Nat → Int → Int → Prop
  | 0, p, q => p = q ∧ p ∈ L
  | k + 1, p, q => p ∈ L ∧ ∃ w, gE a p w ∧ gP' a L k w q
section Gr
variable {a : qB} {L : List Int}
theorem gE_sym {p w : Int} (h : gE a p w) : gE a w p := by
  obtain ⟨s, s0, s1, s2⟩ := h
  exact ⟨s, s0, s1, by omega⟩
theorem gP_fst : ∀ (k : Nat) {p q : Int}, gP' a L k p q → p ∈ L := by
  intro k
  cases k with
  | zero => intro p q h; exact h.2
  | succ k => intro p q h; exact h.1
theorem gP_lst : ∀ (k : Nat) {p q : Int}, gP' a L k p q → q ∈ L := by
  intro k
  induction k with
  | zero => intro p q h; rw [← h.1]; exact h.2
  | succ k ih =>
    intro p q h
    obtain ⟨_, w, _, h2⟩ := h
    exact ih h2
theorem gP_trans : ∀ (k k' : Nat) {p q r : Int}, gP' a L k p q → gP' a L k' q r → gP' a L (k + k') p r := by
  intro k
  induction k with
  | zero => intro k' p q r h h'; rw [h.1, Nat.zero_add]; exact h'
  | succ k ih =>
    intro k' p q r h h'
    obtain ⟨h1, w, h2, h3⟩ := h
    rw [show k + 1 + k' = k + k' + 1 by omega]
    exact ⟨h1, w, h2, ih k' h3 h'⟩
theorem gP_one {p q : Int} (hp : p ∈ L) (hq : q ∈ L) (h : gE a p q) : gP' a L 1 p q := ⟨hp, q, h, rfl, hq⟩
theorem gP_sym : ∀ (k : Nat) {p q : Int}, gP' a L k p q → gP' a L k q p := by
  intro k
  induction k with
  | zero => intro p q h; exact ⟨h.1.symm, h.1 ▸ h.2⟩
  | succ k ih =>
    intro p q h
    obtain ⟨h1, w, h2, h3⟩ := h
    exact gP_trans k 1 (ih h3) (gP_one (gP_fst k h3) h1 (gE_sym h2))
theorem gP_snoc : ∀ (k : Nat) {p q : Int}, gP' a L (k + 1) p q → ∃ w, gP' a L k p w ∧ gE a w q ∧ q ∈ L := by
  intro k p q h
  have h' := gP_sym _ h
  obtain ⟨h1, w, h2, h3⟩ := h'
  exact ⟨w, gP_sym _ h3, gE_sym h2, h1⟩
theorem gP_mono {L' : List Int} (hs : ∀ p, p ∈ L → p ∈ L') : ∀ (k : Nat) {p q : Int}, gP' a L k p q → gP' a L' k p q := by
  intro k
  induction k with
  | zero => intro p q h; exact ⟨h.1, hs _ h.2⟩
  | succ k ih =>
    intro p q h
    obtain ⟨h1, w, h2, h3⟩ := h
    exact ⟨hs _ h1, w, h2, ih h3⟩
def gC (a : qB) (L : List Int) (p q : Int) : Prop := ∃ k, gP' a L k p q
theorem gC_sym {p q : Int} (h : gC a L p q) : gC a L q p := ⟨_, gP_sym _ h.choose_spec⟩
theorem gC_trans {p q r : Int} (h : gC a L p q) (h' : gC a L q r) : gC a L p r := ⟨_, gP_trans _ _ h.choose_spec h'.choose_spec⟩
theorem list_max {P : Int → Nat → Prop} (hP : ∀ v d e, P v d → P v e → d = e) : ∀ L : List Int, (∃ v d, v ∈ L ∧ P v d) → ∃ v d, v ∈ L ∧ P v d ∧ ∀ w e, w ∈ L → P w e → e ≤ d := by
  intro L
  induction L with
  | nil => rintro ⟨v, d, h, _⟩; cases h
  | cons x L ih =>
    intro h
    by_cases hL : ∃ v d, v ∈ L ∧ P v d
    · obtain ⟨v, d, h1, h2, h3⟩ := ih hL
      by_cases hx : ∃ e, P x e ∧ d < e
      · obtain ⟨e, e1, e2⟩ := hx
        refine ⟨x, e, List.mem_cons_self, e1, fun w f hw hf => ?_⟩
        rcases List.mem_cons.mp hw with c | c
        · rw [c] at hf
          have := hP x e f e1 hf
          omega
        · have := h3 w f c hf
          omega
      · refine ⟨v, d, List.mem_cons_of_mem _ h1, h2, fun w f hw hf => ?_⟩
        rcases List.mem_cons.mp hw with c | c
        · rw [c] at hf
          by_cases c2 : d < f
          · exact absurd ⟨f, hf, c2⟩ hx
          · omega
        · exact h3 w f c hf
    · obtain ⟨v, d, h1, h2⟩ := h
      rcases List.mem_cons.mp h1 with c | c
      · rw [c] at h2
        refine ⟨x, d, List.mem_cons_self, h2, fun w f hw hf => ?_⟩
        rcases List.mem_cons.mp hw with c2 | c2
        · rw [c2] at hf
          have := hP x d f h2 hf
          omega
        · exact absurd ⟨w, f, c2, hf⟩ hL
      · exact absurd ⟨v, d, c, h2⟩ hL
/-- the least length of a way -/
def gD (a : qB) (L : List Int) (r p : Int) (d : Nat) : Prop := gP' a L d r p ∧ ∀ j, j < d → ¬ gP' a L j r p
theorem gD_ex {r p : Int} (h : gC a L r p) : ∃ d, gD a L r p d := q_least h
theorem gD_uniq {r p : Int} {d e : Nat} (h : gD a L r p d) (h' : gD a L r p e) : d = e := by
  rcases Nat.lt_trichotomy d e with c | c | c
  · exact absurd h.1 (h'.2 d c)
  · exact c
  · exact absurd h'.1 (h.2 e c)
/-- one without whom the others are joined as before -/
theorem g_leaf (hN : L.Nodup) (hne : L ≠ []) : ∃ v, v ∈ L ∧ ∀ p q, p ≠ v → q ≠ v → gC a L p q → gC a (L.erase v) p q := by
  obtain ⟨r, hr⟩ : ∃ r, r ∈ L := by
    cases L with
    | nil => exact absurd rfl hne
    | cons x L => exact ⟨x, List.mem_cons_self⟩
  obtain ⟨v, D, hv, hD, hmax⟩ := list_max (P := gD a L r) (fun v d e h h' => gD_uniq h h') L ⟨r, 0, hr, ⟨rfl, hr⟩, fun j hj => absurd hj (by omega)⟩
  have me : ∀ p, p ≠ v → p ∈ L → p ∈ L.erase v := fun p np hp => (List.Nodup.mem_erase_iff hN).mpr ⟨np, hp⟩
  refine ⟨v, hv, ?_⟩
  -- those joined with the root
  have key : ∀ (d : Nat) (p : Int), gD a L r p d → d ≤ D → p ≠ v → gC a (L.erase v) r p ∨ r = v := by
    intro d
    induction d with
    | zero =>
      intro p hp _ np
      left
      refine ⟨0, hp.1.1, me r ?_ hr⟩
      rw [hp.1.1]; exact np
    | succ d ih =>
      intro p hp hd np
      obtain ⟨w, w1, w2, w3⟩ := gP_snoc _ hp.1
      have hw : gD a L r w d := ⟨w1, fun j hj hj' => hp.2 (j + 1) (by omega) (gP_trans j 1 hj' (gP_one (gP_lst _ w1) w3 w2))⟩
      have nw : w ≠ v := fun e => by
        rw [e] at hw
        have := gD_uniq hw hD
        omega
      rcases ih w hw (by omega) nw with c | c
      · left
        exact gC_trans c ⟨1, gP_one (me w nw (gP_lst _ w1)) (me p np w3) w2⟩
      · right; exact c
  have toRoot : ∀ p, p ≠ v → gC a L r p → gC a (L.erase v) r p := by
    intro p np hp
    obtain ⟨d, hd⟩ := gD_ex hp
    have hdD := hmax p d (gP_lst _ hd.1) hd
    rcases key d p hd hdD np with c | c
    · exact c
    · exfalso
      have h0 : gD a L r v 0 := ⟨⟨c, hr⟩, fun j hj => absurd hj (by omega)⟩
      have e0 := gD_uniq hD h0
      have : d = 0 := by omega
      rw [this] at hd
      exact np (hd.1.1.symm.trans c)
  intro p q np nq hpq
  by_cases hrp : gC a L r p
  · exact gC_trans (gC_sym (toRoot p np hrp)) (toRoot q nq (gC_trans hrp hpq))
  · have walk : ∀ (k : Nat) (p : Int), ¬ gC a L r p → p ≠ v → gP' a L k p q → gP' a (L.erase v) k p q := by
      intro k
      induction k with
      | zero => intro p _ np h; exact ⟨h.1, me p np h.2⟩
      | succ k ih =>
        intro p hp np h
        obtain ⟨h1, w, h2, h3⟩ := h
        have hw : ¬ gC a L r w := fun c => hp (gC_trans c ⟨1, gP_one (gP_fst _ h3) h1 (gE_sym h2)⟩)
        have nw : w ≠ v := fun e => hw (by rw [e]; exact ⟨D, hD.1⟩)
        exact ⟨me p np h1, w, h2, ih w hw nw h3⟩
    obtain ⟨k, hk⟩ := hpq
    exact ⟨k, walk k p hrp np hk⟩
theorem g_short : ∀ (N : Nat) (L : List Int), L.length = N → L.Nodup → ∀ p q, gC a L p q → ∃ k, k < N ∧ gP' a L k p q := by
  intro N
  induction N with
  | zero =>
    intro L hL _ p q h
    have := gP_fst _ h.choose_spec
    rw [List.length_eq_zero_iff.mp hL] at this
    cases this
  | succ N ih =>
    intro L hL hN p q h
    have hne : L ≠ [] := fun e => by rw [e] at hL; cases hL
    obtain ⟨v, hv, hl⟩ := g_leaf (a := a) hN hne
    have el : (L.erase v).length = N := by rw [List.length_erase_of_mem hv]; omega
    have me : ∀ p, p ∈ L.erase v → p ∈ L := fun p hp => List.mem_of_mem_erase hp
    have ihe := ih (L.erase v) el (hN.erase v)
    -- from the one that is left out
    have fromV : ∀ q, gC a L v q → ∃ k, k < N + 1 ∧ gP' a L k v q := by
      intro q hq
      by_cases e : q = v
      · exact ⟨0, by omega, e.symm, hv⟩
      · obtain ⟨k, hk⟩ := hq
        have : ∀ (k : Nat), gP' a L k v q → ∃ w, gE a v w ∧ w ≠ v ∧ gC a L w q := by
          intro k
          induction k with
          | zero => intro h; exact absurd h.1.symm e
          | succ k ihk =>
            intro h
            obtain ⟨h1, w, h2, h3⟩ := h
            by_cases c : w = v
            · rw [c] at h3; exact ihk h3
            · exact ⟨w, h2, c, k, h3⟩
        obtain ⟨w, w1, w2, w3⟩ := this k hk
        obtain ⟨j, j1, j2⟩ := ihe w q (hl w q w2 e w3)
        refine ⟨j + 1, by omega, hv, w, w1, gP_mono me j j2⟩
    by_cases e : p = v
    · rw [e] at h ⊢; exact fromV q h
    · by_cases e2 : q = v
      · rw [e2] at h ⊢
        obtain ⟨k, k1, k2⟩ := fromV p (gC_sym h)
        exact ⟨k, k1, gP_sym _ k2⟩
      · obtain ⟨k, k1, k2⟩ := ihe p q (hl p q e e2 h)
        exact ⟨k, by omega, gP_mono me k k2⟩
end Gr
section So
variable {B : Int} {a : qB}
theorem on_edge {b : qB} (hW : qwf B b) (hA : bA a b) {p w : Int} (h : gE a p w) : ∃ s, 0 ≤ s ∧ s < a 1 ∧ ∀ r, aOn b s (14 + r) = if r = w then b (14 + p) else if r = p then b (14 + w) else b (14 + r) := by
  obtain ⟨s, s0, s1, s2⟩ := h
  have e1 := hA 1 (by omega)
  refine ⟨s, s0, s1, fun r => ?_⟩
  have h3 := wf_st hW s0 (by omega : s < b 1)
  rw [aOn_at hW s0 (by omega)]
  rw [hA (70 + s) (by omega), hA (80 + s) (by omega)] at h3 ⊢
  rcases s2 with ⟨c1, c2⟩ | ⟨c1, c2⟩
  · rw [c1, c2]
  · rw [c1, c2]
    rw [c1, c2] at h3
    by_cases d1 : r = p
    · rw [if_pos d1, if_neg (by omega), if_pos d1]
    · rw [if_neg d1]
      by_cases d2 : r = w
      · rw [if_pos d2, if_pos d2]
      · rw [if_neg d2, if_neg d2, if_neg d1]
/-- one is brought along a way -/
theorem g_move {gl : Int → Int} {L : List Int} : ∀ (k : Nat) (u v : Int) (b : qB), qwf B b → bA a b → gP' a L k u v → ∃ b1, qwf B b1 ∧ bA a b1 ∧ (∀ j, wk a gl j b1 → wk a gl (j + k) b) ∧ b1 (14 + v) = b (14 + u) ∧ (∀ p, p ∉ L → b1 (14 + p) = b (14 + p)) ∧ ∀ p, p ∈ L → ∃ p2, gC a L p p2 ∧ b1 (14 + p) = b (14 + p2) := by
  intro k
  induction k with
  | zero =>
    intro u v b hW hA h
    exact ⟨b, hW, hA, fun j hj => hj, by rw [h.1], fun p _ => rfl, fun p hp => ⟨p, ⟨0, rfl, hp⟩, rfl⟩⟩
  | succ k ih =>
    intro u v b hW hA h
    obtain ⟨h1, w, h2, h3⟩ := h
    obtain ⟨s, s0, s1, hs⟩ := on_edge hW hA h2
    have o := on_wf hW hA s0 s1
    obtain ⟨b1, c1, c2, c3, c4, c5, c6⟩ := ih w v (aOn b s) o.1 o.2.1 h3
    have hw := gP_fst _ h3
    refine ⟨b1, c1, c2, fun j hj => ?_, ?_, fun p hp => ?_, fun p hp => ?_⟩
    · rw [show j + (k + 1) = j + k + 1 by omega]
      exact ⟨s, s0, s1, c3 j hj⟩
    · rw [c4, hs, if_pos rfl]
    · have n1 : ¬ p = w := fun e => hp (e ▸ hw)
      have n2 : ¬ p = u := fun e => hp (e ▸ h1)
      rw [c5 p hp, hs, if_neg n1, if_neg n2]
    · obtain ⟨p2, d1, d2⟩ := c6 p hp
      rw [hs] at d2
      by_cases e1 : p2 = w
      · rw [if_pos e1] at d2
        exact ⟨u, gC_trans d1 (e1 ▸ ⟨1, gP_one hw h1 (gE_sym h2)⟩), d2⟩
      · rw [if_neg e1] at d2
        by_cases e2 : p2 = u
        · rw [if_pos e2] at d2
          exact ⟨w, gC_trans d1 (e2 ▸ ⟨1, gP_one h1 hw h2⟩), d2⟩
        · rw [if_neg e2] at d2
          exact ⟨p2, d1, d2⟩
theorem g_sort : ∀ (N : Nat) (L : List Int), L.length = N → L.Nodup → (∀ p, p ∈ L → 0 ≤ p ∧ p < a 0) → ∀ b, qwf B b → bA a b → (∀ p, 0 ≤ p → p < a 0 → p ∉ L → b (14 + p) = p) → (∀ p, p ∈ L → gC a L p (b (14 + p))) → ∃ k, 2 * k ≤ N * (N - 1) ∧ wk a (fun p => p) k b := by
  intro N
  induction N with
  | zero =>
    intro L hL _ _ b hW hA h1 _
    refine ⟨0, by omega, fun p p0 p1 => h1 p p0 p1 ?_⟩
    rw [List.length_eq_zero_iff.mp hL]
    exact List.not_mem_nil
  | succ N ih =>
    intro L hL hN hr b hW hA h1 h2
    have hne : L ≠ [] := fun e => by rw [e] at hL; cases hL
    obtain ⟨v, hv, hl⟩ := g_leaf (a := a) hN hne
    have e0 := hA 0 (by omega)
    have hvr := hr v hv
    obtain ⟨u, u0, u1, u2⟩ := aLive_ex hW (p := v) hvr.1 (by omega)
    have hu : u ∈ L := by
      by_cases c : u ∈ L
      · exact c
      · have := h1 u u0 (by omega) c
        rw [this] at u2
        exact absurd (u2 ▸ hv) c
    have huv : gC a L u v := by
      have := h2 u hu
      rwa [u2] at this
    obtain ⟨k, k1, k2⟩ := g_short (N + 1) L hL hN u v huv
    obtain ⟨b1, c1, c2, c3, c4, c5, c6⟩ := g_move (gl := fun p => p) k u v b hW hA k2
    have me : ∀ p, p ∈ L.erase v → p ≠ v ∧ p ∈ L := fun p hp => (List.Nodup.mem_erase_iff hN).mp hp
    obtain ⟨k', k3, k4⟩ := ih (L.erase v) (by rw [List.length_erase_of_mem hv]; omega) (hN.erase v) (fun p hp => hr p (me p hp).2) b1 c1 c2 (fun p p0 p1 hp => by
      by_cases e : p = v
      · rw [e, c4, u2]
      · have : p ∉ L := fun hp2 => hp ((List.Nodup.mem_erase_iff hN).mpr ⟨e, hp2⟩)
        rw [c5 p this]
        exact h1 p p0 p1 this) (fun p hp => by
      have hm := me p hp
      have hpr := hr p hm.2
      obtain ⟨p2, d1, d2⟩ := c6 p hm.2
      have hc : gC a L p (b1 (14 + p)) := by
        rw [d2]
        exact gC_trans d1 (h2 p2 (gP_lst _ d1.choose_spec))
      refine hl p _ hm.1 (fun e => ?_) hc
      have e0' := c2 0 (by omega)
      have := wf_inj c1 (p := p) (q := v) hpr.1 (by omega) hvr.1 (by omega) (by rw [e, c4, u2])
      exact hm.1 this)
    refine ⟨k' + k, ?_, c3 k' k4⟩
    have : (N + 1) * (N + 1 - 1) = N * (N - 1) + 2 * N := by
      cases N with
      | zero => rfl
      | succ M =>
        rw [Nat.add_sub_cancel, Nat.add_sub_cancel, Nat.add_mul, Nat.mul_comm (M + 1) M, Nat.add_mul M 1 (M + 1), Nat.mul_comm M (M + 1)]
        omega
    omega
def allP (n : Int) : List Int := (List.range n.toNat).map (fun k : Nat => (k : Int))
theorem allP_mem {n p : Int} (n0 : 0 ≤ n) : p ∈ allP n ↔ 0 ≤ p ∧ p < n := by
  unfold allP
  rw [List.mem_map]
  constructor
  · rintro ⟨k, k1, k2⟩
    have := List.mem_range.mp k1
    omega
  · rintro ⟨h1, h2⟩
    exact ⟨p.toNat, List.mem_range.mpr (by omega), by omega⟩
theorem allP_nodup {n : Int} : (allP n).Nodup := by
  unfold allP
  refine List.Pairwise.map _ (fun x y (h : x ≠ y) => ?_) List.nodup_range
  intro e
  exact h (by omega)
theorem allP_len {n : Int} : (allP n).length = n.toNat := by
  unfold allP
  rw [List.length_map, List.length_range]
/-- who comes home by a row is joined with where he lives -/
theorem wk_gC : ∀ (k : Nat) (b : qB), qwf B b → bA a b → wk a (fun p => p) k b → ∀ p, 0 ≤ p → p < a 0 → gC a (allP (a 0)) p (b (14 + p)) := by
  intro k
  induction k with
  | zero =>
    intro b hW hA hw p p0 p1
    rw [hw p p0 p1]
    exact ⟨0, rfl, (allP_mem (by omega)).mpr ⟨p0, p1⟩⟩
  | succ k ih =>
    intro b hW hA hw p p0 p1
    obtain ⟨s, s0, s1, s2⟩ := hw
    have o := on_wf hW hA s0 s1
    have e1 := hA 1 (by omega)
    have e0 := hA 0 (by omega)
    have h3 := wf_st hW s0 (by omega : s < b 1)
    have ih2 := ih _ o.1 o.2.1 s2
    rw [hA (70 + s) (by omega), hA (80 + s) (by omega)] at h3
    have ed : gE a (a (70 + s)) (a (80 + s)) := ⟨s, s0, s1, Or.inl ⟨rfl, rfl⟩⟩
    have m1 : a (70 + s) ∈ allP (a 0) := (allP_mem (by omega)).mpr ⟨h3.1.1, by omega⟩
    have m2 : a (80 + s) ∈ allP (a 0) := (allP_mem (by omega)).mpr ⟨h3.2.1.1, by omega⟩
    have t1 := aOn_one hW s0 (by omega : s < b 1)
    have t2 := aOn_two hW s0 (by omega : s < b 1)
    have t3 := aOn_at hW (p := p) s0 (by omega : s < b 1)
    rw [hA (70 + s) (by omega), hA (80 + s) (by omega)] at t1 t2 t3
    by_cases c1 : p = a (80 + s)
    · have := ih2 (a (70 + s)) h3.1.1 (by omega)
      rw [t1] at this
      rw [c1]
      exact gC_trans ⟨1, gP_one m2 m1 (gE_sym ed)⟩ this
    · by_cases c2 : p = a (70 + s)
      · have := ih2 (a (80 + s)) h3.2.1.1 (by omega)
        rw [t2] at this
        rw [c2]
        exact gC_trans ⟨1, gP_one m1 m2 ed⟩ this
      · have := ih2 p p0 p1
        rw [t3, if_neg c1, if_neg c2] at this
        exact this
theorem gC_wk {b : qB} (hW : qwf B b) (hA : bA a b) (h : ∀ p, 0 ≤ p → p < a 0 → gC a (allP (a 0)) p (b (14 + p))) : ∃ k, k ≤ 21 ∧ wk a (fun p => p) k b := by
  have hn := wf_n hW
  have e0 := hA 0 (by omega)
  obtain ⟨k, k1, k2⟩ := g_sort (B := B) (a := a) (a 0).toNat (allP (a 0)) allP_len allP_nodup (fun p hp => (allP_mem (by omega)).mp hp) b hW hA (fun p p0 p1 hp => absurd ((allP_mem (by omega)).mpr ⟨p0, p1⟩) hp) (fun p hp => by
    have := (allP_mem (by omega)).mp hp
    exact h p this.1 this.2)
  refine ⟨k, ?_, k2⟩
  have : (a 0).toNat * ((a 0).toNat - 1) ≤ 7 * 6 := Nat.mul_le_mul (by omega) (by omega)
  omega
end So
