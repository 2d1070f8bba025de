/-! lives and fractions -/
section Ds2
variable {n m : Int} {D : Int → Int → Int} {C : Nat → Int → Int}
theorem dSeg_rfl {dd : Nat} {f l : Int} : ∀ k, dSeg n m D C k dd f f l l
  | 0 => ⟨rfl, rfl⟩
  | _ + 1 => Or.inl ⟨rfl, rfl⟩
theorem lvAll_01 {B : Int} : ∀ (k dd : Nat) {f t l e : Int} {σ : lvS}, dSeg n m D C k dd f t l e → lvOk B n m σ → (lvAll D k f t σ).1 0 = σ.1 0 ∧ (lvAll D k f t σ).1 1 = σ.1 1 := by
  intro k
  induction k with
  | zero => intro dd f t l e σ _ h; exact ⟨rfl, rfl⟩
  | succ k ih =>
    intro dd f t l e σ hd h
    by_cases hg : f < t ∧ σ.2.2.2.2.1 = 0
    · rw [lvAll_go hg.1 hg.2]
      rcases hd with hd | ⟨h1, hS, hd⟩
      · omega
      obtain ⟨q1, q2, q4, q5, q6, q7, q8, q9⟩ := h
      have h : lvOk B n m σ := ⟨q1, q2, q4, q5, q6, q7, q8, q9⟩
      by_cases h3 : σ.2.2.1 = 300
      · rw [lvOne_300 h3, lvAll_no (by show ¬ (D f 8 < t ∧ (1 : Int) = 0); omega)]
        exact ⟨rfl, rfl⟩
      · rcases hd with ⟨hk, h8, hd⟩ | ⟨hk, _, E, _, _, _, hd1, hd2⟩
        · rcases hk with hk | hk
          · have G := lvD_g q1 (stepOK_V hS q2.1 q2.2) q4.1 q4.2
            have o1 := (lvAll_ok (B := B) (k + 1) dd (f := f) (t := f + 1) (l := l) (e := l + 1) (σ := σ) (Or.inr ⟨by omega, hS, Or.inl ⟨Or.inl hk, h8, dSeg_rfl k⟩⟩) h).1
            rw [lvAll_go (by omega) hg.2, h8, lvAll_no (by omega)] at o1
            have I := ih dd hd o1
            rw [h8]
            have e0 : (lvOne D (lvAll D k) f σ).1 0 = σ.1 0 := by rw [lvOne_s h3 hk]; exact G.1.2.1
            have e1 : (lvOne D (lvAll D k) f σ).1 1 = σ.1 1 := by rw [lvOne_s h3 hk]; exact G.1.2.2.1
            exact ⟨I.1.trans e0, I.2.trans e1⟩
          · rw [lvOne_t h3 hk, lvAll_no (by show ¬ (D f 8 < t ∧ (1 : Int) = 0); omega)]
            exact ⟨rfl, rfl⟩
        · have hI := lvOk_I h h3
          rcases hk with hk | hk
          · by_cases hh : lvHo (D f 5) (D f 1) (D f 2) (D f 6) (D f 7) σ.1
            · rw [lvOne_wt h3 hk hh]
              have I1 := lvAll_ok _ _ hd1 hI
              have J1 := ih _ hd1 hI
              have J2 := ih _ hd2 I1.1
              exact ⟨J2.1.trans J1.1, J2.2.trans J1.2⟩
            · rw [lvOne_wf h3 hk hh]
              exact ih _ hd2 hI
          · rw [lvOne_l h3 hk]
            have hc := (hS.2.2.2.2.2.2.2.1 hk).2.2
            have key : ∀ c, 0 ≤ c → lvOk B n m (qfold (fun _ r => lvAll D k (f + 1) (D f 8) r) (lvI σ) c) ∧ (qfold (fun _ r => lvAll D k (f + 1) (D f 8) r) (lvI σ) c).1 0 = σ.1 0 ∧ (qfold (fun _ r => lvAll D k (f + 1) (D f 8) r) (lvI σ) c).1 1 = σ.1 1 := by
              apply q_ind
              · exact ⟨hI, rfl, rfl⟩
              · intro c hc ihc
                rw [qfold_s hc]
                have I1 := lvAll_ok _ _ hd1 ihc.1
                have J1 := ih _ hd1 ihc.1
                exact ⟨I1.1, J1.1.trans ihc.2.1, J1.2.trans ihc.2.2⟩
            have K := key (D f 1) (by omega)
            have J2 := ih _ hd2 K.1
            exact ⟨J2.1.trans K.2.1, J2.2.trans K.2.2⟩
    · rw [lvAll_no hg]; exact ⟨rfl, rfl⟩
end Ds2
def POl (c i j : Nat) : Prop := PJ c i j ∨ c = 4 ∨ c = 5 ∨ (c = 12 ∧ (j = 2 ∨ j = 3 ∨ j = 39 ∨ j = 40))
section Ol
variable {B B' : Int} {h h' : qH} {a a' : qB}
theorem Inv_o (hi : Inv B h a) (hf : fr POl h h') (hc : ∀ y : Int, 100 ≤ y → y < 1488 → h' 12 0 20 (Int.toNat y) = h 12 0 20 (Int.toNat y)) (hQ : qQX h' 0 a') (hM : qM h' 0 a') (hW : qwf B' a') (hB : B ≤ B') (h0 : a' 0 = a 0) (h1 : a 1 ≤ a' 1) (hs : h' 11 0 17 0 = h' 12 0 0 0) (o4 : h' 4 0 0 0 = h' 12 0 2 0) (o5 : h' 4 0 1 0 = h' 12 0 3 0) (o6 : h' 5 0 1 0 = h' 12 0 40 0) (o7 : h' 5 0 1 0 ≠ 0 → h' 5 0 5 0 = h' 12 0 39 0 ∧ h' 5 0 6 0 = h' 12 0 39 1 ∧ h' 5 0 7 0 = h' 12 0 39 2 ∧ h' 5 0 8 0 = h' 12 0 39 3 ∧ (if h' 5 0 2 0 = 0 then 0 else 1) = h' 12 0 39 4) : Inv B' h' a' := by
  have n : ∀ c i j, ¬ POl c i j → h' c i j = h c i j := hf
  unfold POl PJ Scr at n
  obtain ⟨⟨q1, q2, q3, q4, q5⟩, i2, i3, i4, i5, i6⟩ := hi
  refine ⟨⟨hQ, hM, hW, ?_, ?_⟩, ?_, ?_, ?_, ?_, tB_e i6 (by funext i j; exact n 6 i j (by omega))⟩
  · rw [h0]; exact nRel_e q4 (n 7 0 0 (by omega)) (n 12 0 22 (by omega))
  · exact dRel_nm (dRel_e q5 (by funext j; exact n 1 0 j (by omega)) (fun y y0 y1 => hc y (by omega) (by omega))) (by omega) h1
  · exact mRel_e (mRel_B i2 hB) (fun i i2 => by funext j; exact n 7 i j (by omega)) (fun i i2 => by funext j; exact n 1 i j (by omega)) (fun y y0 y1 => hc y (by omega) y1) (n 12 0 22 (by omega)) (n 11 0 16 (by omega)) (n 12 0 23 (by omega))
  · exact tRel_e i3 (by funext i j; exact n 10 i j (by omega)) (n 12 0 4 (by omega)) (n 12 0 5 (by omega)) (n 12 0 6 (by omega))
  · exact pRel_e i4 (n 9 0 0 (by omega)) (n 9 0 1 (by omega)) (n 12 0 7 (by omega)) (n 12 0 8 (by omega))
  · refine ⟨?_, hs, ?_, ?_, o4, o5, o6, o7⟩
    · rw [n 90 0 0 (by omega)]; exact i5.1
    · rw [n 11 0 18 (by omega), n 12 0 10 (by omega)]; exact i5.2.2.1
    · rw [n 11 0 19 (by omega), n 12 0 11 (by omega)]; exact i5.2.2.2.1
theorem fr_91O (hf : fr POl h h') : h' 91 = h 91 := by
  funext i j
  refine hf 91 i j ?_
  unfold POl PJ Scr
  omega
end Ol
theorem PO_up {c i j : Nat} (h : c = 4 ∨ c = 5 ∨ (c = 11 ∧ j = 17) ∨ (c = 12 ∧ (j ≤ 3 ∨ j = 20 ∨ j = 39 ∨ j = 40))) : POl c i j := by
  unfold POl PJ Scr
  omega
theorem PO_PR {c i j : Nat} (p : PR 0 0 c i j) : POl c i j := by
  rcases p with ⟨e, _⟩ | ⟨e, e2, e3⟩
  · exact Or.inr (Or.inr (Or.inl e))
  · exact Or.inl (Or.inr (Or.inr (Or.inr ⟨e, e2, e3⟩)))
theorem PO_0 {c i j : Nat} (p : c = 0) : POl c i j := Or.inl (Or.inl (Or.inl p))
theorem PO_PD {c i j : Nat} (p : PD c i j) : POl c i j := by
  obtain ⟨e, p⟩ := p
  subst e
  unfold POl PJ Scr
  omega
theorem PO_mn {c i j : Nat} (p : (c = 5 ∧ i = 1) ∨ (c = 7 ∧ i = 1)) : POl c i j := by
  rcases p with ⟨e, _⟩ | ⟨e, e2⟩
  · exact Or.inr (Or.inr (Or.inl e))
  · exact Or.inl (Or.inl (Or.inr (Or.inr (Or.inr (Or.inr (Or.inr (Or.inl ⟨Or.inl e, e2⟩)))))))
theorem PO_n {i j : Nat} (n : ¬ POl 12 i j) : i = 0 ∧ 4 ≤ j ∧ j ≤ 23 ∧ j ≠ 20 ∧ j ≠ 21 := by
  unfold POl PJ Scr at n
  omega
section Fr2
variable {d : Nat} {R : Option qV → qH → Prop} {h : qH}
theorem x_fsetB {t b : Nat} (hb : 0 < b) (hb2 : b ≤ 100000) (hR : R none (qup (qup h 4 0 0 0 (fTop t b)) 4 0 1 0 (fBot t b))) : qT (d + 1) 28 0 [qo 4 0, ql (t : Int), qu, ql (b : Int), qu, qu, qu, qu, qu, qu, qu, qu] [] h R := by
  refine sX4_set_0 ?_
  have hg : 0 < Nat.gcd t b := Nat.gcd_pos_of_pos_right t hb
  have fin : ∀ (x : Nat) (z : Int) (y : qV), x = Nat.gcd t b → ((z : Int) = 100 ∨ True) → (0 ≤ (t : Int) ∧ 0 < (x : Int)) ∧ (0 ≤ (b : Int) ∧ 0 < (x : Int)) ∧ R none (qup (qup h 4 0 0 0 ((t : Int) / x)) 4 0 1 0 ((b : Int) / x)) := by
    intro x z y hx _
    rw [hx]
    refine ⟨⟨by omega, by omega⟩, ⟨by omega, by omega⟩, ?_⟩
    exact hR
  have loop : ∀ n x y i : Nat, y ≤ x → x * y < 2 ^ n → i + n + 1 ≤ 100 → Nat.gcd x y = Nat.gcd t b → ∀ z, qT (d + 1) 28 9 [qo 4 0, ql (t : Int), qu, ql (b : Int), qu, ql (x : Int), qu, ql (y : Int), qu, qi (i : Int), z, qu] [] h R := by
    intro n
    induction n with
    | zero =>
      intro x y i hxy hp hi hgc z
      have hy : y = 0 := by
        rcases Nat.eq_zero_or_pos y with h0 | h0
        · exact h0
        · have h1 : 1 * 1 ≤ x * y := Nat.mul_le_mul (by omega) h0
          omega
      subst hy
      rw [Nat.gcd_zero_right] at hgc
      refine sX4_set_9 ⟨fun c => absurd c (by omega), fun _ => ⟨fun _ => ⟨fun c => ?_, fun _ => fin x 0 z hgc (Or.inr trivial)⟩, fun c => absurd (qlcmp_eq.mpr rfl) c⟩⟩
      have := qlcmp_eq.mp c
      omega
    | succ n ih =>
      intro x y i hxy hp hi hgc z
      rcases Nat.eq_zero_or_pos y with h0 | h0
      · subst h0
        rw [Nat.gcd_zero_right] at hgc
        refine sX4_set_9 ⟨fun c => absurd c (by omega), fun _ => ⟨fun _ => ⟨fun c => ?_, fun _ => fin x 0 z hgc (Or.inr trivial)⟩, fun c => absurd (qlcmp_eq.mpr rfl) c⟩⟩
        have := qlcmp_eq.mp c
        omega
      · refine sX4_set_9 ⟨fun c => absurd c (by omega), fun _ => ⟨fun c => ?_, fun c => ⟨⟨by omega, by omega⟩, qR_of (by omega) (by omega), ?_⟩⟩⟩
        · have := qlcmp_eq.mp c
          omega
        · have hh := gcd_half h0 hxy
          have hm : x % y < y := Nat.mod_lt _ h0
          have e : 2 ^ (n + 1) = 2 * 2 ^ n := by rw [Nat.pow_succ, Nat.mul_comm]
          exact ih y (x % y) (i + 1) (by omega) (by omega) (by omega) (by rw [gcd_step, hgc]) _
  have first : ∀ z, qT (d + 1) 28 9 [qo 4 0, ql (t : Int), qu, ql (b : Int), qu, ql (t : Int), qu, ql (b : Int), qu, qi 0, z, qu] [] h R := by
    intro z
    refine sX4_set_9 ⟨fun c => absurd c (by omega), fun _ => ⟨fun c => ?_, fun c => ⟨⟨by omega, by omega⟩, qR_of (by omega) (by omega), ?_⟩⟩⟩
    · have := qlcmp_eq.mp c
      omega
    · have hm : t % b ≤ 100000 := Nat.le_of_lt (Nat.lt_of_lt_of_le (Nat.mod_lt _ hb) hb2)
      have hm2 : t % b < b := Nat.mod_lt _ hb
      have hp : b * (t % b) ≤ 100000 * 100000 := Nat.mul_le_mul hb2 hm
      exact loop 34 b (t % b) 1 (by omega) (by omega) (by omega) gcd_step _
  exact first _
end Fr2
theorem p_live {x : Int} : Pair 152 323 [qi x] [qi x] := by
  intro d B h a K X S hi b0 b1 hK hS
  have hQ := hi.1.1
  have hW := hi.1.2.2.1
  have hd := hi.1.2.2.2.2
  have no5 : ¬ (0 ≤ x ∧ x ≤ 9999) → qT (d + 38) 157 0 [qo 11 0, qi 5, qi (-1)] [] h (fun w1 g2 => qri w1 fun r3 => S (some (qi r3)) g2) := fun nx => sX11_answer_0 (hS _ _ s_91 (sX12_live_0 (m_isIn (fun c1 c2 => absurd ⟨c1, c2⟩ nx) (fun _ => ⟨fun c => absurd rfl c, fun _ => m_refuse (okR (kS hi hK 5) rfl)⟩))))
  have d1 : h 1 0 5 0 = h 12 0 20 (Int.toNat 100) := hd.1
  have d2 : h 1 0 6 0 = h 12 0 20 (Int.toNat 101) := hd.2.1
  refine sX11_live_0 ⟨fun c => no5 (by omega), fun x0 => ⟨fun x9 => ⟨fun h1 => ?_, fun h1 => ?_⟩, fun c => no5 (by omega)⟩⟩
  · obtain ⟨n30, l60, k, sg⟩ := hd.2.2.1 h1
    have lok := lvOk_0 (n := a 0) (m := a 1) (seed := x) hW (Int.le_refl _) (Int.le_refl _) (by omega) x9
    have ok := (lvAll_ok (B := B) k 3 sg lok).1
    have o01 := lvAll_01 (B := B) k 3 sg lok
    refine x_run (n := a 0) (m := a 1) hQ hW b1 (Int.le_refl _) (Int.le_refl _) l60.1 l60.2 sg (by omega) x9 (fun g1 X1 f1 e1 e6 e7 e8 => ?_)
    obtain ⟨x1, x2, x3, x4, x5⟩ := X1
    have c12 : ∀ i j, (qup g1 11 0 17 0 0) 12 i j = h 12 i j := fun i j => by rw [up_j (by omega), f1 12 i j (by omega)]
    have hM1 : qM (m0 (qup g1 11 0 17 0 0)) 0 a := m0_M (m_fr (iM0 hi) (c12 0 20))
    have m20 : (qup (qup (qup g1 11 0 17 0 0) 12 0 1 0 0) 12 0 0 0 0) 12 0 20 = h 12 0 20 := by rw [up_j (by omega), up_j (by omega), c12]
    have fA : fr POl h (qup g1 11 0 17 0 0) := fr_trans (fr_mono f1 (fun c i j p => PO_PR p)) (fr_up (PO_up (by decide)))
    refine sX11_answer_0 (hS _ _ (fr_91O fA) (sX12_live_0 (m_isIn (fun _ _ => ⟨fun _ => ⟨by omega, fun c1 => ?_, fun c1 => absurd ?_ c1⟩, fun c => absurd (by decide) c⟩) (fun c => absurd ⟨by omega, x9⟩ c))))
    · refine m_runsDecades (n := a 0) (m := a 1) (N := h 1 0 6 0) hM1 hW b1 (Int.le_refl _) (Int.le_refl _) (fun s y s0 s1 y0 y1 => ?_) ?_ n30.2 sg (by omega) x9 (fun g2 M2 f2 e45 e46 e47 => ?_)
      · rw [m20, show 372 * 0 + 102 + 9 * s + y = 102 + 9 * s + y by omega]
      · exact (congrFun m20 _).trans d2.symm
      · obtain ⟨y1, y2, y3, y4, y5, y6⟩ := M2
        revert y1 y2 y3 y4 y5 y6 x1 x2 x3 x4 x5 e6 e7 e8 ok o01
        generalize lvAll _ k 0 (h 1 0 6 0) (lv0 a x) = σ
        intro ok o01 e6 e7 e8 x1 x2 x3 x4 x5 y1 y2 y3 y4 y5 y6
        have wq := wf_quar ok.1
        have wm := wf_made ok.1
        have wn := wf_night ok.1
        have wq0 := wf_quar hW
        have wm0 := wf_made hW
        have wn0 := wf_night hW
        have k3 := ok.2.2.2.1
        have lf := ok.2.2.2.2.2.2.2
        dsimp only [qrv]
        rw [m_0 y1 (by omega) (by omega), m_0 y1 (by omega) (by omega), m_0 y1 (by omega) (by omega), e45, e46, e47, y3, y4, y6, x3]
        refine ⟨by omega, by omega, qR_of (by omega) (by omega), by omega, by omega, qR_of (by omega) (by omega), by omega, by omega, qR_of (by omega) (by omega), by omega, by omega, by omega, ?_⟩
        have fB : fr POl (qup g1 11 0 17 0 0) g2 := by
          refine fr_trans (h' := m0 (qup g1 11 0 17 0 0)) (fr_trans (h' := qup (qup g1 11 0 17 0 0) 12 0 1 0 0) (fr_up (PO_up (by decide))) (fr_up (PO_up (by decide)))) (fun c i j nP => ?_)
          by_cases c12 : c = 12
          · subst c12
            have nn := PO_n nP
            rw [nn.1]
            exact f2.2.1 j ⟨nn.2.2.2.1, by omega⟩
          · exact congrFun (f2.1 c i c12) j
        have u : ∀ {g : qH} {k : Nat} {v : Int}, fr POl g (qup g 12 0 39 k v) := fun {g k v} => fr_up (PO_up (by decide))
        have fC : fr POl g2 (qup (qup (qup (qup (qup (qup g2 12 0 39 (Int.toNat 0) σ.2.2.2.1) 12 0 39 (Int.toNat 1) (σ.1 4 - a 4)) 12 0 39 (Int.toNat 2) (σ.1 5 - a 5)) 12 0 39 (Int.toNat 3) (σ.1 6 - a 6)) 12 0 39 (Int.toNat 4) σ.2.2.2.2.2) 12 0 40 0 1) := fr_trans u (fr_trans u (fr_trans u (fr_trans u (fr_trans u (fr_up (PO_up (by decide)))))))
        have fD := fr_trans fA (fr_trans fB fC)
        have g5 : ∀ j, g2 5 0 j = g1 5 0 j := fun j => by
          rw [f2.1 5 0 (by omega)]; rw [up_j (by omega), up_j (by omega), up_j (by omega)]
        refine okR (hK _ σ.1 (Inv_o hi fD (fun y y0 y1 => ?_) (qx_fr x1 ?_) (m_fr y1 ?_) (wf_mono ok.1 (by omega)) (by omega) o01.1 (by have : σ.1 1 = a 1 := o01.2; omega) ?_ ?_ ?_ ?_ (fun _ => ?_)) (fr_91O fD)) rfl
        · rw [up_j (by omega), up_j (by omega), up_j (by omega), up_j (by omega), up_j (by omega), up_j (by omega), f2.2.2 y y0]
          exact congrFun m20 _
        · funext j
          rw [up_j (by omega), up_j (by omega), up_j (by omega), up_j (by omega), up_j (by omega), up_j (by omega), f2.1 7 0 (by omega)]
          rw [up_j (by omega), up_j (by omega), up_j (by omega)]
        · rw [up_j (by omega), up_j (by omega), up_j (by omega), up_j (by omega), up_j (by omega), up_j (by omega)]
        · rw [up_j (by omega), up_j (by omega), up_j (by omega), up_j (by omega), up_j (by omega), up_j (by omega), up_j (by omega), up_j (by omega), up_j (by omega), up_j (by omega), up_j (by omega), up_j (by omega), f2.1 11 0 (by omega), f2.2.1 0 (by omega)]
          rw [up_j (by omega), up_j (by omega), up_at, up_at]
        · rw [up_j (by omega), up_j (by omega), up_j (by omega), up_j (by omega), up_j (by omega), up_j (by omega), up_j (by omega), up_j (by omega), up_j (by omega), up_j (by omega), up_j (by omega), up_j (by omega), f2.1 4 0 (by omega), f2.2.1 2 (by omega)]
          rw [up_j (by omega), up_j (by omega), up_j (by omega), up_j (by omega), up_j (by omega), c12, f1 4 0 0 (by omega)]
          exact hi.2.2.2.2.1.2.2.2.2.1
        · rw [up_j (by omega), up_j (by omega), up_j (by omega), up_j (by omega), up_j (by omega), up_j (by omega), up_j (by omega), up_j (by omega), up_j (by omega), up_j (by omega), up_j (by omega), up_j (by omega), f2.1 4 0 (by omega), f2.2.1 3 (by omega)]
          rw [up_j (by omega), up_j (by omega), up_j (by omega), up_j (by omega), up_j (by omega), c12, f1 4 0 1 (by omega)]
          exact hi.2.2.2.2.1.2.2.2.2.2.1
        · rw [up_at, up_j (by omega), up_j (by omega), up_j (by omega), up_j (by omega), up_j (by omega), up_j (by omega), g5]
          exact e1
        · have q5 : ∀ j, (qup (qup (qup (qup (qup (qup g2 12 0 39 (Int.toNat 0) σ.2.2.2.1) 12 0 39 (Int.toNat 1) (σ.1 4 - a 4)) 12 0 39 (Int.toNat 2) (σ.1 5 - a 5)) 12 0 39 (Int.toNat 3) (σ.1 6 - a 6)) 12 0 39 (Int.toNat 4) σ.2.2.2.2.2) 12 0 40 0 1) 5 0 j = g1 5 0 j := fun j => by
            rw [up_j (by omega), up_j (by omega), up_j (by omega), up_j (by omega), up_j (by omega), up_j (by omega), g5]
          rw [q5, q5, q5, q5, q5, x4, x5, e6, e7, e8, up_j (by omega)]
          refine ⟨rfl, rfl, rfl, rfl, ?_⟩
          show (if σ.2.2.2.2.2 = 0 then (0 : Int) else 1) = σ.2.2.2.2.2
          by_cases z : σ.2.2.2.2.2 = 0
          · rw [if_pos z, z]
          · rw [if_neg z]; omega
    · show ¬ (qup (qup (qup g1 11 0 17 0 0) 12 0 1 0 0) 12 0 0 0 0) 12 0 20 (Int.toNat 100) = 0
      rw [m20, ← d1]
      exact h1
  · have d0 : h 1 0 5 0 = 0 := Decidable.not_not.mp h1
    refine sX11_answer_0 (hS _ _ s_91 (sX12_live_0 (m_isIn (fun _ _ => ⟨fun _ => ⟨by omega, fun c => absurd ?_ c, fun _ => m_refuse (okR (kS hi hK 8) rfl)⟩, fun c => absurd (by decide) c⟩) (fun c => absurd ⟨by omega, x9⟩ c))))
    rw [up_j (by omega), up_j (by omega), up_j (by omega), ← d1]
    exact d0
