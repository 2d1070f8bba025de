section La
variable {B n m : Int} {D : Int → Int → Int} {C : Nat → Int → Int}
theorem m_all (hB : B + 300 < 2000000000) : ∀ (k dd : Nat) {d : Nat} {R : Option qV → qH → Prop} {h : qH} (f0 f t l e : Int) (σ : lvS), dSeg n m D C k dd f t l e → 0 ≤ f → t ≤ 30 → lvOk B n m σ → lvM h σ → lvDD h D → (∀ h', lvM h' (lvAll D k f t σ) → lvF h h' → R none h') → qT (d + 2 * dd + 8) 321 2 [qo 12 0, qi f0, qi t, qi f] [] h R := by
  intro k
  induction k with
  | zero =>
    intro dd d R h f0 f t l e σ hd hf0 ht hok hM hD hR
    have hd : f = t ∧ l = e := hd
    refine sX12_doAll_2 ⟨fun _ => hR h hM lvF_rfl, fun c => absurd (by omega) c⟩
  | succ k ih =>
    intro dd d R h f0 f t l e σ hd hf0 ht hok hM hD hR
    have dle := dSeg_le _ _ hd
    obtain ⟨q1, q2, q4, q5, q6, q7, q8, q9⟩ := hok
    have hok : lvOk B n m σ := ⟨q1, q2, q4, q5, q6, q7, q8, q9⟩
    obtain ⟨x1, x2, x3, x4, x5, x6⟩ := hM
    refine sX12_doAll_2 ⟨fun c => ?_, fun c => ?_⟩
    · rw [lvAll_no (show ¬ (f < t ∧ σ.2.2.2.2.1 = 0) from fun e => absurd e.1 (Int.not_lt.mpr c))] at hR
      exact hR h ⟨x1, x2, x3, x4, x5, x6⟩ lvF_rfl
    · have hft : f < t := Int.not_le.mp c
      rw [x5]
      refine ⟨fun c2 => ?_, fun c2 => ?_⟩
      · rw [lvAll_no (show ¬ (f < t ∧ σ.2.2.2.2.1 = 0) from fun e => absurd e.2 c2)] at hR
        exact hR h ⟨x1, x2, x3, x4, x5, x6⟩ lvF_rfl
      · have ho : σ.2.2.2.2.1 = 0 := Decidable.not_not.mp c2
        rw [lvAll_go hft ho] at hR
        rcases hd with hd | ⟨_, hS, hd⟩
        · omega
        have f30 : f < 30 := by clear hd; omega
        -- what comes behind this step
        have rest : ∀ (τ : lvS) g, lvOne D (lvAll D k) f σ = τ → lvOk B n m τ → lvM g τ → lvF h g → (∃ l2, dSeg n m D C k dd (D f 8) t l2 e ∨ τ.2.2.2.2.1 = 1) → f ≤ D f 8 → qR (9 * f) ∧ qR (102 + 9 * f) ∧ qR (102 + 9 * f + 8) ∧ (0 ≤ 102 + 9 * f + 8 ∧ 102 + 9 * f + 8 < 1860) ∧ qT (d + 2 * dd + 8) 321 2 [qo 12 0, qi f0, qi t, qi (g 12 0 20 (Int.toNat (102 + 9 * f + 8)))] [] g R := by
          intro τ g eτ okτ Mτ Fτ hx hf8
          rw [eτ] at hR
          have D' := lvDD_fr hD Fτ
          rw [lvDD_at D' (s := f) (x := 8) (by omega) hf0 f30 (by omega) (by omega)]
          refine ⟨qR_of (by omega) (by omega), qR_of (by omega) (by omega), qR_of (by omega) (by omega), by omega, ?_⟩
          obtain ⟨l2, hx | hx⟩ := hx
          · exact ih dd f0 (D f 8) t l2 e τ hx (by omega) ht okτ Mτ D' (fun g' M' F' => hR g' M' (lvF_trans Fτ F'))
          · rw [lvAll_no (by omega)] at hR
            refine sX12_doAll_2 ⟨fun _ => hR g Mτ Fτ, fun _ => ⟨fun _ => hR g Mτ Fτ, fun c4 => absurd (by rw [Mτ.2.2.2.2.1, hx]; decide) c4⟩⟩
        refine sX12_doOne_0 ?_
        rw [x3, x4, lvDD_at hD (s := f) (x := 0) (by omega) hf0 f30 (by omega) (by omega)]
        refine ⟨fun h3 => ⟨qR_of (by omega) (by omega), qR_of (by omega) (by omega), qR_of (by omega) (by omega), by omega, ?_⟩, fun h3 => ⟨by omega, ?_⟩⟩
        · have okI := lvOk_I hok h3
          have FI : lvF h (qup h 12 0 43 0 (σ.2.2.1 + 1)) := lvF_up (by omega)
          have MI : lvM (qup h 12 0 43 0 (σ.2.2.1 + 1)) (lvI σ) := ⟨m_fr x1 (up_j (by omega)), by rw [up_j (by omega)]; exact x2, up_at, by rw [up_j (by omega)]; exact x4, by rw [up_j (by omega)]; exact x5, by rw [up_j (by omega)]; exact x6⟩
          have DI := lvDD_fr hD FI
          rcases hd with ⟨hk, h8, hd⟩ | ⟨hk, hdd, E, hE1, hE2, hE3, hd1, hd2⟩
          · rcases hk with hk | hk
            · -- a plain one
              have G := lvD_g q1 (stepOK_V hS q2.1 q2.2) q4.1 q4.2
              have e1 := lvOne_s (rc := lvAll D k) h3 hk
              have ok1 : lvOk B n m (lvOne D (lvAll D k) f σ) := by
                have := lvAll_ok (B := B) (D := D) (C := C) (n := n) (m := m) (k + 1) 0 (f := f) (t := f + 1) (l := l) (e := l + 1) (σ := σ) (Or.inr ⟨by omega, hS, Or.inl ⟨Or.inl hk, h8, by cases k with | zero => exact ⟨rfl, rfl⟩ | succ k => exact Or.inl ⟨rfl, rfl⟩⟩⟩) hok
                rw [lvAll_go (by omega) ho, h8, lvAll_no (by omega)] at this
                exact this.1
              refine ⟨fun c5 => absurd hk (by omega), fun _ => ?_⟩
              refine m_does (a := σ.1) MI.1 q1 (by omega) DI hf0 f30 (stepOK_V hS q2.1 q2.2) hS.1.1 hk MI.2.1 q4.1 q4.2 (fun g y1 y2 y3 yF => ?_)
              have ok2 : (lvD (D f 0) (D f 1) (D f 2) σ.1 σ.2.1).2.2 = 0 ∨ (lvD (D f 0) (D f 1) (D f 2) σ.1 σ.2.1).2.2 = 1 := G.1.2.2.2
              have fin : ∀ v, v = σ.2.2.2.1 + (1 - (lvD (D f 0) (D f 1) (D f 2) σ.1 σ.2.1).2.2) → lvM (qup g 12 0 44 0 v) (lvOne D (lvAll D k) f σ) := by
                intro v ev
                rw [e1]
                refine ⟨m_fr y1 (up_j (by omega)), by rw [up_j (by omega)]; exact y2, ?_, ?_, ?_, ?_⟩
                · rw [up_j (by omega), y3 43 (by omega) (by omega)]; exact up_at
                · rw [up_at]; exact ev
                · rw [up_j (by omega), y3 41 (by omega) (by omega), up_j (by omega)]; exact x5
                · rw [up_j (by omega), y3 48 (by omega) (by omega), up_j (by omega)]; exact x6
              have FF : ∀ v, lvF h (qup g 12 0 44 0 v) := fun v => lvF_trans FI (lvF_trans yF (lvF_up (by omega)))
              rcases ok2 with ok2 | ok2
              · refine ⟨fun _ => ⟨qR_of (by omega) (by omega), ?_⟩, fun c6 => absurd ok2 c6⟩
                exact rest _ _ rfl ok1 (fin _ (by omega)) (FF _) ⟨l + 1, Or.inl (by rw [h8]; exact hd)⟩ (by omega)
              · refine ⟨fun c6 => absurd (c6.symm.trans ok2) (by decide), fun _ => ⟨qR_of (by omega) (by omega), ?_⟩⟩
                exact rest _ _ rfl ok1 (fin _ (by omega)) (FF _) ⟨l + 1, Or.inl (by rw [h8]; exact hd)⟩ (by omega)
            · -- the end of all
              have e1 := lvOne_t (rc := lvAll D k) h3 hk
              rw [hk]
              refine ⟨fun _ => ⟨fun _ => ⟨fun _ => ⟨fun c => absurd c (by decide), fun _ => ⟨by omega, ?_⟩⟩, fun c => absurd (by decide) c⟩, fun c => absurd (by decide) c⟩, fun c => absurd (by decide) c⟩
              refine rest _ _ e1 ⟨wf_mono q1 (by show B + σ.2.2.1 ≤ B + (σ.2.2.1 + 1); omega), q2, q4, ⟨by show 0 ≤ σ.2.2.1 + 1; omega, by show σ.2.2.1 + 1 ≤ 300; omega⟩, ⟨q6.1, by show σ.2.2.2.1 ≤ σ.2.2.1 + 1; omega⟩, Or.inr rfl, fun (c : (1 : Int) = 0) => absurd c (by decide), q9⟩ ⟨m_fr x1 (by rw [up_j (by omega), up_j (by omega)]), ?_, ?_, ?_, ?_, ?_⟩ (lvF_trans FI (lvF_up (by omega))) ⟨0, Or.inr rfl⟩ (by omega)
              · rw [up_j (by omega), up_j (by omega)]; exact x2
              · rw [up_j (by omega)]; exact up_at
              · rw [up_j (by omega), up_j (by omega)]; exact x4
              · exact up_at
              · rw [up_j (by omega), up_j (by omega)]; exact x6
          · have d1 := dSeg_le _ _ hd1
            have d2 := dSeg_le _ _ hd2
            obtain ⟨dd', rfl⟩ : ∃ dd', dd = dd' + 1 := ⟨dd - 1, by omega⟩
            have hd1 : dSeg n m D C k dd' (f + 1) (D f 8) (l + 1) E := hd1
            have body : ∀ (τ : lvS) g (R2 : Option qV → qH → Prop), lvOk B n m τ → lvM g τ → lvF h g → (∀ g', lvM g' (lvAll D k (f + 1) (D f 8) τ) → lvF h g' → R2 none g') → qT (d + 2 * (dd' + 1) + 6) 321 0 [qo 12 0, qi (f + 1), qi (D f 8), qu] [] g R2 := by
              intro τ g R2 okτ Mτ Fτ H
              have I := ih dd' (d := d) (R := R2) (h := g) (f + 1) (f + 1) (D f 8) (l + 1) E τ hd1 (by omega) (by omega) okτ Mτ (lvDD_fr hD Fτ) (fun g' M' F' => H g' M' (lvF_trans Fτ F'))
              exact sX12_doAll_0 (show qT (d + 2 * (dd' + 1) + 5 + 1) 321 2 [qo 12 0, qi (f + 1), qi (D f 8), qi (f + 1)] [] g R2 from by
                rw [show d + 2 * dd' + 8 = d + 2 * (dd' + 1) + 5 + 1 by omega] at I
                exact I)
            rcases hk with hk | hk
            · -- when
              rw [hk]
              refine ⟨fun _ => ⟨fun c => absurd rfl c, fun _ => m_holds MI.1 q1 DI hf0 f30 hS q2.1 q2.2 hk (fun hh => ⟨fun c => absurd c (by decide), fun _ => ⟨qR_of (by omega) (by omega), qR_of (by omega) (by omega), by omega, ?_⟩⟩) (fun hh => ⟨fun _ => ⟨fun _ => ⟨fun _ => ?_, fun c => absurd (by decide) c⟩, fun c => absurd (by decide) c⟩, fun c => absurd rfl c⟩)⟩, fun c => absurd (by decide) c⟩
              · rw [lvDD_at DI (s := f) (x := 8) (by omega) hf0 f30 (by omega) (by omega)]
                have e1 := lvOne_wt (rc := lvAll D k) h3 hk hh
                refine body (lvI σ) _ _ okI MI FI (fun g' M' F' => ?_)
                exact rest _ g' e1 (lvAll_ok (B := B) k _ hd1 okI).1 M' F' ⟨E + 1, Or.inl hd2⟩ (by omega)
              · have e1 := lvOne_wf (rc := lvAll D k) h3 hk hh
                exact rest _ _ e1 okI MI FI ⟨E + 1, Or.inl hd2⟩ (by omega)
            · -- loop
              obtain ⟨c0, c1, c2, c3⟩ := hS.2.2.2.2.2.2.2.1 hk
              have e1 := lvOne_l (rc := lvAll D k) h3 hk
              rw [hk]
              refine ⟨fun _ => ⟨fun _ => ⟨fun c => absurd rfl c, fun _ => ?_⟩, fun c => absurd (by decide) c⟩, fun c => absurd (by decide) c⟩
              refine q_up (n := D f 1) (C := fun j => j ≤ D f 1 → ∀ g, lvM g (qfold (fun _ r => lvAll D k (f + 1) (D f 8) r) (lvI σ) j) → lvF h g → lvOk B n m (qfold (fun _ r => lvAll D k (f + 1) (D f 8) r) (lvI σ) j) → qT (d + 2 * (dd' + 1) + 7) 320 117 [qo 12 0, qi f, qi (102 + 9 * f), qi 6, qi j] [] g _) ?_ 0 (by omega) (by omega) _ MI FI okI
              intro j hj ihj hjc g Mg Fg okg
              have Dg := lvDD_fr hD Fg
              refine sX12_doOne_117 ?_
              rw [lvDD_at Dg (s := f) (x := 1) (by omega) hf0 f30 (by omega) (by omega), lvDD_at Dg (s := f) (x := 8) (by omega) hf0 f30 (by omega) (by omega), Mg.2.2.2.2.1]
              refine ⟨qR_of (by omega) (by omega), by omega, fun c4 => ?_, fun c4 => ⟨fun c5 => ?_, fun c5 => ⟨qR_of (by omega) (by omega), qR_of (by omega) (by omega), by omega, ?_⟩⟩⟩
              · rw [show j = D f 1 by omega] at Mg okg
                have := rest _ g e1 okg Mg Fg ⟨E + 1, Or.inl hd2⟩ (by omega)
                rw [lvDD_at Dg (s := f) (x := 8) (by omega) hf0 f30 (by omega) (by omega)] at this
                exact this
              · -- over: the rounds that are left do nothing
                have fx : ∀ c, 0 ≤ c → qfold (fun _ r => lvAll D k (f + 1) (D f 8) r) (lvI σ) (j + c) = qfold (fun _ r => lvAll D k (f + 1) (D f 8) r) (lvI σ) j := by
                  apply q_ind
                  · rw [Int.add_zero]
                  · intro c hc ihc
                    rw [← Int.add_assoc, qfold_s (by omega), ihc]
                    exact lvAll_no (fun e => c5 e.2)
                have eJ := fx (D f 1 - j) (by omega)
                rw [show j + (D f 1 - j) = D f 1 by omega] at eJ
                have := rest _ g (e1.trans eJ) okg Mg Fg ⟨0, Or.inr (by have := okg.2.2.2.2.2.1; omega)⟩ (by omega)
                rw [lvDD_at Dg (s := f) (x := 8) (by omega) hf0 f30 (by omega) (by omega)] at this
                exact this
              · refine body _ g _ okg Mg Fg (fun g' M' F' => ⟨qR_of (by omega) (by omega), ihj (by omega) (by omega) g' ?_ F' ?_⟩)
                · rw [qfold_s hj]; exact M'
                · rw [qfold_s hj]; exact (lvAll_ok (B := B) k _ hd1 okg).1
        · have e3 : σ.2.2.1 = 300 := Decidable.not_not.mp h3
          have e1 := lvOne_300 (D := D) (rc := lvAll D k) (f := f) e3
          have hf8 : f ≤ D f 8 := by
            rcases hd with ⟨_, h8, _⟩ | ⟨_, _, E, _, _, _, hd1, _⟩
            · omega
            · have := dSeg_le _ _ hd1; omega
          refine rest _ _ e1 ⟨q1, q2, q4, q5, q6, Or.inr rfl, fun (c : (1 : Int) = 0) => absurd c (by decide), Or.inr rfl⟩ ⟨m_fr x1 (by rw [up_j (by omega), up_j (by omega)]), ?_, ?_, ?_, ?_, ?_⟩ (lvF_trans (lvF_up (by omega)) (lvF_up (by omega))) ⟨0, Or.inr rfl⟩ hf8
          · rw [up_j (by omega), up_j (by omega)]; exact x2
          · rw [up_j (by omega), up_j (by omega)]; exact x3
          · rw [up_j (by omega), up_j (by omega)]; exact x4
          · rw [up_j (by omega)]; exact up_at
          · exact up_at
end La
section Lq
variable {d : Nat} {R : Option qV → qH → Prop} {h : qH} {B n m seed N : Int} {a : qB} {D : Int → Int → Int} {C : Nat → Int → Int}
def lvF2 (h h' : qH) : Prop := (∀ c i, c ≠ 12 → h' c i = h c i) ∧ (∀ j, (j ≠ 20 ∧ j < 41) → h' 12 0 j = h 12 0 j) ∧ ∀ y : Int, 100 ≤ y → h' 12 0 20 (Int.toNat y) = h 12 0 20 (Int.toNat y)
theorem lvF2_up {h : qH} {j : Nat} {v : Int} (hj : 41 ≤ j) : lvF2 h (qup h 12 0 j 0 v) := by
  refine ⟨fun c i n => ?_, fun j' n => up_j (by omega), fun y _ => by rw [up_j (by omega)]⟩
  funext j'
  exact up_j (by omega)
theorem lvF2_trans {h h' h'' : qH} (h1 : lvF2 h h') (h2 : lvF2 h' h'') : lvF2 h h'' := ⟨fun c i n => (h2.1 c i n).trans (h1.1 c i n), fun j n => (h2.2.1 j n).trans (h1.2.1 j n), fun y hy => (h2.2.2 y hy).trans (h1.2.2 y hy)⟩
theorem lvF2_of {h h' : qH} (h1 : lvF h h') : lvF2 h h' := ⟨h1.1, fun j n => h1.2.1 j (by omega), h1.2.2⟩
theorem m_runsDecades {k : Nat} {l e : Int} (hM : qM h 0 a) (hW : qwf B a) (hB : B + 300 < 2000000000) (hn : n ≤ a 0) (hm : m ≤ a 1) (hD : lvDD h D) (hN : h 12 0 20 (Int.toNat 101) = N) (N30 : N ≤ 30) (hd : dSeg n m D C k 3 0 N l e) (s0 : 0 ≤ seed) (s1 : seed ≤ 9999) (hR : ∀ h', lvM h' (lvAll D k 0 N (lv0 a seed)) → lvF2 h h' → h' 12 0 45 0 = a 4 → h' 12 0 46 0 = a 5 → h' 12 0 47 0 = a 6 → R none h') : qT (d + 16) 322 0 [qo 12 0, qi seed] [] h R := by
  have ok := lvOk_0 (n := n) (m := m) hW hn hm s0 s1
  refine sX12_runsDecades_0 ?_
  rw [m_0 hM (x := 4) (by omega) (by omega), m_0 hM (x := 5) (by omega) (by omega), m_0 hM (x := 6) (by omega) (by omega), hN]
  refine ⟨by omega, by omega, by omega, by omega, by omega, sX12_doAll_0 ?_⟩
  generalize hg : (qup (qup (qup (qup (qup (qup (qup (qup h 12 0 42 0 seed) 12 0 43 0 0) 12 0 44 0 0) 12 0 45 0 (a 4)) 12 0 46 0 (a 5)) 12 0 47 0 (a 6)) 12 0 48 0 0) 12 0 41 0 0) = g
  have Fg : lvF2 h g := by
    rw [← hg]
    exact lvF2_trans (lvF2_up (by omega)) (lvF2_trans (lvF2_up (by omega)) (lvF2_trans (lvF2_up (by omega)) (lvF2_trans (lvF2_up (by omega)) (lvF2_trans (lvF2_up (by omega)) (lvF2_trans (lvF2_up (by omega)) (lvF2_trans (lvF2_up (by omega)) (lvF2_up (by omega))))))))
  have Mg : lvM g (lv0 a seed) := by
    rw [← hg]
    refine ⟨m_fr hM ?_, ?_, ?_, ?_, ?_, ?_⟩
    · rw [up_j (by omega), up_j (by omega), up_j (by omega), up_j (by omega), up_j (by omega), up_j (by omega), up_j (by omega), up_j (by omega)]
    · rw [up_j (by omega), up_j (by omega), up_j (by omega), up_j (by omega), up_j (by omega), up_j (by omega), up_j (by omega)]; exact up_at
    · rw [up_j (by omega), up_j (by omega), up_j (by omega), up_j (by omega), up_j (by omega), up_j (by omega)]; exact up_at
    · rw [up_j (by omega), up_j (by omega), up_j (by omega), up_j (by omega), up_j (by omega)]; exact up_at
    · exact up_at
    · rw [up_j (by omega)]; exact up_at
  have g5 : g 12 0 45 0 = a 4 := by rw [← hg, up_j (by omega), up_j (by omega), up_j (by omega), up_j (by omega)]; exact up_at
  have g6 : g 12 0 46 0 = a 5 := by rw [← hg, up_j (by omega), up_j (by omega), up_j (by omega)]; exact up_at
  have g7 : g 12 0 47 0 = a 6 := by rw [← hg, up_j (by omega), up_j (by omega)]; exact up_at
  clear hg
  have I := m_all (B := B) (C := C) hB k 3 (d := d + 1) (R := fun v g => qrv v (R none g)) (h := g) 0 0 N l e (lv0 a seed) hd (by omega) N30 ok Mg (fun s x q0 q1 y0 y1 => by rw [Fg.2.2 _ (by omega)]; exact hD s x q0 q1 y0 y1) (fun g' M' F' => hR g' M' (lvF2_trans Fg (lvF2_of F')) (by rw [F'.2.1 45 (by omega)]; exact g5) (by rw [F'.2.1 46 (by omega)]; exact g6) (by rw [F'.2.1 47 (by omega)]; exact g7))
  exact I
end Lq
