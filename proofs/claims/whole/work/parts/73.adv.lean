/-! the Model's tokens -/
def txM (h : qH) (b : Int → Int) (n : Int) : Prop := (0 ≤ n ∧ n ≤ 900) ∧ h 12 0 9 0 = n ∧ (∀ j, 0 ≤ j → j < n → h 12 0 7 (Int.toNat j) = b j) ∧ ∀ j, -128 ≤ b j ∧ b j ≤ 127
abbrev PMa : Nat → Nat → Nat → Prop := fun c _ j => c = 12 ∧ 14 ≤ j ∧ j ≤ 19
abbrev PMr : Nat → Nat → Nat → Prop := fun c _ j => c = 12 ∧ 12 ≤ j ∧ j ≤ 19
theorem PMa_r {h h' : qH} (hf : fr PMa h h') : fr PMr h h' := fr_mono hf (fun c i j hP => ⟨hP.1, by omega, hP.2.2⟩)
theorem txM_fr {h h' : qH} {b : Int → Int} {n : Int} (ht : txM h b n) (hf : fr PMr h h') : txM h' b n := by
  unfold txM at *
  rw [hf 12 0 9 (by omega), hf 12 0 7 (by omega)]
  exact ht
def mT (h : qH) (b : Int → Int) (n p : Int) : Prop := h 12 0 15 0 = tkS b n p ∧ h 12 0 14 0 = tkK b n p ∧ h 12 0 16 0 = tkE b n p ∧ (tkK b n p = 2 → h 12 0 17 0 = tkN b n p) ∧ (tkK b n p = 3 → h 12 0 17 0 = b (tkS b n p)) ∧ (tkK b n p = 1 → h 12 0 19 0 = tkY b n p ∧ h 12 0 18 0 = tkE b n p - tkS b n p)
def mK (h : qH) (b : Int → Int) (n p : Int) : Prop := h 12 0 12 0 = 0 ∧ mT h b n p
def mF (h : qH) (e : Int × Int) : Prop := h 12 0 12 0 = e.1 ∧ h 12 0 13 0 = e.2 ∧ 0 < e.1
def lk (b : Int → Int) (n q : Int) : Int := if n ≤ q then 0 else if b q < 0 then b q + 256 else b q
theorem lk_end {b : Int → Int} {n q : Int} (h : n ≤ q) : lk b n q = 0 := if_pos h
theorem lk_in {b : Int → Int} {n q : Int} (h : q < n) : lk b n q = if b q < 0 then b q + 256 else b q := if_neg (by omega)
section Av
variable {d : Nat} {R : Option qV → qH → Prop} {h : qH} {b : Int → Int} {n p : Int}
theorem m_look2 {q : Int} (ht : txM h b n) (q0 : 0 ≤ q) (hR : R (some (qi (lk b n q))) h) : qT (d + 1) 189 0 [qo 12 0, qi q] [] h R := by
  have n9 := ht.1
  refine sX12_look2_0 ?_
  rw [ht.2.1]
  refine ⟨fun c => ?_, fun c => ⟨by omega, ?_⟩⟩
  · rw [lk_end c] at hR; exact hR
  · rw [ht.2.2.1 q q0 (by omega), qand255 (ht.2.2.2 q).1 (ht.2.2.2 q).2]
    rw [lk_in (by omega)] at hR; exact hR
theorem m_isLetter {x : Int} (h1 : 97 ≤ x → x ≤ 122 → R (some (qi 1)) h) (h0 : ¬ (97 ≤ x ∧ x ≤ 122) → R (some (qi 0)) h) : qT (d + 1) 190 0 [qi x] [] h R :=
  sX12_isLetter_0 ⟨fun c => ⟨by omega, h0 (by omega)⟩, fun c => ⟨fun c2 => ⟨by omega, h0 (by omega)⟩, fun c2 => ⟨by omega, h1 (by omega) (by omega)⟩⟩⟩
theorem m_isDigit {x : Int} (h1 : 48 ≤ x → x ≤ 57 → R (some (qi 1)) h) (h0 : ¬ (48 ≤ x ∧ x ≤ 57) → R (some (qi 0)) h) : qT (d + 1) 191 0 [qi x] [] h R :=
  sX12_isDigit_0 ⟨fun c => ⟨by omega, h0 (by omega)⟩, fun c => ⟨fun c2 => ⟨by omega, h0 (by omega)⟩, fun c2 => ⟨by omega, h1 (by omega) (by omega)⟩⟩⟩
theorem lk_L {j : Int} (hb : -128 ≤ b j ∧ b j ≤ 127) : (97 ≤ lk b n j ∧ lk b n j ≤ 122) ↔ (j < n ∧ pLe b j = true) := by
  unfold pLe
  rw [decide_eq_true_eq]
  by_cases c : n ≤ j
  · rw [lk_end c]; omega
  · rw [lk_in (by omega)]; split <;> omega
theorem lk_D {j : Int} (hb : -128 ≤ b j ∧ b j ≤ 127) : (48 ≤ lk b n j ∧ lk b n j ≤ 57) ↔ (j < n ∧ pDi b j = true) := by
  unfold pDi
  rw [decide_eq_true_eq]
  by_cases c : n ≤ j
  · rw [lk_end c]; omega
  · rw [lk_in (by omega)]; split <;> omega
theorem lk_pos {j : Int} (h : 48 ≤ lk b n j) (h2 : lk b n j ≤ 127) (ht : ∀ j, -128 ≤ b j ∧ b j ≤ 127) : lk b n j = b j := by
  have := ht j
  by_cases c : n ≤ j
  · rw [lk_end c] at h; omega
  · rw [lk_in (by omega)] at h h2 ⊢
    split at h <;> split at h2 <;> split <;> omega
theorem m_advance (ht : txM h b n) (h16 : h 12 0 16 0 = p) (p0 : 0 ≤ p) (pn : p ≤ n) (hR : ∀ h', fr PMa h h' → mT h' b n p → R none h') : qT (d + 2) 193 0 [qo 12 0, qu] [] h R := by
  have n9 := ht.1
  have hs := tkS_b (b := b) pn
  have tf : ∀ g, fr PMa h g → txM g b n := fun g hf => txM_fr ht (PMa_r hf)
  -- a WORD
  have word : ∀ g x, fr PMa h g → g 12 0 15 0 = tkS b n p → g 12 0 16 0 = tkS b n p → g 12 0 14 0 = 1 → g 12 0 19 0 = 0 → tkS b n p < n → pLe b (tkS b n p) = true → qT (d + 2) 193 109 [qo 12 0, qi x] [] g R := by
    intro g x hf k15 k16 k14 k19 sn le
    have nle : ¬ n ≤ tkS b n p := by omega
    have eE : tkE b n p = scT (pLe b) n (tkS b n p) := by unfold tkE; rw [if_neg nle, if_pos le]
    have eK : tkK b n p = 1 := by unfold tkK; rw [if_neg nle, if_pos le]
    have hb := scT_b (P := pLe b) (n := n) _ (tkS b n p) hs.2 rfl
    refine q_up (n := n) (C := fun j => tkS b n p ≤ j → j ≤ n → scT (pLe b) n j = tkE b n p → ∀ g, fr PMa h g → g 12 0 15 0 = tkS b n p → g 12 0 16 0 = j → g 12 0 14 0 = 1 → g 12 0 19 0 = fY b (tkS b n p) (j - tkS b n p) → qT (d + 2) 193 109 [qo 12 0, qi x] [] g R) ?_ (tkS b n p) (by omega) (Int.le_refl _) hs.2 eE.symm g hf k15 k16 k14 (by rw [Int.sub_self]; exact k19)
    clear k15 k16 k14 k19 hf
    intro j hj ih sj jn eS g hf k15 k16 k14 k19
    have ht' := tf g hf
    refine tX12_advance_109 ?_
    rw [k16]
    refine m_look2 ht' hj (m_isLetter (fun c1 c2 => ⟨fun c => absurd c (by decide), fun _ => ?_⟩) (fun c => ⟨fun _ => ?_, fun c2 => absurd rfl c2⟩))
    · have hl := (lk_L (ht.2.2.2 _)).mp ⟨c1, c2⟩
      have e1 := lk_pos (b := b) (n := n) (j := j) (by omega) (by omega) ht.2.2.2
      have go : scT (pLe b) n (j + 1) = tkE b n p := by rw [← scT_go hl.1 hl.2]; exact eS
      rw [k15, k16, k19]
      refine ⟨qR_of (by omega) (by omega), fun c3 => ⟨qR_of (by omega) (by omega), ih hl.1 (by omega) (by omega) go _ (fr_trans hf (fr_trans (fr_up ⟨rfl, by omega⟩) (fr_up ⟨rfl, by omega⟩))) (by rw [up_j (by omega), up_j (by omega)]; exact k15) up_at (by rw [up_j (by omega), up_j (by omega)]; exact k14) ?_⟩, fun c3 => ?_⟩
      · rw [up_j (by omega), up_at, show j + 1 - tkS b n p = j - tkS b n p + 1 by omega]
        unfold fY
        rw [qfold_s (by omega), if_neg (by omega)]
      · have lt : ∀ i, tkS b n p ≤ i → i < j → i < tkE b n p := fun i i0 i1 => by
          have := scT_b (P := pLe b) (n := n) _ j (by omega) rfl
          rw [eS] at this
          omega
        have nm := nmP_tok (b := b) (s := tkS b n p) (j - tkS b n p) (by omega) (by omega) (fun i i0 i1 => by
          have := hb.2.2.1 i i0 (by rw [← eE]; exact lt i i0 (by omega))
          unfold pLe at this
          exact decide_eq_true_eq.mp this)
        have nb := (nmP_b _ nm).2
        have p7 : (32 : Nat) ^ (j - tkS b n p).toNat ≤ 32 ^ 7 := Nat.pow_le_pow_right (by decide) (by omega)
        have e7 : (32 : Nat) ^ 7 = 34359738368 := by decide
        refine ⟨qRL_of (by omega) (by omega), m_look2 ht' hj ?_⟩
        dsimp only [qri]
        rw [k16]
        refine ⟨qRL_of (by omega) (by omega), qRL_of (by omega) (by omega), qR_of (by omega) (by omega), ih hl.1 (by omega) (by omega) go _ (fr_trans hf (fr_trans (fr_up ⟨rfl, by omega⟩) (fr_up ⟨rfl, by omega⟩))) (by rw [up_j (by omega), up_j (by omega)]; exact k15) up_at (by rw [up_j (by omega), up_j (by omega)]; exact k14) ?_⟩
        rw [up_j (by omega), up_at, e1, show j + 1 - tkS b n p = j - tkS b n p + 1 by omega]
        have : fY b (tkS b n p) (j - tkS b n p + 1) = fY b (tkS b n p) (j - tkS b n p) * 32 + b (tkS b n p + (j - tkS b n p)) - 96 := by
          unfold fY
          rw [qfold_s (by omega), if_pos (by omega)]
        rw [this, show tkS b n p + (j - tkS b n p) = j by omega]
    · have ej : j = tkE b n p := by
        by_cases c2 : n ≤ j
        · rw [scT_end c2] at eS; exact eS
        · rw [scT_stop (fun e => c ((lk_L (ht.2.2.2 _)).mpr ⟨by omega, e⟩))] at eS; exact eS
      refine tX12_advance_182 ?_
      rw [k15, k16]
      refine ⟨qR_of (by omega) (by omega), hR _ (fr_trans hf (fr_up ⟨rfl, by omega⟩)) ⟨by rw [up_j (by omega)]; exact k15, by rw [up_j (by omega), k14, eK], by rw [up_j (by omega), k16, ej], fun c2 => absurd c2 (by omega), fun c2 => absurd c2 (by omega), fun _ => ⟨?_, by rw [up_at, ej]⟩⟩⟩
      rw [up_j (by omega), k19, ej]
      rfl
  -- a NUMBER
  have numb : ∀ g x, fr PMa h g → g 12 0 15 0 = tkS b n p → g 12 0 16 0 = tkS b n p → g 12 0 17 0 = 0 → tkS b n p < n → ¬ pLe b (tkS b n p) = true → pDi b (tkS b n p) = true → qT (d + 2) 193 210 [qo 12 0, qi x] [] g R := by
    intro g x hf k15 k16 k17 sn nl di
    have nle : ¬ n ≤ tkS b n p := by omega
    have eE : tkE b n p = scT (pDi b) n (tkS b n p) := by unfold tkE; rw [if_neg nle, if_neg nl, if_pos di]
    have eK : tkK b n p = if tkE b n p - tkS b n p ≤ 4 then 2 else 4 := by unfold tkK; rw [if_neg nle, if_neg nl, if_pos di]
    have hb := scT_b (P := pDi b) (n := n) _ (tkS b n p) hs.2 rfl
    refine q_up (n := n) (C := fun j => tkS b n p ≤ j → j ≤ n → scT (pDi b) n j = tkE b n p → ∀ g, fr PMa h g → g 12 0 15 0 = tkS b n p → g 12 0 16 0 = j → g 12 0 17 0 = fNu b (tkS b n p) (j - tkS b n p) → qT (d + 2) 193 210 [qo 12 0, qi x] [] g R) ?_ (tkS b n p) (by omega) (Int.le_refl _) hs.2 eE.symm g hf k15 k16 (by rw [Int.sub_self]; exact k17)
    clear k15 k16 k17 hf
    intro j hj ih sj jn eS g hf k15 k16 k17
    have ht' := tf g hf
    refine tX12_advance_210 ?_
    rw [k16]
    refine m_look2 ht' hj (m_isDigit (fun c1 c2 => ⟨fun c => absurd c (by decide), fun _ => ?_⟩) (fun c => ⟨fun _ => ?_, fun c2 => absurd rfl c2⟩))
    · have hl := (lk_D (ht.2.2.2 _)).mp ⟨c1, c2⟩
      have e1 := lk_pos (b := b) (n := n) (j := j) (by omega) (by omega) ht.2.2.2
      have go : scT (pDi b) n (j + 1) = tkE b n p := by rw [← scT_go hl.1 hl.2]; exact eS
      have lt : j < tkE b n p := by
        have := scT_b (P := pDi b) (n := n) _ (j + 1) (by omega) rfl
        rw [go] at this
        omega
      have nb := fNu_b (b := b) (s := tkS b n p) (j - tkS b n p) (by omega) (fun i i0 i1 => by
        have := hb.2.2.1 i i0 (by rw [← eE]; omega)
        unfold pDi at this
        exact decide_eq_true_eq.mp this)
      have eN : fNu b (tkS b n p) (j + 1 - tkS b n p) = if j - tkS b n p < 4 then 10 * fNu b (tkS b n p) (j - tkS b n p) + b (tkS b n p + (j - tkS b n p)) - 48 else fNu b (tkS b n p) (j - tkS b n p) := by
        unfold fNu
        rw [show j + 1 - tkS b n p = j - tkS b n p + 1 by omega, qfold_s (by omega)]
      rw [show tkS b n p + (j - tkS b n p) = j by omega] at eN
      rw [k15, k16, k17]
      refine ⟨qR_of (by omega) (by omega), fun c3 => ⟨qR_of (by omega) (by omega), ih hl.1 (by omega) (by omega) go _ (fr_trans hf (fr_up ⟨rfl, by omega⟩)) (by rw [up_j (by omega)]; exact k15) up_at ?_⟩, fun c3 => ⟨qR_of (by omega) (by omega), m_look2 ht' hj ?_⟩⟩
      · rw [up_j (by omega), k17, eN, if_neg (by omega)]
      · dsimp only [qri]
        rw [k16]
        refine ⟨qR_of (by omega) (by omega), qR_of (by omega) (by omega), qR_of (by omega) (by omega), ih hl.1 (by omega) (by omega) go _ (fr_trans hf (fr_trans (fr_up ⟨rfl, by omega⟩) (fr_up ⟨rfl, by omega⟩))) (by rw [up_j (by omega), up_j (by omega)]; exact k15) up_at ?_⟩
        rw [up_j (by omega), up_at, e1, eN, if_pos (by omega)]
    · have ej : j = tkE b n p := by
        by_cases c2 : n ≤ j
        · rw [scT_end c2] at eS; exact eS
        · rw [scT_stop (fun e => c ((lk_D (ht.2.2.2 _)).mpr ⟨by omega, e⟩))] at eS; exact eS
      have kk : ∀ k, tkK b n p = k → (k = 2 ∨ k = 4) → mT (qup g 12 0 14 0 k) b n p := by
        intro k ek hk
        refine ⟨by rw [up_j (by omega)]; exact k15, by rw [up_at, ek], by rw [up_j (by omega), k16, ej], fun _ => ?_, fun c2 => absurd c2 (by omega), fun c2 => absurd c2 (by omega)⟩
        rw [up_j (by omega), k17, ej]
        rfl
      refine tX12_advance_273 ?_
      rw [k15, k16]
      refine ⟨qR_of (by omega) (by omega), fun c2 => hR _ (fr_trans hf (fr_up ⟨rfl, by omega⟩)) (kk 2 (by rw [eK, if_pos (by omega)]) (Or.inl rfl)), fun c2 => hR _ (fr_trans hf (fr_up ⟨rfl, by omega⟩)) (kk 4 (by rw [eK, if_neg (by omega)]) (Or.inr rfl))⟩
  -- behind the blanks
  have fin : ∀ g, fr PMa h g → g 12 0 15 0 = tkS b n p → qT (d + 2) 193 58 [qo 12 0, qu] [] g R := by
    intro g hf k15
    have ht' := tf g hf
    refine tX12_advance_58 ?_
    rw [k15, ht'.2.1]
    refine ⟨fun c => ?_, fun c => ?_⟩
    · have f1 : fr PMa h (qup g 12 0 16 0 (tkS b n p)) := fr_trans hf (fr_up ⟨rfl, by omega⟩)
      have l15 : (qup g 12 0 16 0 (tkS b n p)) 12 0 15 0 = tkS b n p := by rw [up_j (by omega)]; exact k15
      have l16 : (qup g 12 0 16 0 (tkS b n p)) 12 0 16 0 = tkS b n p := up_at
      generalize (qup g 12 0 16 0 (tkS b n p)) = g1 at f1 l15 l16
      have ht1 := tf g1 f1
      have nle : ¬ n ≤ tkS b n p := by omega
      refine tX12_advance_83 ?_
      rw [l15]
      refine m_look2 ht1 (by omega) (m_isLetter (fun c1 c2 => ⟨fun c => absurd c (by decide), fun _ => ?_⟩) (fun cL => ⟨fun _ => ?_, fun c2 => absurd rfl c2⟩))
      · exact word _ _ (fr_trans f1 (fr_trans (fr_up ⟨rfl, by omega⟩) (fr_up ⟨rfl, by omega⟩))) (by rw [up_j (by omega), up_j (by omega)]; exact l15) (by rw [up_j (by omega), up_j (by omega)]; exact l16) (by rw [up_j (by omega)]; exact up_at) up_at c ((lk_L (ht.2.2.2 _)).mp ⟨c1, c2⟩).2
      · have nl : ¬ pLe b (tkS b n p) = true := fun e => cL ((lk_L (ht.2.2.2 _)).mpr ⟨c, e⟩)
        refine tX12_advance_198 (m_isDigit (fun c1 c2 => ⟨fun c => absurd c (by decide), fun _ => ?_⟩) (fun cD => ⟨fun _ => ?_, fun c2 => absurd rfl c2⟩))
        · exact numb _ _ (fr_trans f1 (fr_up ⟨rfl, by omega⟩)) (by rw [up_j (by omega)]; exact l15) (by rw [up_j (by omega)]; exact l16) up_at c nl ((lk_D (ht.2.2.2 _)).mp ⟨c1, c2⟩).2
        · have nd : ¬ pDi b (tkS b n p) = true := fun e => cD ((lk_D (ht.2.2.2 _)).mpr ⟨c, e⟩)
          have eE : tkE b n p = tkS b n p + 1 := by unfold tkE; rw [if_neg nle, if_neg nl, if_neg nd]
          have eK : tkK b n p = if b (tkS b n p) = 59 ∨ b (tkS b n p) = 60 ∨ b (tkS b n p) = 62 ∨ b (tkS b n p) = 61 then 3 else 4 := by unfold tkK; rw [if_neg nle, if_neg nl, if_neg nd]
          rw [l15]
          have bb := ht.2.2.2 (tkS b n p)
          have lkb : ∀ v, 59 ≤ v → v ≤ 62 → (lk b n (tkS b n p) = v ↔ b (tkS b n p) = v) := fun v v0 v1 => by rw [lk_in c]; split <;> omega
          have q59 := lkb 59 (by omega) (by omega)
          have q60 := lkb 60 (by omega) (by omega)
          have q61 := lkb 61 (by omega) (by omega)
          have q62 := lkb 62 (by omega) (by omega)
          have kk : ∀ k, tkK b n p = k → (k = 3 → lk b n (tkS b n p) = b (tkS b n p)) → (k = 3 ∨ k = 4) → mT (qup (qup (qup g1 12 0 16 0 (tkS b n p + 1)) 12 0 17 0 (lk b n (tkS b n p))) 12 0 14 0 k) b n p := by
            intro k ek hv hk
            exact ⟨by rw [up_j (by omega), up_j (by omega), up_j (by omega)]; exact l15, by rw [up_at, ek], by rw [up_j (by omega), up_j (by omega), up_at, eE], fun c2 => absurd c2 (by omega), fun c2 => by rw [up_j (by omega), up_at]; exact hv (by omega), fun c2 => absurd c2 (by omega)⟩
          have ff : ∀ k, fr PMa h (qup (qup (qup g1 12 0 16 0 (tkS b n p + 1)) 12 0 17 0 (lk b n (tkS b n p))) 12 0 14 0 k) := fun k => fr_trans f1 (fr_trans (fr_up ⟨rfl, by omega⟩) (fr_trans (fr_up ⟨rfl, by omega⟩) (fr_up ⟨rfl, by omega⟩)))
          have yes : (b (tkS b n p) = 59 ∨ b (tkS b n p) = 60 ∨ b (tkS b n p) = 62 ∨ b (tkS b n p) = 61) → R none (qup (qup (qup g1 12 0 16 0 (tkS b n p + 1)) 12 0 17 0 (lk b n (tkS b n p))) 12 0 14 0 3) := fun hs3 => hR _ (ff 3) (kk 3 (by rw [eK, if_pos hs3]) (fun _ => by omega) (Or.inl rfl))
          refine ⟨qR_of (by omega) (by omega), sX12_isSignByte_0 ⟨fun c2 => ⟨by omega, fun c3 => absurd c3 (by decide), fun _ => yes (by omega)⟩, fun c2 => ⟨fun c3 => ⟨by omega, fun c4 => absurd c4 (by decide), fun _ => yes (by omega)⟩, fun c3 => ⟨fun c4 => ⟨by omega, fun c5 => absurd c5 (by decide), fun _ => yes (by omega)⟩, fun c4 => ⟨fun c5 => ⟨by omega, fun _ => ?_, fun c6 => absurd rfl c6⟩, fun c5 => ⟨by omega, fun c6 => absurd c6 (by decide), fun _ => yes (by omega)⟩⟩⟩⟩⟩⟩
          exact hR _ (ff 4) (kk 4 (by rw [eK, if_neg (by omega)]) (fun c6 => absurd c6 (by decide)) (Or.inr rfl))
    · have eS : tkS b n p = n := by omega
      have eK : tkK b n p = 0 := (tkK_0 pn).mpr eS
      have eE : tkE b n p = tkS b n p := by unfold tkE; rw [if_pos (by omega)]
      exact hR _ (fr_trans hf (fr_trans (fr_up ⟨rfl, by omega⟩) (fr_up ⟨rfl, by omega⟩))) ⟨by rw [up_j (by omega), up_j (by omega)]; exact k15, by rw [up_at, eK], by rw [up_j (by omega), up_at, eE], fun c2 => absurd c2 (by omega), fun c2 => absurd c2 (by omega), fun c2 => absurd c2 (by omega)⟩
  refine tX12_advance_0 ?_
  rw [h16]
  refine q_up (n := n) (C := fun j => p ≤ j → j ≤ n → scT (pBl b) n j = tkS b n p → ∀ g, fr PMa h g → g 12 0 15 0 = j → qT (d + 2) 193 8 [qo 12 0, qu] [] g R) ?_ p p0 (Int.le_refl _) pn rfl _ (fr_up ⟨rfl, by omega⟩) up_at
  intro j hj ih pj jn eS g hf g15
  have ht' := tf g hf
  refine tX12_advance_8 ?_
  rw [ht'.2.1, g15]
  refine ⟨fun c => fin g hf (by rw [g15, ← eS, scT_end c]), fun c => ?_⟩
  have jn' : j < n := by omega
  have bb := ht.2.2.2 j
  have go : pBl b j = true → qR (j + 1) ∧ qT (d + 2) 193 8 [qo 12 0, qu] [] (qup g 12 0 15 0 (j + 1)) R := fun hb => ⟨qR_of (by omega) (by omega), ih jn' (by omega) (by omega) (by rw [← scT_go jn' hb]; exact eS) _ (fr_trans hf (fr_up ⟨rfl, by omega⟩)) up_at⟩
  have q10 : lk b n j = 10 ↔ b j = 10 := by rw [lk_in jn']; split <;> omega
  have q32 : lk b n j = 32 ↔ b j = 32 := by rw [lk_in jn']; split <;> omega
  refine m_look2 ht' hj ?_
  dsimp only [qri]
  rw [g15]
  refine ⟨fun c2 => go (by unfold pBl; rw [decide_eq_true_eq]; omega), fun c2 => m_look2 ht' hj ?_⟩
  dsimp only [qri]
  rw [g15]
  refine ⟨fun c3 => fin g hf ?_, fun c3 => go (by unfold pBl; rw [decide_eq_true_eq]; omega)⟩
  rw [g15, ← eS, scT_stop (by unfold pBl; rw [decide_eq_true_eq]; omega)]
end Av
