/-! the class's tape -/
def txC (h : qH) (b : Int → Int) (n : Int) : Prop := (0 ≤ n ∧ n ≤ 900) ∧ h 9 0 2 0 = n ∧ (∀ j, 0 ≤ j → j < n → h 9 0 0 (Int.toNat j) = b j) ∧ (∀ j, -128 ≤ b j ∧ b j ≤ 127) ∧ ∀ w, w < 19 → h 90 0 0 w = kX w
abbrev PTp : Nat → Nat → Nat → Prop := fun c _ j => c = 9 ∧ 3 ≤ j
theorem txC_fr {h h' : qH} {b : Int → Int} {n : Int} (ht : txC h b n) (hf : fr PTp h h') : txC h' b n := by
  unfold txC at *
  rw [hf 9 0 2 (by omega), hf 9 0 0 (by omega), hf 90 0 0 (by omega)]
  exact ht
abbrev PTt : Nat → Nat → Nat → Prop := fun c _ j => c = 9 ∧ 3 ≤ j ∧ j ≠ 11
theorem PTt_p {h h' : qH} (hf : fr PTt h h') : fr PTp h h' := fr_mono hf (fun c i j hP => ⟨hP.1, hP.2.1⟩)
theorem txC_ft {h h' : qH} {b : Int → Int} {n : Int} (ht : txC h b n) (hf : fr PTt h h') : txC h' b n := txC_fr ht (PTt_p hf)
def tkG (b : Int → Int) (n p : Int) : Int := if tkK b n p = 3 then b (tkS b n p) else -1
def tkC (h : qH) (b : Int → Int) (n p : Int) : Prop := h 9 0 4 0 = tkS b n p ∧ h 9 0 5 0 = tkK b n p ∧ h 9 0 3 0 = tkE b n p ∧ (tkK b n p = 2 → h 9 0 6 0 = tkN b n p) ∧ h 9 0 7 0 = tkW b n p ∧ h 9 0 8 0 = tkG b n p ∧ (tkK b n p = 1 → h 9 0 9 0 = tkE b n p - tkS b n p ∧ (tkE b n p - tkS b n p ≤ 8 → h 9 0 10 0 = tkX b n p))
theorem fNu_b {b : Int → Int} {s : Int} : ∀ k : Int, 0 ≤ k → (∀ j, s ≤ j → j < s + k → 48 ≤ b j ∧ b j ≤ 57) → 0 ≤ fNu b s k ∧ (k ≤ 0 → fNu b s k ≤ 0) ∧ (k ≤ 1 → fNu b s k ≤ 9) ∧ (k ≤ 2 → fNu b s k ≤ 99) ∧ (k ≤ 3 → fNu b s k ≤ 999) ∧ fNu b s k ≤ 9999 := by
  apply q_ind
  · intro _
    have : fNu b s 0 = 0 := rfl
    rw [this]; omega
  · intro k hk ih hb
    have i := ih (fun j j0 j1 => hb j j0 (by omega))
    have e := hb (s + k) (by omega) (by omega)
    have es : fNu b s (k + 1) = if k < 4 then 10 * fNu b s k + b (s + k) - 48 else fNu b s k := by unfold fNu; rw [qfold_s hk]
    rw [es]
    split <;> omega
section Tp
variable {d : Nat} {R : Option qV → qH → Prop} {h : qH} {b : Int → Int} {n p : Int}
theorem x_readWord {s : Int} (ht : txC h b n) (h3 : h 9 0 3 0 = s) (h4 : h 9 0 4 0 = s) (h7 : h 9 0 7 0 = -1) (s0 : 0 ≤ s) (sn : s ≤ n) (hR : ∀ h', fr PTt h h' → h' 9 0 4 = h 9 0 4 → h' 9 0 8 = h 9 0 8 → h' 9 0 5 0 = 1 → h' 9 0 3 0 = scT (pLe b) n s → h' 9 0 9 0 = scT (pLe b) n s - s → (scT (pLe b) n s - s ≤ 8 → h' 9 0 10 0 = fX b s (scT (pLe b) n s - s)) → h' 9 0 7 0 = wid (fY b s (scT (pLe b) n s - s)) → R none h') : qT (d + 1) 91 0 [qo 9 0, qu] [] h R := by
  obtain ⟨E, hE⟩ : ∃ E, scT (pLe b) n s = E := ⟨_, rfl⟩
  have hb := scT_b (P := pLe b) (n := n) _ s sn rfl
  rw [hE] at hR hb
  have n9 := ht.1
  refine tX9_readWord_0 ?_
  refine q_up (n := n) (C := fun j => s ≤ j → j ≤ n → scT (pLe b) n j = E → ∀ g, fr PTt h g → g 9 0 4 = h 9 0 4 → g 9 0 8 = h 9 0 8 → g 9 0 7 = h 9 0 7 → g 9 0 5 0 = 1 → g 9 0 3 0 = j → (j - s ≤ 8 → g 9 0 10 0 = fX b s (j - s)) → qT (d + 1) 91 10 [qo 9 0, qu] [] g R) ?_ s s0 (Int.le_refl _) sn hE _ (fr_trans (fr_up ⟨rfl, by omega⟩) (fr_up ⟨rfl, by omega⟩)) (by rw [up_j (by omega), up_j (by omega)]) (by rw [up_j (by omega), up_j (by omega)]) (by rw [up_j (by omega), up_j (by omega)]) (by rw [up_j (by omega)]; exact up_at) (by rw [up_j (by omega), up_j (by omega)]; exact h3) (fun _ => by rw [up_at, Int.sub_self]; rfl)
  intro j hj ih sj jn eE g hf g4 g8 g7 g5 g3 g10
  have ht' := txC_ft ht hf
  -- the end of the word
  have fin : j = E → qT (d + 1) 91 84 [qo 9 0, qu] [] g R := by
    intro ej
    refine tX9_readWord_84 ?_
    rw [g3, show g 9 0 4 0 = s by rw [g4]; exact h4]
    refine ⟨qR_of (by omega) (by omega), ?_⟩
    obtain ⟨y, hy⟩ : ∃ y, fY b s (E - s) = y := ⟨_, rfl⟩
    rw [hy] at hR
    have ry : ∀ w : Nat, w < 19 → E - s ≤ 8 → (kX w = fX b s (E - s) ↔ y = kY w) := by
      intro w hw h8
      have n1 := nmP_tok (b := b) (s := s) (E - s) (by omega) h8 (fun i i0 i1 => by
        have := hb.2.2.1 i i0 (by omega)
        unfold pLe at this
        exact decide_eq_true_eq.mp this)
      have := nmP_eq _ _ (kw_nm hw) n1
      rw [hy] at this
      rw [this]
      exact ⟨fun e => e.symm, fun e => e.symm⟩
    refine q_up (n := 19) (C := fun x => x ≤ 19 → ∀ g', fr PTt h g' → g' 9 0 4 = h 9 0 4 → g' 9 0 8 = h 9 0 8 → g' 9 0 5 0 = 1 → g' 9 0 3 0 = E → g' 9 0 9 0 = E - s → (E - s ≤ 8 → g' 9 0 10 0 = fX b s (E - s)) → g' 9 0 7 0 = widTo y x → qT (d + 1) 91 99 [qo 9 0, qi x] [] g' R) ?_ 0 (by omega) (by omega) _ (fr_trans hf (fr_up ⟨rfl, by omega⟩)) (by rw [up_j (by omega)]; exact g4) (by rw [up_j (by omega)]; exact g8) (by rw [up_j (by omega)]; exact g5) (by rw [up_j (by omega), g3]; exact ej) (by rw [up_at, ej]) (fun c => by rw [up_j (by omega), g10 (by omega), ej]) (by rw [up_j (by omega), g7]; exact h7)
    intro x hx ihx hx19 g' f' k4 k8 k5 k3 k9 k10 k7
    refine tX9_readWord_99 ⟨fun c => ?_, fun c => ?_⟩
    · have ex : x = 19 := by omega
      subst ex
      exact hR g' f' k4 k8 k5 k3 k9 k10 k7
    · have es : widTo y (x + 1) = if y = kY x.toNat then x else widTo y x := by unfold widTo; rw [qfold_s hx]
      rw [k9]
      refine ⟨fun c2 => ⟨qR_of (by omega) (by omega), ihx (by omega) (by omega) g' f' k4 k8 k5 k3 k9 k10 ?_⟩, fun c2 => ⟨by omega, ?_⟩⟩
      · rw [es, if_neg, k7]
        intro e
        have := kY_pos x.toNat (by omega)
        rw [← e, ← hy, fY_long c2] at this
        omega
      · rw [f' 90 0 0 (by omega), ht.2.2.2.2 x.toNat (by omega), k10 (by omega)]
        have r := ry x.toNat (by omega) (by omega)
        refine ⟨fun c3 => ⟨qR_of (by omega) (by omega), ihx (by omega) (by omega) g' f' k4 k8 k5 k3 k9 k10 ?_⟩, fun c3 => ⟨qR_of (by omega) (by omega), ihx (by omega) (by omega) _ (fr_trans f' (fr_up ⟨rfl, by omega⟩)) (by rw [up_j (by omega)]; exact k4) (by rw [up_j (by omega)]; exact k8) (by rw [up_j (by omega)]; exact k5) (by rw [up_j (by omega)]; exact k3) (by rw [up_j (by omega)]; exact k9) (fun c => by rw [up_j (by omega)]; exact k10 c) ?_⟩⟩
        · rw [es, if_neg (fun e => c3 (qlcmp_eq.mpr (r.mpr e))), k7]
        · rw [es, if_pos (r.mp (qlcmp_eq.mp (Decidable.not_not.mp c3))), up_at]
  refine tX9_readWord_10 ?_
  rw [ht'.2.1, g3]
  refine ⟨fun c => fin (by rw [scT_end c] at eE; exact eE), fun c => ?_⟩
  have jn' : j < n := by omega
  rw [ht'.2.2.1 j hj jn']
  have stop : ¬ (97 ≤ b j ∧ b j ≤ 122) → qT (d + 1) 91 84 [qo 9 0, qu] [] g R := fun c2 => fin (by
    rw [scT_stop (by unfold pLe; rw [decide_eq_true_eq]; exact c2)] at eE
    exact eE)
  refine ⟨by omega, fun c2 => stop (by omega), fun c2 => ⟨by omega, fun c3 => stop (by omega), fun c3 => ⟨by omega, qR_of (by omega) (by omega), ih jn' (by omega) (by omega) ?_ _ (fr_trans hf (fr_trans (fr_up ⟨rfl, by omega⟩) (fr_up ⟨rfl, by omega⟩))) (by rw [up_j (by omega), up_j (by omega)]; exact g4) (by rw [up_j (by omega), up_j (by omega)]; exact g8) (by rw [up_j (by omega), up_j (by omega)]; exact g7) (by rw [up_j (by omega), up_j (by omega)]; exact g5) up_at (fun c4 => ?_)⟩⟩⟩
  · rw [← scT_go jn' (by unfold pLe; rw [decide_eq_true_eq]; omega)]; exact eE
  · have nm := nmP_tok (b := b) (s := s) (j - s) (by omega) (by omega) (fun i i0 i1 => by
      have lt : i < E := by
        have := scT_b (P := pLe b) (n := n) _ j (by omega) rfl
        rw [eE] at this
        omega
      have := hb.2.2.1 i i0 lt
      unfold pLe at this
      exact decide_eq_true_eq.mp this)
    have nb := (nmP_b _ nm).1
    have p7 : (256 : Nat) ^ (j - s).toNat ≤ 256 ^ 7 := Nat.pow_le_pow_right (by decide) (by omega)
    rw [up_j (by omega), up_at, g10 (by omega)]
    obtain ⟨X, hX⟩ : ∃ X : Nat, fX b s (j - s) = X := ⟨_, (Int.toNat_of_nonneg nb.1).symm⟩
    obtain ⟨c, hc⟩ : ∃ c : Nat, b j = c := ⟨(b j).toNat, by omega⟩
    have e7 : (256 : Nat) ^ 7 = 72057594037927936 := by decide
    rw [hX, hc, ql_app (by omega) (by omega)]
    have : fX b s (j + 1 - s) = fX b s (j - s) * 256 + b (s + (j - s)) := by
      unfold fX
      rw [show j + 1 - s = j - s + 1 by omega, qfold_s (by omega)]
    rw [this, hX, show s + (j - s) = j by omega, hc]
    omega
theorem x_readNumber {s : Int} (ht : txC h b n) (h3 : h 9 0 3 0 = s) (h4 : h 9 0 4 0 = s) (s0 : 0 ≤ s) (sn : s ≤ n) (hR : ∀ h', fr PTt h h' → h' 9 0 4 = h 9 0 4 → h' 9 0 7 = h 9 0 7 → h' 9 0 8 = h 9 0 8 → h' 9 0 3 0 = scT (pDi b) n s → (scT (pDi b) n s - s ≤ 4 → h' 9 0 5 0 = 2) → (¬ scT (pDi b) n s - s ≤ 4 → h' 9 0 5 0 = 4) → h' 9 0 6 0 = fNu b s (scT (pDi b) n s - s) → R none h') : qT (d + 1) 92 0 [qo 9 0] [] h R := by
  obtain ⟨E, hE⟩ : ∃ E, scT (pDi b) n s = E := ⟨_, rfl⟩
  have hb := scT_b (P := pDi b) (n := n) _ s sn rfl
  rw [hE] at hR hb
  have n9 := ht.1
  refine tX9_readNumber_0 ?_
  refine q_up (n := n) (C := fun j => s ≤ j → j ≤ n → scT (pDi b) n j = E → ∀ g, fr PTt h g → g 9 0 4 = h 9 0 4 → g 9 0 7 = h 9 0 7 → g 9 0 8 = h 9 0 8 → g 9 0 5 0 = 2 → g 9 0 3 0 = j → g 9 0 6 0 = fNu b s (j - s) → qT (d + 1) 92 10 [qo 9 0] [] g R) ?_ s s0 (Int.le_refl _) sn hE _ (fr_trans (fr_up ⟨rfl, by omega⟩) (fr_up ⟨rfl, by omega⟩)) (by rw [up_j (by omega), up_j (by omega)]) (by rw [up_j (by omega), up_j (by omega)]) (by rw [up_j (by omega), up_j (by omega)]) (by rw [up_j (by omega)]; exact up_at) (by rw [up_j (by omega), up_j (by omega)]; exact h3) (by rw [up_at, Int.sub_self]; rfl)
  intro j hj ih sj jn eE g hf g4 g7 g8 g5 g3 g6
  have ht' := txC_ft ht hf
  have fin : j = E → qT (d + 1) 92 106 [qo 9 0] [] g R := by
    intro ej
    refine tX9_readNumber_106 ?_
    rw [g3, show g 9 0 4 0 = s by rw [g4]; exact h4, ej]
    refine ⟨qR_of (by omega) (by omega), fun c => hR g hf g4 g7 g8 (by rw [g3]; exact ej) (fun _ => g5) (fun c2 => absurd c c2) (by rw [g6, ej]), fun c => hR _ (fr_trans hf (fr_up ⟨rfl, by omega⟩)) (by rw [up_j (by omega)]; exact g4) (by rw [up_j (by omega)]; exact g7) (by rw [up_j (by omega)]; exact g8) (by rw [up_j (by omega), g3]; exact ej) (fun c2 => absurd c2 c) (fun _ => up_at) (by rw [up_j (by omega), g6, ej])⟩
  refine tX9_readNumber_10 ?_
  rw [ht'.2.1, g3, show g 9 0 4 0 = s by rw [g4]; exact h4, g6]
  refine ⟨fun c => fin (by rw [scT_end c] at eE; exact eE), fun c => ?_⟩
  have jn' : j < n := by omega
  rw [ht'.2.2.1 j hj jn']
  have stop : ¬ (48 ≤ b j ∧ b j ≤ 57) → qT (d + 1) 92 106 [qo 9 0] [] g R := fun c2 => fin (by
    rw [scT_stop (by unfold pDi; rw [decide_eq_true_eq]; exact c2)] at eE
    exact eE)
  refine ⟨by omega, fun c2 => stop (by omega), fun c2 => ⟨by omega, fun c3 => stop (by omega), fun c3 => ⟨qR_of (by omega) (by omega), ?_⟩⟩⟩
  have lt : j < E := by
    have := scT_b (P := pDi b) (n := n) _ (j + 1) (by omega) rfl
    rw [← scT_go jn' (by unfold pDi; rw [decide_eq_true_eq]; omega), eE] at this
    omega
  have nb := fNu_b (b := b) (s := s) (j - s) (by omega) (fun i i0 i1 => by
    have := hb.2.2.1 i i0 (by omega)
    unfold pDi at this
    exact decide_eq_true_eq.mp this)
  have eN : fNu b s (j + 1 - s) = if j - s < 4 then 10 * fNu b s (j - s) + b (s + (j - s)) - 48 else fNu b s (j - s) := by
    unfold fNu
    rw [show j + 1 - s = j - s + 1 by omega, qfold_s (by omega)]
  rw [show s + (j - s) = j by omega] at eN
  have eg : scT (pDi b) n (j + 1) = E := by rw [← scT_go jn' (by unfold pDi; rw [decide_eq_true_eq]; omega)]; exact eE
  refine ⟨fun c4 => ⟨qR_of (by omega) (by omega), ih jn' (by omega) (by omega) eg _ (fr_trans hf (fr_trans (fr_up ⟨rfl, by omega⟩) (fr_up ⟨rfl, by omega⟩))) (by rw [up_j (by omega), up_j (by omega)]; exact g4) (by rw [up_j (by omega), up_j (by omega)]; exact g7) (by rw [up_j (by omega), up_j (by omega)]; exact g8) (by rw [up_j (by omega), up_j (by omega)]; exact g5) up_at ?_⟩, fun c4 => ⟨qR_of (by omega) (by omega), by omega, qR_of (by omega) (by omega), qR_of (by omega) (by omega), qR_of (by omega) (by omega), ih jn' (by omega) (by omega) eg _ (fr_trans hf (fr_trans (fr_up ⟨rfl, by omega⟩) (fr_up ⟨rfl, by omega⟩))) (by rw [up_j (by omega), up_j (by omega)]; exact g4) (by rw [up_j (by omega), up_j (by omega)]; exact g7) (by rw [up_j (by omega), up_j (by omega)]; exact g8) (by rw [up_j (by omega), up_j (by omega)]; exact g5) up_at ?_⟩⟩
  · rw [up_j (by omega), up_at, eN, if_neg (by omega)]
  · rw [up_j (by omega), up_at, eN, if_pos (by omega)]; omega
theorem x_takeT (ht : txC h b n) (h3 : h 9 0 3 0 = p) (p0 : 0 ≤ p) (pn : p ≤ n) (h1 : tkK b n p ≠ 4 → ∀ h', fr PTt h h' → tkC h' b n p → R (some (qi 1)) h') (h0 : tkK b n p = 4 → ∀ h', fr PTt h h' → h' 9 0 12 0 = 1 → h' 9 0 13 0 = tkS b n p → R (some (qi 0)) h') : qT (d + 2) 90 0 [qo 9 0, qu] [] h R := by
  have n9 := ht.1
  have hs := tkS_b (b := b) pn
  -- behind the blanks
  have fin : ∀ g, fr PTt h g → g 9 0 3 0 = tkS b n p → qT (d + 2) 90 52 [qo 9 0, qu] [] g R := by
    intro g hf g3
    have ht' := txC_ft ht hf
    refine tX9_take_52 ?_
    rw [up_at, g3, ht'.2.1]
    have f1 : fr PTt h (qup (qup (qup g 9 0 4 0 (tkS b n p)) 9 0 7 0 (-1)) 9 0 8 0 (-1)) := fr_trans hf (fr_trans (fr_up ⟨rfl, by omega⟩) (fr_trans (fr_up ⟨rfl, by omega⟩) (fr_up ⟨rfl, by omega⟩)))
    have k3 : (qup (qup (qup g 9 0 4 0 (tkS b n p)) 9 0 7 0 (-1)) 9 0 8 0 (-1)) 9 0 3 0 = tkS b n p := by rw [up_j (by omega), up_j (by omega), up_j (by omega)]; exact g3
    have k4 : (qup (qup (qup g 9 0 4 0 (tkS b n p)) 9 0 7 0 (-1)) 9 0 8 0 (-1)) 9 0 4 0 = tkS b n p := by rw [up_j (by omega), up_j (by omega)]; exact up_at
    have k7 : (qup (qup (qup g 9 0 4 0 (tkS b n p)) 9 0 7 0 (-1)) 9 0 8 0 (-1)) 9 0 7 0 = -1 := by rw [up_j (by omega)]; exact up_at
    have k8 : (qup (qup (qup g 9 0 4 0 (tkS b n p)) 9 0 7 0 (-1)) 9 0 8 0 (-1)) 9 0 8 0 = -1 := up_at
    refine ⟨fun c => ?_, fun c => ⟨by omega, ?_⟩⟩
    · generalize (qup (qup (qup g 9 0 4 0 (tkS b n p)) 9 0 7 0 (-1)) 9 0 8 0 (-1)) = g1 at f1 k3 k4 k7 k8
      have ht1 := txC_ft ht f1
      have last : ∀ g2 x, fr PTt h g2 → g2 9 0 4 0 = tkS b n p → g2 9 0 5 0 = tkK b n p → (tkK b n p ≠ 4 → tkC g2 b n p) → qT (d + 2) 90 141 [qo 9 0, qi x] [] g2 R := by
        intro g2 x f2 l4 l5 H
        refine tX9_take_141 ?_
        rw [l5]
        refine ⟨fun c2 => ⟨by omega, h1 c2 g2 f2 (H c2)⟩, fun c2 => sX9_fail_0 ⟨by omega, fun _ => ⟨by omega, h0 (Decidable.not_not.mp c2) _ (fr_trans f2 (fr_trans (fr_up ⟨rfl, by omega⟩) (fr_up ⟨rfl, by omega⟩))) (by rw [up_j (by omega)]; exact up_at) (by rw [up_at]; exact l4)⟩, fun c3 => absurd rfl c3⟩⟩
      refine tX9_take_88 ?_
      rw [k4, ht1.2.2.1 _ (by omega) c]
      have nle : ¬ n ≤ tkS b n p := by omega
      have notL : ¬ (97 ≤ b (tkS b n p) ∧ b (tkS b n p) ≤ 122) → qT (d + 2) 90 117 [qo 9 0, qi (b (tkS b n p))] [] g1 R := by
        intro nl
        have nl' : ¬ pLe b (tkS b n p) = true := by unfold pLe; rw [decide_eq_true_eq]; exact nl
        have notD : ¬ (48 ≤ b (tkS b n p) ∧ b (tkS b n p) ≤ 57) → qT (d + 2) 90 136 [qo 9 0, qi (b (tkS b n p))] [] g1 R := by
          intro nd
          have nd' : ¬ pDi b (tkS b n p) = true := by unfold pDi; rw [decide_eq_true_eq]; exact nd
          have eE : tkE b n p = tkS b n p + 1 := by unfold tkE; rw [if_neg nle, if_neg nl', if_neg nd']
          refine tX9_take_136 (sX9_readSign_0 ?_)
          have sg : (b (tkS b n p) = 59 ∨ b (tkS b n p) = 60 ∨ b (tkS b n p) = 62 ∨ b (tkS b n p) = 61) → qR (g1 9 0 3 0 + 1) ∧ qT (d + 2) 90 141 [qo 9 0, qi (b (tkS b n p))] [] (qup (qup (qup (qup g1 9 0 5 0 4) 9 0 5 0 3) 9 0 8 0 (b (tkS b n p))) 9 0 3 0 (g1 9 0 3 0 + 1)) R := by
            intro hsg
            have eK : tkK b n p = 3 := by unfold tkK; rw [if_neg nle, if_neg nl', if_neg nd', if_pos hsg]
            rw [k3]
            refine ⟨qR_of (by omega) (by omega), last _ _ (fr_trans f1 (fr_trans (fr_up ⟨rfl, by omega⟩) (fr_trans (fr_up ⟨rfl, by omega⟩) (fr_trans (fr_up ⟨rfl, by omega⟩) (fr_up ⟨rfl, by omega⟩))))) (by rw [up_j (by omega), up_j (by omega), up_j (by omega), up_j (by omega)]; exact k4) (by rw [up_j (by omega), up_j (by omega), up_at, eK]) (fun _ => ⟨by rw [up_j (by omega), up_j (by omega), up_j (by omega), up_j (by omega)]; exact k4, by rw [up_j (by omega), up_j (by omega), up_at, eK], by rw [up_at, eE], fun c5 => absurd c5 (by omega), ?_, ?_, fun c5 => absurd c5 (by omega)⟩)⟩
            · rw [up_j (by omega), up_j (by omega), up_j (by omega), up_j (by omega), k7]
              unfold tkW; rw [if_neg (by omega)]
            · rw [up_j (by omega), up_at]
              unfold tkG; rw [if_pos eK]
          refine ⟨fun c2 => sg (Or.inl c2), fun c2 => ⟨fun c3 => sg (Or.inr (Or.inl c3)), fun c3 => ⟨fun c4 => sg (Or.inr (Or.inr (Or.inl c4))), fun c4 => ⟨fun c5 => ?_, fun c5 => sg (Or.inr (Or.inr (Or.inr (Decidable.not_not.mp c5))))⟩⟩⟩⟩
          have eK : tkK b n p = 4 := by unfold tkK; rw [if_neg nle, if_neg nl', if_neg nd', if_neg (by omega)]
          exact last _ _ (fr_trans f1 (fr_up ⟨rfl, by omega⟩)) (by rw [up_j (by omega)]; exact k4) (by rw [up_at, eK]) (fun c6 => absurd eK c6)
        refine tX9_take_117 ⟨fun c2 => notD (by omega), fun c2 => ⟨fun c3 => notD (by omega), fun c3 => ?_⟩⟩
        have di : pDi b (tkS b n p) = true := by unfold pDi; rw [decide_eq_true_eq]; omega
        have eE : tkE b n p = scT (pDi b) n (tkS b n p) := by unfold tkE; rw [if_neg nle, if_neg nl', if_pos di]
        have eK : tkK b n p = if tkE b n p - tkS b n p ≤ 4 then 2 else 4 := by unfold tkK; rw [if_neg nle, if_neg nl', if_pos di]
        refine x_readNumber ht1 k3 k4 (by omega) hs.2 (fun g2 f2 l4 l7 l8 l3 l5 l5' l6 => ?_)
        rw [← eE] at l3 l5 l5' l6
        have e5 : g2 9 0 5 0 = tkK b n p := by
          rw [eK]
          by_cases c4 : tkE b n p - tkS b n p ≤ 4
          · rw [if_pos c4]; exact l5 c4
          · rw [if_neg c4]; exact l5' c4
        have kk : tkK b n p = 2 ∨ tkK b n p = 4 := by rw [eK]; split <;> omega
        refine last g2 _ (fr_trans f1 f2) (by rw [l4]; exact k4) e5 (fun c4 => ⟨by rw [l4]; exact k4, e5, l3, fun _ => l6, ?_, ?_, fun c5 => absurd c5 (by omega)⟩)
        · rw [l7, k7]; unfold tkW; rw [if_neg (by omega)]
        · rw [l8, k8]; unfold tkG; rw [if_neg (by omega)]
      refine ⟨by omega, fun c2 => notL (by omega), fun c2 => ⟨fun c3 => notL (by omega), fun c3 => ?_⟩⟩
      have le : pLe b (tkS b n p) = true := by unfold pLe; rw [decide_eq_true_eq]; omega
      have eE : tkE b n p = scT (pLe b) n (tkS b n p) := by unfold tkE; rw [if_neg nle, if_pos le]
      have eK : tkK b n p = 1 := by unfold tkK; rw [if_neg nle, if_pos le]
      refine x_readWord ht1 k3 k4 k7 (by omega) hs.2 (fun g2 f2 l4 l8 l5 l3 l9 l10 l7 => ?_)
      rw [← eE] at l3 l9 l10 l7
      refine last g2 _ (fr_trans f1 f2) (by rw [l4]; exact k4) (by rw [l5, eK]) (fun _ => ⟨by rw [l4]; exact k4, by rw [l5, eK], l3, fun c5 => absurd c5 (by omega), ?_, ?_, fun _ => ⟨l9, l10⟩⟩)
      · rw [l7]; unfold tkW; rw [if_pos eK]; rfl
      · rw [l8, k8]; unfold tkG; rw [if_neg (by omega)]
    · have eS : tkS b n p = n := by omega
      have eK : tkK b n p = 0 := (tkK_0 pn).mpr eS
      have eE : tkE b n p = tkS b n p := by unfold tkE; rw [if_pos (by omega)]
      refine h1 (by omega) _ (fr_trans f1 (fr_up ⟨rfl, by omega⟩)) ⟨by rw [up_j (by omega)]; exact k4, by rw [up_at, eK], by rw [up_j (by omega), k3, eE], fun c5 => absurd c5 (by omega), ?_, ?_, fun c5 => absurd c5 (by omega)⟩
      · rw [up_j (by omega), k7]; unfold tkW; rw [if_neg (by omega)]
      · rw [up_j (by omega), k8]; unfold tkG; rw [if_neg (by omega)]
  refine q_up (n := n) (C := fun j => p ≤ j → j ≤ n → scT (pBl b) n j = tkS b n p → ∀ g, fr PTt h g → g 9 0 3 0 = j → qT (d + 2) 90 0 [qo 9 0, qu] [] g R) ?_ p p0 (Int.le_refl _) pn rfl h fr_rfl h3
  intro j hj ih pj jn eS g hf g3
  have ht' := txC_ft ht hf
  refine tX9_take_0 ?_
  rw [ht'.2.1, g3]
  refine ⟨fun c => fin g hf (by rw [g3, ← eS, scT_end c]), fun c => ?_⟩
  have jn' : j < n := by omega
  rw [ht'.2.2.1 j hj jn']
  have go : pBl b j = true → qR (j + 1) ∧ qT (d + 2) 90 0 [qo 9 0, qu] [] (qup g 9 0 3 0 (j + 1)) R := fun hb => ⟨qR_of (by omega) (by omega), ih jn' (by omega) (by omega) (by rw [← scT_go jn' hb]; exact eS) _ (fr_trans hf (fr_up ⟨rfl, by omega⟩)) up_at⟩
  refine ⟨by omega, fun c2 => go (by unfold pBl; rw [decide_eq_true_eq]; omega), fun c2 => ⟨by omega, fun c3 => fin g hf ?_, fun c3 => go (by unfold pBl; rw [decide_eq_true_eq]; omega)⟩⟩
  rw [g3, ← eS, scT_stop (by unfold pBl; rw [decide_eq_true_eq]; omega)]
theorem x_take (ht : txC h b n) (h3 : h 9 0 3 0 = p) (p0 : 0 ≤ p) (pn : p ≤ n) (h1 : tkK b n p ≠ 4 → ∀ h', fr PTp h h' → tkC h' b n p → R (some (qi 1)) h') (h0 : tkK b n p = 4 → ∀ h', fr PTp h h' → h' 9 0 12 0 = 1 → h' 9 0 13 0 = tkS b n p → R (some (qi 0)) h') : qT (d + 2) 90 0 [qo 9 0, qu] [] h R :=
  x_takeT ht h3 p0 pn (fun h4 h' hf hk => h1 h4 h' (PTt_p hf) hk) (fun h4 h' hf k1 k2 => h0 h4 h' (PTt_p hf) k1 k2)
end Tp
