/-! the QUARTER's text: what a part is -/
theorem rb_rb {α β γ : Type} {r : Rs α} {f : α → Rs β} {g : β → Rs γ} : rb (rb r f) g = rb r (fun x => rb (f x) g) := by
  cases r <;> rfl
def qtE (a : qB) (i j : Int) : Prop := ∃ s, 0 ≤ s ∧ s < a 1 ∧ ((a (70 + s) = i ∧ a (80 + s) = j) ∨ (a (70 + s) = j ∧ a (80 + s) = i))
def qtO (b : Int → Int) (n w x q : Int) (f : Int → qB) : Rs (Int × qB) := if tkW b n q = w then rb (rdNum b n 0 9 (tkE b n q)) (fun v => .inr (v.2, f v.1)) else .inr (q, f x)
noncomputable def qtP (b : Int → Int) (n : Int) (a : qB) (Y : Int → Int) (q : Int) : Rs (Int × qB) := by
  classical exact if isNm b n q then (if 0 ≤ fnd Y (a 0) (tkY b n q) then .inl (3, tkS b n q) else qtO b n 3 3 (tkE b n q) (aCome a)) else .inl (amF b n q)
noncomputable def qtS (b : Int → Int) (n : Int) (a : qB) (Y : Int → Int) (q : Int) : Rs (Int × qB) := by
  classical exact rb (rdPer b n Y (a 0) q) (fun i => rb (rdPer b n Y (a 0) i.2) (fun j => if i.1 = j.1 ∨ qtE a i.1 j.1 then .inl (5, tkS b n i.2) else qtO b n 5 0 j.2 (aBuild a i.1 j.1)))
noncomputable def qtL (b : Int → Int) (n : Int) (a : qB) (Y : Int → Int) (q : Int) : Rs (Int × qB) := rb (rdPer b n Y (a 0) q) (fun i => rb (rdPer b n Y (a 0) i.2) (fun j => rb (rdNum b n 0 9 j.2) (fun v => .inr (v.2, aSet a (21 + 7 * i.1 + j.1) v.1))))
noncomputable def qtV (b : Int → Int) (n : Int) (a : qB) (Y : Int → Int) (q : Int) : Rs (Int × qB) := rb (rdPer b n Y (a 0) q) (fun i => rb (rdPer b n Y (a 0) i.2) (fun j => if i.1 = j.1 then .inl (5, tkS b n i.2) else .inr (j.2, aSwap a i.1 j.1)))
def qtN (b : Int → Int) (n k o hi : Int) (a : qB) (p : Int) : Rs (Int × qB) := if o = 0 then rb (rdNum b n 0 hi (tkE b n p)) (fun v => .inr (v.2, aSet a k v.1)) else .inl (5, tkS b n p)
noncomputable def qtB (b : Int → Int) (n : Int) (a : qB) (Y : Int → Int) (o c p : Int) : Rs (Int × qB) :=
  if tkW b n p = 0 then qtN b n 2 o 16 a p
  else if tkW b n p = 1 then qtN b n 3 c 30 a p
  else if tkW b n p = 2 then (if a 0 < 7 then qtP b n a Y (tkE b n p) else .inl (6, tkS b n p))
  else if tkW b n p = 4 then (if a 1 < 10 then qtS b n a Y (tkE b n p) else .inl (6, tkS b n p))
  else if tkW b n p = 6 then qtL b n a Y (tkE b n p)
  else if tkW b n p = 7 then qtV b n a Y (tkE b n p)
  else .inl (amF b n p)
def qtZ (b : Int → Int) (n : Int) (r : Rs (Int × qB)) : Rs (Int × qB) := rb r (fun v => rb (rdStop b n v.1) (fun q => .inr (q, v.2)))
noncomputable def qtX (b : Int → Int) (n : Int) (a : qB) (Y : Int → Int) (o c p : Int) : Rs (Int × qB) := qtZ b n (qtB b n a Y o c p)
def qtM (w m x : Int) (X : Int → Int) : Int → Int := fun j => if w = 2 ∧ j = m then x else X j
def qtT (w k o : Int) : Int := if w = k then 1 else o
theorem qtM_ne {w m x : Int} {X : Int → Int} (h : w ≠ 2) : qtM w m x X = X := by funext j; unfold qtM; rw [if_neg (fun e => h e.1)]
theorem come_set {a : qB} {v : Int} (h0 : 0 ≤ a 0) : aSet (aCome a 3) (7 + a 0) v = aCome a v := by
  funext x
  by_cases c : x = 7 + a 0
  · rw [aSet_eq c]; unfold aCome; rw [if_neg (by omega), if_pos c]
  · rw [aSet_ne c]; unfold aCome; rw [if_neg c, if_neg c]
theorem build_set {a : qB} {i j v : Int} (h0 : 0 ≤ a 1) : aSet (aBuild a i j 0) (90 + a 1) v = aBuild a i j v := by
  funext x
  unfold aBuild
  by_cases c : x = 90 + a 1
  · rw [aSet_eq c, aSet_ne (by omega), aSet_eq c]
  · rw [aSet_ne c]
    by_cases c1 : x = 1
    · rw [aSet_eq c1, aSet_eq c1]
    · rw [aSet_ne c1, aSet_ne c1, aSet_ne c, aSet_ne c]
section Qz
variable {b : Int → Int} {n : Int}
theorem qtZ_l {r : Rs (Int × qB)} {e : Int × Int} (h : r = .inl e) : qtZ b n r = .inl e := rb_l h
theorem qtZ_e {r : Rs (Int × qB)} {v : Int × qB} {e : Int × Int} (h : r = .inr v) (h2 : rdStop b n v.1 = .inl e) : qtZ b n r = .inl e := by
  unfold qtZ; rw [rb_r h, rb_l h2]
theorem qtZ_r {r : Rs (Int × qB)} {v : Int × qB} {q : Int} (h : r = .inr v) (h2 : rdStop b n v.1 = .inr q) : qtZ b n r = .inr (q, v.2) := by
  unfold qtZ; rw [rb_r h, rb_r h2]
theorem tk_lt {p : Int} (pn : p ≤ n) (h : tkK b n p ≠ 0) : p < tkE b n p ∧ tkE b n p ≤ n := by
  have hs := tkS_b (b := b) pn
  have he := tkE_b (b := b) pn
  have := tkK_0 (b := b) (n := n) pn
  omega
theorem rdNum_i {lo hi p v p' : Int} (h : rdNum b n lo hi p = .inr (v, p')) : tkK b n p = 2 ∧ p' = tkE b n p ∧ lo ≤ v ∧ v ≤ hi := by
  unfold rdNum at h
  by_cases c : tkK b n p ≠ 2
  · rw [if_pos c] at h; cases h
  · rw [if_neg c] at h
    by_cases c2 : lo ≤ tkN b n p ∧ tkN b n p ≤ hi
    · rw [if_pos c2] at h
      have := Sum.inr.inj h
      have e1 := congrArg Prod.fst this
      have e2 := congrArg Prod.snd this
      dsimp only at e1 e2
      omega
    · rw [if_neg c2] at h; cases h
theorem rdStop_i {p p' : Int} (h : rdStop b n p = .inr p') : tkK b n p = 3 ∧ p' = tkE b n p := by
  by_cases c : tkG b n p = 59
  · rw [rdStop_y c] at h; exact ⟨tkG_n4 c, (Sum.inr.inj h).symm⟩
  · rw [rdStop_n c] at h; cases h
theorem rdPer_i {Y : Int → Int} {m p v p' : Int} (m0 : 0 ≤ m) (h : rdPer b n Y m p = .inr (v, p')) : tkK b n p = 1 ∧ p' = tkE b n p ∧ 0 ≤ v ∧ v < m := by
  by_cases c : isNm b n p
  · by_cases c2 : 0 ≤ fnd Y m (tkY b n p)
    · rw [rdPer_y c c2] at h
      have := Sum.inr.inj h
      have e1 := congrArg Prod.fst this
      have e2 := congrArg Prod.snd this
      dsimp only at e1 e2
      have fq := fnd_qfst (Y := Y) (y := tkY b n p) m m0
      rcases fq with ⟨q0, q1, _⟩ | ⟨q1, _⟩
      · exact ⟨c.1, by omega, by omega, by omega⟩
      · omega
    · rw [rdPer_n c c2] at h; cases h
  · rw [rdPer_a c] at h; cases h
end Qz
/-! the class reads a part -/
abbrev PQr : Nat → Nat → Nat → Prop := fun c i j => (c = 9 ∧ 3 ≤ j) ∨ (c = 7 ∧ i = 1) ∨ c = 8
theorem PTp_q {h h' : qH} (hf : fr PTp h h') : fr PQr h h' := fr_mono hf (fun c i j hP => Or.inl hP)
theorem txC_q {h h' : qH} {b : Int → Int} {n : Int} (ht : txC h b n) (hf : fr PQr h h') : txC h' b n := by
  unfold txC at *
  rw [hf 9 0 2 (by omega), hf 9 0 0 (by omega), hf 90 0 0 (by omega)]
  exact ht
def tqC (h : qH) (b : Int → Int) (n : Int) (a : qB) (X : Int → Int) (o c : Int) : Prop := txC h b n ∧ qQX h 1 a ∧ (∀ j, 0 ≤ j → j < a 0 → h 7 1 0 (Int.toNat j) = X j) ∧ h 8 0 0 0 = o ∧ h 8 0 1 0 = c
theorem tqC_fr {h h' : qH} {b : Int → Int} {n o c : Int} {a : qB} {X : Int → Int} (hc : tqC h b n a X o c) (hf : fr PTp h h') : tqC h' b n a X o c := by
  refine ⟨txC_fr hc.1 hf, qx_fr hc.2.1 (funext fun j => hf 7 1 j (by omega)), fun j j0 j1 => ?_, ?_, ?_⟩
  · rw [hf 7 1 0 (by omega)]; exact hc.2.2.1 j j0 j1
  · rw [hf 8 0 0 (by omega)]; exact hc.2.2.2.1
  · rw [hf 8 0 1 (by omega)]; exact hc.2.2.2.2
section Qc
variable {d : Nat} {R : Option qV → qH → Prop} {h : qH} {b : Int → Int} {n p o c B : Int} {a : qB} {X Y : Int → Int}
/-- the last STOP, by takeStop -/
theorem x_qStop {q : Int} {r : Rs (Int × qB)} (hc : tqC h b n a X o c) (h3 : h 9 0 3 0 = q) (q0 : 0 ≤ q) (qn : q ≤ n) (hr : r = .inr (q, a)) (he : ∀ e, qtZ b n r = .inl e → ∀ h', fr PQr h h' → fC h' e → R (some (qi 0)) h') (hx : ∀ q' a', qtZ b n r = .inr (q', a') → ∀ h', fr PQr h h' → h' 9 0 3 0 = q' → tqC h' b n a' X o c → R (some (qi 1)) h') : qT (d + 3) 95 0 [qo 9 0] [] h (fun w g => qri w fun r => (r = 0 ∨ r = 1) ∧ R (some (qi r)) g) :=
  x_takeStop hc.1 h3 q0 qn (fun e h1 h' hf hF => ⟨by omega, he e (qtZ_e hr h1) h' (PTp_q hf) hF⟩) (fun q' h1 h' hf h2 => ⟨by omega, hx q' a (qtZ_r hr h1) h' (PTp_q hf) h2 (tqC_fr hc hf)⟩)
/-- the last STOP, taken already -/
theorem x_qIsStop {q : Int} {r : Rs (Int × qB)} (hc : tqC h b n a X o c) (hk : tkC h b n q) (h4 : tkK b n q ≠ 4) (hr : r = .inr (q, a)) (he : ∀ e, qtZ b n r = .inl e → ∀ h', fr PQr h h' → fC h' e → R (some (qi 0)) h') (hx : ∀ q' a', qtZ b n r = .inr (q', a') → ∀ h', fr PQr h h' → h' 9 0 3 0 = q' → tqC h' b n a' X o c → R (some (qi 1)) h') : qT (d + 2) 96 0 [qo 9 0] [] h (fun w g => qri w fun r => (r = 0 ∨ r = 1) ∧ R (some (qi r)) g) :=
  x_isStop hk h4 (fun e h1 h' hf hF => ⟨by omega, he e (qtZ_e hr h1) h' (PTp_q hf) hF⟩) (fun q' h1 h2 => ⟨by omega, hx q' a (qtZ_r hr h1) h fr_rfl h2 hc⟩)
theorem x_qFail {k : Int} {r : Rs (Int × qB)} {s : Int} (h4 : h 9 0 4 0 = s) (hr : r = .inl (k, s)) (he : ∀ e, qtZ b n r = .inl e → ∀ h', fr PQr h h' → fC h' e → R (some (qi 0)) h') : qT (d + 1) 89 0 [qo 9 0, qi k] [] h (fun w g => qri w fun r => (r = 0 ∨ r = 1) ∧ R (some (qi r)) g) :=
  x_fail (fun h' hf hF => ⟨by omega, he _ (qtZ_l hr) h' (PTp_q hf) (by rw [h4] at hF; exact hF)⟩)
theorem x_readOdds (hc : tqC h b n a X o c) (hk : tkC h b n p) (pn : 0 ≤ p ∧ p ≤ n) (he : ∀ e, qtZ b n (qtN b n 2 o 16 a p) = .inl e → ∀ h', fr PQr h h' → fC h' e → R (some (qi 0)) h') (hx : ∀ q a', qtZ b n (qtN b n 2 o 16 a p) = .inr (q, a') → ∀ h', fr PQr h h' → h' 9 0 3 0 = q → tqC h' b n a' X 1 c → R (some (qi 1)) h') : qT (d + 4) 81 0 [qo 8 0, qo 9 0, qo 7 1] [] h R := by
  have hs := tkS_b (b := b) pn.2
  have hE := tkE_b (b := b) pn.2
  refine sX8_readOdds_0 ?_
  rw [hc.2.2.2.1]
  refine ⟨fun co => ⟨by omega, ?_⟩, fun co => x_qFail hk.1 (if_neg co) he⟩
  have en : qtN b n 2 o 16 a p = rb (rdNum b n 0 16 (tkE b n p)) (fun v => .inr (v.2, aSet a 2 v.1)) := if_pos co
  rw [en] at he hx
  have hc1 : tqC (qup h 8 0 0 0 1) b n a X 1 c := ⟨txC_q hc.1 (fr_up (Or.inr (Or.inr rfl))), qx_fr hc.2.1 (funext fun j => up_j (by omega)), fun j j0 j1 => by rw [up_j (by omega)]; exact hc.2.2.1 j j0 j1, up_at, by rw [up_j (by omega)]; exact hc.2.2.2.2⟩
  refine x_takeNumber (p := tkE b n p) hc1.1 (by rw [up_j (by omega)]; exact hk.2.2.1) (by omega) hE.2.1 (fun e h1 g hf hF => ⟨fun c2 => absurd rfl c2, fun _ => ⟨by omega, he e (qtZ_l (rb_l h1)) g (fr_trans (fr_up (Or.inr (Or.inr rfl))) (PTp_q hf)) hF⟩⟩) (fun v p' h1 g hf g6 g3 => ⟨fun _ => ?_, fun c2 => absurd (by decide) c2⟩)
  have hi := rdNum_i h1
  have hE2 := tkE_b (b := b) (n := n) (p := tkE b n p) (by omega)
  have hs2 := tkS_b (b := b) (n := n) (p := tkE b n p) (by omega)
  have hc2 := tqC_fr hc1 hf
  rw [g6]
  have hc3 : tqC (qup g 7 1 9 0 v) b n (aSet a 2 v) X 1 c := ⟨txC_q hc2.1 (fr_up (by omega)), qx_put' hc2.2.1 (by omega) rfl rfl, fun j j0 j1 => by rw [up_j (by omega)]; exact hc2.2.2.1 j j0 (by rw [aSet_ne (by omega)] at j1; exact j1), by rw [up_j (by omega)]; exact hc2.2.2.2.1, by rw [up_j (by omega)]; exact hc2.2.2.2.2⟩
  have ff : fr PQr h (qup g 7 1 9 0 v) := fr_trans (fr_up (Or.inr (Or.inr rfl))) (fr_trans (PTp_q hf) (fr_up (by omega)))
  exact x_qStop (q := p') (a := aSet a 2 v) hc3 (by rw [up_j (by omega)]; exact g3) (by omega) (by omega) (by rw [rb_r h1]) (fun e h2 h' f' F' => he e h2 h' (fr_trans ff f') F') (fun q a' h2 h' f' => hx q a' h2 h' (fr_trans ff f'))
theorem x_readCool (hc : tqC h b n a X o c) (hk : tkC h b n p) (pn : 0 ≤ p ∧ p ≤ n) (he : ∀ e, qtZ b n (qtN b n 3 c 30 a p) = .inl e → ∀ h', fr PQr h h' → fC h' e → R (some (qi 0)) h') (hx : ∀ q a', qtZ b n (qtN b n 3 c 30 a p) = .inr (q, a') → ∀ h', fr PQr h h' → h' 9 0 3 0 = q → tqC h' b n a' X o 1 → R (some (qi 1)) h') : qT (d + 4) 82 0 [qo 8 0, qo 9 0, qo 7 1] [] h R := by
  have hs := tkS_b (b := b) pn.2
  have hE := tkE_b (b := b) pn.2
  refine sX8_readCool_0 ?_
  rw [hc.2.2.2.2]
  refine ⟨fun co => ⟨by omega, ?_⟩, fun co => x_qFail hk.1 (if_neg co) he⟩
  have en : qtN b n 3 c 30 a p = rb (rdNum b n 0 30 (tkE b n p)) (fun v => .inr (v.2, aSet a 3 v.1)) := if_pos co
  rw [en] at he hx
  have hc1 : tqC (qup h 8 0 1 0 1) b n a X o 1 := ⟨txC_q hc.1 (fr_up (Or.inr (Or.inr rfl))), qx_fr hc.2.1 (funext fun j => up_j (by omega)), fun j j0 j1 => by rw [up_j (by omega)]; exact hc.2.2.1 j j0 j1, by rw [up_j (by omega)]; exact hc.2.2.2.1, up_at⟩
  refine x_takeNumber (p := tkE b n p) hc1.1 (by rw [up_j (by omega)]; exact hk.2.2.1) (by omega) hE.2.1 (fun e h1 g hf hF => ⟨fun c2 => absurd rfl c2, fun _ => ⟨by omega, he e (qtZ_l (rb_l h1)) g (fr_trans (fr_up (Or.inr (Or.inr rfl))) (PTp_q hf)) hF⟩⟩) (fun v p' h1 g hf g6 g3 => ⟨fun _ => ?_, fun c2 => absurd (by decide) c2⟩)
  have hi := rdNum_i h1
  have hE2 := tkE_b (b := b) (n := n) (p := tkE b n p) (by omega)
  have hs2 := tkS_b (b := b) (n := n) (p := tkE b n p) (by omega)
  have hc2 := tqC_fr hc1 hf
  rw [g6]
  have hc3 : tqC (qup g 7 1 10 0 v) b n (aSet a 3 v) X o 1 := ⟨txC_q hc2.1 (fr_up (by omega)), qx_put' hc2.2.1 (by omega) rfl rfl, fun j j0 j1 => by rw [up_j (by omega)]; exact hc2.2.2.1 j j0 (by rw [aSet_ne (by omega)] at j1; exact j1), by rw [up_j (by omega)]; exact hc2.2.2.2.1, by rw [up_j (by omega)]; exact hc2.2.2.2.2⟩
  have ff : fr PQr h (qup g 7 1 10 0 v) := fr_trans (fr_up (Or.inr (Or.inr rfl))) (fr_trans (PTp_q hf) (fr_up (by omega)))
  exact x_qStop (q := p') (a := aSet a 3 v) hc3 (by rw [up_j (by omega)]; exact g3) (by omega) (by omega) (by rw [rb_r h1]) (fun e h2 h' f' F' => he e h2 h' (fr_trans ff f') F') (fun q a' h2 h' f' => hx q a' h2 h' (fr_trans ff f'))
end Qc
