/-! the QUARTER's text as a whole -/
theorem rb_i {α β : Type} {r : Rs α} {f : α → Rs β} {y : β} (h : rb r f = .inr y) : ∃ x, r = .inr x ∧ f x = .inr y := by
  cases r with
  | inl e => cases h
  | inr x => exact ⟨x, rfl, h⟩
section Qi
variable {b : Int → Int} {n p o c B : Int} {a : qB} {X Y : Int → Int}
theorem qtO_i {w x q : Int} {f : Int → qB} {v : Int × qB} (q0 : q ≤ n) (hx : 0 ≤ x ∧ x ≤ 9) (h : qtO b n w x q f = .inr v) : q ≤ v.1 ∧ v.1 ≤ n ∧ ∃ t, (0 ≤ t ∧ t ≤ 9) ∧ v.2 = f t := by
  have hs := tkS_b (b := b) q0
  have hE := tkE_b (b := b) q0
  have hE2 := tkE_b (b := b) (n := n) (p := tkE b n q) (by omega)
  have hs2 := tkS_b (b := b) (n := n) (p := tkE b n q) (by omega)
  unfold qtO at h
  by_cases cw : tkW b n q = w
  · rw [if_pos cw] at h
    obtain ⟨⟨t, p'⟩, h1, h2⟩ := rb_i h
    have hi := rdNum_i h1
    have e := Sum.inr.inj h2
    subst e
    exact ⟨by show q ≤ p'; omega, by show p' ≤ n; omega, t, by omega, rfl⟩
  · rw [if_neg cw] at h
    have e := Sum.inr.inj h
    subst e
    exact ⟨Int.le_refl _, q0, x, hx, rfl⟩
def qtI (b : Int → Int) (n B p q : Int) (a a' : qB) : Prop := p < q ∧ q ≤ n ∧ qwf B a' ∧ (tkW b n p = 2 → a' 0 = a 0 + 1 ∧ isNm b n (tkE b n p)) ∧ (tkW b n p ≠ 2 → a' 0 = a 0)
theorem tkW_k (h : 0 ≤ tkW b n p) : tkK b n p = 1 := by
  unfold tkW at h
  by_cases cw : tkK b n p = 1
  · exact cw
  · rw [if_neg cw] at h; omega
theorem qtN_i {k hi : Int} {v : Int × qB} (pn : p ≤ n) (hW : qwf B a) (hw : tkW b n p = 0 ∨ tkW b n p = 1) (hk : (k = 2 ∧ hi = 16) ∨ (k = 3 ∧ hi = 30)) (h : qtN b n k o hi a p = .inr v) : qtI b n B p v.1 a v.2 := by
  have t1 := tk_lt (b := b) pn (by rw [tkW_k (by omega)]; decide)
  unfold qtN at h
  by_cases co : o = 0
  · rw [if_pos co] at h
    obtain ⟨⟨t, p'⟩, h1, h2⟩ := rb_i h
    have hi := rdNum_i h1
    have e := Sum.inr.inj h2
    subst e
    have t2 := tk_lt (b := b) (n := n) (p := tkE b n p) (by omega) (by omega)
    refine ⟨by show p < p'; omega, by show p' ≤ n; omega, ?_, fun c2 => by omega, fun _ => by show aSet a k t 0 = a 0; rw [aSet_ne (by omega)]⟩
    exact wf_set hW (k := k) (v := t) (by omega) (by omega) (fun _ => by omega) (fun _ => by omega) (fun _ => by omega) (fun _ => by omega) (fun _ => by omega)
  · rw [if_neg co] at h; cases h
theorem qtP_i {q : Int} {v : Int × qB} (qn : q ≤ n) (hB : 0 ≤ B) (hW : qwf B a) (h7 : a 0 < 7) (h : qtP b n a Y q = .inr v) : q < v.1 ∧ v.1 ≤ n ∧ qwf B v.2 ∧ v.2 0 = a 0 + 1 ∧ isNm b n q := by
  unfold qtP at h
  by_cases cn : isNm b n q
  · have t1 := tk_lt (b := b) qn (by rw [cn.1]; decide)
    rw [if_pos cn] at h
    by_cases cf : 0 ≤ fnd Y (a 0) (tkY b n q)
    · rw [if_pos cf] at h; cases h
    · rw [if_neg cf] at h
      obtain ⟨v1, v2, t, ht, ev⟩ := qtO_i t1.2 (by omega) h
      refine ⟨by omega, v2, ?_, ?_, cn⟩
      · rw [ev]; exact wf_come hW hB h7 ht.1 ht.2
      · rw [ev]; unfold aCome; rw [if_pos rfl]
  · rw [if_neg cn] at h; cases h
theorem two_i {q : Int} {f : Int × Int → Int × Int → Rs (Int × qB)} {v : Int × qB} (qn : q ≤ n) (m0 : 0 ≤ a 0) (h : rb (rdPer b n Y (a 0) q) (fun i => rb (rdPer b n Y (a 0) i.2) (fun j => f i j)) = .inr v) : ∃ i j p1 p2, (0 ≤ i ∧ i < a 0) ∧ (0 ≤ j ∧ j < a 0) ∧ q < p1 ∧ p1 < p2 ∧ p2 ≤ n ∧ f (i, p1) (j, p2) = .inr v := by
  obtain ⟨⟨i, p1⟩, h1, h2⟩ := rb_i h
  obtain ⟨⟨j, p2⟩, h3, h4⟩ := rb_i h2
  have i1 := rdPer_i m0 h1
  have i2 := rdPer_i m0 h3
  dsimp only at i2 h3
  have t1 := tk_lt (b := b) qn (by omega)
  have t2 := tk_lt (b := b) (n := n) (p := p1) (by omega) (by omega)
  exact ⟨i, j, p1, p2, by omega, by omega, by omega, by omega, by omega, h4⟩
theorem qtB_i {v : Int × qB} (pn : p ≤ n) (hB : 0 ≤ B) (hW : qwf B a) (h : qtB b n a Y o c p = .inr v) : qtI b n B p v.1 a v.2 := by
  have w0 := wf_n hW
  have w1 := wf_m hW
  unfold qtB at h
  by_cases c0 : tkW b n p = 0
  · rw [if_pos c0] at h; exact qtN_i pn hW (Or.inl c0) (Or.inl ⟨rfl, rfl⟩) h
  rw [if_neg c0] at h
  by_cases c1 : tkW b n p = 1
  · rw [if_pos c1] at h; exact qtN_i pn hW (Or.inr c1) (Or.inr ⟨rfl, rfl⟩) h
  rw [if_neg c1] at h
  by_cases c2 : tkW b n p = 2
  · rw [if_pos c2] at h
    have t1 := tk_lt (b := b) pn (by rw [tkW_k (by omega)]; decide)
    by_cases c7 : a 0 < 7
    · rw [if_pos c7] at h
      obtain ⟨i1, i2, i3, i4, i5⟩ := qtP_i t1.2 hB hW c7 h
      exact ⟨by omega, i2, i3, fun _ => ⟨i4, i5⟩, fun cn => absurd c2 cn⟩
    · rw [if_neg c7] at h; cases h
  rw [if_neg c2] at h
  have fin : p < v.1 → v.1 ≤ n → qwf B v.2 → v.2 0 = a 0 → qtI b n B p v.1 a v.2 := fun i1 i2 i3 i4 => ⟨i1, i2, i3, fun e => absurd e c2, fun _ => i4⟩
  by_cases c4 : tkW b n p = 4
  · rw [if_pos c4] at h
    have t1 := tk_lt (b := b) pn (by rw [tkW_k (by omega)]; decide)
    by_cases c10 : a 1 < 10
    · rw [if_pos c10] at h
      unfold qtS at h
      obtain ⟨i, j, p1, p2, hi, hj, l1, l2, l3, hh⟩ := two_i t1.2 w0.1 h
      dsimp only at hh
      by_cases ce : i = j ∨ qtE a i j
      · rw [if_pos ce] at hh; cases hh
      · rw [if_neg ce] at hh
        obtain ⟨v1, v2, t, ht, ev⟩ := qtO_i l3 (by omega) hh
        refine fin (by omega) v2 ?_ ?_
        · rw [ev]; exact wf_build hW c10 hi.1 hi.2 hj.1 hj.2 (fun e => ce (Or.inl e)) ht.1 ht.2
        · rw [ev]; unfold aBuild; rw [aSet_ne (by omega), aSet_ne (by omega), aSet_ne (by omega), aSet_ne (by omega)]
    · rw [if_neg c10] at h; cases h
  rw [if_neg c4] at h
  by_cases c6 : tkW b n p = 6
  · rw [if_pos c6] at h
    have t1 := tk_lt (b := b) pn (by rw [tkW_k (by omega)]; decide)
    unfold qtL at h
    obtain ⟨i, j, p1, p2, hi, hj, l1, l2, l3, hh⟩ := two_i t1.2 w0.1 h
    dsimp only at hh
    obtain ⟨⟨t, p3⟩, h1, h2⟩ := rb_i hh
    have ni := rdNum_i h1
    have t2 := tk_lt (b := b) l3 (by omega)
    have e := Sum.inr.inj h2
    subst e
    refine fin (by show p < p3; omega) (by show p3 ≤ n; omega) ?_ (by show aSet a (21 + 7 * i + j) t 0 = a 0; rw [aSet_ne (by omega)])
    exact wf_set hW (k := 21 + 7 * i + j) (v := t) (by omega) (by omega) (fun _ => by omega) (fun _ => by omega) (fun _ => by omega) (fun _ => by omega) (fun _ => by omega)
  rw [if_neg c6] at h
  by_cases c7 : tkW b n p = 7
  · rw [if_pos c7] at h
    have t1 := tk_lt (b := b) pn (by rw [tkW_k (by omega)]; decide)
    unfold qtV at h
    obtain ⟨i, j, p1, p2, hi, hj, l1, l2, l3, hh⟩ := two_i t1.2 w0.1 h
    dsimp only at hh
    by_cases ce : i = j
    · rw [if_pos ce] at hh; cases hh
    · rw [if_neg ce] at hh
      have e := Sum.inr.inj hh
      subst e
      exact fin (by show p < p2; omega) l3 (wf_swap hW hi.1 hi.2 hj.1 hj.2) (aSwap_ne (by omega) (by omega))
  rw [if_neg c7] at h
  cases h
theorem qtX_i {q : Int} {a' : qB} (pn : p ≤ n) (hB : 0 ≤ B) (hW : qwf B a) (h : qtX b n a Y o c p = .inr (q, a')) : qtI b n B p q a a' := by
  unfold qtX qtZ at h
  obtain ⟨v, h1, h2⟩ := rb_i h
  obtain ⟨q1, h3, h4⟩ := rb_i h2
  obtain ⟨i1, i2, i3⟩ := qtB_i pn hB hW h1
  have si := rdStop_i h3
  have t2 := tk_lt (b := b) i2 (by omega)
  have e := Sum.inr.inj h4
  have e1 := congrArg Prod.fst e
  have e2 := congrArg Prod.snd e
  dsimp only at e1 e2
  rw [← e2, ← e1]
  exact ⟨by omega, by omega, i3⟩
end Qi
noncomputable def qtRun (b : Int → Int) (n : Int) : Nat → Int → qB → (Int → Int) → (Int → Int) → Int → Int → Rs (qB × (Int → Int) × (Int → Int))
  | 0, _, _, _, _, _, _ => .inl (0, 0)
  | k + 1, p, a, X, Y, o, c => if tkK b n p = 0 then .inr (a, X, Y) else rb (qtX b n a Y o c p) (fun v => qtRun b n k v.1 v.2 (qtM (tkW b n p) (a 0) (tkX b n (tkE b n p)) X) (qtM (tkW b n p) (a 0) (tkY b n (tkE b n p)) Y) (qtT (tkW b n p) 0 o) (qtT (tkW b n p) 1 c))
section Qr
variable {d : Nat} {R : Option qV → qH → Prop} {h : qH} {b : Int → Int} {n B : Int}
theorem qtRun_end {k : Nat} {p o c : Int} {a : qB} {X Y : Int → Int} (h : tkK b n p = 0) : qtRun b n (k + 1) p a X Y o c = .inr (a, X, Y) := by
  unfold qtRun; rw [if_pos h]
theorem qtRun_l {k : Nat} {p o c : Int} {a : qB} {X Y : Int → Int} {e : Int × Int} (h : tkK b n p ≠ 0) (h1 : qtX b n a Y o c p = .inl e) : qtRun b n (k + 1) p a X Y o c = .inl e := by
  unfold qtRun; rw [if_neg h, rb_l h1]
theorem qtRun_r {k : Nat} {p o c q : Int} {a a' : qB} {X Y : Int → Int} (h : tkK b n p ≠ 0) (h1 : qtX b n a Y o c p = .inr (q, a')) : qtRun b n (k + 1) p a X Y o c = qtRun b n k q a' (qtM (tkW b n p) (a 0) (tkX b n (tkE b n p)) X) (qtM (tkW b n p) (a 0) (tkY b n (tkE b n p)) Y) (qtT (tkW b n p) 0 o) (qtT (tkW b n p) 1 c) := by
  rw [qtRun, if_neg h, rb_r h1]
theorem qtM_nm {p q : Int} {a a' : qB} {X Y : Int → Int} (pn : p ≤ n) (hW : qwf B a) (hi : qtI b n B p q a a') (hN : nmR X Y (a 0)) : nmR (qtM (tkW b n p) (a 0) (tkX b n (tkE b n p)) X) (qtM (tkW b n p) (a 0) (tkY b n (tkE b n p)) Y) (a' 0) := by
  intro j j0 j1
  unfold qtM
  by_cases c2 : tkW b n p = 2
  · have i := hi.2.2.2.1 c2
    by_cases cj : j = a 0
    · rw [if_pos ⟨c2, cj⟩, if_pos ⟨c2, cj⟩]
      have hE := tkE_b (b := b) pn
      exact ⟨_, tk_nm (by omega) i.2.1 i.2.2.2⟩
    · rw [if_neg (fun e => cj e.2), if_neg (fun e => cj e.2)]
      exact hN j j0 (by omega)
  · have i := hi.2.2.2.2 c2
    rw [if_neg (fun e => c2 e.1), if_neg (fun e => c2 e.1)]
    exact hN j j0 (by omega)
theorem qtRun_i (hB : 0 ≤ B) : ∀ (k : Nat) {p o c : Int} {a a' : qB} {X Y X' Y' : Int → Int}, p ≤ n → qwf B a → nmR X Y (a 0) → qtRun b n k p a X Y o c = .inr (a', X', Y') → qwf B a' ∧ nmR X' Y' (a' 0) := by
  intro k
  induction k with
  | zero => intro p o c a a' X Y X' Y' pn hW hN h; cases h
  | succ k ih =>
    intro p o c a a' X Y X' Y' pn hW hN h
    by_cases c0 : tkK b n p = 0
    · rw [qtRun_end c0] at h
      have e := Sum.inr.inj h
      have e1 : a = a' := congrArg Prod.fst e
      have e2 : X = X' := congrArg (fun z => z.2.1) e
      have e3 : Y = Y' := congrArg (fun z => z.2.2) e
      rw [← e1, ← e2, ← e3]
      exact ⟨hW, hN⟩
    · cases hq : qtX b n a Y o c p with
      | inl e => rw [qtRun_l c0 hq] at h; cases h
      | inr v =>
        obtain ⟨q, a1⟩ := v
        rw [qtRun_r c0 hq] at h
        have hi := qtX_i pn hB hW hq
        exact ih hi.2.1 hi.2.2.1 (qtM_nm pn hW hi hN) h
theorem x_readPart {p o c : Int} {a : qB} {X Y : Int → Int} (hc : tqC h b n a X o c) (hk : tkC h b n p) (h4 : tkK b n p ≠ 4) (pn : 0 ≤ p ∧ p ≤ n) (hW : qwf B a) (hN : nmR X Y (a 0)) (he : ∀ e, qtX b n a Y o c p = .inl e → ∀ h', fr PQr h h' → fC h' e → R (some (qi 0)) h') (hx : ∀ q a', qtX b n a Y o c p = .inr (q, a') → ∀ h', fr PQr h h' → h' 9 0 3 0 = q → tqC h' b n a' (qtM (tkW b n p) (a 0) (tkX b n (tkE b n p)) X) (qtT (tkW b n p) 0 o) (qtT (tkW b n p) 1 c) → R (some (qi 1)) h') : qT (d + 5) 80 0 [qo 8 0, qo 9 0, qo 7 1] [] h R := by
  obtain ⟨w, hw⟩ : ∃ w, tkW b n p = w := ⟨_, rfl⟩
  unfold qtX qtB at he hx
  rw [hw] at he hx
  refine sX8_readPart_0 ?_
  rw [hk.2.2.2.2.1, hw]
  have bad : w ≠ 0 → w ≠ 1 → w ≠ 2 → w ≠ 4 → w ≠ 6 → w ≠ 7 → qT (d + 4) 89 0 [qo 9 0, qi 2] [] h (fun w g => qri w fun r => (r = 0 ∨ r = 1) ∧ R (some (qi r)) g) := fun n0 n1 n2 n4 n6 n7 => by
    rw [if_neg n0, if_neg n1, if_neg n2, if_neg n4, if_neg n6, if_neg n7, amF_2 h4] at he
    exact x_qFail hk.1 rfl he
  have ts : ∀ k, w ≠ k → ∀ x, qtT w k x = x := fun k hk x => if_neg hk
  refine ⟨fun e0 => ?_, fun n0 => ⟨fun e1 => ?_, fun n1 => ⟨fun e2 => ?_, fun n2 => ⟨fun e3 => bad (by omega) (by omega) (by omega) (by omega) (by omega) (by omega), fun n3 => ⟨fun e4 => ?_, fun n4 => ⟨fun e5 => bad (by omega) (by omega) (by omega) (by omega) (by omega) (by omega), fun n5 => ⟨fun e6 => ?_, fun n6 => ⟨fun e7 => ?_, fun n7 => bad (by omega) (by omega) (by omega) (by omega) (by omega) (by omega)⟩⟩⟩⟩⟩⟩⟩⟩
  · rw [if_pos e0] at he hx
    rw [qtM_ne (by omega), ts 1 (by omega), show qtT w 0 o = 1 from if_pos e0] at hx
    exact x_readOdds hc hk pn (fun e h1 h' f' F' => ⟨by omega, he e h1 h' f' F'⟩) (fun q a' h1 h' f' k3 k => ⟨by omega, hx q a' h1 h' f' k3 k⟩)
  · rw [if_neg n0, if_pos e1] at he hx
    rw [qtM_ne (by omega), ts 0 (by omega), show qtT w 1 c = 1 from if_pos e1] at hx
    exact x_readCool hc hk pn (fun e h1 h' f' F' => ⟨by omega, he e h1 h' f' F'⟩) (fun q a' h1 h' f' k3 k => ⟨by omega, hx q a' h1 h' f' k3 k⟩)
  · rw [if_neg n0, if_neg n1, if_pos e2] at he hx
    rw [ts 0 (by omega), ts 1 (by omega), e2] at hx
    exact x_readPerson hc hk pn hW hN rfl (fun e h1 h' f' F' => ⟨by omega, he e h1 h' f' F'⟩) (fun q a' h1 h' f' k3 k => ⟨by omega, hx q a' h1 h' f' k3 k⟩)
  · rw [if_neg n0, if_neg n1, if_neg n2, if_pos e4] at he hx
    rw [qtM_ne (by omega), ts 0 (by omega), ts 1 (by omega)] at hx
    exact x_readStair hc hk pn hW hN rfl (fun e h1 h' f' F' => ⟨by omega, he e h1 h' f' F'⟩) (fun q a' h1 h' f' k3 k => ⟨by omega, hx q a' h1 h' f' k3 k⟩)
  · rw [if_neg n0, if_neg n1, if_neg n2, if_neg n4, if_pos e6] at he hx
    rw [qtM_ne (by omega), ts 0 (by omega), ts 1 (by omega)] at hx
    exact x_readLike hc hk pn hW hN rfl (fun e h1 h' f' F' => ⟨by omega, he e h1 h' f' F'⟩) (fun q a' h1 h' f' k3 k => ⟨by omega, hx q a' h1 h' f' k3 k⟩)
  · rw [if_neg n0, if_neg n1, if_neg n2, if_neg n4, if_neg n6, if_pos e7] at he hx
    rw [qtM_ne (by omega), ts 0 (by omega), ts 1 (by omega)] at hx
    exact x_readSwap hc hk pn hW hN rfl (fun e h1 h' f' F' => ⟨by omega, he e h1 h' f' F'⟩) (fun q a' h1 h' f' k3 k => ⟨by omega, hx q a' h1 h' f' k3 k⟩)
theorem x_readLoop (hB : 0 ≤ B) : ∀ (k : Nat) {h : qH} {x p o c : Int} {a : qB} {X Y : Int → Int}, tqC h b n a X o c → h 9 0 3 0 = p → (0 ≤ x ∧ x ≤ p ∧ p ≤ n) → n - p < k → qwf B a → nmR X Y (a 0) → (∀ e, qtRun b n k p a X Y o c = .inl e → ∀ h', fr PQr h h' → fC h' e → R (some (qi 0)) h') → (∀ a' X' Y', qtRun b n k p a X Y o c = .inr (a', X', Y') → ∀ h', fr PQr h h' → qQX h' 1 a' → (∀ j, 0 ≤ j → j < a' 0 → h' 7 1 0 (Int.toNat j) = X' j) → R (some (qi 1)) h') → qT (d + 6) 79 16 [qo 8 0, qo 9 0, qo 7 1, qi x] [] h R := by
  intro k
  induction k with
  | zero => intro h x p o c a X Y hc h3 hp hk; omega
  | succ k ih =>
    intro h x p o c a X Y hc h3 hp hk hW hN he hx
    have n9 := hc.1.1
    refine sX8_readText_16 ⟨fun c9 => absurd c9 (by omega), fun _ => ?_⟩
    refine x_take hc.1 h3 (by omega) hp.2.2 (fun h4 g hf hk => ⟨fun _ => ?_, fun c2 => absurd (by decide) c2⟩) (fun h4 g hf k1 k2 => ⟨fun c2 => absurd rfl c2, fun _ => ⟨by omega, ?_⟩⟩)
    · have hc1 := tqC_fr hc hf
      rw [hk.2.1]
      refine ⟨fun c0 => ?_, fun c0 => ⟨by omega, hx a X Y (qtRun_end (Decidable.not_not.mp c0)) g (PTp_q hf) hc1.2.1 hc1.2.2.1⟩⟩
      refine x_readPart hc1 hk h4 ⟨by omega, hp.2.2⟩ hW hN (fun e h1 g2 f2 F2 => ⟨fun c2 => absurd rfl c2, fun _ => ⟨by omega, he e (qtRun_l c0 h1) g2 (fr_trans (PTp_q hf) f2) F2⟩⟩) (fun q a' h1 g2 f2 k3 hc2 => ⟨fun _ => ⟨qR_of (by omega) (by omega), ?_⟩, fun c2 => absurd (by decide) c2⟩)
      have hi := qtX_i hp.2.2 hB hW h1
      have i1 := hi.1
      have i2 := hi.2.1
      exact ih hc2 k3 (by omega) (by omega) hi.2.2.1 (qtM_nm hp.2.2 hW hi hN) (fun e h2 h' f' F' => he e (by rw [qtRun_r c0 h1]; exact h2) h' (fr_trans (PTp_q hf) (fr_trans f2 f')) F') (fun a2 X2 Y2 h2 h' f' => hx a2 X2 Y2 (by rw [qtRun_r c0 h1]; exact h2) h' (fr_trans (PTp_q hf) (fr_trans f2 f')))
    · have ew : tkW b n p = -1 := by unfold tkW; rw [if_neg (by omega)]
      have e1 : qtX b n a Y o c p = .inl (amF b n p) := by
        unfold qtX qtB
        rw [ew]
        exact qtZ_l rfl
      exact he _ (qtRun_l (by omega) e1) g (PTp_q hf) (by rw [amF_4 h4]; exact ⟨k1, k2⟩)
noncomputable def qtAll (b : Int → Int) (n : Int) : Rs (qB × (Int → Int) × (Int → Int)) := qtRun b n 901 0 aEmpty (fun _ => 0) (fun _ => 0) 0 0
theorem nmR_0 {X Y : Int → Int} : nmR X Y (aEmpty 0) := fun j j0 j1 => absurd j1 (by unfold aEmpty; omega)
theorem qtAll_i (hB : 0 ≤ B) (n0 : 0 ≤ n) {a : qB} {X Y : Int → Int} (h : qtAll b n = .inr (a, X, Y)) : qwf B a ∧ nmR X Y (a 0) := qtRun_i hB 901 n0 (wf_empty hB) nmR_0 h
theorem x_readText (ht : txC h b n) (h3 : h 9 0 3 0 = 0) (he : ∀ e, qtAll b n = .inl e → ∀ h', fr PQr h h' → fC h' e → R (some (qi 0)) h') (hx : ∀ a X Y, qtAll b n = .inr (a, X, Y) → ∀ h', fr PQr h h' → qQX h' 1 a → (∀ j, 0 ≤ j → j < a 0 → h' 7 1 0 (Int.toNat j) = X j) → R (some (qi 1)) h') : qT (d + 6) 79 0 [qo 8 0, qo 9 0, qo 7 1, qu] [] h R := by
  have n9 := ht.1
  refine sX8_readText_0 (x_clear (fun g hQ hf => ⟨by omega, by omega, ?_⟩))
  have f1 : fr PQr h (qup (qup g 8 0 0 0 0) 8 0 1 0 0) := fr_trans (fr_f7 hf (fun j _ => by omega)) (fr_trans (fr_up (by omega)) (fr_up (by omega)))
  refine x_readLoop (B := 0) (b := b) (n := n) (Y := fun _ => 0) (by omega) 901 (p := 0) (o := 0) (c := 0) (a := aEmpty) (X := fun _ => 0) ⟨txC_q ht f1, qx_fr hQ (funext fun j => by rw [up_j (by omega), up_j (by omega)]), fun j j0 j1 => absurd j1 (by unfold aEmpty; omega), by rw [up_j (by omega)]; exact up_at, up_at⟩ (by rw [up_j (by omega), up_j (by omega), hf.1 9 0 (by omega)]; exact h3) (by omega) (by omega) (wf_empty (by omega)) nmR_0 (fun e h1 h' f' F' => he e h1 h' (fr_trans f1 f') F') (fun a X Y h1 h' f' => hx a X Y h1 h' (fr_trans f1 f'))
end Qr
