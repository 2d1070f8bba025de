/-! the Model's side -/
/-- the Model's block that begins at o holds a -/
def qM (h : qH) (o : Int) (a : qB) : Prop := ∀ x, 0 ≤ x → x < 100 → h 12 0 20 (Int.toNat (o + x)) = a x
/-- nothing of the Model's but its cells, and these between o and o + 100 alone -/
def qfM (o : Int) (h h' : qH) : Prop := (∀ c i, c ≠ 12 → h' c i = h c i) ∧ (∀ j, j ≠ 20 → h' 12 0 j = h 12 0 j) ∧ (∀ y : Int, 0 ≤ y → (y < o ∨ o + 100 ≤ y) → h' 12 0 20 (Int.toNat y) = h 12 0 20 (Int.toNat y))
theorem qfM_rfl {o : Int} {h : qH} : qfM o h h := ⟨fun _ _ _ => rfl, fun _ _ => rfl, fun _ _ _ => rfl⟩
theorem qfM_trans {o : Int} {h h' h'' : qH} (h1 : qfM o h h') (h2 : qfM o h' h'') : qfM o h h'' :=
  ⟨fun c i n => (h2.1 c i n).trans (h1.1 c i n), fun j n => (h2.2.1 j n).trans (h1.2.1 j n), fun y y0 n => (h2.2.2 y y0 n).trans (h1.2.2 y y0 n)⟩
theorem qfM_up {o y v : Int} {h : qH} (h0 : 0 ≤ o) (h1 : o ≤ y) (h2 : y < o + 100) : qfM o h (qup h 12 0 20 (Int.toNat y) v) := by
  refine ⟨fun c i n => ?_, fun j n => ?_, fun z z0 n => ?_⟩
  · funext j k; exact if_neg (fun e => n e.2.1)
  · funext k; exact if_neg (fun e => n e.1)
  · exact if_neg (fun e => by have := e.2.2.1; omega)
section M1
variable {d : Nat} {R : Option qV → qH → Prop} {h : qH} {a : qB} {B o : Int}
theorem m_at (hM : qM h o a) {x y : Int} (e : y = o + x) (x0 : 0 ≤ x) (x1 : x < 100) : h 12 0 20 (Int.toNat y) = a x := by rw [e]; exact hM x x0 x1
theorem m_0 (hM : qM h 0 a) {x : Int} (x0 : 0 ≤ x) (x1 : x < 100) : h 12 0 20 (Int.toNat x) = a x := m_at hM (by omega) x0 x1
theorem m_put (hM : qM h o a) (o0 : 0 ≤ o) {k y v : Int} (e : y = o + k) (k0 : 0 ≤ k) (k1 : k < 100) : qM (qup h 12 0 20 (Int.toNat y) v) o (aSet a k v) := by
  intro x x0 x1
  show (if 20 = 20 ∧ 12 = 12 ∧ Int.toNat (o + x) = Int.toNat y ∧ 0 = 0 then v else h 12 0 20 (Int.toNat (o + x))) = _
  by_cases hk : x = k
  · rw [if_pos ⟨rfl, rfl, by rw [hk, e], rfl⟩, aSet_eq hk]
  · rw [if_neg (fun q => by have := q.2.2.1; omega), aSet_ne hk]
    exact hM x x0 x1
theorem m_fr (hM : qM h o a) {h' : qH} (e : h' 12 0 20 = h 12 0 20) : qM h' o a := by
  intro x x0 x1
  rw [e]
  exact hM x x0 x1
theorem m_isIn {x y z : Int} (h1 : y ≤ x → x ≤ z → R (some (qi 1)) h) (h0 : ¬ (y ≤ x ∧ x ≤ z) → R (some (qi 0)) h) : qT (d + 1) 177 0 [ql x, qu, ql y, qu, ql z, qu] [] h R := by
  refine sX12_isIn_0 ?_
  rw [qlcmp_lt, qlcmp_gt]
  repeat' (first | exact h1 (by omega) (by omega) | exact h0 (by omega) | assumption | (refine qR_of ?_ ?_ <;> omega) | omega | apply And.intro | intro _)
theorem m_isPersonAt (hM : qM h 0 a) (hW : qwf B a) {p : Int} (h1 : 0 ≤ p → p < a 0 → R (some (qi 1)) h) (h0 : ¬ (0 ≤ p ∧ p < a 0) → R (some (qi 0)) h) : qT (d + 2) 239 0 [qo 12 0, qi p] [] h R := by
  have hn := wf_n hW
  refine sX12_isPersonAt_0 ?_
  rw [m_0 hM (by omega) (by omega)]
  exact ⟨by omega, qR_of (by omega) (by omega), m_isIn (fun _ _ => ⟨by omega, h1 (by omega) (by omega)⟩) (fun _ => ⟨by omega, h0 (by omega)⟩)⟩
theorem m_isStairAt (hM : qM h 0 a) (hW : qwf B a) {p : Int} (h1 : 0 ≤ p → p < a 1 → R (some (qi 1)) h) (h0 : ¬ (0 ≤ p ∧ p < a 1) → R (some (qi 0)) h) : qT (d + 2) 240 0 [qo 12 0, qi p] [] h R := by
  have hn := wf_m hW
  refine sX12_isStairAt_0 ?_
  rw [m_0 hM (by omega) (by omega)]
  exact ⟨by omega, qR_of (by omega) (by omega), m_isIn (fun _ _ => ⟨by omega, h1 (by omega) (by omega)⟩) (fun _ => ⟨by omega, h0 (by omega)⟩)⟩
theorem m_likeOf (hM : qM h 0 a) (hW : qwf B a) {p q : Int} (h0 : 0 ≤ p) (hp : p < a 0) (h1 : 0 ≤ q) (hq : q < a 0) (hR : R (some (qi (aLike a p q))) h) : qT (d + 1) 241 0 [qo 12 0, qi p, qi q] [] h R := by
  have hn := wf_n hW
  refine sX12_likeOf_0 ?_
  rw [m_0 hM (by omega) (by omega)]
  repeat' (first | assumption | (refine qR_of ?_ ?_ <;> omega) | omega | apply And.intro | intro _)
theorem m_likeNow (hM : qM h 0 a) (hW : qwf B a) {p : Int} (h0 : 0 ≤ p) (hp : p < a 0) (hR : R (some (qi (aLike a p (a (14 + p))))) h) : qT (d + 2) 242 0 [qo 12 0, qi p] [] h R := by
  have hn := wf_n hW
  have hl := wf_live hW h0 hp
  refine sX12_likeNow_0 ?_
  rw [m_0 hM (by omega) (by omega)]
  exact ⟨qR_of (by omega) (by omega), by omega, m_likeOf hM hW h0 hp (by omega) (by omega) hR⟩
theorem m_home (hM : qM h 0 a) (hW : qwf B a) (hR : R (some (qi (aHome a (a 0)))) h) : qT (d + 1) 243 0 [qo 12 0, qu, qu] [] h R := by
  have hn := wf_n hW
  refine sX12_home_0 ?_
  refine q_up (n := a 0) (C := fun x => x ≤ a 0 → ∀ s, s = aHome a x → qR s → qT (d + 1) 243 4 [qo 12 0, qi s, qi x] [] h R) ?_ 0 (by omega) (by omega) 0 rfl (qR_of (by omega) (by omega))
  intro x hx ih hxn s hs hr
  refine sX12_home_4 ?_
  rw [m_0 hM (by omega) (by omega)]
  refine ⟨by omega, fun c => ?_, fun c => ?_⟩
  · rwa [hs, show x = a 0 by omega]
  · rw [m_0 hM (by omega) (by omega)]
    refine ⟨qR_of (by omega) (by omega), by omega, fun c2 => ⟨qR_of (by omega) (by omega), ih (by omega) (by omega) _ ?_ (qR_qor _ _)⟩, fun c2 => ⟨qR_of (by omega) (by omega), ih (by omega) (by omega) _ ?_ (qR_qor _ _)⟩⟩
    · rw [qor_0 hr, hs]; unfold aHome; rw [qfold_s hx, if_neg c2]
    · rw [hs]; unfold aHome; rw [qfold_s hx, if_pos (by omega)]
theorem m_sum (hM : qM h 0 a) {k n : Int} (k0 : 0 ≤ k) (n0 : 0 ≤ n) (hk : k + n ≤ 100) (hb : ∀ x, 0 ≤ x → x < n → 0 ≤ a (k + x) ∧ a (k + x) ≤ 9) (hR : R (some (qi (aSum a k n))) h) : qT (d + 1) 245 0 [qo 12 0, qi k, qi n, qu, qu] [] h R := by
  refine sX12_sum_0 ?_
  refine q_up (n := n) (C := fun x => x ≤ n → ∀ s, s = aSum a k x → 0 ≤ s ∧ s ≤ 9 * x → qT (d + 1) 245 5 [qo 12 0, qi k, qi n, qi s, qi x] [] h R) ?_ 0 (by omega) (by omega) 0 rfl (by omega)
  intro x hx ih hxn s hs hb2
  refine sX12_sum_5 ⟨fun c => ?_, fun c => ?_⟩
  · rwa [hs, show x = n by omega]
  · have := hb x hx (by omega)
    rw [m_0 hM (by omega) (by omega)]
    exact ⟨qR_of (by omega) (by omega), by omega, qR_of (by omega) (by omega), qR_of (by omega) (by omega), ih (by omega) (by omega) _ (by rw [hs]; unfold aSum; rw [qfold_s hx]) (by omega)⟩
theorem m_whoIn (hM : qM h 0 a) (hW : qwf B a) {p : Int} (hR : ∀ r, qfst (fun y => a (14 + y) = p) (a 0) r → R (some (qi r)) h) : qT (d + 1) 247 0 [qo 12 0, qi p, qu] [] h R := by
  have hn := wf_n hW
  refine sX12_whoIn_0 ?_
  refine q_up (n := a 0) (C := fun x => x ≤ a 0 → (∀ y, 0 ≤ y → y < x → a (14 + y) ≠ p) → qT (d + 1) 247 2 [qo 12 0, qi p, qi x] [] h R) ?_ 0 (by omega) (by omega) (fun y _ _ => absurd (by omega : y < 0) (by omega))
  intro x hx ih hxn hy
  refine sX12_whoIn_2 ?_
  rw [m_0 hM (by omega) (by omega)]
  refine ⟨by omega, fun c => ?_, fun c => ?_⟩
  · exact hR _ (Or.inr ⟨rfl, fun y y0 y1 => hy y y0 (by omega)⟩)
  · rw [m_0 hM (by omega) (by omega)]
    refine ⟨qR_of (by omega) (by omega), by omega, fun c2 => ⟨qR_of (by omega) (by omega), ih (by omega) (by omega) (fun y y0 y1 => ?_)⟩, fun c2 => hR _ (Or.inl ⟨hx, by omega, by omega, hy⟩)⟩
    by_cases e : y = x
    · rw [e]; exact c2
    · exact hy y y0 (by omega)
theorem m_stairsOf (hM : qM h 0 a) (hW : qwf B a) {p : Int} (hR : R (some (qi (aStairs a p (a 1)))) h) : qT (d + 1) 248 0 [qo 12 0, qi p, qu, qu] [] h R := by
  have hn := wf_m hW
  refine sX12_stairsOf_0 ?_
  refine q_up (n := a 1) (C := fun x => x ≤ a 1 → ∀ s, s = aStairs a p x → qR s → qT (d + 1) 248 4 [qo 12 0, qi p, qi s, qi x] [] h R) ?_ 0 (by omega) (by omega) 0 rfl (qR_of (by omega) (by omega))
  intro x hx ih hxn s hs hr
  refine sX12_stairsOf_4 ?_
  rw [m_0 hM (by omega) (by omega)]
  refine ⟨by omega, fun c => ?_, fun c => ?_⟩
  · rwa [hs, show x = a 1 by omega]
  · rw [m_0 hM (by omega : 0 ≤ 70 + x) (by omega), m_0 hM (by omega : 0 ≤ 80 + x) (by omega)]
    have eq1 : (a (70 + x) = p ∨ a (80 + x) = p) → qor s (qshl 1 x) = aStairs a p (x + 1) := fun c => by rw [hs]; unfold aStairs; rw [qfold_s hx, if_pos c]
    have eq0 : ¬ (a (70 + x) = p ∨ a (80 + x) = p) → qor s 0 = aStairs a p (x + 1) := fun c => by rw [qor_0 hr, hs]; unfold aStairs; rw [qfold_s hx, if_neg c]
    exact ⟨qR_of (by omega) (by omega), by omega, fun c2 => ⟨qR_of (by omega) (by omega), ih (by omega) (by omega) _ (eq1 (Or.inl c2)) (qR_qor _ _)⟩, fun c2 => ⟨qR_of (by omega) (by omega), by omega, fun c3 => ⟨qR_of (by omega) (by omega), ih (by omega) (by omega) _ (eq0 (by omega)) (qR_qor _ _)⟩, fun c3 => ⟨qR_of (by omega) (by omega), ih (by omega) (by omega) _ (eq1 (by omega)) (qR_qor _ _)⟩⟩⟩
theorem m_heat (hM : qM h 0 a) (hW : qwf B a) {s : Int} (hs : 0 ≤ s) (hsm : s < a 1) (hR : R (some (qi (aHeat a s))) h) : qT (d + 1) 250 0 [qo 12 0, qi s] [] h R := by
  have hm := wf_m hW
  have hn := wf_n hW
  have h3 := wf_st hW hs hsm
  have h1 := wf_temp hW h3.1.1 h3.1.2
  have h2 := wf_temp hW h3.2.1.1 h3.2.1.2
  refine sX12_heat_0 ?_
  rw [m_0 hM (by omega : 0 ≤ 70 + s) (by omega), m_0 hM (by omega : 0 ≤ 80 + s) (by omega), m_0 hM (by omega : 0 ≤ 90 + s) (by omega), m_0 hM (by omega : 0 ≤ 7 + a (70 + s)) (by omega), m_0 hM (by omega : 0 ≤ 7 + a (80 + s)) (by omega)]
  repeat' (first | assumption | (refine qR_of ?_ ?_ <;> omega) | omega | apply And.intro | intro _)
theorem m_canQuarrel (hM : qM h 0 a) (hW : qwf B a) {s : Int} (hs : 0 ≤ s) (hsm : s < a 1) (h1 : aMayQ a s → R (some (qi 1)) h) (h0 : ¬ aMayQ a s → R (some (qi 0)) h) : qT (d + 2) 251 0 [qo 12 0, qi s] [] h R := by
  have hm := wf_m hW
  unfold aMayQ at h1 h0
  refine sX12_canQuarrel_0 (m_heat hM hW hs hsm ?_)
  dsimp only [qri]
  rw [m_0 hM (by omega : (0 : Int) ≤ 3) (by omega), m_0 hM (by omega : 0 ≤ 90 + s) (by omega)]
  repeat' (first | exact h1 (by omega) | exact h0 (by omega) | assumption | (refine qR_of ?_ ?_ <;> omega) | omega | apply And.intro | intro _)
theorem m_canMake (hM : qM h 0 a) (hW : qwf B a) {s : Int} (hs : 0 ≤ s) (hsm : s < a 1) (h1 : aMayM a s → R (some (qi 1)) h) (h0 : ¬ aMayM a s → R (some (qi 0)) h) : qT (d + 3) 252 0 [qo 12 0, qi s, qu, qu] [] h R := by
  have hm := wf_m hW
  have hn := wf_n hW
  have h3 := wf_st hW hs hsm
  have l1 := wf_live hW h3.1.1 h3.1.2
  have l2 := wf_live hW h3.2.1.1 h3.2.1.2
  unfold aMayM at h1 h0
  refine sX12_canMake_0 ?_
  rw [m_0 hM (by omega : 0 ≤ 70 + s) (by omega), m_0 hM (by omega : 0 ≤ 80 + s) (by omega), m_0 hM (by omega : 0 ≤ 90 + s) (by omega), m_0 hM (by omega : 0 ≤ 14 + a (80 + s)) (by omega)]
  refine ⟨qR_of (by omega) (by omega), by omega, qR_of (by omega) (by omega), by omega, qR_of (by omega) (by omega), by omega, fun c => ⟨by omega, h0 (by omega)⟩, fun c => ⟨qR_of (by omega) (by omega), by omega, m_likeOf hM hW (by omega) (by omega) (by omega) (by omega) (m_likeNow hM hW (by omega) (by omega) ⟨fun c => ⟨by omega, h0 (by omega)⟩, fun c => ⟨qR_of (by omega) (by omega), by omega, ?_⟩⟩)⟩⟩
  rw [m_0 hM (by omega : 0 ≤ 14 + a (70 + s)) (by omega)]
  exact m_likeOf hM hW (by omega) (by omega) (by omega) (by omega) (m_likeNow hM hW (by omega) (by omega) ⟨fun c => ⟨by omega, h0 (by omega)⟩, fun c => ⟨by omega, h1 (by omega)⟩⟩)
theorem m_swaps (hM : qM h o a) (o0 : 0 ≤ o) (o1 : o ≤ 1488) {p q : Int} (h0 : 0 ≤ p) (hp : p < 7) (h1 : 0 ≤ q) (hq : q < 7) (hR : ∀ h', qM h' o (aSwap a p q) → qfM o h h' → R none h') : qT (d + 1) 232 0 [qo 12 0, qi o, qi p, qi q, qu] [] h R := by
  refine sX12_swaps_0 ?_
  rw [m_at hM (by omega : o + 14 + p = o + (14 + p)) (by omega) (by omega), m_at hM (by omega : o + 14 + q = o + (14 + q)) (by omega) (by omega)]
  refine ⟨qR_of (by omega) (by omega), qR_of (by omega) (by omega), by omega, qR_of (by omega) (by omega), qR_of (by omega) (by omega), qR_of (by omega) (by omega), qR_of (by omega) (by omega), by omega, by omega, qR_of (by omega) (by omega), qR_of (by omega) (by omega), by omega, hR _ ?_ ?_⟩
  · exact m_put (m_put hM o0 (by omega) (by omega) (by omega)) o0 (by omega) (by omega) (by omega)
  · exact qfM_trans (qfM_up o0 (by omega) (by omega)) (qfM_up o0 (by omega) (by omega))
theorem m_swapsOn (hM : qM h 0 a) (hW : qwf B a) {s : Int} (hs : 0 ≤ s) (hsm : s < a 1) (hR : ∀ h', qM h' 0 (aSwap a (a (70 + s)) (a (80 + s))) → qfM 0 h h' → R none h') : qT (d + 2) 256 0 [qo 12 0, qi s] [] h R := by
  have hm := wf_m hW
  have hn := wf_n hW
  have h3 := wf_st hW hs hsm
  refine sX12_swapsOn_0 ?_
  rw [m_0 hM (by omega : 0 ≤ 70 + s) (by omega), m_0 hM (by omega : 0 ≤ 80 + s) (by omega)]
  exact ⟨qR_of (by omega) (by omega), by omega, qR_of (by omega) (by omega), by omega, m_swaps hM (by omega) (by omega) (by omega) (by omega) (by omega) (by omega) hR⟩
theorem aSwap_ne {p q x : Int} (h1 : x ≠ 14 + p) (h2 : x ≠ 14 + q) : aSwap a p q x = a x := by unfold aSwap; rw [aSet_ne h2, aSet_ne h1]
theorem m_quarrels (hM : qM h 0 a) (hW : qwf B a) (hB : B < 2000000000) {s : Int} (hs : 0 ≤ s) (hsm : s < a 1) (h1 : aMayQ a s → ∀ h', qM h' 0 (aQuar a s) → qfM 0 h h' → R (some (qi 1)) h') (h0 : ¬ aMayQ a s → R (some (qi 0)) h) : qT (d + 3) 257 0 [qo 12 0, qi s] [] h R := by
  have hm := wf_m hW
  have hn := wf_n hW
  have h3 := wf_st hW hs hsm
  have h5 := wf_quar hW
  refine sX12_quarrels_0 (m_canQuarrel hM hW hs hsm (fun hq => ⟨fun _ => m_swapsOn hM hW hs hsm (fun h' hM' hf => ?_), fun c => absurd (by decide) c⟩) (fun hq => ⟨fun c => absurd rfl c, fun _ => ⟨by omega, h0 hq⟩⟩))
  dsimp only [qrv]
  have hM2 := m_put (v := h' 12 0 20 (Int.toNat (90 + s)) + 1) hM' (by omega) (by omega : 90 + s = 0 + (90 + s)) (by omega) (by omega)
  rw [m_0 hM2 (by omega : (0 : Int) ≤ 5) (by omega), m_0 hM' (by omega : 0 ≤ 90 + s) (by omega), aSet_ne (by omega), aSwap_ne (by omega) (by omega), aSwap_ne (by omega) (by omega)]
  rw [m_0 hM' (by omega : 0 ≤ 90 + s) (by omega), aSwap_ne (by omega) (by omega)] at hM2
  exact ⟨qR_of (by omega) (by omega), by omega, qR_of (by omega) (by omega), by omega, by omega, qR_of (by omega) (by omega), by omega, by omega, h1 hq _ (m_put hM2 (by omega) (by omega) (by omega) (by omega)) (qfM_trans hf (qfM_trans (qfM_up (by omega) (by omega) (by omega)) (qfM_up (by omega) (by omega) (by omega))))⟩
theorem m_makes (hM : qM h 0 a) (hW : qwf B a) (hB : B < 2000000000) {s : Int} (hs : 0 ≤ s) (hsm : s < a 1) (h1 : aMayM a s → ∀ h', qM h' 0 (aMake a s) → qfM 0 h h' → R (some (qi 1)) h') (h0 : ¬ aMayM a s → R (some (qi 0)) h) : qT (d + 4) 259 0 [qo 12 0, qi s] [] h R := by
  have hm := wf_m hW
  have hn := wf_n hW
  have h3 := wf_st hW hs hsm
  have h5 := wf_made hW
  refine sX12_makes_0 (m_canMake hM hW hs hsm (fun hq => ⟨fun _ => m_swapsOn hM hW hs hsm (fun h' hM' hf => ?_), fun c => absurd (by decide) c⟩) (fun hq => ⟨fun c => absurd rfl c, fun _ => ⟨by omega, h0 hq⟩⟩))
  dsimp only [qrv]
  have hM2 := m_put (v := h' 12 0 20 (Int.toNat (90 + s)) - 1) hM' (by omega) (by omega : 90 + s = 0 + (90 + s)) (by omega) (by omega)
  rw [m_0 hM2 (by omega : (0 : Int) ≤ 6) (by omega), m_0 hM' (by omega : 0 ≤ 90 + s) (by omega), aSet_ne (by omega), aSwap_ne (by omega) (by omega), aSwap_ne (by omega) (by omega)]
  rw [m_0 hM' (by omega : 0 ≤ 90 + s) (by omega), aSwap_ne (by omega) (by omega)] at hM2
  exact ⟨qR_of (by omega) (by omega), by omega, qR_of (by omega) (by omega), by omega, by omega, qR_of (by omega) (by omega), by omega, by omega, h1 hq _ (m_put hM2 (by omega) (by omega) (by omega) (by omega)) (qfM_trans hf (qfM_trans (qfM_up (by omega) (by omega) (by omega)) (qfM_up (by omega) (by omega) (by omega))))⟩
theorem m_votes (hM : qM h 0 a) (hW : qwf B a) {p q : Int} (p0 : 0 ≤ p) (hp : p < a 0) (q0 : 0 ≤ q) (hq : q < a 0) (hR : R (some (qi (aVotes a p q (a 0)))) h) : qT (d + 2) 305 0 [qo 12 0, qi p, qi q, qu, qu] [] h R := by
  have hn := wf_n hW
  refine sX12_votes_0 ?_
  refine q_up (n := a 0) (C := fun x => x ≤ a 0 → ∀ s, s = aVotes a p q x → 0 ≤ s ∧ s ≤ x → qT (d + 2) 305 5 [qo 12 0, qi p, qi q, qi s, qi x] [] h R) ?_ 0 (by omega) (by omega) 0 rfl (by omega)
  intro x hx ih hxn s hs hb
  refine sX12_votes_5 ?_
  rw [m_0 hM (by omega) (by omega)]
  refine ⟨by omega, fun c => ?_, fun c => ?_⟩
  · rwa [hs, show x = a 0 by omega]
  · refine m_likeOf hM hW hx (by omega) p0 hp (m_likeOf hM hW hx (by omega) q0 hq ⟨fun c2 => ⟨qR_of (by omega) (by omega), qR_of (by omega) (by omega), ih (by omega) (by omega) _ ?_ (by omega)⟩, fun c2 => ⟨qR_of (by omega) (by omega), qR_of (by omega) (by omega), ih (by omega) (by omega) _ ?_ (by omega)⟩⟩)
    · rw [hs]; unfold aVotes; rw [qfold_s hx, if_neg (by omega), Int.add_zero]
    · rw [hs]; unfold aVotes; rw [qfold_s hx, if_pos (by omega)]
end M1
