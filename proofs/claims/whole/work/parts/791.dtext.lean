/-! the DECADES' text: what a part is; the class reads it -/
abbrev dLn : Type := Int × Int × Int × Int × Int
def dsK (b : Int → Int) (n t x q : Int) : Rs dLn := if tkG b n q = 60 ∨ tkG b n q = 62 ∨ tkG b n q = 61 then rb (rdNum b n 0 9 (tkE b n q)) (fun v => .inr (v.2, t, x, v.1, tkG b n q)) else .inl (amF b n q)
noncomputable def dsT (b : Int → Int) (n : Int) (Y : Int → Int) (nn m q : Int) : Rs dLn :=
  if tkW b n q = 14 then rb (rdPer b n Y nn (tkE b n q)) (fun i => .inr (i.2, 14, i.1, 0, 0))
  else if tkW b n q = 15 then rb (rdPer b n Y nn (tkE b n q)) (fun i => rb (rdPer b n Y nn i.2) (fun j => .inr (j.2, 15, i.1, j.1, 0)))
  else if tkW b n q = 5 then rb (rdNum b n 0 (m - 1) (tkE b n q)) (fun v => dsK b n 5 v.1 v.2)
  else if tkW b n q = 3 then rb (rdPer b n Y nn (tkE b n q)) (fun i => dsK b n 3 i.1 i.2)
  else .inl (amF b n q)
noncomputable def dsB (b : Int → Int) (n : Int) (Y : Int → Int) (nn m w q : Int) : Rs dLn :=
  if w = 8 ∨ w = 9 then rb (rdNum b n 0 (m - 1) q) (fun v => .inr (v.2, w, v.1, 0, 0))
  else if w = 10 then rb (rdNum b n 1 40 q) (fun v => .inr (v.2, w, v.1, 0, 0))
  else if w = 16 then rb (rdNum b n 1 99 q) (fun v => .inr (v.2, w, v.1, 0, 0))
  else if w = 11 then rb (rdPer b n Y nn q) (fun i => rb (rdNum b n 0 9 i.2) (fun v => .inr (v.2, w, i.1, v.1, 0)))
  else if w = 13 then dsT b n Y nn m q
  else .inr (q, w, 0, 0, 0)
noncomputable def dsA (b : Int → Int) (n : Int) (Y : Int → Int) (nn m ns len p : Int) : Rs dLn :=
  if stW (tkW b n p) < 0 then .inl (amF b n p) else if 30 ≤ ns then .inl (6, tkS b n p) else if (tkW b n p = 13 ∨ tkW b n p = 16) ∧ 3 ≤ len then .inl (7, tkS b n p) else dsB b n Y nn m (tkW b n p) (tkE b n p)
def dAdd (D : Int → Int → Int) (s w : Int) (v : dLn) : Int → Int → Int := fun s' x => if s' = s then (if x = 0 then stW w else if x = 1 then v.2.2.1 else if x = 2 then v.2.2.2.1 else if x = 5 then tsW v.2.1 else if x = 6 then v.2.2.2.1 else if x = 7 then v.2.2.2.2 else s + 1) else D s' x
def dSet (D : Int → Int → Int) (s y : Int) : Int → Int → Int := fun s' x => if s' = s ∧ x = 8 then y else D s' x
def cAdd (C : Nat → Int → Int) (l c0 c1 c2 c3 mt : Int) : Nat → Int → Int := fun j l' => if l' = l then (if j = 0 then c0 else if j = 1 then c1 else if j = 2 then c2 else if j = 3 then c3 else mt) else C j l'
def cEnd (C : Nat → Int → Int) (o l : Int) : Nat → Int → Int := cAdd (fun j l' => if j = 4 ∧ l' = o then l else C j l') l 17 0 0 0 o
noncomputable def dRun (b : Int → Int) (n : Int) (Y : Int → Int) (nn m : Int) : Nat → Int → Int → Int → (Int → Int → Int) → (Nat → Int → Int) → List (Int × Int) → Rs (Int × Int × (Int → Int → Int) × (Nat → Int → Int))
  | 0, _, _, _, _, _, _ => .inl (0, 0)
  | k + 1, p, ns, nl, D, C, stk => if tkK b n p = 0 then (match stk with
      | [] => .inr (ns, nl, D, C)
      | _ :: _ => .inl (amF b n p))
    else if tkW b n p = 17 then (match stk with
      | [] => .inl (amF b n p)
      | x :: r => rb (rdStop b n (tkE b n p)) (fun q => dRun b n Y nn m k q ns (nl + 1) (dSet D x.1 ns) (cEnd C x.2 nl) r))
    else rb (dsA b n Y nn m ns stk.length p) (fun v => rb (rdStop b n v.1) (fun q => dRun b n Y nn m k q (ns + 1) (nl + 1) (dAdd D ns (tkW b n p) v) (cAdd C nl v.2.1 v.2.2.1 v.2.2.2.1 v.2.2.2.2 (-1)) (if tkW b n p = 13 ∨ tkW b n p = 16 then (ns, nl) :: stk else stk)))
section Dr
variable {b : Int → Int} {n nn m : Int} {Y : Int → Int} {k : Nat} {p ns nl : Int} {D : Int → Int → Int} {C : Nat → Int → Int} {stk : List (Int × Int)}
theorem dRun_0 (h : tkK b n p = 0) : dRun b n Y nn m (k + 1) p ns nl D C [] = .inr (ns, nl, D, C) := by rw [dRun, if_pos h]
theorem dRun_00 {x : Int × Int} {r : List (Int × Int)} (h : tkK b n p = 0) : dRun b n Y nn m (k + 1) p ns nl D C (x :: r) = .inl (amF b n p) := by rw [dRun, if_pos h]
theorem dRun_e0 (h : tkK b n p ≠ 0) (hw : tkW b n p = 17) : dRun b n Y nn m (k + 1) p ns nl D C [] = .inl (amF b n p) := by rw [dRun, if_neg h, if_pos hw]
theorem dRun_e1 {x : Int × Int} {r : List (Int × Int)} {e : Int × Int} (h : tkK b n p ≠ 0) (hw : tkW b n p = 17) (h1 : rdStop b n (tkE b n p) = .inl e) : dRun b n Y nn m (k + 1) p ns nl D C (x :: r) = .inl e := by rw [dRun, if_neg h, if_pos hw]; exact rb_l h1
theorem dRun_e {x : Int × Int} {r : List (Int × Int)} {q : Int} (h : tkK b n p ≠ 0) (hw : tkW b n p = 17) (h1 : rdStop b n (tkE b n p) = .inr q) : dRun b n Y nn m (k + 1) p ns nl D C (x :: r) = dRun b n Y nn m k q ns (nl + 1) (dSet D x.1 ns) (cEnd C x.2 nl) r := by rw [dRun, if_neg h, if_pos hw]; exact rb_r h1
theorem dRun_l {e : Int × Int} (h : tkK b n p ≠ 0) (hw : tkW b n p ≠ 17) (h1 : dsA b n Y nn m ns stk.length p = .inl e) : dRun b n Y nn m (k + 1) p ns nl D C stk = .inl e := by cases stk <;> (rw [dRun, if_neg h, if_neg hw]; exact rb_l h1)
theorem dRun_s {e : Int × Int} {v : dLn} (h : tkK b n p ≠ 0) (hw : tkW b n p ≠ 17) (h1 : dsA b n Y nn m ns stk.length p = .inr v) (h2 : rdStop b n v.1 = .inl e) : dRun b n Y nn m (k + 1) p ns nl D C stk = .inl e := by
  cases stk <;> (rw [dRun, if_neg h, if_neg hw, rb_r h1]; exact rb_l h2)
theorem dRun_r {q : Int} {v : dLn} (h : tkK b n p ≠ 0) (hw : tkW b n p ≠ 17) (h1 : dsA b n Y nn m ns stk.length p = .inr v) (h2 : rdStop b n v.1 = .inr q) : dRun b n Y nn m (k + 1) p ns nl D C stk = dRun b n Y nn m k q (ns + 1) (nl + 1) (dAdd D ns (tkW b n p) v) (cAdd C nl v.2.1 v.2.2.1 v.2.2.2.1 v.2.2.2.2 (-1)) (if tkW b n p = 13 ∨ tkW b n p = 16 then (ns, nl) :: stk else stk) := by
  cases stk <;> (rw [dRun, if_neg h, if_neg hw, rb_r h1]; exact rb_r h2)
/-- a part read goes forward -/
theorem dsK_i {t x q : Int} {v : dLn} (qn : q ≤ n) (h : dsK b n t x q = .inr v) : q < v.1 ∧ v.1 ≤ n ∧ v.2.1 = t ∧ v.2.2.1 = x := by
  unfold dsK at h
  by_cases c : tkG b n q = 60 ∨ tkG b n q = 62 ∨ tkG b n q = 61
  · rw [if_pos c] at h
    obtain ⟨⟨y, p'⟩, h1, h2⟩ := rb_i h
    have i1 := rdNum_i h1
    have k3 : tkK b n q = 3 := by
      unfold tkG at c
      by_cases c3 : tkK b n q = 3
      · exact c3
      · rw [if_neg c3] at c; omega
    have t1 := tk_lt (b := b) qn (by omega)
    have t2 := tk_lt (b := b) (n := n) (p := tkE b n q) (by omega) (by omega)
    have e := Sum.inr.inj h2
    subst e
    exact ⟨by show q < p'; omega, by show p' ≤ n; omega, rfl, rfl⟩
  · rw [if_neg c] at h; cases h
theorem dsT_i {q : Int} {v : dLn} (qn : q ≤ n) (n0 : 0 ≤ nn) (h : dsT b n Y nn m q = .inr v) : q < v.1 ∧ v.1 ≤ n ∧ ((v.2.1 = 14 ∧ 0 ≤ v.2.2.1 ∧ v.2.2.1 < nn) ∨ (v.2.1 = 15 ∧ 0 ≤ v.2.2.1 ∧ v.2.2.1 < nn) ∨ (v.2.1 = 5 ∧ 0 ≤ v.2.2.1 ∧ v.2.2.1 < m) ∨ (v.2.1 = 3 ∧ 0 ≤ v.2.2.1 ∧ v.2.2.1 < nn)) := by
  unfold dsT at h
  have t0 : ∀ w, 0 ≤ w → tkW b n q = w → q < tkE b n q ∧ tkE b n q ≤ n := fun w w0 hw => tk_lt (b := b) qn (by rw [tkW_k (by omega)]; decide)
  by_cases c1 : tkW b n q = 14
  · rw [if_pos c1] at h
    have t1 := t0 14 (by omega) c1
    obtain ⟨⟨i, p1⟩, h1, h2⟩ := rb_i h
    have i1 := rdPer_i n0 h1
    have t2 := tk_lt (b := b) (n := n) (p := tkE b n q) (by omega) (by omega)
    have e := Sum.inr.inj h2
    subst e
    exact ⟨by show q < p1; omega, by show p1 ≤ n; omega, Or.inl ⟨rfl, by show 0 ≤ i; omega, by show i < nn; omega⟩⟩
  rw [if_neg c1] at h
  by_cases c2 : tkW b n q = 15
  · rw [if_pos c2] at h
    have t1 := t0 15 (by omega) c2
    obtain ⟨⟨i, p1⟩, h1, h2⟩ := rb_i h
    have i1 := rdPer_i n0 h1
    obtain ⟨⟨j, p2⟩, h3, h4⟩ := rb_i h2
    have i2 := rdPer_i n0 h3
    dsimp only at i2
    have t2 := tk_lt (b := b) (n := n) (p := tkE b n q) (by omega) (by omega)
    have t3 := tk_lt (b := b) (n := n) (p := p1) (by omega) (by omega)
    have e := Sum.inr.inj h4
    subst e
    exact ⟨by show q < p2; omega, by show p2 ≤ n; omega, Or.inr (Or.inl ⟨rfl, by show 0 ≤ i; omega, by show i < nn; omega⟩)⟩
  rw [if_neg c2] at h
  by_cases c3 : tkW b n q = 5
  · rw [if_pos c3] at h
    have t1 := t0 5 (by omega) c3
    obtain ⟨⟨i, p1⟩, h1, h2⟩ := rb_i h
    have i1 := rdNum_i h1
    have t2 := tk_lt (b := b) (n := n) (p := tkE b n q) (by omega) (by omega)
    obtain ⟨k1, k2, k3, k4⟩ := dsK_i (by show p1 ≤ n; omega) h2
    dsimp only at k1 k4
    exact ⟨by omega, k2, Or.inr (Or.inr (Or.inl ⟨k3, by omega, by omega⟩))⟩
  rw [if_neg c3] at h
  by_cases c4 : tkW b n q = 3
  · rw [if_pos c4] at h
    have t1 := t0 3 (by omega) c4
    obtain ⟨⟨i, p1⟩, h1, h2⟩ := rb_i h
    have i1 := rdPer_i n0 h1
    have t2 := tk_lt (b := b) (n := n) (p := tkE b n q) (by omega) (by omega)
    obtain ⟨k1, k2, k3, k4⟩ := dsK_i (by show p1 ≤ n; omega) h2
    dsimp only at k1 k4
    exact ⟨by omega, k2, Or.inr (Or.inr (Or.inr ⟨k3, by omega, by omega⟩))⟩
  rw [if_neg c4] at h; cases h
def dsOK (nn m w : Int) (v : dLn) : Prop :=
  ((w = 8 ∨ w = 9) → v.2.1 = w ∧ 0 ≤ v.2.2.1 ∧ v.2.2.1 < m) ∧ (w = 10 → v.2.1 = 10 ∧ 1 ≤ v.2.2.1 ∧ v.2.2.1 ≤ 40) ∧ (w = 16 → v.2.1 = 16 ∧ 1 ≤ v.2.2.1 ∧ v.2.2.1 ≤ 99) ∧ (w = 11 → v.2.1 = 11 ∧ 0 ≤ v.2.2.1 ∧ v.2.2.1 < nn ∧ 0 ≤ v.2.2.2.1 ∧ v.2.2.2.1 ≤ 9) ∧ (w = 13 → (v.2.1 = 14 ∧ 0 ≤ v.2.2.1 ∧ v.2.2.1 < nn) ∨ (v.2.1 = 15 ∧ 0 ≤ v.2.2.1 ∧ v.2.2.1 < nn) ∨ (v.2.1 = 5 ∧ 0 ≤ v.2.2.1 ∧ v.2.2.1 < m) ∨ (v.2.1 = 3 ∧ 0 ≤ v.2.2.1 ∧ v.2.2.1 < nn)) ∧ ((w = 12 ∨ w = 18) → v.2.1 = w)
theorem dsB_i {w q : Int} {v : dLn} (qn : q ≤ n) (n0 : 0 ≤ nn) (h : dsB b n Y nn m w q = .inr v) : q ≤ v.1 ∧ v.1 ≤ n ∧ dsOK nn m w v := by
  unfold dsB at h
  unfold dsOK
  by_cases c1 : w = 8 ∨ w = 9
  · rw [if_pos c1] at h
    obtain ⟨⟨i, p1⟩, h1, h2⟩ := rb_i h
    have i1 := rdNum_i h1
    have t2 := tk_lt (b := b) (n := n) (p := q) (by omega) (by omega)
    have e := Sum.inr.inj h2
    subst e
    dsimp only
    omega
  rw [if_neg c1] at h
  by_cases c2 : w = 10
  · rw [if_pos c2] at h
    obtain ⟨⟨i, p1⟩, h1, h2⟩ := rb_i h
    have i1 := rdNum_i h1
    have t2 := tk_lt (b := b) (n := n) (p := q) (by omega) (by omega)
    have e := Sum.inr.inj h2
    subst e
    dsimp only
    omega
  rw [if_neg c2] at h
  by_cases c3 : w = 16
  · rw [if_pos c3] at h
    obtain ⟨⟨i, p1⟩, h1, h2⟩ := rb_i h
    have i1 := rdNum_i h1
    have t2 := tk_lt (b := b) (n := n) (p := q) (by omega) (by omega)
    have e := Sum.inr.inj h2
    subst e
    dsimp only
    omega
  rw [if_neg c3] at h
  by_cases c4 : w = 11
  · rw [if_pos c4] at h
    obtain ⟨⟨i, p1⟩, h1, h2⟩ := rb_i h
    have i1 := rdPer_i n0 h1
    obtain ⟨⟨j, p2⟩, h3, h4⟩ := rb_i h2
    have i2 := rdNum_i h3
    dsimp only at i2
    have t2 := tk_lt (b := b) (n := n) (p := q) (by omega) (by omega)
    have t3 := tk_lt (b := b) (n := n) (p := p1) (by omega) (by omega)
    have e := Sum.inr.inj h4
    subst e
    dsimp only
    omega
  rw [if_neg c4] at h
  by_cases c5 : w = 13
  · rw [if_pos c5] at h
    obtain ⟨i1, i2, i3⟩ := dsT_i qn n0 h
    refine ⟨by omega, i2, ?_⟩
    omega
  rw [if_neg c5] at h
  have e := Sum.inr.inj h
  subst e
  dsimp only
  omega
theorem dsA_i {len : Int} {v : dLn} (pn : p ≤ n) (n0 : 0 ≤ nn) (h : dsA b n Y nn m ns len p = .inr v) : p < v.1 ∧ v.1 ≤ n ∧ 0 ≤ stW (tkW b n p) ∧ ns < 30 ∧ ((tkW b n p = 13 ∨ tkW b n p = 16) → len < 3) ∧ dsOK nn m (tkW b n p) v := by
  unfold dsA at h
  by_cases c1 : stW (tkW b n p) < 0
  · rw [if_pos c1] at h; cases h
  rw [if_neg c1] at h
  by_cases c2 : 30 ≤ ns
  · rw [if_pos c2] at h; cases h
  rw [if_neg c2] at h
  by_cases c3 : (tkW b n p = 13 ∨ tkW b n p = 16) ∧ 3 ≤ len
  · rw [if_pos c3] at h; cases h
  rw [if_neg c3] at h
  have hw : 0 ≤ tkW b n p := by
    unfold stW at c1
    by_cases c : 0 ≤ tkW b n p
    · exact c
    · exfalso; apply c1
      rw [if_neg (by omega), if_neg (by omega), if_neg (by omega), if_neg (by omega), if_neg (by omega), if_neg (by omega), if_neg (by omega), if_neg (by omega)]; omega
  have t1 := tk_lt (b := b) pn (by rw [tkW_k hw]; decide)
  obtain ⟨i1, i2, i3⟩ := dsB_i t1.2 n0 h
  exact ⟨by omega, i2, by omega, by omega, fun e => by omega, i3⟩
end Dr
