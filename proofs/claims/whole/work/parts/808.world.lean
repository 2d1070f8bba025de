/-! numbers -/
theorem qn1 {x : Int} (h : qR x) : (Int32.ofInt x).toInt = x := Int32.toInt_ofInt_of_le (by have := h.1; omega) (by have := h.2; omega)
theorem qn1L {x : Int} (h : qRL x) : (Int64.ofInt x).toInt = x := Int64.toInt_ofInt_of_le (by have := h.1; omega) (by have := h.2; omega)
theorem qnR (x : Int32) : qR x.toInt := ⟨by have := x.le_toInt; omega, by have := x.toInt_lt; omega⟩
theorem qnRL (x : Int64) : qRL x.toInt := ⟨by have := x.le_toInt; omega, by have := x.toInt_lt; omega⟩
theorem qn_eq {x y : Int} (hx : qR x) (hy : qR y) : Int32.ofInt x = Int32.ofInt y ↔ x = y := ⟨fun h => by rw [← qn1 hx, ← qn1 hy, h], fun h => by rw [h]⟩
theorem qn_lt {x y : Int} (hx : qR x) (hy : qR y) : Int32.ofInt x < Int32.ofInt y ↔ x < y := by rw [Int32.lt_iff_toInt_lt, qn1 hx, qn1 hy]
theorem qn_le {x y : Int} (hx : qR x) (hy : qR y) : Int32.ofInt x ≤ Int32.ofInt y ↔ x ≤ y := by rw [Int32.le_iff_toInt_le, qn1 hx, qn1 hy]
theorem qn_0 : qR 0 := by unfold qR; decide
theorem qn_of0 : Int32.ofInt 0 = 0 := rfl
theorem qn_div {x y : Int} (hx : qR x) (hy : qR y) (h0 : 0 ≤ x) (h1 : 0 < y) : Int32.ofInt x / Int32.ofInt y = Int32.ofInt (x / y) ∧ qR (x / y) := by
  obtain ⟨a, rfl⟩ := Int.eq_ofNat_of_zero_le h0
  obtain ⟨b, rfl⟩ := Int.eq_ofNat_of_zero_le (Int.le_of_lt h1)
  have ha := hx.2
  have hb := hy.2
  have hq : a / b ≤ a := Nat.div_le_self a b
  refine ⟨?_, ?_⟩
  · show Int32.ofInt (a : Int) / Int32.ofInt (b : Int) = Int32.ofInt (((a / b : Nat)) : Int)
    rw [Int32.ofInt_eq_ofNat, Int32.ofInt_eq_ofNat, Int32.ofInt_eq_ofNat]
    exact pk_div (by omega) (by omega) (by omega)
  · show qR (((a / b : Nat)) : Int)
    have hq' : ((a / b : Nat) : Int) ≤ a := Int.ofNat_le.mpr hq
    generalize a / b = w at hq'
    constructor <;> omega
theorem qn_rem {x y : Int} (hx : qR x) (hy : qR y) (h0 : 0 ≤ x) (h1 : 0 < y) : Int32.ofInt x - Int32.ofInt x / Int32.ofInt y * Int32.ofInt y = Int32.ofInt (x % y) ∧ qR (x % y) := by
  obtain ⟨a, rfl⟩ := Int.eq_ofNat_of_zero_le h0
  obtain ⟨b, rfl⟩ := Int.eq_ofNat_of_zero_le (Int.le_of_lt h1)
  have ha := hx.2
  have hb := hy.2
  have hq : a % b < b := Nat.mod_lt a (by omega)
  refine ⟨?_, ?_⟩
  · show Int32.ofInt (a : Int) - Int32.ofInt (a : Int) / Int32.ofInt (b : Int) * Int32.ofInt (b : Int) = Int32.ofInt (((a % b : Nat)) : Int)
    rw [Int32.ofInt_eq_ofNat, Int32.ofInt_eq_ofNat, Int32.ofInt_eq_ofNat]
    exact pk_rem (by omega) (by omega) (by omega)
  · show qR (((a % b : Nat)) : Int)
    generalize a % b = w at hq
    constructor <;> omega
theorem qn_ldiv {x y : Int} (hx : qRL x) (hy : qRL y) (h0 : 0 ≤ x) (h1 : 0 < y) : Int64.ofInt x / Int64.ofInt y = Int64.ofInt (x / y) ∧ qRL (x / y) := by
  obtain ⟨a, rfl⟩ := Int.eq_ofNat_of_zero_le h0
  obtain ⟨b, rfl⟩ := Int.eq_ofNat_of_zero_le (Int.le_of_lt h1)
  have ha := hx.2
  have hb := hy.2
  have hq : a / b ≤ a := Nat.div_le_self a b
  refine ⟨?_, ?_⟩
  · show Int64.ofInt (a : Int) / Int64.ofInt (b : Int) = Int64.ofInt (((a / b : Nat)) : Int)
    rw [Int64.ofInt_eq_ofNat, Int64.ofInt_eq_ofNat, Int64.ofInt_eq_ofNat]
    exact pk_lDiv (by omega) (by omega) (by omega)
  · show qRL (((a / b : Nat)) : Int)
    have hq' : ((a / b : Nat) : Int) ≤ a := Int.ofNat_le.mpr hq
    generalize a / b = w at hq'
    constructor <;> omega
theorem qn_lrem {x y : Int} (hx : qRL x) (hy : qRL y) (h0 : 0 ≤ x) (h1 : 0 < y) : Int64.ofInt x - Int64.ofInt x / Int64.ofInt y * Int64.ofInt y = Int64.ofInt (x % y) ∧ qRL (x % y) := by
  obtain ⟨a, rfl⟩ := Int.eq_ofNat_of_zero_le h0
  obtain ⟨b, rfl⟩ := Int.eq_ofNat_of_zero_le (Int.le_of_lt h1)
  have ha := hx.2
  have hb := hy.2
  have hq : a % b < b := Nat.mod_lt a (by omega)
  refine ⟨?_, ?_⟩
  · show Int64.ofInt (a : Int) - Int64.ofInt (a : Int) / Int64.ofInt (b : Int) * Int64.ofInt (b : Int) = Int64.ofInt (((a % b : Nat)) : Int)
    rw [Int64.ofInt_eq_ofNat, Int64.ofInt_eq_ofNat, Int64.ofInt_eq_ofNat]
    exact pk_lRem (by omega) (by omega) (by omega)
  · show qRL (((a % b : Nat)) : Int)
    generalize a % b = w at hq
    constructor <;> omega
theorem qn_i2l {x : Int} (h : qR x) : (Int32.ofInt x).toInt64 = Int64.ofInt x ∧ qRL x := by
  have h1 := h.1
  have h2 := h.2
  have hL : qRL x := ⟨by omega, by omega⟩
  refine ⟨Int64.toInt_inj.mp ?_, hL⟩
  rw [Int32.toInt_toInt64, qn1 h, qn1L hL]
theorem qn_lcmp {x y : Int} (hx : qRL x) (hy : qRL y) : lg_cmp (Int64.ofInt x) (Int64.ofInt y) = Int32.ofInt (qlcmp x y) ∧ qR (qlcmp x y) := by
  unfold lg_cmp qlcmp
  simp only [gt_iff_lt, Int64.lt_iff_toInt_lt, ← Int64.toInt_inj, qn1L hx, qn1L hy]
  rcases Int.lt_trichotomy x y with h | h | h
  · rw [if_neg (by omega), if_neg (by omega), if_pos h]
    exact ⟨rfl, by unfold qR; decide⟩
  · rw [if_neg (by omega), if_pos h, if_neg (by omega), if_pos h]
    exact ⟨rfl, by unfold qR; decide⟩
  · rw [if_pos h, if_neg (by omega), if_neg (by omega)]
    exact ⟨rfl, by unfold qR; decide⟩
theorem qn_in {k : Int} {n : Nat} (hk : qR k) (h0 : 0 ≤ k) (h1 : k < n) : vp_in (Int32.ofInt k) n ∧ (Int32.ofInt k).toNatClampNeg = k.toNat := by
  refine ⟨vp_in_iff.mpr ?_, ?_⟩
  · rw [qn1 hk]; exact ⟨h0, h1⟩
  · show (Int32.ofInt k).toInt.toNat = k.toNat
    rw [qn1 hk]
/-- every object (c, i, 0) and every array (c, i, slot + 1) -/
def qids : List (Nat × Nat × Nat) := [(0, 0, 0), (1, 0, 0), (1, 1, 0), (1, 2, 0), (1, 3, 0), (1, 4, 0), (2, 0, 0), (3, 0, 0), (4, 0, 0), (5, 0, 0), (5, 1, 0), (6, 0, 0), (7, 0, 0), (7, 1, 0), (7, 2, 0), (7, 3, 0), (7, 4, 0), (8, 0, 0), (9, 0, 0), (10, 0, 0), (10, 1, 0), (10, 2, 0), (10, 3, 0), (11, 0, 0), (12, 0, 0), (0, 0, 1), (0, 0, 2), (0, 0, 3), (0, 0, 4), (0, 0, 5), (1, 0, 1), (1, 0, 2), (1, 0, 3), (1, 0, 4), (1, 0, 5), (1, 1, 1), (1, 1, 2), (1, 1, 3), (1, 1, 4), (1, 1, 5), (1, 2, 1), (1, 2, 2), (1, 2, 3), (1, 2, 4), (1, 2, 5), (1, 3, 1), (1, 3, 2), (1, 3, 3), (1, 3, 4), (1, 3, 5), (1, 4, 1), (1, 4, 2), (1, 4, 3), (1, 4, 4), (1, 4, 5), (2, 0, 1), (3, 0, 1), (3, 0, 2), (3, 0, 3), (3, 0, 4), (3, 0, 5), (5, 0, 1), (5, 1, 1), (6, 0, 1), (6, 0, 2), (6, 0, 3), (6, 0, 4), (6, 0, 5), (6, 0, 6), (7, 0, 1), (7, 0, 2), (7, 0, 3), (7, 0, 4), (7, 0, 5), (7, 0, 6), (7, 0, 7), (7, 1, 1), (7, 1, 2), (7, 1, 3), (7, 1, 4), (7, 1, 5), (7, 1, 6), (7, 1, 7), (7, 2, 1), (7, 2, 2), (7, 2, 3), (7, 2, 4), (7, 2, 5), (7, 2, 6), (7, 2, 7), (7, 3, 1), (7, 3, 2), (7, 3, 3), (7, 3, 4), (7, 3, 5), (7, 3, 6), (7, 3, 7), (7, 4, 1), (7, 4, 2), (7, 4, 3), (7, 4, 4), (7, 4, 5), (7, 4, 6), (7, 4, 7), (9, 0, 1), (10, 0, 1), (10, 1, 1), (10, 2, 1), (10, 3, 1), (11, 0, 1), (11, 0, 9), (11, 0, 10), (12, 0, 5), (12, 0, 6), (12, 0, 7), (12, 0, 8), (12, 0, 21), (12, 0, 22), (12, 0, 23), (12, 0, 27), (12, 0, 28), (12, 0, 29), (12, 0, 30), (12, 0, 32), (12, 0, 33), (12, 0, 34), (12, 0, 35), (12, 0, 36), (12, 0, 38), (12, 0, 39), (12, 0, 40)]
/-! THE WORLD: where the small machine's heap lies in the machine's -/
abbrev qA : Type := Nat × Nat × Nat → Nat
def qtr (adr : qA) (v : qV) : Value := match v with
  | .inl x => .int (Int32.ofInt x)
  | .inr (.inl x) => .long (Int64.ofInt x)
  | .inr (.inr (.inl p)) => .ref (adr (p.1, p.2, 0))
  | .inr (.inr (.inr (.inl p))) => .ref (adr (p.1, p.2.1, p.2.2 + 1))
  | .inr (.inr (.inr (.inr _))) => .null
def qfv (adr : qA) (h : qH) (c i j : Nat) : Value := match qfk c j with
  | 1 => .long (Int64.ofInt (h c i j 0))
  | 2 => .ref (adr (c, i, j + 1))
  | 3 => .ref (adr ((qfo c j).1, (qfo c j).2, 0))
  | _ => .int (Int32.ofInt (h c i j 0))
def qnf (c : Nat) : Nat := match vwCl[c]? with
  | some q => q.2.2
  | none => 0
def qct (adr : qA) (h : qH) (c i j : Nat) : vp_A := ((qal c j).2.toNat, match (qal c j).1 with
  | 1 => .inr (.inl (fun k => Int64.ofInt (h c i j k)))
  | 3 => .inr (.inr (.inr (.inr (fun k => some (adr ((qra c j).1, (qra c j).2 + k, 0))))))
  | _ => .inl (fun k => Int32.ofInt (h c i j k)))
/-- which array class: 0 int, 1 long, 2 byte, 3 trays, 4 quarters, 5 decades -/
def qat (c j : Nat) : Nat := match (qal c j).1 with
  | 0 => 0
  | 1 => 1
  | 2 => 2
  | _ => (match j with
    | 0 => 3
    | 8 => 4
    | _ => 5)
def qce (adr : qA) (dA : Nat → ClassId) (h : qH) (id : Nat × Nat × Nat) : va_E := match id.2.2 with
  | 0 => .inr (id.1, (List.range (qnf id.1)).map (qfv adr h id.1 id.2.1))
  | j + 1 => .inl (dA (qat id.1 j), qct adr h id.1 id.2.1 j)
def qws (adr : qA) (dA : Nat → ClassId) (h : qH) : va_W := qids.map (fun id => (adr id, qce adr dA h id))
def qtys (dA : Nat → ClassId) : List (ClassId × FieldType) := [(dA 0, .int), (dA 1, .long), (dA 2, .byte), (dA 3, .object RX10), (dA 4, .object RX7), (dA 5, .object RX1)]
theorem qids_nd : qids.Nodup := by decide +kernel
theorem qids_ok : ∀ id ∈ qids, (id.2.2 = 0 → id.1 < 13) ∧ (id.2.2 ≠ 0 → id.1 < 13 ∧ qfk id.1 (id.2.2 - 1) = 2 ∧ (qal id.1 (id.2.2 - 1)).1 < 4 ∧ 0 ≤ (qal id.1 (id.2.2 - 1)).2 ∧ (qal id.1 (id.2.2 - 1)).2 < 10000) := by decide +kernel
theorem qws_at {adr : qA} {dA : Nat → ClassId} {h : qH} {id : Nat × Nat × Nat} (hid : id ∈ qids) : ∃ q0 : Nat, qids[q0]? = some id ∧ (qws adr dA h)[q0]? = some (adr id, qce adr dA h id) := by
  obtain ⟨q0, hq⟩ := List.getElem?_of_mem hid
  exact ⟨q0, hq, by simp [qws, hq]⟩
theorem qws_set {adr : qA} {dA : Nat → ClassId} {h h' : qH} {id : Nat × Nat × Nat} {q0 : Nat} {e : va_E} (hq : qids[q0]? = some id) (he : qce adr dA h' id = e) (ho : ∀ id' ∈ qids, id' ≠ id → qce adr dA h' id' = qce adr dA h id') : (qws adr dA h).set q0 (adr id, e) = qws adr dA h' := by
  apply List.ext_getElem?
  intro n
  rw [List.getElem?_set]
  by_cases hn : q0 = n
  · subst hn
    have hl : q0 < (qws adr dA h).length := by
      unfold qws
      rw [List.length_map]
      exact (List.getElem?_eq_some_iff.mp hq).1
    rw [if_pos rfl, if_pos hl]
    simp [qws, hq, he]
  · rw [if_neg hn]
    unfold qws
    rw [List.getElem?_map, List.getElem?_map]
    cases hx : qids[n]? with
    | none => rfl
    | some id' =>
      simp only [Option.map_some]
      rw [ho id' (List.mem_of_getElem? hx) (fun e' => hn ?_)]
      subst e'
      exact (List.getElem?_inj (List.getElem?_eq_some_iff.mp hq).1 qids_nd).mp (by rw [hq, hx])
def qrg (t : Nat) (x : Int) : Prop := match t with
  | 1 => qRL x
  | 2 => -128 ≤ x ∧ x ≤ 127
  | _ => qR x
/-- how wide a slot is: 0 int, 1 long, 2 byte -/
def qsk (c j : Nat) : Nat := match (qal c j).1 with
  | 0 => 0
  | 1 => 1
  | 2 => 2
  | _ => (match qfk c j with
    | 1 => 1
    | _ => 0)
def qhok (h : qH) : Prop := ∀ c i j k, qrg (qsk c j) (h c i j k)
/-- a value that may lie on the stack -/
def qvok (v : qV) : Prop := match v with
  | .inl x => qR x
  | .inr (.inl x) => qRL x
  | .inr (.inr (.inl p)) => (p.1, p.2, 0) ∈ qids
  | .inr (.inr (.inr (.inl p))) => (p.1, p.2.1, p.2.2 + 1) ∈ qids ∨ p = (90, 0, 0) ∨ p = (91, 0, 0)
  | .inr (.inr (.inr (.inr _))) => False
def qlok (v : qV) : Prop := v = qu ∨ qvok v
def qlv1 (adr : qA) (k : Nat) (v : Option qV) : Option (Nat × Value) := match v with
  | some (.inr (.inr (.inr (.inr _)))) => none
  | some v => some (k, qtr adr v)
  | none => none
def qlv (adr : qA) (ls : List qV) : List (Nat × Value) := (List.range ls.length).filterMap (fun k => qlv1 adr k ls[k]?)
theorem qlv_mem {adr : qA} {ls : List qV} {k : Nat} {w : Value} : (k, w) ∈ qlv adr ls ↔ ∃ v, ls[k]? = some v ∧ v ≠ qu ∧ w = qtr adr v := by
  unfold qlv
  rw [List.mem_filterMap]
  constructor
  · rintro ⟨k', hk', e⟩
    cases hv : ls[k']? with
    | none => rw [hv] at e; cases e
    | some v =>
      rw [hv] at e
      rcases v with x | x | x | x | x
      · cases e; exact ⟨_, hv, fun h => (by cases h), rfl⟩
      · cases e; exact ⟨_, hv, fun h => (by cases h), rfl⟩
      · cases e; exact ⟨_, hv, fun h => (by cases h), rfl⟩
      · cases e; exact ⟨_, hv, fun h => (by cases h), rfl⟩
      · cases e
  · rintro ⟨v, hv, hn, rfl⟩
    refine ⟨k, List.mem_range.mpr (List.getElem?_eq_some_iff.mp hv).1, ?_⟩
    rw [hv]
    rcases v with x | x | x | x | x
    · rfl
    · rfl
    · rfl
    · rfl
    · exact absurd rfl hn
theorem qtr_cat {adr : qA} {v : qV} (hv : v ≠ qu) : (qtr adr v).category = 2 ↔ ∃ x, v = ql x := by
  rcases v with x | x | x | x | x
  · exact ⟨fun h => (by cases h), fun ⟨_, h⟩ => (by cases h)⟩
  · exact ⟨fun _ => ⟨x, rfl⟩, fun _ => rfl⟩
  · exact ⟨fun h => (by cases h), fun ⟨_, h⟩ => (by cases h)⟩
  · exact ⟨fun h => (by cases h), fun ⟨_, h⟩ => (by cases h)⟩
  · exact absurd rfl hv
theorem qst_len (ls : List qV) (k : Nat) (v : qV) : (qst ls k v).length = ls.length := by
  induction ls generalizing k with
  | nil => rfl
  | cons w r ih =>
    match k with
    | 0 => rfl
    | 1 => show (qst r 0 v).length + 1 = r.length + 1; rw [ih]
    | k + 2 => show (qst r (k + 1) v).length + 1 = r.length + 1; rw [ih]
theorem qst2_len (ls : List qV) (k : Nat) (v : qV) : (qst2 ls k v).length = ls.length := by
  induction ls generalizing k with
  | nil => rfl
  | cons w r ih =>
    match k with
    | 0 => show (qst r 0 qu).length + 1 = r.length + 1; rw [qst_len]
    | 1 => show (qst2 r 0 v).length + 1 = r.length + 1; rw [ih]
    | k + 2 => show (qst2 r (k + 1) v).length + 1 = r.length + 1; rw [ih]
/-- what stands in the locals behind a store -/
theorem qst_at (ls : List qV) (k : Nat) (v : qV) {j : Nat} {w : qV} (h : (qst ls k v)[j]? = some w) : (j = k ∧ w = v) ∨ w = qu ∨ (j ≠ k ∧ ls[j]? = some w ∧ ¬ (j + 1 = k ∧ ∃ x, w = ql x)) := by
  induction ls generalizing k j with
  | nil => simp [qst] at h
  | cons a r ih =>
    match k with
    | 0 =>
      match j with
      | 0 => exact Or.inl ⟨rfl, by simpa [qst] using h.symm⟩
      | j + 1 => exact Or.inr (Or.inr ⟨by omega, by simpa [qst] using h, by omega⟩)
    | 1 =>
      match j with
      | 0 =>
        have h : some (qcl a) = some w := h
        injection h with h
        subst h
        rcases a with x | x | x | x | x
        · exact Or.inr (Or.inr ⟨by omega, rfl, fun q => by obtain ⟨_, x, hx⟩ := q; cases hx⟩)
        · exact Or.inr (Or.inl rfl)
        · exact Or.inr (Or.inr ⟨by omega, rfl, fun q => by obtain ⟨_, x, hx⟩ := q; cases hx⟩)
        · exact Or.inr (Or.inr ⟨by omega, rfl, fun q => by obtain ⟨_, x, hx⟩ := q; cases hx⟩)
        · exact Or.inr (Or.inl rfl)
      | j + 1 =>
        have h : (qst r 0 v)[j]? = some w := h
        rcases ih 0 h with ⟨e1, e2⟩ | e | ⟨e1, e2, e3⟩
        · exact Or.inl ⟨by omega, e2⟩
        · exact Or.inr (Or.inl e)
        · exact Or.inr (Or.inr ⟨by omega, e2, by omega⟩)
    | k + 2 =>
      match j with
      | 0 => exact Or.inr (Or.inr ⟨by omega, by simpa [qst] using h, by omega⟩)
      | j + 1 =>
        have h : (qst r (k + 1) v)[j]? = some w := h
        rcases ih (k + 1) h with ⟨e1, e2⟩ | e | ⟨e1, e2, e3⟩
        · exact Or.inl ⟨by omega, e2⟩
        · exact Or.inr (Or.inl e)
        · exact Or.inr (Or.inr ⟨by omega, e2, fun q => e3 ⟨by omega, q.2⟩⟩)
theorem qst2_at (ls : List qV) (k : Nat) (v : qV) {j : Nat} {w : qV} (h : (qst2 ls k v)[j]? = some w) : (j = k ∧ w = v) ∨ w = qu ∨ (j ≠ k ∧ j ≠ k + 1 ∧ ls[j]? = some w ∧ ¬ (j + 1 = k ∧ ∃ x, w = ql x)) := by
  induction ls generalizing k j with
  | nil => simp [qst2] at h
  | cons a r ih =>
    match k with
    | 0 =>
      match j with
      | 0 => exact Or.inl ⟨rfl, by simpa [qst2] using h.symm⟩
      | j + 1 =>
        have h : (qst r 0 qu)[j]? = some w := h
        rcases qst_at r 0 qu h with ⟨e1, e2⟩ | e | ⟨e1, e2, e3⟩
        · exact Or.inr (Or.inl e2)
        · exact Or.inr (Or.inl e)
        · exact Or.inr (Or.inr ⟨by omega, by omega, e2, by omega⟩)
    | 1 =>
      match j with
      | 0 =>
        have h : some (qcl a) = some w := h
        injection h with h
        subst h
        rcases a with x | x | x | x | x
        · exact Or.inr (Or.inr ⟨by omega, by omega, rfl, fun q => by obtain ⟨_, x, hx⟩ := q; cases hx⟩)
        · exact Or.inr (Or.inl rfl)
        · exact Or.inr (Or.inr ⟨by omega, by omega, rfl, fun q => by obtain ⟨_, x, hx⟩ := q; cases hx⟩)
        · exact Or.inr (Or.inr ⟨by omega, by omega, rfl, fun q => by obtain ⟨_, x, hx⟩ := q; cases hx⟩)
        · exact Or.inr (Or.inl rfl)
      | j + 1 =>
        have h : (qst2 r 0 v)[j]? = some w := h
        rcases ih 0 h with ⟨e1, e2⟩ | e | ⟨e1, e2, e3, e4⟩
        · exact Or.inl ⟨by omega, e2⟩
        · exact Or.inr (Or.inl e)
        · exact Or.inr (Or.inr ⟨by omega, by omega, e3, by omega⟩)
    | k + 2 =>
      match j with
      | 0 => exact Or.inr (Or.inr ⟨by omega, by omega, by simpa [qst2] using h, by omega⟩)
      | j + 1 =>
        have h : (qst2 r (k + 1) v)[j]? = some w := h
        rcases ih (k + 1) h with ⟨e1, e2⟩ | e | ⟨e1, e2, e3, e4⟩
        · exact Or.inl ⟨by omega, e2⟩
        · exact Or.inr (Or.inl e)
        · exact Or.inr (Or.inr ⟨by omega, by omega, e3, fun q => e4 ⟨by omega, q.2⟩⟩)
theorem lv_has.mono {ls : Array Slot} {nL : Nat} {l l' : List (Nat × Value)} (h : lv_has ls nL l) (hs : ∀ q ∈ l', q ∈ l) : lv_has ls nL l' := ⟨h.1, h.2.1, fun q hq => h.2.2 q (hs q hq)⟩
