def cnm (y : Nat) : MethodName := bif Nat.blt y 7 then (bif Nat.blt y 3 then (bif Nat.blt y 1 then (yX0_init) else (bif Nat.blt y 2 then (yX1_init) else (yX2_init))) else (bif Nat.blt y 5 then (bif Nat.blt y 4 then (yX3_init) else (yX4_init)) else (bif Nat.blt y 6 then (yX5_init) else (yX6_init)))) else (bif Nat.blt y 11 then (bif Nat.blt y 9 then (bif Nat.blt y 8 then (yX7_init) else (yX8_init)) else (bif Nat.blt y 10 then (yX9_init) else (yX10_init))) else (bif Nat.blt y 13 then (bif Nat.blt y 12 then (yX11_init) else (yX12_init)) else (bif Nat.blt y 14 then (yX12_empties) else (x))))
def cby (y : Nat) : ByteArray := bif Nat.blt y 7 then (bif Nat.blt y 3 then (bif Nat.blt y 1 then (cX0_init) else (bif Nat.blt y 2 then (cX1_init) else (cX2_init))) else (bif Nat.blt y 5 then (bif Nat.blt y 4 then (cX3_init) else (cX4_init)) else (bif Nat.blt y 6 then (cX5_init) else (cX6_init)))) else (bif Nat.blt y 11 then (bif Nat.blt y 9 then (bif Nat.blt y 8 then (cX7_init) else (cX8_init)) else (bif Nat.blt y 10 then (cX9_init) else (cX10_init))) else (bif Nat.blt y 13 then (bif Nat.blt y 12 then (cX11_init) else (cX12_init)) else (bif Nat.blt y 14 then (cX12_empties) else (code))))
def cnest : List Jvm.Cond := [(Jvm.Cond.methodLinkNest "QuarrelKeys" (17 : Nat) ({ cls := "QuarrelKeys$Tape", name := "<init>", desc := "()V" } : Jvm.MethodName) "QuarrelKeys"), (Jvm.Cond.methodLinkNest "QuarrelKeys" (24 : Nat) ({ cls := "QuarrelKeys$QuarterReader", name := "<init>", desc := "()V" } : Jvm.MethodName) "QuarrelKeys"), (Jvm.Cond.methodLinkNest "QuarrelKeys" (31 : Nat) ({ cls := "QuarrelKeys$DecadesReader", name := "<init>", desc := "()V" } : Jvm.MethodName) "QuarrelKeys"), (Jvm.Cond.methodLinkNest "QuarrelKeys" (38 : Nat) ({ cls := "QuarrelKeys$Quarter", name := "<init>", desc := "()V" } : Jvm.MethodName) "QuarrelKeys"), (Jvm.Cond.methodLinkNest "QuarrelKeys" (48 : Nat) ({ cls := "QuarrelKeys$Decades", name := "<init>", desc := "()V" } : Jvm.MethodName) "QuarrelKeys"), (Jvm.Cond.methodLinkNest "QuarrelKeys" (66 : Nat) ({ cls := "QuarrelKeys$Life", name := "<init>", desc := "()V" } : Jvm.MethodName) "QuarrelKeys"), (Jvm.Cond.methodLinkNest "QuarrelKeys" (76 : Nat) ({ cls := "QuarrelKeys$Paths", name := "<init>", desc := "()V" } : Jvm.MethodName) "QuarrelKeys"), (Jvm.Cond.methodLinkNest "QuarrelKeys" (83 : Nat) ({ cls := "QuarrelKeys$Fitting", name := "<init>", desc := "()V" } : Jvm.MethodName) "QuarrelKeys"), (Jvm.Cond.methodLinkNest "QuarrelKeys" (90 : Nat) ({ cls := "QuarrelKeys$Bargain", name := "<init>", desc := "()V" } : Jvm.MethodName) "QuarrelKeys"), (Jvm.Cond.methodLinkNest "QuarrelKeys" (97 : Nat) ({ cls := "QuarrelKeys$Fraction", name := "<init>", desc := "()V" } : Jvm.MethodName) "QuarrelKeys"), (Jvm.Cond.methodLinkNest "QuarrelKeys" (109 : Nat) ({ cls := "QuarrelKeys$Tray", name := "<init>", desc := "()V" } : Jvm.MethodName) "QuarrelKeys")]
theorem cnest_in : ∀ w ∈ cnest, w ∈ lw_tbl := by
  intro w hw
  have h : cnest = [29, 92, 105, 119, 211, 255, 296, 332, 368, 391, 405].filterMap (fun i => tables_1[i]?) := by decide +kernel
  rw [h] at hw
  obtain ⟨i, -, hi⟩ := List.mem_filterMap.mp hw
  exact List.mem_append_right _ (List.mem_of_getElem? hi)
theorem cnest_is : ∀ w ∈ cnest, ∃ a i x ho, w = Cond.methodLinkNest a i x ho := by
  intro w hw
  simp only [cnest, List.mem_cons, List.not_mem_nil, or_false] at hw
  rcases hw with rfl | rfl | rfl | rfl | rfl | rfl | rfl | rfl | rfl | rfl | rfl <;> exact ⟨_, _, _, _, rfl⟩
def cown (y : Nat) : String := (cnm y).cls
def cfty (k : Nat) (ty : FieldType) : Prop := match k with
  | 0 => ty = .int
  | 4 => ty = .boolean
  | 1 => ty = .long
  | _ => ∀ q : Nat, narrow ty (.ref q) = .ref q ∧ fits ty (.ref q) = true
def kmok (a : Nat) : Prop := Cond.code (cnm a) (cby a) (cml a) none ∈ lw_good ∧ Cond.initialized (cnm a).cls ∈ lw_good ∧ plainName (cnm a).cls = true ∧ ((cnm a).cls ≠ "java/lang/invoke/MethodHandle" ∧ (cnm a).cls ≠ "java/lang/invoke/VarHandle") ∧ Cond.instanceMethod (cnm a) ∈ lw_good ∧ cml a ≤ 40 ∧ (a < 13 → (cnm a).name = "<init>")
def kex (y pc : Nat) (r : qrow) : Prop := match r.1 with
  | .iconst n => Int32.ofInt n = Int32.ofInt r.2.2.2.2.2.1
  | .bipush n => (Int8.ofInt n).toInt32 = Int32.ofInt r.2.2.2.2.2.1
  | .sipush n => (Int16.ofInt n).toInt32 = Int32.ofInt r.2.2.2.2.2.1
  | .lconst n => Int64.ofNat n.val = Int64.ofInt r.2.2.2.2.2.1
  | .istore_n k => k.val < cml y ∧ 1 ≤ k.val
  | .astore_n k => k.val < cml y ∧ 1 ≤ k.val
  | .iinc k _ => k < cml y ∧ 1 ≤ k
  | .if_icmp _ off => (pc : Int) + off = r.2.2.1
  | .goto off => (pc : Int) + off = r.2.2.1
  | .new i => ∃ C T N, vwCl[r.2.2.1]? = some (C, T, N) ∧ Cond.classLink (cown y) i C ∈ lw_good ∧ Cond.instantiable C N ∈ lw_good ∧ Cond.initialized C ∈ lw_good ∧ (cdf r.2.2.1).length = N ∧ ∃ ty : Nat → FieldType, (∀ k, k < N → parseFieldDescriptor (T k).2.2.1 = some (ty k)) ∧ ∀ b j, j < N → defaultValue (ty j) = vp_V ((cdf r.2.2.1).map (ctr b)) j
  | .newarray t => (r.2.2.1 = 0 ∧ t = .int) ∨ (r.2.2.1 = 1 ∧ t = .long) ∨ (r.2.2.1 = 2 ∧ t = .byte)
  | .anewarray i => (r.2.2.1 = 3 ∧ Cond.classLink (cown y) i RX10 ∈ lw_good) ∨ (r.2.2.1 = 4 ∧ Cond.classLink (cown y) i RX7 ∈ lw_good) ∨ (r.2.2.1 = 5 ∧ Cond.classLink (cown y) i RX1 ∈ lw_good)
  | .invokespecial i => (r.2.2.1 = 99 ∧ Cond.methodLink (cown y) i Lib.objectInit ∈ lw_good) ∨ (r.2.2.1 < 13 ∧ kmok r.2.2.1 ∧ (parseMethodDescriptor (cnm r.2.2.1).desc).map (fun d => d.parameters.length) = some 0 ∧ (Cond.methodLinkNest (cown y) i (cnm r.2.2.1) "QuarrelKeys" ∈ cnest ∨ Cond.methodLink (cown y) i (cnm r.2.2.1) ∈ lw_good))
  | .invokevirtual i => r.2.2.1 = 13 ∧ kmok 13 ∧ (parseMethodDescriptor (cnm 13).desc).map (fun d => d.parameters.length) = some 1 ∧ Cond.methodLink (cown y) i (cnm 13) ∈ lw_good ∧ Cond.selects (cnm 13).cls (cnm 13) (cnm 13) ∈ lw_good ∧ (cnm 13).cls = RX12
  | .getfield i => ∃ C T N, vwCl[r.2.2.1]? = some (C, T, N) ∧ r.2.2.2.1 < N ∧ Cond.fieldLink (cown y) i (T r.2.2.2.1).1 (T r.2.2.2.1).2.1 (T r.2.2.2.1).2.2.1 ∈ lw_good
  | .putfield i => y < 13 ∧ ∃ C T N, vwCl[r.2.2.1]? = some (C, T, N) ∧ r.2.2.2.1 < N ∧ Cond.fieldLink (cown y) i (T r.2.2.2.1).1 (T r.2.2.2.1).2.1 (T r.2.2.2.1).2.2.1 ∈ lw_good ∧ (T r.2.2.2.1).1 = cown y ∧ ∃ ty, parseFieldDescriptor (T r.2.2.2.1).2.2.1 = some ty ∧ cfty r.2.2.2.2.1 ty
  | _ => True
def kil (i : Instr) : Nat := match i with
  | .new _ => 3
  | .newarray _ => 2
  | .anewarray _ => 3
  | .invokespecial _ => 3
  | i => qil i
def kok (y pc : Nat) (r : qrow) : Prop := r.1 = .nop ∨ (decode (cby y) pc = .ok (r.1, kil r.1) ∧ r.2.1 = pc + kil r.1 ∧ kex y pc r)
theorem knode {y k : Nat} {f g : Nat → qrow} (hf : ∀ pc, kok y pc (f pc)) (hg : ∀ pc, kok y pc (g pc)) : ∀ pc, kok y pc (bif Nat.blt pc k then f pc else g pc) := by
  intro pc
  cases Nat.blt pc k with
  | true => exact hf pc
  | false => exact hg pc
theorem kleaf {y k : Nat} {r : qrow} (h : kok y k r) : ∀ pc, kok y pc (bif Nat.beq pc k then r else qdef) := by
  intro pc
  cases hb : Nat.beq pc k with
  | true =>
    have e : pc = k := Nat.eq_of_beq_eq_true hb
    subst e
    exact h
  | false => exact Or.inl rfl
theorem lkobj_i : Cond.instanceMethod Lib.objectInit ∈ lw_good := lw_good_in (List.mem_append_right _ (List.mem_of_getElem? (i := 23) (by decide +kernel))) rfl
theorem lkobj_c : Cond.code Lib.objectInit ⟨#[0xb1]⟩ 1 none ∈ lw_good := lw_good_in (List.mem_append_right _ (List.mem_of_getElem? (i := 24) (by decide +kernel))) rfl
theorem lkarr_i : Cond.arrayClass .int ∈ lw_good := lw_good_in (List.mem_append_right _ (List.mem_of_getElem? (i := 116) (by decide +kernel))) rfl
theorem lkarr_l : Cond.arrayClass .long ∈ lw_good := lw_good_in (List.mem_append_right _ (List.mem_of_getElem? (i := 208) (by decide +kernel))) rfl
theorem lkarr_b : Cond.arrayClass .byte ∈ lw_good := lw_good_in (List.mem_append_right _ (List.mem_of_getElem? (i := 89) (by decide +kernel))) rfl
def clv1 (b k : Nat) (v : Option cV) : Option (Nat × Value) := match v with
  | some (.inl x) => some (k, .int (Int32.ofInt x))
  | some (.inr (.inr (some i))) => some (k, .ref (b + i))
  | _ => none
def clv (b : Nat) (ls : List cV) : List (Nat × Value) := (List.range ls.length).filterMap (fun k => clv1 b k ls[k]?)
theorem clv_mem {b : Nat} {ls : List cV} {k : Nat} {w : Value} : (k, w) ∈ clv b ls ↔ (∃ x, ls[k]? = some (ci x) ∧ w = .int (Int32.ofInt x)) ∨ (∃ i, ls[k]? = some (cr i) ∧ w = .ref (b + i)) := by
  unfold clv
  rw [List.mem_filterMap]
  constructor
  · rintro ⟨k', hk', e⟩
    cases hv : ls[k']? with
    | none => rw [hv] at e; cases e
    | some v =>
      rw [hv] at e
      rcases v with x | x | _ | i
      · cases e; exact Or.inl ⟨x, hv, rfl⟩
      · cases e
      · cases e
      · cases e; exact Or.inr ⟨i, hv, rfl⟩
  · rintro (⟨x, hv, rfl⟩ | ⟨i, hv, rfl⟩)
    · exact ⟨k, List.mem_range.mpr (List.getElem?_eq_some_iff.mp hv).1, by rw [hv]; rfl⟩
    · exact ⟨k, List.mem_range.mpr (List.getElem?_eq_some_iff.mp hv).1, by rw [hv]; rfl⟩
theorem clv_set {b : Nat} {ls : List cV} {k : Nat} {v : cV} {wv : Value} (hv : (∃ x, v = ci x ∧ wv = .int (Int32.ofInt x)) ∨ (∃ i, v = cr i ∧ wv = .ref (b + i))) : ∀ q ∈ clv b (ls.set k v), q ∈ (k, wv) :: (clv b ls).filter (fun q => !(q.1 == k) && !(q.1 + 1 == k && q.2.category == 2)) := by
  rintro ⟨j, w⟩ hq
  rw [clv_mem] at hq
  simp only [List.getElem?_set] at hq
  by_cases hj : k = j
  · subst hj
    have hw : w = wv := by
      rcases hq with ⟨x, h1, h2⟩ | ⟨i, h1, h2⟩
      · split at h1
        · split at h1
          · injection h1 with h1
            rcases hv with ⟨x', h3, h4⟩ | ⟨i', h3, h4⟩
            · rw [h3] at h1; cases h1; rw [h2, h4]
            · rw [h3] at h1; cases h1
          · cases h1
        · rename_i hne; exact absurd rfl hne
      · split at h1
        · split at h1
          · injection h1 with h1
            rcases hv with ⟨x', h3, h4⟩ | ⟨i', h3, h4⟩
            · rw [h3] at h1; cases h1
            · rw [h3] at h1; cases h1; rw [h2, h4]
          · cases h1
        · rename_i hne; exact absurd rfl hne
    rw [hw]
    exact List.mem_cons_self
  · rw [if_neg hj] at hq
    refine List.mem_cons_of_mem _ (List.mem_filter.mpr ⟨clv_mem.mpr hq, ?_⟩)
    have hb1 : (j == k) = false := by simpa using fun e => hj e.symm
    have hc : (w.category == 2) = false := by
      rcases hq with ⟨x, _, rfl⟩ | ⟨i, _, rfl⟩
      · rfl
      · rfl
    simp [hb1, hc]
/-- what else a making frame needs of the tables -/
def cN (U : State) : Prop := (∀ w ∈ cnest, va_Nw w U) ∧ va_AO RX10 U ∧ va_AO RX7 U ∧ va_AO RX1 U
theorem cN.moved {u U : State} (h : cN u) (hW : u.WarmedH U.vm) : cN U := ⟨fun w hw => by
    have h1 := h.1 w hw
    have h2 := cnest_is w hw
    obtain ⟨a, i, x, ho, rfl⟩ := h2
    exact va_Nw.warmM hW h1, va_AO.moved hW.alike h.2.1, va_AO.moved hW.alike h.2.2.1, va_AO.moved hW.alike h.2.2.2⟩
def cFr (dA : Nat → ClassId) (D : va_G) (p : Program) (s : State) (m : MethodId) (args : Array Value) (meth : Method) (c : Code) (y : Nat) (Rm : Room) : Prop :=
  p.tables.exec = Jvm.exec ∧ c.code = cby y ∧ c.maxLocals = cml y ∧ s.vm.findClass (cown y) = some m.cls ∧ (∀ w ∈ lw_good, w.before args s = true) ∧ va_K D vwCl (qtys dA) s ∧ cN s ∧ (y < 13 → meth.name = "<init>") ∧ 1 ≤ Rm.frames ∧ 64 ≤ Rm.locals
def cZ (b : Nat) (dA : Nat → ClassId) (D : va_G) (p : Program) (l : Launch) (e : Env) (Rm : Room) (s : State) (m : MethodId) (args : Array Value) (below : List Frame) (meth : Method) (c : Code) (Q : State → Prop) (y c0 s0 : Nat) (xl : List (Nat × Value)) : cS → Prop := fun σ =>
  ∀ (lsr : Array Slot) (H : Heap) (locs : List Loc), c0 ≤ σ.2.2.2.length → s0 ≤ cslots σ.2.2.2 → H.size = b + σ.2.2.2.length → lv_has lsr (cml y) (xl ++ clv b σ.2.1) → va_P D vwCl (cws b dA σ.2.2.2) H → va_S (fun q => b ≤ q) s.heap H locs → W p l e Rm s m args below meth c H locs (σ.2.2.2.length - c0) (cslots σ.2.2.2 - s0) Q (F0 m σ.1 lsr (σ.2.2.1.map (ctr b)))
def kMet (l : Launch) (b : Nat) (dA : Nat → ClassId) (D : va_G) (d a : Nat) (as : List cV) (w w' : List cE) : Prop :=
  Met l (cnm a) (Cond.code (cnm a) (cby a) (cml a) none :: lw_good) ({ frames := d, cells := w'.length - w.length, slots := cslots w' - cslots w, locals := 64 * d })
    (va_Pc (as.map (ctr b)) (fun U => U.heap.size = b + w.length ∧ va_P D vwCl (cws b dA w) U.heap ∧ va_K D vwCl (qtys dA) U ∧ cN U))
    (fun _ st oc t => (oc = .returned none ∧ t.heap.size = b + w'.length ∧ va_P D vwCl (cws b dA w') t.heap) ∧ va_F (fun q => b ≤ q) st t) (w'.length - w.length) (cslots w' - cslots w) (fun q => b ≤ q)
