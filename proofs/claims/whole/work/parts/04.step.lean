/-- an array's kind (0 int, 1 long, 2 byte, 3 references, 9 none) and length -/
def qlen (h : qH) (c j : Nat) : Int := bif Nat.beq c 91 then h 91 0 1 0 else (qal c j).2
def qidx (h : qH) (t : Nat) (st : List qV) (f : Nat → Nat → Nat → Int → List qV → Prop) : Prop := match st with
  | .inl k :: .inr (.inr (.inr (.inl (c, i, j)))) :: r => bif Nat.beq (qal c j).1 t then (0 ≤ k ∧ k < qlen h c j) ∧ f c i j k r else False
  | _ => False
def qget (rw : qrow) (ls st : List qV) (h : qH) (K : Nat → List qV → List qV → qH → Prop) : Prop := match st with
  | .inr (.inr (.inl (c, i))) :: r => bif Nat.beq c rw.2.2.1 then (match rw.2.2.2.2.1 with
      | 1 => K rw.2.1 ls (ql (h c i rw.2.2.2.1 0) :: r) h
      | 2 => K rw.2.1 ls (qa c i rw.2.2.2.1 :: r) h
      | 3 => (match rw.2.2.2.2.2.2 with
        | (c', i') :: _ => K rw.2.1 ls (qo c'.toNat i' :: r) h
        | _ => False)
      | _ => K rw.2.1 ls (qi (h c i rw.2.2.2.1 0) :: r) h) else False
  | _ => False
def qput (rw : qrow) (ls st : List qV) (h : qH) (K : Nat → List qV → List qV → qH → Prop) : Prop := match st with
  | .inl x :: .inr (.inr (.inl (c, i))) :: r => bif Nat.beq c rw.2.2.1 then (match rw.2.2.2.2.1 with
      | 0 => K rw.2.1 ls r (qup h c i rw.2.2.2.1 0 x)
      | 4 => (x = 0 ∨ x = 1) ∧ K rw.2.1 ls r (qup h c i rw.2.2.2.1 0 x)
      | _ => False) else False
  | .inr (.inl x) :: .inr (.inr (.inl (c, i))) :: r => bif Nat.beq c rw.2.2.1 then (match rw.2.2.2.2.1 with
      | 1 => K rw.2.1 ls r (qup h c i rw.2.2.2.1 0 x)
      | _ => False) else False
  | _ => False
def qcopy (st : List qV) (h : qH) (K : List qV → qH → Prop) : Prop := match st with
  | .inl n :: .inl dp :: .inr (.inr (.inr (.inl (c, i, j)))) :: .inl sp :: .inr (.inr (.inr (.inl (c0, i0, j0)))) :: r =>
    bif Nat.beq (qal c j).1 (qal c0 j0).1 && Nat.blt c 90 && Nat.blt c0 90 && Nat.blt (qal c j).1 2 then (0 ≤ sp ∧ 0 ≤ dp ∧ 0 ≤ n ∧ sp + n ≤ qlen h c0 j0 ∧ dp + n ≤ qlen h c j) ∧ K r (qcp h c0 i0 j0 sp.toNat c i j dp.toNat n.toNat) else False
  | _ => False
def qprim (rw : qrow) (ls st : List qV) (h : qH) (K : Nat → List qV → List qV → qH → Prop) : Prop := match rw.2.2.1 - 1000 with
  | 0 => q2 st fun x y r => K rw.2.1 ls (qi (max x y) :: r) h
  | 1 => q2 st fun x y r => K rw.2.1 ls (qi (min x y) :: r) h
  | 2 => qL1 st fun x r => 0 ≤ x ∧ K rw.2.1 ls (ql x :: r) h
  | _ => qcopy st h fun r h' => K rw.2.1 ls r h'
def qcall (C : Nat → List qV → qH → (Option qV → qH → Prop) → Prop) (rw : qrow) (n : Nat) (ls st : List qV) (h : qH) (K : Nat → List qV → List qV → qH → Prop) : Prop :=
  bif Nat.ble n st.length && Nat.ble (qcat (st.drop n)) 8 && Nat.ble (qcat (st.take n)) (qml rw.2.2.1) then C rw.2.2.1 (st.take n).reverse h (fun v h' => qret rw.2.2.2.2.1 v h' (st.drop n) (fun st' h'' => K rw.2.1 ls st' h'')) else False
def qrecv (c n : Nat) (st : List qV) : Bool := match st[n]? with
  | some (.inr (.inr (.inl (c', _)))) => Nat.beq c' c
  | _ => false
def qdup (st : List qV) (f : List qV → Prop) : Prop := match st with
  | .inr (.inl _) :: _ => False
  | .inr (.inr (.inr (.inr _))) :: _ => False
  | v :: r => f (v :: v :: r)
  | [] => False
def qdup2 (st : List qV) (f : List qV → Prop) : Prop := match st with
  | .inl k :: .inr (.inr (.inr (.inl p))) :: r => f (.inl k :: .inr (.inr (.inr (.inl p))) :: .inl k :: .inr (.inr (.inr (.inl p))) :: r)
  | .inr (.inl x) :: r => f (ql x :: ql x :: r)
  | _ => False
def qIL (st : List qV) (f : Int → Int → List qV → Prop) : Prop := match st with
  | .inl y :: .inr (.inl x) :: r => f x y r
  | _ => False
def qA1 (st : List qV) (f : Nat → Nat → Nat → List qV → Prop) : Prop := match st with
  | .inr (.inr (.inr (.inl (c, i, j)))) :: r => f c i j r
  | _ => False
def qeI (st : List qV) (k : Nat) (f : Int → Prop) : Prop := match st with
  | [.inl x] => (match k with
    | 0 => f x
    | _ => (x = 0 ∨ x = 1) ∧ f x)
  | _ => False
def qeL (st : List qV) (f : Int → Prop) : Prop := match st with
  | [.inr (.inl x)] => f x
  | _ => False
def qe0 (st : List qV) (f : Prop) : Prop := match st with
  | [] => f
  | _ => False
def qstep (C : Nat → List qV → qH → (Option qV → qH → Prop) → Prop) (R : Option qV → qH → Prop) (rw : qrow) (ls st : List qV) (h : qH) (K : Nat → List qV → List qV → qH → Prop) : Prop := match rw.1 with
  | .iconst _ => K rw.2.1 ls (qi rw.2.2.2.2.2.1 :: st) h
  | .bipush _ => K rw.2.1 ls (qi rw.2.2.2.2.2.1 :: st) h
  | .sipush _ => K rw.2.1 ls (qi rw.2.2.2.2.2.1 :: st) h
  | .ldc _ => K rw.2.1 ls (qi rw.2.2.2.2.2.1 :: st) h
  | .ldc_w _ => K rw.2.1 ls (qi rw.2.2.2.2.2.1 :: st) h
  | .lconst _ => K rw.2.1 ls (ql rw.2.2.2.2.2.1 :: st) h
  | .ldc2_w _ => K rw.2.1 ls (ql rw.2.2.2.2.2.1 :: st) h
  | .iload_n k => qld ls[k.val]? 0 fun v => K rw.2.1 ls (v :: st) h
  | .iload k => qld ls[k]? 0 fun v => K rw.2.1 ls (v :: st) h
  | .lload_n k => qld ls[k.val]? 1 fun v => K rw.2.1 ls (v :: st) h
  | .lload k => qld ls[k]? 1 fun v => K rw.2.1 ls (v :: st) h
  | .aload_n k => qld ls[k.val]? 2 fun v => K rw.2.1 ls (v :: st) h
  | .aload k => qld ls[k]? 2 fun v => K rw.2.1 ls (v :: st) h
  | .istore_n k => q1 st fun x r => K rw.2.1 (qst ls k.val (qi x)) r h
  | .istore k => q1 st fun x r => K rw.2.1 (qst ls k (qi x)) r h
  | .lstore_n k => qL1 st fun x r => K rw.2.1 (qst2 ls k.val (ql x)) r h
  | .lstore k => qL1 st fun x r => K rw.2.1 (qst2 ls k (ql x)) r h
  | .iinc k n => qri ls[k]? fun x => qR (x + n) ∧ K rw.2.1 (qst ls k (qi (x + n))) st h
  | .iadd => q2 st fun x y r => qR (x + y) ∧ K rw.2.1 ls (qi (x + y) :: r) h
  | .isub => q2 st fun x y r => qR (x - y) ∧ K rw.2.1 ls (qi (x - y) :: r) h
  | .imul => q2 st fun x y r => qR (x * y) ∧ K rw.2.1 ls (qi (x * y) :: r) h
  | .idiv => q2 st fun x y r => (0 ≤ x ∧ 0 < y) ∧ K rw.2.1 ls (qi (x / y) :: r) h
  | .irem => q2 st fun x y r => (0 ≤ x ∧ 0 < y) ∧ K rw.2.1 ls (qi (x % y) :: r) h
  | .iand => q2 st fun x y r => K rw.2.1 ls (qi (qand x y) :: r) h
  | .ior => q2 st fun x y r => K rw.2.1 ls (qi (qor x y) :: r) h
  | .ixor => q2 st fun x y r => K rw.2.1 ls (qi (qxor x y) :: r) h
  | .ishl => q2 st fun x y r => K rw.2.1 ls (qi (qshl x y) :: r) h
  | .ishr => q2 st fun x y r => K rw.2.1 ls (qi (qshr x y) :: r) h
  | .iushr => q2 st fun x y r => K rw.2.1 ls (qi (qushr x y) :: r) h
  | .ladd => qL2 st fun x y r => qRL (x + y) ∧ K rw.2.1 ls (ql (x + y) :: r) h
  | .lsub => qL2 st fun x y r => qRL (x - y) ∧ K rw.2.1 ls (ql (x - y) :: r) h
  | .lmul => qL2 st fun x y r => qRL (x * y) ∧ K rw.2.1 ls (ql (x * y) :: r) h
  | .ldiv => qL2 st fun x y r => (0 ≤ x ∧ 0 < y) ∧ K rw.2.1 ls (ql (x / y) :: r) h
  | .lrem => qL2 st fun x y r => (0 ≤ x ∧ 0 < y) ∧ K rw.2.1 ls (ql (x % y) :: r) h
  | .land => qL2 st fun x y r => K rw.2.1 ls (ql (qland x y) :: r) h
  | .lor => qL2 st fun x y r => K rw.2.1 ls (ql (qlor x y) :: r) h
  | .lshl => qIL st fun x y r => K rw.2.1 ls (ql (qlshl x y) :: r) h
  | .lcmp => qL2 st fun x y r => K rw.2.1 ls (qi (qlcmp x y) :: r) h
  | .i2l => q1 st fun x r => K rw.2.1 ls (ql x :: r) h
  | .l2i => qL1 st fun x r => K rw.2.1 ls (qi (ql2i x) :: r) h
  | .i2b => q1 st fun x r => K rw.2.1 ls (qi (qi2b x) :: r) h
  | .i2s => q1 st fun x r => K rw.2.1 ls (qi (qi2s x) :: r) h
  | .dup => qdup st fun st' => K rw.2.1 ls st' h
  | .dup2 => qdup2 st fun st' => K rw.2.1 ls st' h
  | .pop => q1 st fun _ r => K rw.2.1 ls r h
  | .ifCond op _ => q1 st fun x r => (qc op x 0 → K rw.2.2.1 ls r h) ∧ (¬ qc op x 0 → K rw.2.1 ls r h)
  | .if_icmp op _ => q2 st fun x y r => (qc op x y → K rw.2.2.1 ls r h) ∧ (¬ qc op x y → K rw.2.1 ls r h)
  | .goto _ => K rw.2.2.1 ls st h
  | .tableswitch _ _ _ _ => q1 st fun x r => qsw x rw.2.2.2.2.2.2 rw.2.2.1 fun t => K t ls r h
  | .lookupswitch _ _ => q1 st fun x r => qsw x rw.2.2.2.2.2.2 rw.2.2.1 fun t => K t ls r h
  | .getfield _ => qget rw ls st h K
  | .putfield _ => qput rw ls st h K
  | .iaload => qidx h 0 st fun c i j k r => K rw.2.1 ls (qi (h c i j k.toNat) :: r) h
  | .laload => qidx h 1 st fun c i j k r => K rw.2.1 ls (ql (h c i j k.toNat) :: r) h
  | .baload => qidx h 2 st fun c i j k r => K rw.2.1 ls (qi (h c i j k.toNat) :: r) h
  | .aaload => qidx h 3 st fun c _ j k r => K rw.2.1 ls (qo (qra c j).1 ((qra c j).2 + k.toNat) :: r) h
  | .iastore => q1 st fun x st1 => qidx h 0 st1 fun c i j k r => bif Nat.blt c 90 then K rw.2.1 ls r (qup h c i j k.toNat x) else False
  | .lastore => qL1 st fun x st1 => qidx h 1 st1 fun c i j k r => bif Nat.blt c 90 then K rw.2.1 ls r (qup h c i j k.toNat x) else False
  | .bastore => q1 st fun x st1 => qidx h 2 st1 fun c i j k r => bif Nat.blt c 90 then (-128 ≤ x ∧ x ≤ 127) ∧ K rw.2.1 ls r (qup h c i j k.toNat x) else False
  | .arraylength => qA1 st fun c _ j r => bif Nat.blt 89 c then K rw.2.1 ls (qi (qlen h c j) :: r) h else False
  | .getstatic _ => K rw.2.1 ls (qa 90 0 0 :: st) h
  | .invokevirtual _ => bif qrecv (qcn rw.2.2.1) rw.2.2.2.1 st && Nat.blt rw.2.2.1 1000 then qcall C rw (rw.2.2.2.1 + 1) ls st h K else False
  | .invokestatic _ => bif Nat.blt rw.2.2.1 1000 then qcall C rw rw.2.2.2.1 ls st h K else (bif Nat.ble (qcat st) 20 then qprim rw ls st h K else False)
  | .ireturn => qeI st rw.2.2.2.2.1 fun x => R (some (qi x)) h
  | .lreturn => qeL st fun x => R (some (ql x)) h
  | .return_ => qe0 st (R none h)
  | _ => False
/-- n steps at most, up to a cut -/
def qwp (C : Nat → List qV → qH → (Option qV → qH → Prop) → Prop) (P : Nat → qrow) (cuts : List Nat) (R : Option qV → qH → Prop) (K : Nat → List qV → List qV → qH → Prop) : Nat → Nat → List qV → List qV → qH → Prop
  | 0, pc, ls, st, h => K pc ls st h
  | n + 1, pc, ls, st, h => qstep C R (P pc) ls st h (fun pc' ls' st' h' => bif cuts.elem pc' then K pc' ls' st' h' else qwp C P cuts R K n pc' ls' st' h')
/-- the method y, from a state on, comes to its end, and there R holds; calls at most d deep (the least relation that is closed under steps) -/
def qT : Nat → Nat → Nat → List qV → List qV → qH → (Option qV → qH → Prop) → Prop
  | 0, _, _, _, _, _, _ => False
  | d + 1, y, pc, ls, st, h, R => ∀ Z : Nat → List qV → List qV → qH → Prop, (∀ pc ls st h, qstep (fun y' as h' R' => qT d y' 0 (qpad (qml y') (qflat as)) [] h' R') R (qpg y pc) ls st h Z → Z pc ls st h) → Z pc ls st h
abbrev qC (d : Nat) : Nat → List qV → qH → (Option qV → qH → Prop) → Prop := fun y' as h' R' => qT d y' 0 (qpad (qml y') (qflat as)) [] h' R'
