/-! a call of the class, and the same call of the Model -/
theorem stepOK_nm {n m n' m' : Int} {D : Int → Int → Int} {C : Nat → Int → Int} {s l : Int} (h : stepOK n m D C s l) (hn : n ≤ n') (hm : m ≤ m') : stepOK n' m' D C s l := by
  unfold stepOK at *
  obtain ⟨g0, g1, g2, g3, g4, g5, g6, g7, g8⟩ := h
  refine ⟨g0, fun c => ?_, fun c => ?_, g3, fun c => ?_, g5, fun c => ?_, g7, g8⟩
  · have := g1 c; omega
  · have := g2 c; omega
  · have := g4 c; omega
  · obtain ⟨e0, e1, e2, e3, e4⟩ := g6 c
    refine ⟨e0, fun c => ?_, fun c => ?_, fun c => ?_, fun c => ?_⟩
    · have := e1 c; omega
    · have := e2 c; omega
    · have := e3 c; omega
    · have := e4 c; omega
theorem dSeg_nm {n m n' m' : Int} {D : Int → Int → Int} {C : Nat → Int → Int} (hn : n ≤ n') (hm : m ≤ m') : ∀ (k dd : Nat) {f t l e : Int}, dSeg n m D C k dd f t l e → dSeg n' m' D C k dd f t l e
  | 0, _, _, _, _, _, h => h
  | k + 1, dd, f, t, l, e, h => by
    rcases h with h | ⟨h1, h2, h3⟩
    · exact Or.inl h
    · refine Or.inr ⟨h1, stepOK_nm h2 hn hm, ?_⟩
      rcases h3 with ⟨a1, a2, a3⟩ | ⟨a1, a2, E, a3, a4, a5, a6, a7⟩
      · exact Or.inl ⟨a1, a2, dSeg_nm hn hm k dd a3⟩
      · exact Or.inr ⟨a1, a2, E, a3, a4, a5, dSeg_nm hn hm k _ a6, dSeg_nm hn hm k dd a7⟩
theorem dRel_nm {h : qH} {ic : Nat} {bl n m n' m' : Int} (hd : dRel h ic bl n m) (hn : n ≤ n') (hm : m ≤ m') : dRel h ic bl n' m' := ⟨hd.1, hd.2.1, fun c => by
  obtain ⟨g1, g2, k, g3⟩ := hd.2.2.1 c
  exact ⟨g1, g2, k, dSeg_nm hn hm k 3 g3⟩, hd.2.2.2⟩
/-- scratch, the status and the QUARTER itself -/
def PJ (c i j : Nat) : Prop := Scr c i j ∨ (c = 11 ∧ j = 17) ∨ (c = 12 ∧ (j = 0 ∨ j = 20)) ∨ (c = 7 ∧ i = 0 ∧ 1 ≤ j)
section Pj
variable {B B' : Int} {h h' : qH} {a a' : qB}
theorem tB_e (ht : tB h) (e : h' 6 = h 6) : tB h' := by
  unfold tB tS at *
  rw [e]
  exact ht
theorem oRel_e (ho : oRel h) (hf : fr PJ h h') (hs : h' 11 0 17 0 = h' 12 0 0 0) : oRel h' := by
  have n : ∀ c i j, ¬ PJ c i j → h' c i j = h c i j := hf
  unfold PJ Scr at n
  unfold oRel at *
  rw [n 90 0 0 (by omega), hs, n 11 0 18 (by omega), n 11 0 19 (by omega), n 12 0 10 (by omega), n 12 0 11 (by omega), n 4 0 0 (by omega), n 4 0 1 (by omega), n 12 0 2 (by omega), n 12 0 3 (by omega), n 5 0 1 (by omega), n 12 0 40 (by omega), n 12 0 39 (by omega), n 5 0 5 (by omega), n 5 0 6 (by omega), n 5 0 7 (by omega), n 5 0 8 (by omega), n 5 0 2 (by omega)]
  exact ⟨ho.1, rfl, ho.2.2⟩
theorem Inv_q (hi : Inv B h a) (hf : fr PJ h h') (hc : ∀ y : Int, 100 ≤ y → y < 1488 → h' 12 0 20 (Int.toNat y) = h 12 0 20 (Int.toNat y)) (hQ : qQX h' 0 a') (hM : qM h' 0 a') (hW : qwf B' a') (hB : B ≤ B') (h0 : a' 0 = a 0) (h1 : a 1 ≤ a' 1) (hs : h' 11 0 17 0 = h' 12 0 0 0) : Inv B' h' a' := by
  have n : ∀ c i j, ¬ PJ c i j → h' c i j = h c i j := hf
  unfold PJ Scr at n
  obtain ⟨⟨q1, q2, q3, q4, q5⟩, i2, i3, i4, i5, i6⟩ := hi
  refine ⟨⟨hQ, hM, hW, ?_, ?_⟩, ?_, ?_, ?_, oRel_e i5 hf hs, tB_e i6 (by funext i j; exact n 6 i j (by omega))⟩
  · rw [h0]; exact nRel_e q4 (n 7 0 0 (by omega)) (n 12 0 22 (by omega))
  · exact dRel_nm (dRel_e q5 (by funext j; exact n 1 0 j (by omega)) (fun y y0 y1 => hc y (by omega) (by omega))) (by omega) h1
  · exact mRel_e (mRel_B i2 hB) (fun i i2 => by funext j; exact n 7 i j (by omega)) (fun i i2 => by funext j; exact n 1 i j (by omega)) (fun y y0 y1 => hc y (by omega) y1) (n 12 0 22 (by omega)) (n 11 0 16 (by omega)) (n 12 0 23 (by omega))
  · exact tRel_e i3 (by funext i j; exact n 10 i j (by omega)) (n 12 0 4 (by omega)) (n 12 0 5 (by omega)) (n 12 0 6 (by omega))
  · exact pRel_e i4 (n 9 0 0 (by omega)) (n 9 0 1 (by omega)) (n 12 0 7 (by omega)) (n 12 0 8 (by omega))
/-- nothing but scratch and the status -/
def PN0 (c i j : Nat) : Prop := Scr c i j ∨ (c = 11 ∧ j = 17) ∨ (c = 12 ∧ j = 0)
theorem Inv_n (hi : Inv B h a) (hf : fr PN0 h h') (hB : B ≤ B') (hs : h' 11 0 17 0 = h' 12 0 0 0) : Inv B' h' a := by
  have n : ∀ c i j, ¬ PN0 c i j → h' c i j = h c i j := hf
  unfold PN0 Scr at n
  refine Inv_q hi (fr_mono hf (fun c i j hP => ?_)) (fun y _ _ => by rw [n 12 0 20 (by omega)]) (qx_fr hi.1.1 (by funext j; exact n 7 0 j (by omega))) (m_fr hi.1.2.1 (n 12 0 20 (by omega))) (wf_mono hi.1.2.2.1 hB) hB rfl (by omega) hs
  rcases hP with p | p | p
  · exact Or.inl p
  · exact Or.inr (Or.inl p)
  · exact Or.inr (Or.inr (Or.inl ⟨p.1, Or.inl p.2⟩))
end Pj
def Pair (y z : Nat) (l l' : List qV) : Prop := ∀ {d : Nat} {B : Int} {h : qH} {a : qB} {K X : qH → Prop} {S : Option qV → qH → Prop}, Inv B h a → 0 ≤ B → B + 300 < 2000000000 → (∀ g a', Inv (B + 300) g a' → g 91 = h 91 → K g) → (∀ r g, g 91 = h 91 → qT (d + 39) z 0 (qo 12 0 :: l') [] g (fun w' g' => qri w' fun r' => (r = r' → K g') ∧ (¬ r = r' → X g')) → S (some (qi r)) g) → qT (d + 39) y 0 (qo 11 0 :: l) [] h S
def PairL (y z : Nat) (l l' : List qV) : Prop := ∀ {d : Nat} {B : Int} {h : qH} {a : qB} {K X : qH → Prop} {S : Option qV → qH → Prop}, Inv B h a → 0 ≤ B → B + 300 < 2000000000 → (∀ g a', Inv (B + 300) g a' → g 91 = h 91 → K g) → (∀ r g, g 91 = h 91 → qT (d + 39) z 0 (qo 12 0 :: l') [] g (fun w' g' => qrl w' fun r' => (qlcmp r r' = 0 → K g') ∧ (¬ qlcmp r r' = 0 → X g')) → S (some (ql r)) g) → qT (d + 39) y 0 (qo 11 0 :: l) [] h S
theorem fr_91 {h h' : qH} (hf : fr PN0 h h') : h' 91 = h 91 := by
  funext i j
  refine hf 91 i j ?_
  unfold PN0 Scr
  omega
theorem fr_91J {h h' : qH} (hf : fr PJ h h') : h' 91 = h 91 := by
  funext i j
  refine hf 91 i j ?_
  unfold PJ Scr
  omega
theorem PN_1 {h : qH} {v : Int} : fr PN0 h (qup h 12 0 1 0 v) := fr_up (by unfold PN0 Scr; omega)
theorem PN_0 {h : qH} {v : Int} : fr PN0 h (qup h 12 0 0 0 v) := fr_up (by unfold PN0 Scr; omega)
theorem PN_s {h : qH} {v : Int} : fr PN0 h (qup h 11 0 17 0 v) := fr_up (by unfold PN0 Scr; omega)
theorem okR {K X : Prop} {r r' : Int} (k : K) (e : r = r') : (r = r' → K) ∧ (¬ r = r' → X) := ⟨fun _ => k, fun c => absurd e c⟩
/-- the status told by the class, the Model about to begin -/
def hh (h : qH) (s : Int) : qH := qup (qup (qup h 11 0 17 0 s) 12 0 1 0 0) 12 0 0 0 0
theorem hh_fr {h : qH} {s : Int} : fr PN0 h (hh h s) := fr_trans PN_s (fr_trans PN_1 PN_0)
theorem hh_M {h : qH} {s : Int} {a : qB} (hM : qM h 0 a) : qM (hh h s) 0 a := m_fr hM (by unfold hh; rw [up_j (by omega), up_j (by omega), up_j (by omega)])
theorem hh_0 {B : Int} {h : qH} {a : qB} (hi : Inv B h a) : Inv (B + 300) (hh h 0) a := Inv_n hi hh_fr (by omega) (by unfold hh; rw [up_j (by omega), up_j (by omega), up_at, up_at])
theorem hh_s {B : Int} {h : qH} {a : qB} {s : Int} (hi : Inv B h a) : Inv (B + 300) (qup (hh h s) 12 0 0 0 s) a := Inv_n hi (fr_trans hh_fr PN_0) (by omega) (by unfold hh; rw [up_j (by omega), up_j (by omega), up_j (by omega), up_at, up_at])
theorem iM0 {B : Int} {h : qH} {a : qB} (hi : Inv B h a) : qM h 0 a := hi.1.2.1
theorem qQ_s {h : qH} {s : Int} {a : qB} (hQ : qQX h 0 a) : qQX (qup h 11 0 17 0 s) 0 a := qx_fr hQ (funext fun j => up_j (by omega))
theorem s_91 {h : qH} {s : Int} : (qup h 11 0 17 0 s) 91 = h 91 := fr_91 PN_s
section Pp
variable {B : Int} {h : qH} {a : qB}
theorem iSt (hi : Inv B h a) : h 11 0 17 0 = h 12 0 0 0 := hi.2.2.2.2.1.2.1
theorem p_status : Pair 106 172 [] [] := by
  intro d B h a K X S hi b0 b1 hK hS
  refine sX11_status_0 (hS _ h rfl (sX12_status_0 ⟨fun _ => hK _ a (Inv_n hi PN_1 (by omega) ?_) (fr_91 PN_1), fun c => absurd (iSt hi) c⟩))
  rw [up_j (by omega), up_j (by omega)]; exact iSt hi
theorem p_top : PairL 107 173 [] [] := by
  intro d B h a K X S hi b0 b1 hK hS
  refine sX11_top_0 (hS _ h rfl (sX12_top_0 ⟨fun _ => hK _ a (Inv_n hi PN_1 (by omega) ?_) (fr_91 PN_1), fun c => absurd (qlcmp_eq.mpr hi.2.2.2.2.1.2.2.2.2.1) c⟩))
  rw [up_j (by omega), up_j (by omega)]; exact iSt hi
theorem p_bottom : PairL 108 174 [] [] := by
  intro d B h a K X S hi b0 b1 hK hS
  refine sX11_bottom_0 (hS _ h rfl (sX12_bottom_0 ⟨fun _ => hK _ a (Inv_n hi PN_1 (by omega) ?_) (fr_91 PN_1), fun c => absurd (qlcmp_eq.mpr hi.2.2.2.2.1.2.2.2.2.2.1) c⟩))
  rw [up_j (by omega), up_j (by omega)]; exact iSt hi
theorem p_fault {x : Int} : Pair 116 219 [qi x] [qi x] := by
  intro d B h a K X S hi b0 b1 hK hS
  have k : K (qup h 12 0 1 0 0) := hK _ a (Inv_n hi PN_1 (by omega) (by rw [up_j (by omega), up_j (by omega)]; exact iSt hi)) (fr_91 PN_1)
  have o := hi.2.2.2.2.1
  refine sX11_fault_0 ⟨fun c => ⟨fun c2 => hS _ h rfl (sX12_fault_0 ⟨fun _ => ⟨fun _ => ⟨fun _ => k, fun c => absurd rfl c⟩, fun c3 => absurd c2 c3⟩, fun c3 => absurd c c3⟩), fun c2 => hS _ h rfl (sX12_fault_0 ⟨fun _ => ⟨fun c3 => absurd c3 c2, fun _ => ⟨fun _ => k, fun c4 => absurd o.2.2.2.1 c4⟩⟩, fun c3 => absurd c c3⟩)⟩, fun c => hS _ h rfl (sX12_fault_0 ⟨fun c3 => absurd c3 c, fun _ => ⟨fun _ => k, fun c4 => absurd o.2.2.1 c4⟩⟩)⟩
end Pp
