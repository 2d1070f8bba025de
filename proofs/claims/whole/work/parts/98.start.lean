/-! the start -/
section Sx
variable {L : Nat} {xs : Nat → Int32}
theorem h0_e {c i j k : Nat} (n0 : c ≠ 90) (n1 : c ≠ 91) : h0 L xs c i j k = hv c i j k := by unfold h0; rw [if_neg n0, if_neg n1]
theorem kX_W : ∀ w, w < 19 → qWORDS w = kX w := by decide +kernel
theorem h0_w {w : Nat} (hw : w < 19) : h0 L xs 90 0 0 w = kX w := by
  unfold h0
  rw [if_pos rfl, if_pos ⟨rfl, hw⟩]
  exact kX_W w hw
theorem hv_20 {k : Nat} : hv 12 0 20 k = if k = 2 then 8 else if k = 3 then 5 else 0 := by simp [hv]
theorem h0_L : h0 L xs 91 0 1 0 = L := by
  unfold h0
  rw [if_neg (by decide), if_pos rfl, if_neg (by decide), if_pos ⟨rfl, rfl⟩]
theorem h0_x {j : Nat} : qR (h0 L xs 91 0 0 j) := by
  unfold h0
  rw [if_neg (by decide), if_pos rfl, if_pos rfl]
  by_cases c : j < L
  · rw [if_pos c]; exact ⟨Int32.le_toInt _, Int32.toInt_lt _⟩
  · rw [if_neg c]; exact ⟨by decide, by decide⟩
theorem h0_Q : qQX (h0 L xs) 0 aEmpty := by
  intro x hx
  have a0 : aEmpty 0 = 0 := rfl
  have a1 : aEmpty 1 = 0 := rfl
  have hx7 : 0 ≤ x ∧ x < 7 := by unfold alv at hx; rw [a0, a1] at hx; omega
  rw [h0_e (by decide) (by decide)]
  have : x = 0 ∨ x = 1 ∨ x = 2 ∨ x = 3 ∨ x = 4 ∨ x = 5 ∨ x = 6 := by omega
  rcases this with e | e | e | e | e | e | e <;> subst e <;> decide
theorem h0_M : qM (h0 L xs) 0 aEmpty := by
  intro x x0 x1
  rw [h0_e (by decide) (by decide), hv_20]
  unfold aEmpty
  by_cases e2 : x = 2
  · rw [if_pos (by omega), if_pos e2]
  · rw [if_neg (by omega), if_neg e2]
    by_cases e3 : x = 3
    · rw [if_pos (by omega), if_pos e3]
    · rw [if_neg (by omega), if_neg e3]
theorem h0_D : dRel (h0 L xs) 0 0 (aEmpty 0) (aEmpty 1) := by
  have e5 : h0 L xs 1 0 5 0 = 0 := by rw [h0_e (by decide) (by decide)]; decide
  have e6 : h0 L xs 1 0 6 0 = 0 := by rw [h0_e (by decide) (by decide)]; decide
  refine ⟨?_, ?_, fun c => absurd e5 c, Or.inl e5⟩
  · rw [e5, h0_e (by decide) (by decide), hv_20]; decide
  · rw [e6, h0_e (by decide) (by decide), hv_20]; decide
theorem h0_T : tRel (h0 L xs) := by
  intro t t4
  have e1 : h0 L xs 10 t 1 0 = -1 := by rw [h0_e (by decide) (by decide)]; simp [hv]
  have e5 : h0 L xs 12 0 5 t = -1 := by rw [h0_e (by decide) (by decide)]; simp [hv, t4]
  rw [e1, e5]
  exact ⟨fun c => absurd rfl c, by omega, by omega, fun c => absurd rfl c⟩
theorem h0_I : Inv 0 (h0 L xs) aEmpty := by
  refine ⟨⟨h0_Q, h0_M, wf_empty (by omega), fun j j0 j1 => absurd j1 (by have : aEmpty 0 = 0 := rfl; omega), h0_D⟩, ⟨?_, ?_, fun k hk => ?_⟩, h0_T, ⟨?_, ?_, fun j j0 j1 => ?_⟩, ⟨fun w hw => h0_w hw, ?_, ?_, ?_, ?_, ?_, ?_, fun c => ?_⟩, Or.inl ?_⟩
  · rw [h0_e (by decide) (by decide), h0_e (by decide) (by decide)]; decide
  · rw [h0_e (by decide) (by decide)]; decide
  · rw [h0_e (by decide) (by decide)] at hk
    have : hv 11 0 16 0 = 0 := by decide
    omega
  · rw [h0_e (by decide) (by decide), h0_e (by decide) (by decide)]; decide
  · rw [h0_e (by decide) (by decide)]; decide
  · rw [h0_e (by decide) (by decide)] at j1
    have : hv 9 0 1 0 = 0 := by decide
    omega
  · rw [h0_e (by decide) (by decide), h0_e (by decide) (by decide)]; decide
  · rw [h0_e (by decide) (by decide), h0_e (by decide) (by decide)]; decide
  · rw [h0_e (by decide) (by decide), h0_e (by decide) (by decide)]; decide
  · rw [h0_e (by decide) (by decide), h0_e (by decide) (by decide)]; decide
  · rw [h0_e (by decide) (by decide), h0_e (by decide) (by decide)]; decide
  · rw [h0_e (by decide) (by decide), h0_e (by decide) (by decide)]; decide
  · rw [h0_e (by decide) (by decide)] at c
    exact absurd (by decide) c
  · rw [h0_e (by decide) (by decide)]; decide
end Sx
theorem law_HT : ∀ (L : Nat) (xs : Nat → Int32), L ≤ 3072 → qT 40 330 18 [qa 91 0 0, qo 11 0, qo 12 0, qi 0] [] (h0 L xs) (fun v _ => v = some (qi 1)) := by
  intro L xs hL
  refine law_loop (d := 0) (R := fun v _ => v = some (qi 1)) (fun _ => rfl) 600 h0_I (by omega) (by omega) (fun j => h0_x) (by omega) (by omega) ?_ ?_
  · rw [h0_L]; omega
  · rw [h0_L]; omega
/-- the law, from its entry -/
theorem whole_start {p : Program} {e : Env} {s : State} {m : MethodId} {below : List Frame} {meth : Method} {c : Code} (l : Launch) {b L : Nat} {xs : Nat → Int32} (hL : L ≤ 3072) (C0 : lw_At p s m meth c b L xs) : W p l e room_1 s m #[Value.ref b] below meth c s.heap [] 0 0 (lw_Z below #[Value.ref b] s) (entryFrame m ([Value.ref b] : List Value).toArray 4) := law_open law_HT l hL C0
