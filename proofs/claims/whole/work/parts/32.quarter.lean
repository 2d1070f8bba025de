section Q7
variable {d : Nat} {R : Option qV → qH → Prop} {h : qH} {i : Nat} {a : qB} {B : Int}
theorem x_hasPerson (hQ : qQX h i a) {p : Int} (hR : R (some (qi (if 0 ≤ p ∧ p < a 0 then 1 else 0))) h) : qT (d + 1) 50 0 [qo 7 i, qi p] [] h R := by
  refine sX7_hasPerson_0 ?_
  rw [qx_n hQ]
  refine ⟨fun h1 => ⟨by omega, ?_⟩, fun h1 => ⟨fun h2 => ⟨by omega, ?_⟩, fun h2 => ⟨by omega, ?_⟩⟩⟩
  · rwa [if_neg (by omega)] at hR
  · rwa [if_neg (by omega)] at hR
  · rwa [if_pos (by omega)] at hR
theorem x_heat (hQ : qQX h i a) (hW : qwf B a) {s : Nat} (hs : (s : Int) < a 1) (hR : R (some (qi (aHeat a s))) h) : qT (d + 1) 66 0 [qo 7 i, qi s] [] h R := by
  obtain ⟨p, q, hp, hq, hpn, hqn, hpq⟩ := wf_stN hW hs
  have h1 := wf_temp hW hpn
  have h2 := wf_temp hW hqn
  have h3 := wf_st hW hs
  have hm := wf_m hW
  have hn := wf_n hW
  refine sX7_heat_0 ?_
  simp only [Int.toNat_natCast]
  rw [qx_one hQ hs, qx_two hQ hs, qx_grud hQ hs, hp, hq]
  simp only [Int.toNat_natCast]
  rw [qx_temp hQ hpn, qx_temp hQ hqn]
  unfold aHeat at hR
  rw [hp, hq] at hR
  simp only [Int.toNat_natCast] at hR
  refine ⟨by omega, by omega, by omega, by omega, qR_of (by omega) (by omega), by omega, qR_of (by omega) (by omega), qR_of (by omega) (by omega), hR⟩
theorem x_allTempers (hQ : qQX h i a) (hW : qwf B a) (hR : R (some (qi (aSum a 7 (a 0).toNat))) h) : qT (d + 1) 62 0 [qo 7 i, qu, qu] [] h R := by
  have hn := wf_n hW
  refine sX7_allTempers_0 ?_
  have loop : ∀ k p : Nat, (p : Int) + k = a 0 → (0 ≤ aSum a 7 p ∧ aSum a 7 p ≤ 9 * p) → qT (d + 1) 62 4 [qo 7 i, qi (aSum a 7 p), qi p] [] h R := by
    intro k
    induction k with
    | zero =>
      intro p hp hb
      refine sX7_allTempers_4 ⟨fun _ => ?_, fun h1 => absurd (by rw [qx_n hQ]; omega) h1⟩
      rwa [show (a 0).toNat = p by omega] at hR
    | succ k ih =>
      intro p hp hb
      have hpn : (p : Int) < a 0 := by omega
      have ht := wf_temp hW hpn
      refine sX7_allTempers_4 ⟨fun h1 => absurd h1 (by rw [qx_n hQ]; omega), fun _ => ⟨by omega, ?_, qR_of (by omega) (by omega), ?_⟩⟩
      · rw [Int.toNat_natCast, qx_temp hQ hpn]
        exact qR_of (by omega) (by omega)
      · have := ih (p + 1) (by omega) (by show 0 ≤ aSum a 7 p + a (7 + p) ∧ _ ≤ _; constructor <;> omega)
        rw [Int.toNat_natCast, qx_temp hQ hpn]
        exact this
  exact loop (a 0).toNat 0 (by omega) ⟨Int.le_refl _, Int.le_refl _⟩
end Q7
