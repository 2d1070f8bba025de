/-! writing into TRAYS -/
def cutV (s v : Int) : Int := if s = 0 then qi2b (ql2i v) else if s = 1 then qi2s (ql2i v) else if s = 2 then ql2i v else v
theorem tRel_put {h h' : qH} {t : Nat} {p v : Int} (ht : tRel h) (t4 : t < 4) (p0 : 0 ≤ p) (p6 : p < 60) (e10 : ∀ t', t' ≠ t → h' 10 t' = h 10 t') (e1 : h' 10 t 1 = h 10 t 1) (e2 : h' 10 t 2 = h 10 t 2) (e0 : ∀ k, 0 ≤ k → h' 10 t 0 (Int.toNat k) = if k = p then v else h 10 t 0 (Int.toNat k)) (m4 : h' 12 0 4 = h 12 0 4) (m5 : h' 12 0 5 = h 12 0 5) (m6 : ∀ y, 0 ≤ y → h' 12 0 6 (Int.toNat y) = if y = 60 * t + p then v else h 12 0 6 (Int.toNat y)) : tRel h' := by
  intro t' ht'
  have T := ht t' ht'
  by_cases c : t' = t
  · subst c
    rw [e1, e2, m4, m5]
    refine ⟨T.1, T.2.1, T.2.2.1, fun nm => ?_⟩
    have T2 := T.2.2.2 nm
    refine ⟨T2.1, T2.2.1, fun k k0 k1 => ?_⟩
    rw [e0 k k0, m6 _ (by omega)]
    by_cases ck : k = p
    · rw [if_pos ck, if_pos (by omega)]
    · rw [if_neg ck, if_neg (by omega)]; exact T2.2.2 k k0 k1
  · rw [e10 t' c, m4, m5]
    refine ⟨T.1, T.2.1, T.2.2.1, fun nm => ?_⟩
    have T2 := T.2.2.2 nm
    refine ⟨T2.1, T2.2.1, fun k k0 k1 => ?_⟩
    rw [m6 _ (by omega), if_neg (by omega)]
    exact T2.2.2 k k0 k1
section Tw
variable {d : Nat} {R : Option qV → qH → Prop} {h : qH}
theorem x_put {t : Nat} {p v : Int} (p0 : 0 ≤ p) (hl : p < h 10 t 2 0) (h6 : h 10 t 2 0 ≤ 60) (hR : R none (qup h 10 t 0 (Int.toNat p) (cutV (h 10 t 1 0) v))) : qT (d + 2) 104 0 [qo 10 t, qi p, ql v, qu] [] h R := by
  unfold cutV at hR
  refine sX10_put_0 (sX10_hasRow_0 ⟨fun c => absurd c (by omega), fun _ => ⟨fun c => absurd c (by decide), fun _ => ⟨qR_of (by omega) (by omega), fun c => absurd c (by omega), fun _ => ⟨by omega, fun c => absurd c (by decide), fun _ => ?_⟩⟩⟩⟩)
  refine sX10_cut_0 ⟨fun e => ⟨by omega, by rw [if_pos e] at hR; exact hR⟩, fun n0 => ⟨fun e => ⟨by omega, by rw [if_neg n0, if_pos e] at hR; exact hR⟩, fun n1 => ⟨fun e => ⟨by omega, by rw [if_neg n0, if_neg n1, if_pos e] at hR; exact hR⟩, fun n2 => ⟨by omega, by rw [if_neg n0, if_neg n1, if_neg n2] at hR; exact hR⟩⟩⟩⟩
theorem m_cut {s v : Int} (hR : R (some (ql (cutV s v))) h) : qT (d + 1) 179 0 [qi s, ql v, qu] [] h R := by
  unfold cutV at hR
  refine sX12_cut_0 ⟨fun n0 => ⟨fun n1 => ⟨fun n2 => by rw [if_neg n0, if_neg n1, if_neg n2] at hR; exact hR, fun e => by rw [if_neg n0, if_neg n1, if_pos (Decidable.not_not.mp e)] at hR; exact hR⟩, fun e => by rw [if_neg n0, if_pos (Decidable.not_not.mp e)] at hR; exact hR⟩, fun e => by rw [if_pos (Decidable.not_not.mp e)] at hR; exact hR⟩
end Tw
theorem p_write {t p v : Int} (pr : qR p) : Pair 110 183 [qi t, qi p, ql v, qu] [qi t, qi p, ql v, qu] := by
  intro d B h a K X S hi b0 b1 hK hS
  have ht := hi.2.2.1
  obtain ⟨s, hs⟩ : ∃ s, plS h t p = s := ⟨_, rfl⟩
  have pb := plS_b h t p
  refine sX11_write_0 (x_place ht pr ?_)
  dsimp only [qri]
  rw [hs] at pb ⊢
  refine sX11_agree_0 ⟨fun ns => ⟨by omega, fun _ => ?_, fun c => absurd rfl c⟩, fun e0 => ⟨by omega, fun c => absurd c (by decide), fun _ => ⟨?_, ?_⟩⟩⟩
  · rw [up_at]
    have e5 : h 12 0 5 = (qup (qup h 11 0 17 0 s) 12 0 1 0 0) 12 0 5 := by rw [up_j (by omega), up_j (by omega)]
    have kk : K (qup (qup (qup h 11 0 17 0 s) 12 0 1 0 0) 12 0 0 0 s) := hK _ a (Inv_n hi (fr_trans PN_s (fr_trans PN_1 PN_0)) (by omega) (by rw [up_j (by omega), up_j (by omega), up_at, up_at])) (fr_91 (fr_trans PN_s (fr_trans PN_1 PN_0)))
    refine ⟨fun _ => ⟨by omega, hS _ _ s_91 (sX12_write_0 (m_place ht e5 ?_))⟩, fun c => absurd ns c⟩
    dsimp only [qri]
    rw [hs, up_at]
    exact ⟨fun c => absurd c (by omega), fun _ => ⟨by omega, okR kk rfl⟩⟩
  · have := pb.2 (Decidable.not_not.mp e0); omega
  · have e0 := Decidable.not_not.mp e0
    subst e0
    have q := pb.2 rfl
    have T0 := ht t.toNat (by omega)
    have T := T0.2.2.2 q.2.1
    rw [show 0 + Int.toNat t = t.toNat by omega]
    refine x_put q.2.2.1 (by rw [up_j (by omega)]; exact q.2.2.2) (by rw [up_j (by omega)]; exact T.2.1) ?_
    dsimp only [qrv]
    obtain ⟨w, hw⟩ : ∃ w, cutV (h 10 t.toNat 1 0) v = w := ⟨_, rfl⟩
    rw [show (qup h 11 0 17 0 0) 10 t.toNat 1 0 = h 10 t.toNat 1 0 by rw [up_j (by omega)], hw, show (qup (qup h 11 0 17 0 0) 10 t.toNat 0 (Int.toNat p) w) 11 0 17 0 = 0 by rw [up_j (by omega)]; exact up_at]
    have f1 : fr PTr h (qup (qup h 11 0 17 0 0) 10 t.toNat 0 (Int.toNat p) w) := fr_trans (fr_mono PN_s (fun c i j p => Or.inl p)) (fr_up (Or.inr (Or.inl rfl)))
    have e5 : h 12 0 5 = (qup (qup (qup h 11 0 17 0 0) 10 t.toNat 0 (Int.toNat p) w) 12 0 1 0 0) 12 0 5 := by rw [up_j (by omega), up_j (by omega), up_j (by omega)]
    refine ⟨fun c => absurd rfl c, fun _ => ⟨by omega, hS _ _ (fr_91T f1) (sX12_write_0 (m_place ht e5 ?_))⟩⟩
    dsimp only [qri]
    rw [hs, up_at]
    refine ⟨fun _ => ⟨qR_of (by omega) (by omega), qR_of (by omega) (by omega), by omega, m_cut ?_⟩, fun c => absurd (by omega) c⟩
    dsimp only [qrl]
    rw [up_j (by omega), up_j (by omega), up_j (by omega), ← T0.1 q.2.1, hw]
    refine ⟨by omega, by omega, okR (hK _ a (Inv_t hi (fr_trans f1 (fr_trans (fr_mono PN_1 (fun c i j p => Or.inl p)) (fr_trans (fr_mono PN_0 (fun c i j p => Or.inl p)) (fr_up (Or.inr (Or.inr ⟨rfl, by omega, by omega⟩)))))) (by omega) ?_ ?_) ?_) rfl⟩
    · refine tRel_put (t := t.toNat) (p := p) (v := w) ht (by omega) q.2.2.1 (by omega) ?_ ?_ ?_ ?_ ?_ ?_ ?_
      · intro t' nt; funext j; rw [up_j (by omega), up_j (by omega), up_j (by omega), up_j (by omega), up_j (by omega)]
      · rw [up_j (by omega), up_j (by omega), up_j (by omega), up_j (by omega), up_j (by omega)]
      · rw [up_j (by omega), up_j (by omega), up_j (by omega), up_j (by omega), up_j (by omega)]
      · intro k k0
        rw [up_j (by omega), up_j (by omega), up_j (by omega), up_I k0 q.2.2.1, up_j (by omega)]
      · rw [up_j (by omega), up_j (by omega), up_j (by omega), up_j (by omega), up_j (by omega)]
      · rw [up_j (by omega), up_j (by omega), up_j (by omega), up_j (by omega), up_j (by omega)]
      · intro y y0
        rw [up_I y0 (by omega), up_j (by omega), up_j (by omega), up_j (by omega), up_j (by omega), show 60 * ((t.toNat : Nat) : Int) + p = 60 * t + p by omega]
    · rw [up_j (by omega), up_j (by omega), up_j (by omega), up_j (by omega), up_at, up_j (by omega), up_at]
    · exact fr_91T (fr_trans f1 (fr_trans (fr_mono PN_1 (fun c i j p => Or.inl p)) (fr_trans (fr_mono PN_0 (fun c i j p => Or.inl p)) (fr_up (Or.inr (Or.inr ⟨rfl, by omega, by omega⟩))))))
