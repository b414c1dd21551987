section OPSM
variable {t n l m h c1 c2 c3 : Nat} {M : g_M}
theorem W_H.F {d : Nat → Int32} {i : Nat} (hi : i < 40) (w : W_H d i) : ((isOf (d (40 + 4 * i)) 2 = true ∧ d (40 + 4 * i + 3) = -1) ∨ (isOf (d (40 + 4 * i)) 2 = false ∧ ∃ q, q < 24 ∧ d (40 + 4 * i + 3) = nI q)) ∧ ((isOf (d (40 + 4 * i)) 1 = true ∧ d (40 + 4 * i + 1) = -1) ∨ (isOf (d (40 + 4 * i)) 1 = false ∧ ∃ q, q < 40 ∧ d (40 + 4 * i + 1) = nI q)) ∧ ((isOf (d (40 + 4 * i)) 2 = false ∧ d (40 + 4 * i + 2) = -1) ∨ (isOf (d (40 + 4 * i)) 2 = true ∧ ∃ q, q < 40 ∧ d (40 + 4 * i + 2) = nI q)) := by
  rcases w with ⟨k15, e1, e2, q, hq, e3⟩ | ⟨k23, ⟨a, ha, ea⟩, ⟨b, hb, eb⟩, e3⟩ | ⟨k4, ⟨a, ha, ea⟩, e2, q, hq, e3⟩
  · have f2 : isOf (d (40 + 4 * i)) 2 = false := by rcases k15 with e | e <;> rw [e] <;> decide
    have f1 : isOf (d (40 + 4 * i)) 1 = true := by rcases k15 with e | e <;> rw [e] <;> decide
    exact ⟨Or.inr ⟨f2, q, hq, e3⟩, Or.inl ⟨f1, e1⟩, Or.inl ⟨f2, e2⟩⟩
  · have f2 : isOf (d (40 + 4 * i)) 2 = true := by rcases k23 with e | e <;> rw [e] <;> decide
    have f1 : isOf (d (40 + 4 * i)) 1 = false := by rcases k23 with e | e <;> rw [e] <;> decide
    exact ⟨Or.inl ⟨f2, e3⟩, Or.inr ⟨f1, a, by omega, ea⟩, Or.inr ⟨f2, b, by omega, eb⟩⟩
  · have f2 : isOf (d (40 + 4 * i)) 2 = false := by rw [k4]; decide
    have f1 : isOf (d (40 + 4 * i)) 1 = false := by rw [k4]; decide
    exact ⟨Or.inr ⟨f2, q, hq, e3⟩, Or.inr ⟨f1, a, by omega, ea⟩, Or.inl ⟨f2, e2⟩⟩
theorem op_hanging (H : Rel0 t n l m h c1 c2 c3 M) (x y : Int32) : Op (f_X11_hanging x y) (f_X12_hanging x y) t M := by
  obtain ⟨h1, h2, h3, h4, h5, h6, h7, h8, h9, h10, h11⟩ := id H
  obtain ⟨b1, b2, b3, b4, e0, e4, e1, e3, eu, wA, wL, wH, wT⟩ := id h1
  rcases ix x (n := h) (by omega) with ho | ⟨i, hi, rfl⟩
  · refine Op.t0 H ?_ ?_
    · unfold f_X11_hanging
      rw [hh_out h3.1 ho, Option.bind_some, if_pos rfl]
    · unfold f_X12_hanging
      rw [mh_out (n := h) (M := tellM 0 M) e3 (by omega) ho, Option.bind_some, if_pos rfl]
      rfl
  rcases ix y (n := 6) (by omega) with ho | ⟨j, hj, rfl⟩
  · have ne := n6_ne ho
    refine Op.t0 H ?_ ?_
    · unfold f_X11_hanging
      rw [hh_in h3.1 hi (by omega), Option.bind_some, if_neg (by decide), if_neg ne.1, if_neg ne.2.1, if_neg ne.2.2.1, if_neg ne.2.2.2.1, if_neg ne.2.2.2.2.1, if_neg ne.2.2.2.2.2]
    · unfold f_X12_hanging
      rw [mh_in (n := h) (M := tellM 0 M) e3 (by omega) hi, Option.bind_some, if_neg (by decide), in_out _ (a := 0) (b := 5) (out_m1 (n := 6) (by omega) ho), Option.bind_some, if_pos rfl]
      rfl
  have hi4 : i < 40 := by omega
  have q := h3.2 i hi
  have F := (wH i hi).F hi4
  have hS : ∀ k ∈ [66, 67], k ∈ SC := by decide
  have hT : ∀ k ∈ ([] : List (Nat × Nat)), k ∈ ST := by simp
  have cls : f_X11_hanging (nI i) (nI j) M = (if nI j = 0 then some (M.1 60 (40 + 4 * i), M) else (if nI j = 1 then (if isOf (M.1 60 (40 + 4 * i)) 2 = true then ((f_X2_tell (-1000000003) M).bind fun p5 => some (p5.1, p5.2)) else some (M.1 26 i, M)) else (if nI j = 2 then (if isOf (M.1 60 (40 + 4 * i)) 1 = true then ((f_X2_tell (-1000000003) M).bind fun p5 => some (p5.1, p5.2)) else some (M.1 28 i, M)) else (if nI j = 3 then (if isOf (M.1 60 (40 + 4 * i)) 2 = true then some (M.1 29 i, M) else ((f_X2_tell (-1000000003) M).bind fun p5 => some (p5.1, p5.2))) else (if nI j = 4 then some (M.1 30 i, M) else (if nI j = 5 then some (M.1 31 i, M) else (f_X2_tell (-1000000001) M).bind fun p14 => some (p14.1, p14.2))))))) := by
    unfold f_X11_hanging
    rw [hh_in h3.1 hi (by omega), Option.bind_some, if_neg (by decide), isOf_c hi4 q.1, isOf_c hi4 q.1, e_ld hi4 (by omega), e_ld hi4 (by omega), e_ld hi4 (by omega), e_ld hi4 (by omega), e_ld hi4 (by omega), e_ld hi4 (by omega)]
    simp only [Option.bind_some]
    rw [q.1]
    have s1 : ∀ (b : Bool) (A B : Option (Int32 × g_M)), (if (if b = true then (1 : Int32) else 0) = 0 then A else B) = if b = true then B else A := fun b A B => by
      cases b
      · rw [if_pos (by decide), if_neg (by decide)]
      · rw [if_neg (by decide), if_pos rfl]
    rw [s1, s1, s1]
  have mod : ∀ M' : g_M, M'.1 60 = M.1 60 → ∃ M2 : g_M, g_fr [66, 67] [] M' M2 ∧ M2.1 66 i = M.1 30 i ∧ M2.1 67 i = M.1 31 i ∧ f_X12_hanging (nI i) (nI j) M' = (if nI j = 0 then some (M.1 60 (40 + 4 * i), M2) else (if nI j = 1 then (if 0 ≤ M.1 60 (40 + 4 * i + 3) then some (M.1 60 (40 + 4 * i + 3), M2) else ((f_X12_finding 2 M2).bind fun p8 => some (p8.1, p8.2))) else (if nI j = 2 then (if 0 ≤ M.1 60 (40 + 4 * i + 1) then some (M.1 60 (40 + 4 * i + 1), M2) else ((f_X12_finding 2 M2).bind fun p8 => some (p8.1, p8.2))) else (if nI j = 3 then (if 0 ≤ M.1 60 (40 + 4 * i + 2) then some (M.1 60 (40 + 4 * i + 2), M2) else ((f_X12_finding 2 M2).bind fun p8 => some (p8.1, p8.2))) else (if nI j = 4 then some (M.1 30 i, M2) else some (M.1 31 i, M2)))))) := by
    intro M' e
    obtain ⟨M2, m1, m2, m3⟩ := counts_eq (M := M') b4 e3 wH e
    have r60 : M2.1 60 = M.1 60 := (m2.row (by decide) (by simp)).1.trans e
    have c1 : M2.1 66 i = M.1 30 i := by rw [(m3 i hi).1, s_cost_in hi, q.2.2.2.2.2.1]
    have c2 : M2.1 67 i = M.1 31 i := by rw [(m3 i hi).2, s_lock_in hi, q.2.2.2.2.2.2]
    refine ⟨M2, m2, c1, c2, ?_⟩
    unfold f_X12_hanging
    rw [mh_in (n := h) (M := M') (by rw [e]; exact e3) (by omega) hi, Option.bind_some, if_neg (by decide), in_in _ (nI_pos (by omega)) (show ¬ (5 : Int32) < nI j from nI_nlt (a := 5) (by omega) (by omega)), Option.bind_some, if_neg (by decide), m1, Option.bind_some, ld_h hi4 (j := 0) (x := 0) (by omega) rfl, ld_h hi4 (j := 1) (x := 1) (by omega) rfl, ld_h hi4 (j := 2) (x := 2) (by omega) rfl, ld_h hi4 (j := 3) (x := 3) (by omega) rfl, e_ld hi4 (by omega), e_ld hi4 (by omega)]
    simp only [Option.bind_some]
    rw [r60, c1, c2, Nat.add_zero]
  have neg : ¬ (0 : Int32) ≤ -1 := by decide
  rcases (show j = 0 ∨ j = 1 ∨ j = 2 ∨ j = 3 ∨ j = 4 ∨ j = 5 by omega) with rfl | rfl | rfl | rfl | rfl | rfl
  · obtain ⟨M2, f1, -, -, f4⟩ := mod M rfl
    rw [if_pos (by decide)] at cls f4
    exact Op.say' H cls f4 f1 hS hT
  · rw [if_neg (by decide), if_pos (by decide)] at cls
    rcases F.1 with ⟨a, b⟩ | ⟨a, z, hz, b⟩
    · obtain ⟨M2, f1, -, -, f4⟩ := mod (tellM 2 M) rfl
      rw [if_neg (by decide), if_pos (by decide), b, if_neg neg] at f4
      rw [if_pos a] at cls
      exact Op.t2' H cls f4 f1 hS hT
    · obtain ⟨M2, f1, -, -, f4⟩ := mod M rfl
      rw [if_neg (by decide), if_pos (by decide), b, if_pos (nI_pos' (by omega))] at f4
      rw [if_neg (by rw [a]; decide), q.2.1, b, s_nn_n (by omega)] at cls
      exact Op.say' H cls f4 f1 hS hT
  · rw [if_neg (by decide), if_neg (by decide), if_pos (by decide)] at cls
    rcases F.2.1 with ⟨a, b⟩ | ⟨a, z, hz, b⟩
    · obtain ⟨M2, f1, -, -, f4⟩ := mod (tellM 2 M) rfl
      rw [if_neg (by decide), if_neg (by decide), if_pos (by decide), b, if_neg neg] at f4
      rw [if_pos a] at cls
      exact Op.t2' H cls f4 f1 hS hT
    · obtain ⟨M2, f1, -, -, f4⟩ := mod M rfl
      rw [if_neg (by decide), if_neg (by decide), if_pos (by decide), b, if_pos (nI_pos' (by omega))] at f4
      rw [if_neg (by rw [a]; decide), q.2.2.2.1, b, s_nn_n (by omega)] at cls
      exact Op.say' H cls f4 f1 hS hT
  · rw [if_neg (by decide), if_neg (by decide), if_neg (by decide), if_pos (by decide)] at cls
    rcases F.2.2 with ⟨a, b⟩ | ⟨a, z, hz, b⟩
    · obtain ⟨M2, f1, -, -, f4⟩ := mod (tellM 2 M) rfl
      rw [if_neg (by decide), if_neg (by decide), if_neg (by decide), if_pos (by decide), b, if_neg neg] at f4
      rw [if_neg (by rw [a]; decide)] at cls
      exact Op.t2' H cls f4 f1 hS hT
    · obtain ⟨M2, f1, -, -, f4⟩ := mod M rfl
      rw [if_neg (by decide), if_neg (by decide), if_neg (by decide), if_pos (by decide), b, if_pos (nI_pos' (by omega))] at f4
      rw [if_pos a, q.2.2.2.2.1, b, s_nn_n (by omega)] at cls
      exact Op.say' H cls f4 f1 hS hT
  · obtain ⟨M2, f1, -, -, f4⟩ := mod M rfl
    rw [if_neg (by decide), if_neg (by decide), if_neg (by decide), if_neg (by decide), if_pos (by decide)] at cls f4
    exact Op.say' H cls f4 f1 hS hT
  · obtain ⟨M2, f1, -, -, f4⟩ := mod M rfl
    rw [if_neg (by decide), if_neg (by decide), if_neg (by decide), if_neg (by decide), if_neg (by decide)] at cls f4
    rw [if_pos (by decide)] at cls
    exact Op.say' H cls f4 f1 hS hT
end OPSM
