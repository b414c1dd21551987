/-! ===== the tape ===== -/
def fb (x : Int32) (i : Nat) : Int32 := (x >>> ((8 * nI i) &&& 31)) &&& 255
theorem fb_u {x : Int32} {i : Nat} (hi : i < 4) : (((Int32.toUInt32 x >>> (Int32.toUInt32 (8 * nI i) &&& Int32.toUInt32 31)).toInt32) &&& 255) = fb x i := by
  unfold fb
  rw [show (8 : Int32) * nI i = nI (8 * i) from pk_mul 8 i]
  refine b_ext (fun k hk => ?_)
  rw [b_and, b_and, b_ushr (8 * i) (by omega), b_sshr (8 * i) (by omega) x hk, b_255]
  by_cases c : k < 8
  · rw [if_pos (by omega)]
  · rw [decide_eq_false c, Bool.and_false, Bool.and_false]
theorem fb_lt (x : Int32) (i : Nat) : ∃ z, z < 256 ∧ fb x i = nI z := by
  refine b_small (m := 8) (fun k hk => ?_)
  unfold fb
  rw [b_and, b_255, decide_eq_false (by omega), Bool.and_false]
theorem sub_1 (x : Int32) : x + (-1) = x - 1 := (Int32.sub_eq_add_neg x 1).symm
theorem feed_c (x : Int32) : ∀ (q f L : Nat) (M : g_M), q < f → q ≤ 4 → L + q ≤ 120 → M.1 33 1 = nI L → ∃ M' : g_M, g_lp2 (F_X8_add_4 (fun (M : g_M) => some (M.1 33 1, M))) f x (nI q - 1) M = some (nI (L + q), M') ∧ g_fr [34] [(33, 1)] M M' ∧ M'.1 33 1 = nI (L + q) ∧ (∀ k, k < L → M'.1 34 k = M.1 34 k) ∧ ∀ i, i < q → M'.1 34 (L + i) = fb x (q - 1 - i)
  | 0, f, L, M, hf, h4, hL, e => by
    obtain ⟨f, rfl⟩ : ∃ f', f = f' + 1 := ⟨f - 1, by omega⟩
    refine ⟨M, ?_, g_fr.rfl, e, fun k _ => rfl, fun i hi => absurd hi (by omega)⟩
    rw [lp2_s, F_X8_add_4, if_pos (by decide), e]
    rfl
  | q + 1, f, L, M, hf, h4, hL, e => by
    obtain ⟨f, rfl⟩ : ∃ f', f = f' + 1 := ⟨f - 1, by omega⟩
    obtain ⟨M', m1, m2, m3, m4, m5⟩ := feed_c x q f (L + 1) (g_u (g_u M 34 L (fb x q)) 33 1 (nI (L + 1))) (by omega) (by omega) (by omega) rfl
    refine ⟨M', ?_, ((g_fr.rfl.uS (by decide)).uT (by decide)).trans m2, by rw [m3]; congr 1; omega, fun k hk => (m4 k (by omega)).trans (upd_ne (by omega)), fun i hi => ?_⟩
    · rw [lp2_s, F_X8_add_4, nI_pred, if_neg (nI_pos (by omega)), e, e_st (by omega) (by omega), Option.bind_some, Option.bind_some, fb_u (by omega), sub_1]
      rw [show (g_u M 34 L (fb x q)).1 33 1 = nI L from e, nI_1, m1]
      congr 3
      omega
    · by_cases c : i = 0
      · subst c
        rw [Nat.add_zero, m4 L (by omega)]
        exact upd_eq
      · have := m5 (i - 1) (by omega)
        rw [show L + 1 + (i - 1) = L + i by omega] at this
        rw [this]
        congr 1
        omega
theorem feed_m (x : Int32) : ∀ (q f L : Nat) (M : g_M), q < f → q ≤ 4 → L + q ≤ 120 → M.1 59 4 = nI L → ∃ M' : g_M, g_lp2 (F_X12_feed_36 (fun (M : g_M) => some (M.1 59 4, M))) f x (nI q - 1) M = some (nI (L + q), M') ∧ g_fr [62] [(59, 4)] M M' ∧ M'.1 59 4 = nI (L + q) ∧ (∀ k, k < L → M'.1 62 k = M.1 62 k) ∧ ∀ i, i < q → M'.1 62 (L + i) = fb x (q - 1 - i)
  | 0, f, L, M, hf, h4, hL, e => by
    obtain ⟨f, rfl⟩ : ∃ f', f = f' + 1 := ⟨f - 1, by omega⟩
    refine ⟨M, ?_, g_fr.rfl, e, fun k _ => rfl, fun i hi => absurd hi (by omega)⟩
    rw [lp2_s, F_X12_feed_36, if_pos (by decide), e]
    rfl
  | q + 1, f, L, M, hf, h4, hL, e => by
    obtain ⟨f, rfl⟩ : ∃ f', f = f' + 1 := ⟨f - 1, by omega⟩
    obtain ⟨M', m1, m2, m3, m4, m5⟩ := feed_m x q f (L + 1) (g_u (g_u M 62 L (fb x q)) 59 4 (nI (L + 1))) (by omega) (by omega) (by omega) rfl
    refine ⟨M', ?_, ((g_fr.rfl.uS (by decide)).uT (by decide)).trans m2, by rw [m3]; congr 1; omega, fun k hk => (m4 k (by omega)).trans (upd_ne (by omega)), fun i hi => ?_⟩
    · rw [lp2_s, F_X12_feed_36, nI_pred, if_neg (nI_pos (by omega)), e, e_st (by omega) (by omega), Option.bind_some, Option.bind_some, sub_1]
      rw [show (g_u M 62 L (x >>> (8 * nI q &&& 31) &&& 255)).1 59 4 = nI L from e, nI_1]
      rw [show (x >>> (8 * nI q &&& 31) &&& 255) = fb x q from rfl, m1]
      congr 3
      omega
    · by_cases c : i = 0
      · subst c
        rw [Nat.add_zero, m4 L (by omega)]
        exact upd_eq
      · have := m5 (i - 1) (by omega)
        rw [show L + 1 + (i - 1) = L + i by omega] at this
        rw [this]
        congr 1
        omega
section OPSF
variable {t n l m h c1 c2 c3 : Nat} {M : g_M}
theorem op_feed (H : Rel0 t n l m h c1 c2 c3 M) (x y : Int32) : Op (f_X11_feed x y) (f_X12_feed x y) t M := by
  obtain ⟨h1, h2, h3, h4, h5, h6, h7, h8, h9, h10, h11⟩ := id H
  obtain ⟨L, hL, l1, l2, lb⟩ := id h6
  have dc : (y < 1 ∨ 4 < y) ∨ ∃ q, 1 ≤ q ∧ q ≤ 4 ∧ y = nI q := by
    rcases ix y (n := 5) (by omega) with ho | ⟨j, hj, rfl⟩
    · left
      rcases ho with ho | ho
      · left
        rw [i_lt] at ho ⊢
        have e1 : (0 : Int32).toInt = 0 := by decide
        have e2 : (1 : Int32).toInt = 1 := by decide
        omega
      · right
        rw [i_le] at ho
        rw [i_lt]
        have e1 : (nI 5).toInt = 5 := by decide
        have e2 : (4 : Int32).toInt = 4 := by decide
        omega
    · by_cases c : j = 0
      · subst c
        exact Or.inl (Or.inl (by decide))
      · exact Or.inr ⟨j, by omega, by omega, rfl⟩
  rcases dc with ho | ⟨q, q1, q4, rfl⟩
  · refine Op.t0 H ?_ ?_
    · unfold f_X11_feed
      by_cases c : y < 1
      · rw [if_pos c]
        rfl
      · have : ¬ y ≤ 4 := by
          have := ho.resolve_left c
          rw [i_lt] at this
          rw [i_le]
          omega
        rw [if_neg c, if_neg this]
        rfl
    · unfold f_X12_feed
      rw [in_out _ ho, Option.bind_some, if_pos rfl]
  have g1 : ¬ nI q < 1 := show ¬ nI q < nI 1 from nI_nlt q1 (by omega)
  have g2 : nI q ≤ 4 := show nI q ≤ nI 4 from nI_le q4 (by omega)
  have g3 : ¬ (4 : Int32) < nI q := show ¬ nI 4 < nI q from nI_nlt q4 (by omega)
  by_cases c : L + q ≤ 120
  · obtain ⟨M1, a1, a2, a3, a4, a5⟩ := feed_c x q 20000000 L M (by omega) q4 c l1
    have w1 : M1.1 59 4 = nI L := (a2.at (by decide) (by decide)).trans l2
    obtain ⟨M2, s1, s2, s3, s4, s5⟩ := feed_m x q 20000000 L M1 (by omega) q4 c w1
    have r1 : M2.1 33 1 = nI (L + q) := (s2.at (by decide) (by decide)).trans a3
    have r2 : M2.1 34 = M1.1 34 := (s2.row (by decide) (by decide)).1
    have r3 : M1.1 62 = M.1 62 := (a2.row (by decide) (by decide)).1
    have fr : g_fr [34, 62] [(33, 1), (59, 4)] M M2 := (a2.mono (by decide) (by decide)).trans (s2.mono (by decide) (by decide))
    refine ⟨(nI (L + q), M1), (nI (L + q), M2), ?_, ?_, rfl, n, l, m, h, c1, c2, c3, ?_⟩
    · unfold f_X11_feed f_X8_add
      rw [if_neg g1, if_pos g2, l1, nI_add, if_pos (show nI (L + q) ≤ 120 from nI_le (b := 120) c (by omega)), a1]
      rfl
    · unfold f_X12_feed
      dsimp only
      rw [in_in _ g1 g3, Option.bind_some, if_neg (by decide), w1, nI_add, if_pos (show nI (L + q) ≤ 120 from nI_le (b := 120) c (by omega)), s1]
    exact ⟨keep1 fr (by decide) h1, keep2 fr (by decide) h2, keep3 fr (by decide) h3, keep4 fr (by decide) h1.2.2.1 h4, keep5 fr (by decide) h5, ⟨L + q, c, r1, s3, fun k hk => by
      dsimp only
      rw [r2]
      by_cases d : k < L
      · rw [a4 k d, s4 k d, r3]
        exact lb k d
      · obtain ⟨i, rfl⟩ : ∃ i, k = L + i := ⟨k - L, by omega⟩
        rw [a5 i (by omega), s5 i (by omega)]
        exact ⟨rfl, fb_lt _ _⟩⟩, (keep7 fr (by decide) h7).mono (by omega), keep8 fr (by decide) h8, (keep9 fr (by decide) h9).mono (by omega), keep10 fr (by decide) h10, keep11 fr (by decide) h11⟩
  · refine Op.t1 H ?_ ?_
    · unfold f_X11_feed
      rw [if_neg g1, if_pos g2, l1, nI_add, if_neg (show ¬ nI (L + q) ≤ 120 from nI_ge (a := 120) (by omega) (by omega))]
    · unfold f_X12_feed
      rw [in_in _ g1 g3, Option.bind_some, if_neg (by decide), show (tellM 1 M).1 59 4 = nI L from l2, nI_add, if_neg (show ¬ nI (L + q) ≤ 120 from nI_ge (a := 120) (by omega) (by omega))]
/-! ===== the sheets ===== -/
theorem sheet_core (H : Rel0 t n l m h c1 c2 c3 M) {M' : g_M} (fr : g_fr [55, 56, 57, 58, 73, 74, 75, 76] [(51, 0), (51, 1), (52, 0), (52, 1), (53, 0), (53, 1), (54, 0), (54, 1)] M M') (hS : X_S M') : Rel0 (t + 1) n l m h c1 c2 c3 M' := by
  obtain ⟨h1, h2, h3, h4, h5, h6, h7, h8, h9, h10, h11⟩ := id H
  exact ⟨keep1 fr (by decide) h1, keep2 fr (by decide) h2, keep3 fr (by decide) h3, keep4 fr (by decide) h1.2.2.1 h4, keep5 fr (by decide) h5, keep6 fr (by decide) h6, (keep7 fr (by decide) h7).mono (by omega), hS, (keep9 fr (by decide) h9).mono (by omega), keep10 fr (by decide) h10, keep11 fr (by decide) h11⟩
theorem mem55 : ∀ o, o < 4 → 55 + o ∈ [55, 56, 57, 58, 73, 74, 75, 76] := by decide
theorem mem510 : ∀ o, o < 4 → (51 + o, 0) ∈ [(51, 0), (51, 1), (52, 0), (52, 1), (53, 0), (53, 1), (54, 0), (54, 1)] ∧ (51 + o, 1) ∈ [(51, 0), (51, 1), (52, 0), (52, 1), (53, 0), (53, 1), (54, 0), (54, 1)] := by decide
theorem is_out {x : Int32} {M : g_M} (h : x < 0 ∨ nI 4 ≤ x) : f_X11_isSheet x M = some 0 := by
  unfold f_X11_isSheet
  by_cases c : x < 0
  · rw [if_pos c]
  · rw [if_neg c, if_pos (show (4 : Int32) ≤ x from h.resolve_left c)]
theorem is_in {j : Nat} {M : g_M} (hj : j < 4) : f_X11_isSheet (nI j) M = some 1 := by
  unfold f_X11_isSheet
  rw [if_neg (nI_pos (by omega)), if_neg (show ¬ (4 : Int32) ≤ nI j from nI_ge (b := 4) hj (by omega))]
theorem ms_out {x : Int32} {M : g_M} (h : x < 0 ∨ nI 4 ≤ x) : f_X12_isSheet x M = some 0 := by
  unfold f_X12_isSheet
  rw [in_out M (a := 0) (b := 3) (out_m1 (n := 4) (by omega) h)]
  rfl
theorem ms_in {j : Nat} {M : g_M} (hj : j < 4) : f_X12_isSheet (nI j) M = some 1 := by
  unfold f_X12_isSheet
  rw [in_in M (nI_pos (by omega)) (show ¬ (3 : Int32) < nI j from in_m1 (n := 4) (by omega) hj)]
  rfl
end OPSF
