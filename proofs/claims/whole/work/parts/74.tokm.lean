section TOKM
variable {b : Nat → Int32} {L : Nat} {M : g_M} {t : s_T}
/-- the bytes that the model reads -/
def BA (b : Nat → Int32) (L : Nat) (M : g_M) : Prop := L ≤ 120 ∧ M.1 59 7 = nI L ∧ ((M.1 59 6 = 0 ∧ ∀ k, k < L → M.1 62 k = b k) ∨ ∃ u, u < 8 ∧ M.1 59 6 = nI (248 + 120 * u) ∧ ∀ k, k < L → M.1 60 (248 + 120 * u + k) = b k) ∧ ∀ k, k < L → ∃ q, q < 256 ∧ b k = nI q
theorem BA.fr {S : List Nat} {T : List (Nat × Nat)} {M M' : g_M} (h : BA b L M) (fr : g_fr S T M M') (hk : g_ok S T [60, 62] [(59, 6), (59, 7)] = true) : BA b L M' := by
  unfold BA at h ⊢
  rw [g_ok.at hk fr (k := 59) (i := 6) (by decide), g_ok.at hk fr (k := 59) (i := 7) (by decide), (g_ok.row hk fr (k := 60) (by decide)).1, (g_ok.row hk fr (k := 62) (by decide)).1]
  exact h
def bat (b : Nat → Int32) (L k : Nat) : Int32 := if k < L then b k else -1
theorem BA.at (h : BA b L M) {k : Nat} (hk : k < 2 ^ 20) : f_X12_byteAt (nI k) M = some (bat b L k) := by
  obtain ⟨hL, h7, h6, hb⟩ := h
  unfold f_X12_byteAt bat
  rw [h7]
  by_cases c : k < L
  · rw [if_pos (nI_lt c (by omega)), if_pos c]
    rcases h6 with ⟨h6, hv⟩ | ⟨u, hu, h6, hv⟩
    · rw [if_pos h6, e_ld (by omega) (by omega), Option.bind_some, hv k c]
    · rw [h6, if_neg (nI_ne0 (by omega) (by omega)), nI_add, e_ld (by omega) (by omega), Option.bind_some, hv k c]
  · rw [if_neg (nI_nlt (by omega) (by omega)), if_neg c]
theorem let_m (x : Int32) (M : g_M) : f_X12_isLetter x M = some (bi (s_let x)) := by
  unfold f_X12_isLetter s_let
  by_cases c : x < 97
  · rw [in_out M (Or.inl c), Option.bind_some, g_bz0, Option.bind_some, decide_eq_false (Int32.not_le.mpr c)]
    rfl
  · by_cases e : 122 < x
    · rw [in_out M (Or.inr e), Option.bind_some, g_bz0, Option.bind_some, decide_eq_false (Int32.not_le.mpr e), Bool.and_false]
      rfl
    · rw [in_in M c e, Option.bind_some, g_bz1, Option.bind_some, decide_eq_true (Int32.not_lt.mp e), decide_eq_true (Int32.not_lt.mp c)]
      rfl
theorem dig_m (x : Int32) (M : g_M) : f_X12_isDigit x M = some (bi (s_dig x)) := by
  unfold f_X12_isDigit s_dig
  by_cases c : x < 48
  · rw [in_out M (Or.inl c), Option.bind_some, g_bz0, Option.bind_some, decide_eq_false (Int32.not_le.mpr c)]
    rfl
  · by_cases e : 57 < x
    · rw [in_out M (Or.inr e), Option.bind_some, g_bz0, Option.bind_some, decide_eq_false (Int32.not_le.mpr e), Bool.and_false]
      rfl
    · rw [in_in M c e, Option.bind_some, g_bz1, Option.bind_some, decide_eq_true (Int32.not_lt.mp e), decide_eq_true (Int32.not_lt.mp c)]
      rfl
theorem bat_in {k : Nat} (h : k < L) : bat b L k = b k := if_pos h
theorem bat_out {k : Nat} (h : ¬ k < L) : bat b L k = -1 := if_neg h
theorem mk_go (K : g_M → Option g_M) : ∀ (n f a : Nat) (M : g_M), BA b L M → a ≤ L → L ≤ a + n → n < f → M.1 59 13 = nI a → ∃ M' : g_M, g_lp0 (F_X12_next_0 K) f M = K M' ∧ g_fr [] [(59, 13)] M M' ∧ M'.1 59 13 = nI (s_skip b L n a)
  | 0, f, a, M, tp, ha, hn, hf, e => by
    obtain ⟨f, rfl⟩ : ∃ f', f = f' + 1 := ⟨f - 1, by omega⟩
    have hL := tp.1
    refine ⟨M, ?_, g_fr.rfl, e⟩
    rw [lp0_s, F_X12_next_0, e, tp.at (by omega), Option.bind_some, bat_out (by omega), if_neg (by decide)]
  | n + 1, f, a, M, tp, ha, hn, hf, e => by
    obtain ⟨f, rfl⟩ : ∃ f', f = f' + 1 := ⟨f - 1, by omega⟩
    have hL := tp.1
    by_cases c : a < L ∧ b a = 32
    · have fr1 : g_fr [] [(59, 13)] M (g_u M 59 13 (nI (a + 1))) := g_fr.rfl.uT (by decide)
      obtain ⟨M', m1, m2, m3⟩ := mk_go K n f (a + 1) (g_u M 59 13 (nI (a + 1))) (tp.fr fr1 (by decide)) (by omega) (by omega) (by omega) rfl
      refine ⟨M', ?_, fr1.trans m2, ?_⟩
      · rw [lp0_s, F_X12_next_0, e, tp.at (by omega), Option.bind_some, bat_in c.1, if_pos c.2, Option.bind_some, nI_1, m1]
      · rw [m3, s_skip_s, if_pos c]
    · refine ⟨M, ?_, g_fr.rfl, ?_⟩
      · by_cases d : a < L
        · rw [lp0_s, F_X12_next_0, e, tp.at (by omega), Option.bind_some, bat_in d, if_neg (fun q => c ⟨d, q⟩)]
        · rw [lp0_s, F_X12_next_0, e, tp.at (by omega), Option.bind_some, bat_out d, if_neg (by decide)]
      · rw [e, s_skip_s, if_neg c]
theorem ml_go : ∀ (n f a : Nat) (M : g_M), BA b L M → a ≤ L → L ≤ a + n → n < f → M.1 59 13 = nI a → ∃ M' : g_M, g_lp0 (F_X12_next_67 (fun (M : g_M) => some M)) f M = some M' ∧ g_fr [] [(59, 13)] M M' ∧ M'.1 59 13 = nI (s_run s_let b L n a)
  | 0, f, a, M, tp, ha, hn, hf, e => by
    obtain ⟨f, rfl⟩ : ∃ f', f = f' + 1 := ⟨f - 1, by omega⟩
    have hL := tp.1
    refine ⟨M, ?_, g_fr.rfl, e⟩
    rw [lp0_s, F_X12_next_67, e, tp.at (by omega), Option.bind_some, let_m, Option.bind_some, bat_out (by omega), if_pos (show bi (s_let (-1)) = 0 by decide)]
  | n + 1, f, a, M, tp, ha, hn, hf, e => by
    obtain ⟨f, rfl⟩ : ∃ f', f = f' + 1 := ⟨f - 1, by omega⟩
    have hL := tp.1
    by_cases c : a < L ∧ s_let (b a) = true
    · have fr1 : g_fr [] [(59, 13)] M (g_u M 59 13 (nI (a + 1))) := g_fr.rfl.uT (by decide)
      obtain ⟨M', m1, m2, m3⟩ := ml_go n f (a + 1) (g_u M 59 13 (nI (a + 1))) (tp.fr fr1 (by decide)) (by omega) (by omega) (by omega) rfl
      refine ⟨M', ?_, fr1.trans m2, ?_⟩
      · rw [lp0_s, F_X12_next_67, e, tp.at (by omega), Option.bind_some, let_m, Option.bind_some, bat_in c.1, c.2, if_neg (show ¬ bi true = 0 by decide), Option.bind_some, nI_1, m1]
      · rw [m3, s_run_s, if_pos c]
    · refine ⟨M, ?_, g_fr.rfl, ?_⟩
      · by_cases d : a < L
        · rw [lp0_s, F_X12_next_67, e, tp.at (by omega), Option.bind_some, let_m, Option.bind_some, bat_in d, Bool.eq_false_iff.mpr (fun q => c ⟨d, q⟩), if_pos (show bi false = 0 from rfl)]
        · rw [lp0_s, F_X12_next_67, e, tp.at (by omega), Option.bind_some, let_m, Option.bind_some, bat_out d, if_pos (show bi (s_let (-1)) = 0 by decide)]
      · rw [e, s_run_s, if_neg c]
/-- a number as the model reads it -/
def s_numM (b : Nat → Int32) : Nat → Nat → Int32 → Int32
  | 0, _, v => v
  | n + 1, a, v => s_numM b n (a + 1) (if v ≤ 99 then 10 * v + b a - 48 else v)
theorem s_numM_s {n a : Nat} {v : Int32} : s_numM b (n + 1) a v = s_numM b n (a + 1) (if v ≤ 99 then 10 * v + b a - 48 else v) := rfl
theorem mn_go : ∀ (n f a : Nat) (M : g_M) (v : Int32), BA b L M → a ≤ L → L ≤ a + n → n < f → M.1 59 13 = nI a → M.1 59 14 = v → ∃ M' : g_M, g_lp0 (F_X12_next_111 (fun (M : g_M) => some M)) f M = some M' ∧ g_fr [] [(59, 13), (59, 14)] M M' ∧ M'.1 59 13 = nI (s_run s_dig b L n a) ∧ M'.1 59 14 = s_numM b (s_run s_dig b L n a - a) a v
  | 0, f, a, M, v, tp, ha, hn, hf, e, ev => by
    obtain ⟨f, rfl⟩ : ∃ f', f = f' + 1 := ⟨f - 1, by omega⟩
    have hL := tp.1
    refine ⟨M, ?_, g_fr.rfl, e, ?_⟩
    · rw [lp0_s, F_X12_next_111, e, tp.at (by omega), Option.bind_some, dig_m, Option.bind_some, bat_out (by omega), if_pos (show bi (s_dig (-1)) = 0 by decide)]
    · rw [ev, show s_run s_dig b L 0 a - a = 0 from Nat.sub_self a]
      rfl
  | n + 1, f, a, M, v, tp, ha, hn, hf, e, ev => by
    obtain ⟨f, rfl⟩ : ∃ f', f = f' + 1 := ⟨f - 1, by omega⟩
    have hL := tp.1
    by_cases c : a < L ∧ s_dig (b a) = true
    · have fr1 : g_fr [] [(59, 13), (59, 14)] M (g_u (g_u M 59 14 (if v ≤ 99 then 10 * v + b a - 48 else v)) 59 13 (nI (a + 1))) := (g_fr.rfl.uT (by decide)).uT (by decide)
      obtain ⟨M', m1, m2, m3, m4⟩ := mn_go n f (a + 1) (g_u (g_u M 59 14 (if v ≤ 99 then 10 * v + b a - 48 else v)) 59 13 (nI (a + 1))) (if v ≤ 99 then 10 * v + b a - 48 else v) (tp.fr fr1 (by decide)) (by omega) (by omega) (by omega) rfl rfl
      have rb := s_run_b (b := b) (L := L) (p := s_dig) n (a + 1) (by omega)
      refine ⟨M', ?_, fr1.trans m2, ?_, ?_⟩
      · rw [lp0_s, F_X12_next_111, e, tp.at (by omega), Option.bind_some, dig_m, Option.bind_some, bat_in c.1, c.2, if_neg (show ¬ bi true = 0 by decide), ev]
        unfold f_X12_next_161
        rw [Option.bind_some, Option.bind_some, Option.bind_some, Option.bind_some, Option.bind_some]
        by_cases z : v ≤ 99
        · rw [if_pos z] at m1 ⊢
          rw [show (g_u M 59 14 (10 * v + b a - 48)).1 59 13 = nI a from e, nI_1, m1]
        · rw [if_neg z] at m1 ⊢
          rw [show (g_u M 59 14 v).1 59 13 = nI a from e, nI_1, m1]
      · rw [m3, s_run_s, if_pos c]
      · rw [m4, s_run_s, if_pos c, ← s_numM_s]
        congr 1
        omega
    · refine ⟨M, ?_, g_fr.rfl, ?_, ?_⟩
      · by_cases d : a < L
        · rw [lp0_s, F_X12_next_111, e, tp.at (by omega), Option.bind_some, dig_m, Option.bind_some, bat_in d, Bool.eq_false_iff.mpr (fun q => c ⟨d, q⟩), if_pos (show bi false = 0 from rfl)]
        · rw [lp0_s, F_X12_next_111, e, tp.at (by omega), Option.bind_some, dig_m, Option.bind_some, bat_out d, if_pos (show bi (s_dig (-1)) = 0 by decide)]
      · rw [e, s_run_s, if_neg c]
      · rw [ev, s_run_s, if_neg c, Nat.sub_self]
        rfl
/-- class and model: the same number, if it is at most 99 -/
def nR (v w : Int32) : Prop := (∃ q, q ≤ 99 ∧ v = nI q ∧ w = nI q) ∨ (v = 100 ∧ 99 < w)
theorem dig_I {x : Int32} (h : s_dig x = true) : ∃ q, q < 10 ∧ x = nI (48 + q) := by
  unfold s_dig at h
  rw [Bool.and_eq_true, decide_eq_true_eq, decide_eq_true_eq] at h
  have p : ¬ x < 0 := by
    rw [i_lt]
    have h1 := i_le.mp h.1
    have e1 : (48 : Int32).toInt = 48 := by decide
    have e2 : (0 : Int32).toInt = 0 := by decide
    omega
  obtain ⟨j, hj, rfl⟩ := nI_of p
  have h1 := (nI_leI (a := 48) (by omega) hj).mp h.1
  have h2 := (nI_leI (b := 57) hj (by omega)).mp h.2
  exact ⟨j - 48, by omega, by rw [show 48 + (j - 48) = j by omega]⟩
theorem nR_s {v w x : Int32} (h : nR v w) (hx : s_dig x = true) : nR (if 100 < v * 10 + x - 48 then 100 else v * 10 + x - 48) (if w ≤ 99 then 10 * w + x - 48 else w) := by
  obtain ⟨z, hz, rfl⟩ := dig_I hx
  rcases h with ⟨q, hq, rfl, rfl⟩ | ⟨rfl, hw⟩
  · have e1 : nI q * 10 + nI (48 + z) - 48 = nI (10 * q + z) := by
      rw [show (10 : Int32) = nI 10 from rfl, pk_mul, nI_add, show (48 : Int32) = nI 48 from rfl, pk_sub (by omega)]
      congr 1
      omega
    have e2 : 10 * nI q + nI (48 + z) - 48 = nI (10 * q + z) := by
      rw [show (10 : Int32) = nI 10 from rfl, pk_mul, nI_add, show (48 : Int32) = nI 48 from rfl, pk_sub (by omega)]
      congr 1
      omega
    rw [if_pos (show nI q ≤ 99 from nI_le (b := 99) hq (by omega)), e1, e2]
    by_cases c : 10 * q + z ≤ 99
    · rw [if_neg (show ¬ 100 < nI (10 * q + z) from nI_nlt (a := 100) (by omega) (by omega))]
      exact Or.inl ⟨_, c, rfl, rfl⟩
    · right
      refine ⟨?_, nI_lt (a := 99) (by omega) (by omega)⟩
      by_cases d : 10 * q + z = 100
      · rw [d, if_neg (by decide)]
        rfl
      · rw [if_pos (show 100 < nI (10 * q + z) from nI_lt (a := 100) (by omega) (by omega))]
  · right
    rw [if_neg (Int32.not_le.mpr hw)]
    refine ⟨?_, hw⟩
    have e1 : (100 : Int32) * 10 + nI (48 + z) - 48 = nI (1000 + z) := by
      rw [show (100 : Int32) = nI 100 from rfl, show (10 : Int32) = nI 10 from rfl, pk_mul, nI_add, show (48 : Int32) = nI 48 from rfl, pk_sub (by omega)]
      congr 1
      omega
    rw [e1, if_pos (show 100 < nI (1000 + z) from nI_lt (a := 100) (by omega) (by omega))]
theorem nR_run : ∀ (n a : Nat) (v w : Int32), nR v w → a ≤ L → nR (s_num b (s_run s_dig b L n a - a) a v) (s_numM b (s_run s_dig b L n a - a) a w)
  | 0, a, v, w, h, ha => by
    rw [show s_run s_dig b L 0 a - a = 0 from Nat.sub_self a]
    exact h
  | n + 1, a, v, w, h, ha => by
    rw [s_run_s]
    by_cases c : a < L ∧ s_dig (b a) = true
    · rw [if_pos c]
      have rb := s_run_b (b := b) (L := L) (p := s_dig) n (a + 1) (by omega)
      rw [show s_run s_dig b L n (a + 1) - a = s_run s_dig b L n (a + 1) - (a + 1) + 1 by omega, s_num_s, s_numM_s]
      exact nR_run n (a + 1) _ _ (nR_s h c.2) (by omega)
    · rw [if_neg c, Nat.sub_self]
      exact h
end TOKM
