section TOKC
variable {b : Nat → Int32} {L : Nat} {M : g_M}
/-- the class's tape -/
def TP (b : Nat → Int32) (L : Nat) (M : g_M) : Prop := L ≤ 120 ∧ M.1 33 1 = nI L ∧ ∀ k, k < L → M.1 34 k = b k
theorem TP.fr {S : List Nat} {T : List (Nat × Nat)} {M M' : g_M} (h : TP b L M) (fr : g_fr S T M M') (hk : g_ok S T [34] [(33, 1)] = true) : TP b L M' :=
  ⟨h.1, (g_ok.at hk fr (by decide)).trans h.2.1, fun k q => by rw [(g_ok.row hk fr (k := 34) (by decide)).1]; exact h.2.2 k q⟩
theorem TP.ld (h : TP b L M) {a : Nat} (ha : a < L) : g_ld M 34 120 (nI a) = some (b a) := by
  have := h.1
  rw [e_ld (by omega) (by omega), h.2.2 a ha]
theorem let_c (x : Int32) (M : g_M) : f_X9_isLetter x M = some (bi (s_let x)) := by
  unfold f_X9_isLetter s_let
  by_cases c : x < 97
  · rw [if_pos c, decide_eq_false (Int32.not_le.mpr c)]
    rfl
  · rw [if_neg c, decide_eq_true (Int32.not_lt.mp c)]
    by_cases e : 122 < x
    · rw [if_pos e, decide_eq_false (Int32.not_le.mpr e)]
      rfl
    · rw [if_neg e, decide_eq_true (Int32.not_lt.mp e)]
      rfl
theorem dig_c (x : Int32) (M : g_M) : f_X9_isDigit x M = some (bi (s_dig x)) := by
  unfold f_X9_isDigit s_dig
  by_cases c : x < 48
  · rw [if_pos c, decide_eq_false (Int32.not_le.mpr c)]
    rfl
  · rw [if_neg c, decide_eq_true (Int32.not_lt.mp c)]
    by_cases e : 57 < x
    · rw [if_pos e, decide_eq_false (Int32.not_le.mpr e)]
      rfl
    · rw [if_neg e, decide_eq_true (Int32.not_lt.mp e)]
      rfl
theorem sgn_c (x : Int32) (M : g_M) : f_X9_signToken x M = some (s_sgn x) := by
  unfold f_X9_signToken s_sgn
  by_cases c1 : x = 40
  · rw [if_pos c1, if_pos c1]
  rw [if_neg c1, if_neg c1]
  by_cases c2 : x = 41
  · rw [if_pos c2, if_pos c2]
  rw [if_neg c2, if_neg c2]
  by_cases c3 : x = 91
  · rw [if_pos c3, if_pos c3]
  rw [if_neg c3, if_neg c3]
  by_cases c4 : x = 93
  · rw [if_pos c4, if_pos c4]
  rw [if_neg c4, if_neg c4]
theorem s_skip_s {n a : Nat} : s_skip b L (n + 1) a = if a < L ∧ b a = 32 then s_skip b L n (a + 1) else a := rfl
theorem s_run_s {p : Int32 → Bool} {n a : Nat} : s_run p b L (n + 1) a = if a < L ∧ p (b a) = true then s_run p b L n (a + 1) else a := rfl
theorem s_skip_b : ∀ n a, a ≤ L → a ≤ s_skip b L n a ∧ s_skip b L n a ≤ L
  | 0, a, h => ⟨Nat.le_refl _, h⟩
  | n + 1, a, h => by
    rw [s_skip_s]
    by_cases c : a < L ∧ b a = 32
    · rw [if_pos c]
      have := s_skip_b n (a + 1) (by omega)
      omega
    · rw [if_neg c]
      omega
theorem s_run_b {p : Int32 → Bool} : ∀ n a, a ≤ L → a ≤ s_run p b L n a ∧ s_run p b L n a ≤ L
  | 0, a, h => ⟨Nat.le_refl _, h⟩
  | n + 1, a, h => by
    rw [s_run_s]
    by_cases c : a < L ∧ p (b a) = true
    · rw [if_pos c]
      have := s_run_b (p := p) n (a + 1) (by omega)
      omega
    · rw [if_neg c]
      omega
theorem sk_go (K : g_M → Option g_M) : ∀ (n f a : Nat) (M : g_M), TP b L M → a ≤ L → L ≤ a + n → n < f → M.1 32 4 = nI a → ∃ M' : g_M, g_lp0 (F_X9_advance_8 K) f M = K M' ∧ g_fr [] [(32, 4)] M M' ∧ M'.1 32 4 = nI (s_skip b L n a)
  | 0, f, a, M, tp, ha, hn, hf, e => by
    obtain ⟨f, rfl⟩ : ∃ f', f = f' + 1 := ⟨f - 1, by omega⟩
    have hL := tp.1
    refine ⟨M, ?_, g_fr.rfl, e⟩
    rw [lp0_s, F_X9_advance_8, tp.2.1, e, if_pos (nI_le (by omega) (by omega))]
  | n + 1, f, a, M, tp, ha, hn, hf, e => by
    obtain ⟨f, rfl⟩ : ∃ f', f = f' + 1 := ⟨f - 1, by omega⟩
    have hL := tp.1
    by_cases c : a < L ∧ b a = 32
    · have fr1 : g_fr [] [(32, 4)] M (g_u M 32 4 (nI (a + 1))) := g_fr.rfl.uT (by decide)
      obtain ⟨M', m1, m2, m3⟩ := sk_go K n f (a + 1) (g_u M 32 4 (nI (a + 1))) (tp.fr fr1 (by decide)) (by omega) (by omega) (by omega) rfl
      refine ⟨M', ?_, fr1.trans m2, ?_⟩
      · rw [lp0_s, F_X9_advance_8, tp.2.1, e, if_neg (nI_ge c.1 (by omega)), tp.ld c.1, Option.bind_some, if_pos c.2, Option.bind_some, nI_1, m1]
      · rw [m3, s_skip_s, if_pos c]
    · refine ⟨M, ?_, g_fr.rfl, ?_⟩
      · by_cases d : a < L
        · rw [lp0_s, F_X9_advance_8, tp.2.1, e, if_neg (nI_ge d (by omega)), tp.ld d, Option.bind_some, if_neg (fun q => c ⟨d, q⟩)]
        · rw [lp0_s, F_X9_advance_8, tp.2.1, e, if_pos (nI_le (by omega) (by omega))]
      · rw [e, s_skip_s, if_neg c]
theorem wd_go (K : g_M → Option (Int32 × g_M)) : ∀ (n f a : Nat) (M : g_M), TP b L M → a ≤ L → L ≤ a + n → n < f → M.1 32 5 = nI a → ∃ M' : g_M, g_lp0 (F_X9_wordToken_0 K) f M = K M' ∧ g_fr [] [(32, 5)] M M' ∧ M'.1 32 5 = nI (s_run s_let b L n a)
  | 0, f, a, M, tp, ha, hn, hf, e => by
    obtain ⟨f, rfl⟩ : ∃ f', f = f' + 1 := ⟨f - 1, by omega⟩
    have hL := tp.1
    refine ⟨M, ?_, g_fr.rfl, e⟩
    rw [lp0_s, F_X9_wordToken_0, tp.2.1, e, if_pos (nI_le (by omega) (by omega))]
  | n + 1, f, a, M, tp, ha, hn, hf, e => by
    obtain ⟨f, rfl⟩ : ∃ f', f = f' + 1 := ⟨f - 1, by omega⟩
    have hL := tp.1
    by_cases c : a < L ∧ s_let (b a) = true
    · have fr1 : g_fr [] [(32, 5)] M (g_u M 32 5 (nI (a + 1))) := g_fr.rfl.uT (by decide)
      obtain ⟨M', m1, m2, m3⟩ := wd_go K n f (a + 1) (g_u M 32 5 (nI (a + 1))) (tp.fr fr1 (by decide)) (by omega) (by omega) (by omega) rfl
      refine ⟨M', ?_, fr1.trans m2, ?_⟩
      · rw [lp0_s, F_X9_wordToken_0, tp.2.1, e, if_neg (nI_ge c.1 (by omega)), tp.ld c.1, Option.bind_some, let_c, Option.bind_some, c.2, if_neg (by decide), Option.bind_some, nI_1, m1]
      · rw [m3, s_run_s, if_pos c]
    · refine ⟨M, ?_, g_fr.rfl, ?_⟩
      · by_cases d : a < L
        · rw [lp0_s, F_X9_wordToken_0, tp.2.1, e, if_neg (nI_ge d (by omega)), tp.ld d, Option.bind_some, let_c, Option.bind_some, Bool.eq_false_iff.mpr (fun q => c ⟨d, q⟩), if_pos (show bi false = 0 from rfl)]
        · rw [lp0_s, F_X9_wordToken_0, tp.2.1, e, if_pos (nI_le (by omega) (by omega))]
      · rw [e, s_run_s, if_neg c]
theorem s_num_s {n a : Nat} {v : Int32} : s_num b (n + 1) a v = s_num b n (a + 1) (if 100 < v * 10 + b a - 48 then 100 else v * 10 + b a - 48) := rfl
theorem nm_go (K : g_M → Option (Int32 × g_M)) : ∀ (n f a : Nat) (M : g_M) (v : Int32), TP b L M → a ≤ L → L ≤ a + n → n < f → M.1 32 5 = nI a → M.1 32 6 = v → ∃ M' : g_M, g_lp0 (F_X9_numberToken_0 K) f M = K M' ∧ g_fr [] [(32, 5), (32, 6)] M M' ∧ M'.1 32 5 = nI (s_run s_dig b L n a) ∧ M'.1 32 6 = s_num b (s_run s_dig b L n a - a) a v
  | 0, f, a, M, v, tp, ha, hn, hf, e, ev => by
    obtain ⟨f, rfl⟩ : ∃ f', f = f' + 1 := ⟨f - 1, by omega⟩
    have hL := tp.1
    refine ⟨M, ?_, g_fr.rfl, e, ?_⟩
    · rw [lp0_s, F_X9_numberToken_0, tp.2.1, e, if_pos (nI_le (by omega) (by omega))]
    · rw [ev, show s_run s_dig b L 0 a - a = 0 from Nat.sub_self a]
      rfl
  | n + 1, f, a, M, v, tp, ha, hn, hf, e, ev => by
    obtain ⟨f, rfl⟩ : ∃ f', f = f' + 1 := ⟨f - 1, by omega⟩
    have hL := tp.1
    by_cases c : a < L ∧ s_dig (b a) = true
    · have fr1 : g_fr [] [(32, 5), (32, 6)] M (g_u (g_u M 32 6 (if 100 < v * 10 + b a - 48 then 100 else v * 10 + b a - 48)) 32 5 (nI (a + 1))) := (g_fr.rfl.uT (by decide)).uT (by decide)
      obtain ⟨M', m1, m2, m3, m4⟩ := nm_go K n f (a + 1) (g_u (g_u M 32 6 (if 100 < v * 10 + b a - 48 then 100 else v * 10 + b a - 48)) 32 5 (nI (a + 1))) (if 100 < v * 10 + b a - 48 then 100 else v * 10 + b a - 48) (tp.fr fr1 (by decide)) (by omega) (by omega) (by omega) rfl rfl
      have rb := s_run_b (b := b) (L := L) (p := s_dig) n (a + 1) (by omega)
      refine ⟨M', ?_, fr1.trans m2, ?_, ?_⟩
      · rw [lp0_s, F_X9_numberToken_0, tp.2.1, e, if_neg (nI_ge c.1 (by omega)), tp.ld c.1, Option.bind_some, dig_c, Option.bind_some, c.2, if_neg (by decide), Option.bind_some, Option.bind_some, Option.bind_some, ev]
        rw [show (g_u M 32 6 (if 100 < v * 10 + b a - 48 then 100 else v * 10 + b a - 48)).1 32 5 = nI a from e, nI_1, m1]
      · rw [m3, s_run_s, if_pos c]
      · rw [m4, s_run_s, if_pos c, ← s_num_s]
        congr 1
        omega
    · refine ⟨M, ?_, g_fr.rfl, ?_, ?_⟩
      · by_cases d : a < L
        · rw [lp0_s, F_X9_numberToken_0, tp.2.1, e, if_neg (nI_ge d (by omega)), tp.ld d, Option.bind_some, dig_c, Option.bind_some, Bool.eq_false_iff.mpr (fun q => c ⟨d, q⟩), if_pos (show bi false = 0 from rfl)]
        · rw [lp0_s, F_X9_numberToken_0, tp.2.1, e, if_pos (nI_le (by omega) (by omega))]
      · rw [e, s_run_s, if_neg c]
      · rw [ev, s_run_s, if_neg c, Nat.sub_self]
        rfl
theorem slen_8 : ∀ j, j < 11 → g_slen.getD j 0 ≤ 8 := by decide
theorem sp_go {s j : Nat} (hj : j < 11) (tp : TP b L M) (e4 : M.1 32 4 = nI s) (hs : s + g_slen.getD j 0 ≤ L) : ∀ (k f i : Nat), i + k = g_slen.getD j 0 → k < f → (∀ q, q < i → b (s + q) = (g_sbyt.getD j []).getD q 0) → g_lq1 (F_X9_spells_32_20 M j (some 0) (some 1)) f (nI i) = some (bi ((List.range (g_slen.getD j 0)).all (fun k => b (s + k) == (g_sbyt.getD j []).getD k 0)))
  | 0, f, i, hi, hf, hq => by
    obtain ⟨f, rfl⟩ : ∃ f', f = f' + 1 := ⟨f - 1, by omega⟩
    have h8 := slen_8 j hj
    have : (List.range (g_slen.getD j 0)).all (fun k => b (s + k) == (g_sbyt.getD j []).getD k 0) = true := List.all_eq_true.mpr (fun q hq2 => beq_iff_eq.mpr (hq q (by have := List.mem_range.mp hq2; omega)))
    rw [lq1_s, F_X9_spells_32_20, f_J0_length_8abf5, Option.bind_some, if_pos (nI_le (by omega) (by omega)), this]
    rfl
  | k + 1, f, i, hi, hf, hq => by
    obtain ⟨f, rfl⟩ : ∃ f', f = f' + 1 := ⟨f - 1, by omega⟩
    have h8 := slen_8 j hj
    have hL := tp.1
    rw [lq1_s, F_X9_spells_32_20, f_J0_length_8abf5, Option.bind_some, if_neg (nI_ge (by omega) (by omega)), e4, nI_add, tp.ld (by omega), Option.bind_some, f_J0_charAt_5068e, if_neg (nI_in (by omega) (by omega)), Option.bind_some, nI_clamp (by omega), nI_1]
    by_cases c : b (s + i) = (g_sbyt.getD j []).getD i 0
    · rw [if_pos c]
      exact sp_go hj tp e4 hs k f (i + 1) (by omega) (by omega) (fun q hq2 => by
        by_cases d : q = i
        · subst d
          exact c
        · exact hq q (by omega))
    · rw [if_neg c]
      have : (List.range (g_slen.getD j 0)).all (fun k => b (s + k) == (g_sbyt.getD j []).getD k 0) = false := Bool.eq_false_iff.mpr (fun q => c (beq_iff_eq.mp (List.all_eq_true.mp q i (List.mem_range.mpr (by omega)))))
      rw [this]
      rfl
theorem sp_c {s e j : Nat} (hj : j < 11) (tp : TP b L M) (e4 : M.1 32 4 = nI s) (e5 : M.1 32 5 = nI e) (hs : s ≤ e) (he : e ≤ L) : f_X9_spells_32 j M = some (bi (s_is b s e j)) := by
  have h8 := slen_8 j hj
  have hL := tp.1
  unfold f_X9_spells_32 s_is
  rw [f_J0_length_8abf5, Option.bind_some, e4, e5, pk_sub hs]
  by_cases c : e - s = g_slen.getD j 0
  · rw [if_pos (by rw [c]), decide_eq_true c, Bool.true_and]
    exact sp_go hj tp e4 (by omega) (g_slen.getD j 0) 20000000 0 (by omega) (by omega) (fun q hq => absurd hq (by omega))
  · rw [if_neg (fun q => c ((nI_eq (by omega) (by omega)).mp q)), decide_eq_false c, Bool.false_and]
    rfl
theorem wstep {c : Bool} {o : Option Int32} {l v : Int32} {X : Option (Int32 × g_M)} (ho : o = some (bi c)) (hX : X = some (l, M)) : (o.bind fun p => if p = 0 then X else some (v, M)) = some (if c = true then v else l, M) := by
  rw [ho, hX, Option.bind_some]
  cases c <;> rfl
theorem wt_c {s e : Nat} (tp : TP b L M) (e4 : M.1 32 4 = nI s) (e5 : M.1 32 5 = nI e) (hs : s ≤ e) (he : e ≤ L) : f_X9_wordToken_45 M = some (s_wrd b s e, M) := by
  have h := fun j hj => sp_c (j := j) hj tp e4 e5 hs he
  unfold f_X9_wordToken_45
  exact wstep (h 0 (by omega)) (wstep (h 1 (by omega)) (wstep (h 2 (by omega)) (wstep (h 3 (by omega)) (wstep (h 4 (by omega)) (wstep (h 5 (by omega)) (wstep (h 6 (by omega)) (wstep (h 7 (by omega)) (wstep (h 8 (by omega)) (wstep (h 9 (by omega)) (wstep (h 10 (by omega)) rfl))))))))))
/-- the token that is looked at -/
def CT (M : g_M) (t : s_T) : Prop := M.1 32 4 = nI t.1 ∧ M.1 32 5 = nI t.2.1 ∧ M.1 32 3 = t.2.2.1 ∧ M.1 32 6 = t.2.2.2
theorem adv_c (tp : TP b L M) {a : Nat} (ha : a ≤ L) (e5 : M.1 32 5 = nI a) : ∃ M' : g_M, f_X9_advance M = some M' ∧ g_fr [] [(32, 3), (32, 4), (32, 5), (32, 6)] M M' ∧ CT M' (s_tk b L a) := by
  have hL := tp.1
  have fr0 : g_fr [] [(32, 4)] M (g_u M 32 4 (M.1 32 5)) := g_fr.rfl.uT (by decide)
  obtain ⟨M2, m1, m2, m3⟩ := sk_go f_X9_advance_52 L 20000000 a (g_u M 32 4 (M.1 32 5)) (tp.fr fr0 (by decide)) ha (by omega) (by omega) e5
  have sb := s_skip_b (b := b) L a ha
  have fr1 : g_fr [] [(32, 3), (32, 4), (32, 5), (32, 6)] M M2 := (fr0.trans m2).mono (by decide) (by decide)
  have tp2 := tp.fr fr1 (by decide)
  unfold s_tk
  generalize s_skip b L L a = s at m3 sb
  have fr2 : g_fr [] [(32, 3), (32, 4), (32, 5), (32, 6)] M2 (g_u (g_u M2 32 5 (M2.1 32 4)) 32 6 0) := (g_fr.rfl.uT (by decide)).uT (by decide)
  have tp5 := tp2.fr fr2 (by decide)
  have q4 : (g_u (g_u M2 32 5 (M2.1 32 4)) 32 6 0).1 32 4 = nI s := m3
  have q5 : (g_u (g_u M2 32 5 (M2.1 32 4)) 32 6 0).1 32 5 = nI s := m3
  have q6 : (g_u (g_u M2 32 5 (M2.1 32 4)) 32 6 0).1 32 6 = 0 := rfl
  have key : f_X9_advance M = f_X9_advance_52 M2 := by
    unfold f_X9_advance
    rw [Option.bind_some]
    exact m1
  rw [key]
  unfold f_X9_advance_52
  rw [Option.bind_some, Option.bind_some]
  generalize (g_u (g_u M2 32 5 (M2.1 32 4)) 32 6 0) = M5 at fr2 tp5 q4 q5 q6
  have fr5 := fr1.trans fr2
  rw [q4, tp5.2.1, q5]
  unfold s_tk0
  by_cases c : s < L
  · rw [if_pos (nI_lt c (by omega)), if_pos c, tp5.ld c, Option.bind_some, let_c, Option.bind_some]
    cases lt : s_let (b s)
    · rw [if_pos (show bi false = 0 from rfl), Option.bind_some, dig_c, Option.bind_some, if_neg (show ¬ false = true by decide)]
      cases dt : s_dig (b s)
      · have fr6 : g_fr [] [(32, 3), (32, 4), (32, 5), (32, 6)] M5 (g_u M5 32 5 (nI s + 1)) := g_fr.rfl.uT (by decide)
        have tp6 := tp5.fr fr6 (by decide)
        rw [if_pos (show bi false = 0 from rfl), if_neg (show ¬ false = true by decide), Option.bind_some, show (g_u M5 32 5 (nI s + 1)).1 32 4 = nI s from q4, tp6.ld c, Option.bind_some, sgn_c, Option.bind_some, Option.bind_some]
        exact ⟨_, rfl, fr5.trans (fr6.uT (by decide)), q4, nI_1 s, rfl, q6⟩
      · obtain ⟨M7, n1, n2, n3, n4⟩ := nm_go f_X9_numberToken_77 L 20000000 s M5 0 tp5 (by omega) (by omega) (by omega) q5 q6
        rw [if_neg (show ¬ bi true = 0 by decide), if_pos rfl]
        have e2 : f_X9_numberToken M5 = f_X9_numberToken_77 M7 := n1
        have fr7 : g_fr [] [(32, 3), (32, 4), (32, 5), (32, 6)] M5 M7 := n2.mono (by decide) (by decide)
        have r4 : M7.1 32 4 = nI s := (n2.at (by decide) (by decide)).trans q4
        rw [e2]
        unfold f_X9_numberToken_77
        rw [n4]
        by_cases z : s_num b (s_run s_dig b L L s - s) s 0 ≤ 99
        · rw [if_pos z, if_pos z, Option.bind_some, Option.bind_some]
          exact ⟨_, rfl, fr5.trans (fr7.uT (by decide)), r4, n3, rfl, n4⟩
        · rw [if_neg z, if_neg z, Option.bind_some, Option.bind_some]
          exact ⟨_, rfl, fr5.trans (fr7.uT (by decide)), r4, n3, rfl, n4⟩
    · obtain ⟨M7, n1, n2, n3⟩ := wd_go f_X9_wordToken_45 L 20000000 s M5 tp5 (by omega) (by omega) (by omega) q5
      rw [if_neg (show ¬ bi true = 0 by decide), if_pos rfl]
      have e2 : f_X9_wordToken M5 = f_X9_wordToken_45 M7 := n1
      have fr7 : g_fr [] [(32, 3), (32, 4), (32, 5), (32, 6)] M5 M7 := n2.mono (by decide) (by decide)
      have r4 : M7.1 32 4 = nI s := (n2.at (by decide) (by decide)).trans q4
      have r6 : M7.1 32 6 = 0 := (n2.at (by decide) (by decide)).trans q6
      have rb := s_run_b (b := b) (L := L) (p := s_let) L s (by omega)
      rw [e2, wt_c (tp5.fr fr7 (by decide)) r4 n3 rb.1 rb.2, Option.bind_some, Option.bind_some]
      exact ⟨_, rfl, fr5.trans (fr7.uT (by decide)), r4, n3, rfl, r6⟩
  · rw [if_neg (nI_nlt (by omega) (by omega)), if_neg c, Option.bind_some]
    exact ⟨_, rfl, fr5.trans (g_fr.rfl.uT (by decide)), q4, q5, rfl, q6⟩
end TOKC
