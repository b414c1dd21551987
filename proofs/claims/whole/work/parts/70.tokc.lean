section TOKC
variable {b : Nat → Int32} {L : Nat} {M : g_M}
/-- the class's tape -/
def TP (b : Nat → Int32) (L : Nat) (M : g_M) : Prop := L ≤ 120 ∧ M.1 33 1 = nI L ∧ ∀ k, k < L → M.1 34 k = b k
theorem TP.fr {S : List Nat} {T : List (Nat × Nat)} {M M' : g_M} (h : TP b L M) (fr : g_fr S T M M') (hk : g_ok S T [34] [(33, 1)] = true) : TP b L M' :=
  ⟨h.1, (g_ok.at hk fr (by decide)).trans h.2.1, fun k q => by rw [(g_ok.row hk fr (k := 34) (by decide)).1]; exact h.2.2 k q⟩
theorem TP.ld (h : TP b L M) {a : Nat} (ha : a < L) : g_ld M 34 120 (nI a) = some (b a) := by
  have := h.1
  rw [e_ld (by omega) (by omega), h.2.2 a ha]
theorem let_c (x : Int32) (M : g_M) : f_X9_isLetter x M = some (bi (s_let x)) := by
  unfold f_X9_isLetter s_let
  by_cases c : x < 97
  · rw [if_pos c, decide_eq_false (Int32.not_le.mpr c)]
    rfl
  · rw [if_neg c, decide_eq_true (Int32.not_lt.mp c)]
    by_cases e : 122 < x
    · rw [if_pos e, decide_eq_false (Int32.not_le.mpr e)]
      rfl
    · rw [if_neg e, decide_eq_true (Int32.not_lt.mp e)]
      rfl
theorem dig_c (x : Int32) (M : g_M) : f_X9_isDigit x M = some (bi (s_dig x)) := by
  unfold f_X9_isDigit s_dig
  by_cases c : x < 48
  · rw [if_pos c, decide_eq_false (Int32.not_le.mpr c)]
    rfl
  · rw [if_neg c, decide_eq_true (Int32.not_lt.mp c)]
    by_cases e : 57 < x
    · rw [if_pos e, decide_eq_false (Int32.not_le.mpr e)]
      rfl
    · rw [if_neg e, decide_eq_true (Int32.not_lt.mp e)]
      rfl
theorem sgn_c (x : Int32) (M : g_M) : f_X9_signToken x M = some (s_sgn x) := by
  unfold f_X9_signToken s_sgn
  by_cases c1 : x = 40
  · rw [if_pos c1, if_pos c1]
  rw [if_neg c1, if_neg c1]
  by_cases c2 : x = 41
  · rw [if_pos c2, if_pos c2]
  rw [if_neg c2, if_neg c2]
  by_cases c3 : x = 91
  · rw [if_pos c3, if_pos c3]
  rw [if_neg c3, if_neg c3]
  by_cases c4 : x = 93
  · rw [if_pos c4, if_pos c4]
  rw [if_neg c4, if_neg c4]
theorem s_skip_s {n a : Nat} : s_skip b L (n + 1) a = if a < L ∧ b a = 32 then s_skip b L n (a + 1) else a := rfl
theorem s_run_s {p : Int32 → Bool} {n a : Nat} : s_run p b L (n + 1) a = if a < L ∧ p (b a) = true then s_run p b L n (a + 1) else a := rfl
theorem s_skip_b : ∀ n a, a ≤ L → a ≤ s_skip b L n a ∧ s_skip b L n a ≤ L
  | 0, a, h => ⟨Nat.le_refl _, h⟩
  | n + 1, a, h => by
    rw [s_skip_s]
    by_cases c : a < L ∧ b a = 32
    · rw [if_pos c]
      have := s_skip_b n (a + 1) (by omega)
      omega
    · rw [if_neg c]
      omega
theorem s_run_b {p : Int32 → Bool} : ∀ n a, a ≤ L → a ≤ s_run p b L n a ∧ s_run p b L n a ≤ L
  | 0, a, h => ⟨Nat.le_refl _, h⟩
  | n + 1, a, h => by
    rw [s_run_s]
    by_cases c : a < L ∧ p (b a) = true
    · rw [if_pos c]
      have := s_run_b (p := p) n (a + 1) (by omega)
      omega
    · rw [if_neg c]
      omega
theorem s_num_s {n a : Nat} {v : Int32} : s_num b (n + 1) a v = s_num b n (a + 1) (if 100 < v * 10 + b a - 48 then 100 else v * 10 + b a - 48) := rfl
theorem slen_8 : ∀ j, j < 11 → g_slen.getD j 0 ≤ 8 := by decide
/-- what a token goes on with: letters, or digits -/
def eP (lt dg : Bool) (x : Int32) : Bool := (lt && s_let x) || (dg && s_dig x)
theorem eP_l : eP true false = s_let := by
  funext x
  simp [eP]
theorem eP_d : eP false true = s_dig := by
  funext x
  simp [eP]
theorem eP_n {n a : Nat} : s_run (eP false false) b L n a = a := by
  cases n with
  | zero => rfl
  | succ n => rw [s_run_s, if_neg (fun q => by simp [eP] at q)]
theorem let_dig {x : Int32} (h : s_let x = true) : s_dig x = false := by
  unfold s_let at h
  rw [Bool.and_eq_true] at h
  have h1 : (97 : Int32) ≤ x := of_decide_eq_true h.1
  unfold s_dig
  rw [Bool.and_eq_false_iff]
  right
  refine decide_eq_false (fun h2 => ?_)
  have h3 : (97 : Int32) ≤ 57 := Int32.le_trans h1 h2
  exact absurd h3 (by decide)
theorem en_go (lt dg : Bool) (tp : TP b L M) : ∀ (n f a : Nat), a ≤ L → L ≤ a + n → n < f → g_lq3 (F_X9_endOf_31 M (fun (x4 : Int32) => some x4)) f (bi lt) (bi dg) (nI a) = some (nI (s_run (eP lt dg) b L n a))
  | 0, f, a, ha, hn, hf => by
    obtain ⟨f, rfl⟩ : ∃ f', f = f' + 1 := ⟨f - 1, by omega⟩
    have hL := tp.1
    rw [lq3_s, F_X9_endOf_31, tp.2.1, if_pos (nI_le (by omega) (by omega))]
    rfl
  | n + 1, f, a, ha, hn, hf => by
    obtain ⟨f, rfl⟩ : ∃ f', f = f' + 1 := ⟨f - 1, by omega⟩
    have hL := tp.1
    by_cases d : a < L
    · have ih := en_go lt dg tp n f (a + 1) (by omega) (by omega) (by omega)
      rw [lq3_s, F_X9_endOf_31, tp.2.1, if_neg (nI_ge d (by omega)), s_run_s]
      unfold f_X9_endOf_63
      simp only [tp.ld d, Option.bind_some, let_c, dig_c, nI_1]
      rw [ih]
      by_cases c : eP lt dg (b a) = true
      · rw [if_pos (show a < L ∧ eP lt dg (b a) = true from ⟨d, c⟩)]
        generalize some (nI (s_run (eP lt dg) b L n (a + 1))) = r
        revert c
        unfold eP
        generalize s_let (b a) = u
        generalize s_dig (b a) = w
        cases lt <;> cases dg <;> cases u <;> cases w <;> simp [bi]
      · rw [if_neg (show ¬ (a < L ∧ eP lt dg (b a) = true) from fun q => c q.2)]
        generalize some (nI (s_run (eP lt dg) b L n (a + 1))) = r
        revert c
        unfold eP
        generalize s_let (b a) = u
        generalize s_dig (b a) = w
        cases lt <;> cases dg <;> cases u <;> cases w <;> simp [bi]
    · rw [lq3_s, F_X9_endOf_31, tp.2.1, if_pos (nI_le (by omega) (by omega)), s_run_s, if_neg (fun q => d q.1)]
theorem s_run_h {p : Int32 → Bool} {n s : Nat} (hn : 0 < n) (hs : s < L) (hp : p (b s) = true) : s_run p b L n s = s_run p b L (n - 1) (s + 1) := by
  obtain ⟨n, rfl⟩ : ∃ n', n = n' + 1 := ⟨n - 1, by omega⟩
  rw [s_run_s, if_pos ⟨hs, hp⟩]
  rfl
theorem end_c (tp : TP b L M) {s : Nat} (hs : s < L) : f_X9_endOf (nI s) M = some (nI (s_tk0 b L s).2.1) := by
  have hL := tp.1
  unfold f_X9_endOf s_tk0
  rw [if_pos hs]
  simp only [tp.ld hs, Option.bind_some, let_c, dig_c, nI_1]
  rw [en_go (s_let (b s)) (s_dig (b s)) tp (L - 1) 20000000 (s + 1) (by omega) (by omega) (by omega)]
  cases lt : s_let (b s)
  · rw [if_neg (show ¬ false = true by decide)]
    cases dt : s_dig (b s)
    · rw [if_neg (show ¬ false = true by decide), eP_n]
    · rw [if_pos rfl, eP_d]
      show _ = some (nI (s_run s_dig b L L s))
      rw [s_run_h (n := L) (by omega) hs dt]
  · rw [if_pos rfl, let_dig lt, eP_l]
    show _ = some (nI (s_run s_let b L L s))
    rw [s_run_h (n := L) (by omega) hs lt]
theorem nm_go (tp : TP b L M) {e : Nat} (he : e ≤ L) : ∀ (n f a : Nat) (v : Int32), a + n = e → n < f → g_lq3 (F_X9_numberOf_5 M (fun (x3 : Int32) => some x3)) f (nI e) v (nI a) = some (s_num b n a v)
  | 0, f, a, v, hn, hf => by
    obtain ⟨f, rfl⟩ : ∃ f', f = f' + 1 := ⟨f - 1, by omega⟩
    have hL := tp.1
    rw [lq3_s, F_X9_numberOf_5, if_pos (nI_le (by omega) (by omega))]
    rfl
  | n + 1, f, a, v, hn, hf => by
    obtain ⟨f, rfl⟩ : ∃ f', f = f' + 1 := ⟨f - 1, by omega⟩
    have hL := tp.1
    rw [lq3_s, F_X9_numberOf_5, if_neg (nI_ge (by omega) (by omega)), tp.ld (by omega), Option.bind_some, Option.bind_some, nI_1, s_num_s]
    exact nm_go tp he n f (a + 1) _ (by omega) (by omega)
theorem num_c (tp : TP b L M) {s e : Nat} (hs : s ≤ e) (he : e ≤ L) : f_X9_numberOf (nI s) (nI e) M = some (s_num b (e - s) s 0) := by
  have hL := tp.1
  unfold f_X9_numberOf
  exact nm_go tp he (e - s) 20000000 s 0 (by omega) (by omega)
theorem sp_go {s j : Nat} (hj : j < 11) (tp : TP b L M) (hs : s + g_slen.getD j 0 ≤ L) : ∀ (k f i : Nat), i + k = g_slen.getD j 0 → k < f → (∀ q, q < i → b (s + q) = (g_sbyt.getD j []).getD q 0) → g_lq2 (F_X9_spells_32_15 M j (some 0) (some 1)) f (nI s) (nI i) = some (bi ((List.range (g_slen.getD j 0)).all (fun k => b (s + k) == (g_sbyt.getD j []).getD k 0)))
  | 0, f, i, hi, hf, hq => by
    obtain ⟨f, rfl⟩ : ∃ f', f = f' + 1 := ⟨f - 1, by omega⟩
    have h8 := slen_8 j hj
    have : (List.range (g_slen.getD j 0)).all (fun k => b (s + k) == (g_sbyt.getD j []).getD k 0) = true := List.all_eq_true.mpr (fun q hq2 => beq_iff_eq.mpr (hq q (by have := List.mem_range.mp hq2; omega)))
    rw [lq2_s, F_X9_spells_32_15, f_J0_length_8abf5, Option.bind_some, if_pos (nI_le (by omega) (by omega)), this]
    rfl
  | k + 1, f, i, hi, hf, hq => by
    obtain ⟨f, rfl⟩ : ∃ f', f = f' + 1 := ⟨f - 1, by omega⟩
    have h8 := slen_8 j hj
    have hL := tp.1
    rw [lq2_s, F_X9_spells_32_15, f_J0_length_8abf5, Option.bind_some, if_neg (nI_ge (by omega) (by omega)), nI_add, tp.ld (by omega), Option.bind_some, f_J0_charAt_5068e, if_neg (nI_in (by omega) (by omega)), Option.bind_some, nI_clamp (by omega), nI_1]
    by_cases c : b (s + i) = (g_sbyt.getD j []).getD i 0
    · rw [if_pos c]
      exact sp_go hj tp hs k f (i + 1) (by omega) (by omega) (fun q hq2 => by
        by_cases d : q = i
        · subst d
          exact c
        · exact hq q (by omega))
    · rw [if_neg c]
      have : (List.range (g_slen.getD j 0)).all (fun k => b (s + k) == (g_sbyt.getD j []).getD k 0) = false := Bool.eq_false_iff.mpr (fun q => c (beq_iff_eq.mp (List.all_eq_true.mp q i (List.mem_range.mpr (by omega)))))
      rw [this]
      rfl
theorem sp_c {s e j : Nat} (hj : j < 11) (tp : TP b L M) (hs : s ≤ e) (he : e ≤ L) : f_X9_spells_32 j (nI s) (nI e) M = some (bi (s_is b s e j)) := by
  have h8 := slen_8 j hj
  have hL := tp.1
  unfold f_X9_spells_32 s_is
  rw [f_J0_length_8abf5, Option.bind_some, pk_sub hs]
  by_cases c : e - s = g_slen.getD j 0
  · rw [if_pos (by rw [c]), decide_eq_true c, Bool.true_and]
    exact sp_go hj tp (by omega) (g_slen.getD j 0) 20000000 0 (by omega) (by omega) (fun q hq => absurd hq (by omega))
  · rw [if_neg (fun q => c ((nI_eq (by omega) (by omega)).mp q)), decide_eq_false c, Bool.false_and]
    rfl
theorem wstep {c : Bool} {o : Option Int32} {l v : Int32} {X : Option Int32} (ho : o = some (bi c)) (hX : X = some l) : (o.bind fun p => if p = 0 then X else some v) = some (if c = true then v else l) := by
  rw [ho, hX, Option.bind_some]
  cases c <;> rfl
theorem wt_c {s e : Nat} (tp : TP b L M) (hs : s ≤ e) (he : e ≤ L) : f_X9_wordToken (nI s) (nI e) M = some (s_wrd b s e) := by
  have h := fun j hj => sp_c (j := j) hj tp hs he
  unfold f_X9_wordToken
  exact wstep (h 0 (by omega)) (wstep (h 1 (by omega)) (wstep (h 2 (by omega)) (wstep (h 3 (by omega)) (wstep (h 4 (by omega)) (wstep (h 5 (by omega)) (wstep (h 6 (by omega)) (wstep (h 7 (by omega)) (wstep (h 8 (by omega)) (wstep (h 9 (by omega)) (wstep (h 10 (by omega)) rfl))))))))))
theorem s_run_gt {p : Int32 → Bool} {n s : Nat} (hs : s < L) (hp : p (b s) = true) (hn : 0 < n) : s < s_run p b L n s := by
  obtain ⟨n, rfl⟩ : ∃ n', n = n' + 1 := ⟨n - 1, by omega⟩
  rw [s_run_s, if_pos ⟨hs, hp⟩]
  have := s_run_b (b := b) (L := L) (p := p) n (s + 1) (by omega)
  omega
theorem wrdF_v {s e : Nat} : ∀ l : List Nat, s_wrdF b s e l = 1 ∨ ∃ j, j ∈ l ∧ s_wrdF b s e l = nI (7 + j)
  | [] => Or.inl rfl
  | j :: l => by
    unfold s_wrdF
    by_cases c : s_is b s e j = true
    · rw [if_pos c]
      exact Or.inr ⟨j, List.mem_cons_self, rfl⟩
    · rw [if_neg c]
      rcases wrdF_v (s := s) (e := e) l with h | ⟨k, h1, h2⟩
      · exact Or.inl h
      · exact Or.inr ⟨k, List.mem_cons_of_mem _ h1, h2⟩
theorem wrd_v {s e : Nat} : s_wrd b s e ≠ 0 ∧ s_wrd b s e ≠ 2 := by
  rcases wrdF_v (b := b) (s := s) (e := e) [0, 1, 2, 3, 4, 5, 6, 7, 8, 9, 10] with h | ⟨j, h1, h2⟩
  · have h' : s_wrd b s e = 1 := h
    rw [h']
    decide
  · have h' : s_wrd b s e = nI (7 + j) := h2
    rw [h']
    have h3 : j ≤ 10 := by
      revert h1
      clear h2 h'
      revert j
      decide
    refine ⟨fun q => ?_, fun q => ?_⟩
    · have := (nI_eq (a := 7 + j) (b := 0) (by omega) (by omega)).mp q
      omega
    · have := (nI_eq (a := 7 + j) (b := 2) (by omega) (by omega)).mp q
      omega
theorem sgn_v (x : Int32) : s_sgn x ≠ 0 ∧ s_sgn x ≠ 2 := by
  unfold s_sgn
  split
  · decide
  · split
    · decide
    · split
      · decide
      · split <;> decide
/-- a token that begins at s, as the class finds it -/
theorem tk_c (tp : TP b L M) {s : Nat} (hs : s < L) : (s_tk0 b L s).1 = s ∧ s < (s_tk0 b L s).2.1 ∧ (s_tk0 b L s).2.1 ≤ L ∧ (s_tk0 b L s).2.2.1 ≠ 0 ∧ f_X9_tokenOf (nI s) (nI (s_tk0 b L s).2.1) M = some (s_tk0 b L s).2.2.1 ∧ ((s_tk0 b L s).2.2.1 = 2 → f_X9_numberOf (nI s) (nI (s_tk0 b L s).2.1) M = some (s_tk0 b L s).2.2.2) := by
  unfold s_tk0
  rw [if_pos hs]
  cases lt : s_let (b s)
  · rw [if_neg (show ¬ false = true by decide)]
    cases dt : s_dig (b s)
    · rw [if_neg (show ¬ false = true by decide)]
      refine ⟨rfl, Nat.lt_succ_self s, hs, (sgn_v (b s)).1, ?_, fun q => absurd q (sgn_v (b s)).2⟩
      unfold f_X9_tokenOf
      simp only [tp.ld hs, Option.bind_some, let_c, dig_c, sgn_c, lt, dt]
      rfl
    · rw [if_pos rfl]
      have h1 := s_run_gt (b := b) (p := s_dig) (n := L) hs dt (by omega)
      have h2 := (s_run_b (b := b) (L := L) (p := s_dig) L s (by omega)).2
      have h3 := num_c tp (Nat.le_of_lt h1) h2
      refine ⟨rfl, h1, h2, ?_, ?_, fun _ => h3⟩
      · dsimp only
        split <;> decide
      · unfold f_X9_tokenOf
        dsimp only
        rw [h3]
        simp only [tp.ld hs, Option.bind_some, let_c, dig_c, lt, dt]
        rw [if_pos (show bi false = 0 from rfl), if_neg (show ¬ bi true = 0 by decide)]
        split <;> rfl
  · rw [if_pos rfl]
    have h1 := s_run_gt (b := b) (p := s_let) (n := L) hs lt (by omega)
    have h2 := (s_run_b (b := b) (L := L) (p := s_let) L s (by omega)).2
    refine ⟨rfl, h1, h2, wrd_v.1, ?_, fun q => absurd q wrd_v.2⟩
    unfold f_X9_tokenOf
    dsimp only
    rw [wt_c tp (Nat.le_of_lt h1) h2]
    simp only [tp.ld hs, Option.bind_some, let_c, lt]
    rw [if_neg (show ¬ bi true = 0 by decide)]
theorem s_skip_f : ∀ (n m a : Nat), L ≤ a + n → L ≤ a + m → s_skip b L n a = s_skip b L m a
  | 0, 0, a, _, _ => rfl
  | 0, m + 1, a, h1, h2 => by
    rw [s_skip_s, if_neg (fun q => by omega)]
    rfl
  | n + 1, 0, a, h1, h2 => by
    rw [s_skip_s, if_neg (fun q => by omega)]
    rfl
  | n + 1, m + 1, a, h1, h2 => by
    rw [s_skip_s, s_skip_s, s_skip_f n m (a + 1) (by omega) (by omega)]
theorem tk_sp {p : Nat} (hp : p < L) (h : b p = 32) : s_tk b L p = s_tk b L (p + 1) := by
  unfold s_tk
  rw [s_skip_f L (L + 1) p (by omega) (by omega), s_skip_s, if_pos ⟨hp, h⟩]
theorem tk_ns {p : Nat} (hp : p < L) (h : ¬ b p = 32) : s_tk b L p = s_tk0 b L p := by
  unfold s_tk
  rw [s_skip_f L (L + 1) p (by omega) (by omega), s_skip_s, if_neg (fun q => h q.2)]
theorem tk_end : s_tk b L L = (L, L, 0, 0) := by
  unfold s_tk
  rw [s_skip_f L 0 L (by omega) (by omega)]
  unfold s_skip s_tk0
  rw [if_neg (Nat.lt_irrefl L)]
/-- the k-th token of a text -/
def tq (b : Nat → Int32) (L : Nat) : Nat → s_T
  | 0 => s_tk b L 0
  | k + 1 => s_adv b L (tq b L k)
/-- the class's rows hold the first n tokens -/
def TW (b : Nat → Int32) (L n : Nat) (M : g_M) : Prop := ∀ j, j < n → M.1 77 j = (tq b L j).2.2.1 ∧ M.1 78 j = nI (tq b L j).1 ∧ ((tq b L j).2.2.1 = 2 → M.1 79 j = (tq b L j).2.2.2)
theorem TW.put {n : Nat} (h : TW b L n M) {k p v : Int32} (h1 : k = (tq b L n).2.2.1) (h2 : p = nI (tq b L n).1) (h3 : (tq b L n).2.2.1 = 2 → v = (tq b L n).2.2.2) : TW b L (n + 1) (g_u (g_u (g_u M 77 n k) 78 n p) 79 n v) := by
  intro j hj
  show upd (M.1 77) n k j = _ ∧ upd (M.1 78) n p j = _ ∧ (_ → upd (M.1 79) n v j = _)
  by_cases d : j = n
  · subst d
    rw [upd_eq, upd_eq, upd_eq]
    exact ⟨h1, h2, h3⟩
  · rw [upd_ne d, upd_ne d, upd_ne d]
    exact h j (by omega)
theorem ft_go (K : Int32 → g_M → Option g_M) : ∀ (r f p e n : Nat) (M : g_M), TP b L M → p + r = L → r < f → n ≤ p → e ≤ L → tq b L n = s_tk b L (max p e) → TW b L n M → (∀ j, j < n → (tq b L j).2.2.1 ≠ 0) → ∃ (M' : g_M) (n' : Nat), g_lp3 (F_X9_findTokens_6 K) f (nI n) (nI e) (nI p) M = K (nI n') M' ∧ g_fr [77, 78, 79] [] M M' ∧ n' ≤ L ∧ tq b L n' = s_tk b L L ∧ TW b L n' M' ∧ ∀ j, j < n' → (tq b L j).2.2.1 ≠ 0
  | 0, f, p, e, n, M, tp, hp, hf, hn, he, ht, tw, nz => by
    obtain ⟨f, rfl⟩ : ∃ f', f = f' + 1 := ⟨f - 1, by omega⟩
    have hL := tp.1
    refine ⟨M, n, ?_, g_fr.rfl, by omega, ?_, tw, nz⟩
    · rw [lp3_s, F_X9_findTokens_6, tp.2.1, if_pos (nI_le (by omega) (by omega))]
    · rw [ht, show max p e = L by omega]
  | r + 1, f, p, e, n, M, tp, hp, hf, hn, he, ht, tw, nz => by
    obtain ⟨f, rfl⟩ : ∃ f', f = f' + 1 := ⟨f - 1, by omega⟩
    have hL := tp.1
    have hpL : p < L := by omega
    rw [lp3_s, F_X9_findTokens_6, tp.2.1, if_neg (nI_ge hpL (by omega))]
    by_cases c : p < e
    · rw [if_pos (nI_lt c (by omega)), nI_1]
      exact ft_go K r f (p + 1) e n M tp (by omega) (by omega) (by omega) he (by rw [ht]; congr 1; omega) tw nz
    · rw [if_neg (nI_nlt (by omega) (by omega)), tp.ld hpL, Option.bind_some]
      have hm : max p e = p := by omega
      rw [hm] at ht
      by_cases d : b p = 32
      · rw [if_pos d, nI_1]
        refine ft_go K r f (p + 1) e n M tp (by omega) (by omega) (by omega) he ?_ tw nz
        rw [ht, tk_sp hpL d]
        congr 1
        omega
      · rw [if_neg d]
        rw [tk_ns hpL d] at ht
        obtain ⟨k1, k2, k3, k4, k5, k6⟩ := tk_c tp hpL
        have k7 := end_c tp hpL
        have nx : tq b L (n + 1) = s_tk b L (s_tk0 b L p).2.1 := by
          show s_tk b L (tq b L n).2.1 = _
          rw [ht]
        rw [k7, Option.bind_some, k5, Option.bind_some]
        generalize s_tk0 b L p = t at ht k1 k2 k3 k4 k6 nx
        have fr5 : g_fr [77, 78, 79] [] M (g_u (g_u M 77 n t.2.2.1) 78 n (nI p)) := (g_fr.rfl.uS (by decide)).uS (by decide)
        rw [e_st (by omega) (by omega), Option.bind_some, e_st (by omega) (by omega), Option.bind_some, e_ld (by omega) (by omega), Option.bind_some, show (g_u (g_u M 77 n t.2.2.1) 78 n (nI p)).1 77 n = t.2.2.1 from upd_eq, nI_1, nI_1]
        have nz' : ∀ j, j < n + 1 → (tq b L j).2.2.1 ≠ 0 := fun j hj => by
          by_cases z : j = n
          · subst z
            rw [ht]
            exact k4
          · exact nz j (by omega)
        have go : ∀ v : Int32, (t.2.2.1 = 2 → v = t.2.2.2) → ∃ (M' : g_M) (n' : Nat), g_lp3 (F_X9_findTokens_6 K) f (nI (n + 1)) (nI t.2.1) (nI (p + 1)) (g_u (g_u (g_u M 77 n t.2.2.1) 78 n (nI p)) 79 n v) = K (nI n') M' ∧ g_fr [77, 78, 79] [] M M' ∧ n' ≤ L ∧ tq b L n' = s_tk b L L ∧ TW b L n' M' ∧ ∀ j, j < n' → (tq b L j).2.2.1 ≠ 0 := fun v hv => by
          have fr6 : g_fr [77, 78, 79] [] M (g_u (g_u (g_u M 77 n t.2.2.1) 78 n (nI p)) 79 n v) := fr5.uS (by decide)
          obtain ⟨M', n', m1, m2, m3⟩ := ft_go K r f (p + 1) t.2.1 (n + 1) (g_u (g_u (g_u M 77 n t.2.2.1) 78 n (nI p)) 79 n v) (tp.fr fr6 (by decide)) (by omega) (by omega) (by omega) k3 (by rw [nx]; congr 1; omega) (tw.put (by rw [ht]) (by rw [ht, k1]) (by rw [ht]; exact hv)) nz'
          exact ⟨M', n', m1, fr6.trans m2, m3⟩
        by_cases z : t.2.2.1 = 2
        · have hn5 : f_X9_numberOf (nI p) (nI t.2.1) (g_u (g_u M 77 n t.2.2.1) 78 n (nI p)) = some t.2.2.2 := by
            have h6 := k6 z
            have tp5 := tp.fr fr5 (by decide)
            rw [num_c tp (by omega) k3] at h6
            rw [num_c tp5 (by omega) k3]
            exact h6
          rw [if_pos z, hn5, Option.bind_some, e_st (by omega) (by omega), Option.bind_some]
          exact go _ (fun _ => rfl)
        · rw [if_neg z, e_st (by omega) (by omega), Option.bind_some]
          exact go 0 (fun q => absurd q z)
/-- all tokens, an END behind them -/
def TB (b : Nat → Int32) (L N : Nat) (M : g_M) : Prop := L ≤ 120 ∧ N ≤ 120 ∧ TW b L (N + 1) M ∧ (∀ j, j < N → (tq b L j).2.2.1 ≠ 0) ∧ (tq b L N).2.2.1 = 0
theorem TB.fr {N : Nat} {S : List Nat} {T : List (Nat × Nat)} {M M' : g_M} (h : TB b L N M) (fr : g_fr S T M M') (hk : g_ok S T [77, 78, 79] [] = true) : TB b L N M' :=
  ⟨h.1, h.2.1, fun j hj => by rw [(g_ok.row hk fr (k := 77) (by decide)).1, (g_ok.row hk fr (k := 78) (by decide)).1, (g_ok.row hk fr (k := 79) (by decide)).1]; exact h.2.2.1 j hj, h.2.2.2⟩
theorem ft_c (tp : TP b L M) : ∃ (M' : g_M) (N : Nat), f_X9_findTokens M = some M' ∧ g_fr [77, 78, 79] [] M M' ∧ TB b L N M' := by
  have hL := tp.1
  obtain ⟨M1, n, m1, m2, m3, m4, m5, m6⟩ := ft_go (b := b) (L := L) (fun (x1 : Int32) (M : g_M) => (g_st M 77 121 x1 0).bind fun M10 => (g_st M10 78 121 x1 (M10.1 33 1)).bind fun M11 => (g_st M11 79 121 x1 0).bind fun M12 => some M12) L 20000000 0 0 0 M tp (by omega) (by omega) (by omega) (by omega) rfl (fun j hj => absurd hj (Nat.not_lt_zero j)) (fun j hj => absurd hj (Nat.not_lt_zero j))
  have tp1 := tp.fr m2 (by decide)
  rw [tk_end] at m4
  refine ⟨g_u (g_u (g_u M1 77 n 0) 78 n (nI L)) 79 n 0, n, ?_, ((m2.uS (by decide)).uS (by decide)).uS (by decide), hL, by omega, m5.put (by rw [m4]) (by rw [m4]) (by rw [m4]; exact fun _ => rfl), m6, by rw [m4]⟩
  have m1' : f_X9_findTokens M = _ := m1
  rw [m1']
  rw [e_st (by omega) (by omega), Option.bind_some, show (g_u M1 77 n 0).1 33 1 = nI L from tp1.2.1, e_st (by omega) (by omega), Option.bind_some, e_st (by omega) (by omega), Option.bind_some]
end TOKC
