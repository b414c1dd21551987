section FEWL
variable {M : g_M} {c : Nat}
theorem mlt : allN (fun c => c == 0 || allN (fun i => decide (mT c i < 2 ^ 2 ^ c)) (mP c 8)) 5 = true := by decide +kernel
theorem mI0 : allN (fun c => c == 0 || mI c 0 == 0) 5 = true := by decide +kernel
theorem mPup : allN (fun c => c == 0 || allN (fun s => decide (mP c s ≤ mP c (s + 1))) 8) 5 = true := by decide +kernel
theorem ne0 {c : Nat} (h1 : 1 ≤ c) : (c == 0) = false := beq_eq_false_iff_ne.mpr (by omega)
theorem orN {b : Bool} {c : Nat} (h1 : 1 ≤ c) (h : (c == 0 || b) = true) : b = true := by
  rw [ne0 h1, Bool.false_or] at h
  exact h
theorem mI_of (h1 : 1 ≤ c) (h4 : c ≤ 4) {t : Nat} (ht : t < 2 ^ 2 ^ c) (h : mI c t ≠ 0) : mT c (mI c t - 1) = t := by
  by_cases c4 : c = 4
  · subst c4
    have q := allN_1 mI_a4 t ht
    rw [Bool.or_eq_true, beq_iff_eq, beq_iff_eq] at q
    exact q.resolve_left h
  · have q := allN_1 (orN h1 (allN_1 mI_a3 c (by omega))) t ht
    rw [Bool.or_eq_true, beq_iff_eq, beq_iff_eq] at q
    exact q.resolve_left h
theorem mI_at (h1 : 1 ≤ c) (h4 : c ≤ 4) {i : Nat} (hi : i < mP c 8) : mI c (mT c i) = i + 1 ∧ 1 ≤ mZ c i ∧ mZ c i ≤ 8 ∧ mT c i < 65536 ∧ mT c i < 2 ^ 2 ^ c := by
  have q := allN_1 (orN h1 (allN_1 mI_in c (by omega))) i hi
  rw [Bool.and_eq_true, Bool.and_eq_true, Bool.and_eq_true, beq_iff_eq, decide_eq_true_eq, decide_eq_true_eq, decide_eq_true_eq] at q
  have q2 := allN_1 (orN h1 (allN_1 mlt c (by omega))) i hi
  rw [decide_eq_true_eq] at q2
  exact ⟨q.1.1.1, q.1.1.2, q.1.2, q.2, q2⟩
theorem mlen_eq (h1 : 1 ≤ c) (h4 : c ≤ 4) : (mW c).length = mP c 8 ∧ mP c 8 ≤ 166 := by
  have q := orN h1 (allN_1 mlen c (by omega))
  rw [Bool.and_eq_true, decide_eq_true_eq, decide_eq_true_eq] at q
  exact q
theorem mT_out (h1 : 1 ≤ c) (h4 : c ≤ 4) {i : Nat} (hi : mP c 8 ≤ i) : mT c i = 0 := by
  unfold mT
  rw [List.getD_eq_getElem?_getD, List.getElem?_eq_none (by rw [(mlen_eq h1 h4).1]; exact hi)]
  rfl
theorem mI_le (h1 : 1 ≤ c) (h4 : c ≤ 4) {t : Nat} (ht : t < 2 ^ 2 ^ c) (h : mI c t ≠ 0) : mI c t ≤ mP c 8 := by
  have e := mI_of h1 h4 ht h
  refine Classical.byContradiction fun q => h ?_
  rw [mT_out h1 h4 (by omega)] at e
  rw [← e]
  exact beq_iff_eq.mp (orN h1 (allN_1 mI0 c (by omega)))
/-- the tables that the model knows: the first p of its list -/
def MX (c : Nat) (M : g_M) (p : Nat) : Prop := M.1 59 26 = nI p ∧ p ≤ mP c 8 ∧ ∀ i, i < p → M.1 71 i = nI (mT c i) ∧ M.1 72 i = nI (mZ c i)
abbrev FZ (M M' : g_M) : Prop := g_fr [71, 72] [(59, 26)] M M'
theorem ad_no (h1 : 1 ≤ c) (h4 : c ≤ 4) {p t : Nat} (h : MX c M p) (ht : t < 65536) (no : ∀ i, i < p → mT c i ≠ t) (K20 : g_M → Option g_M) (K27 : Int32 → Int32 → g_M → Option g_M) (s : Int32) : ∀ (k f j : Nat), j + k = p → k < f → g_lp3 (F_X12_adds_2 K20 K27) f (nI t) s (nI j) M = K27 (nI t) s M
  | 0, f, j, hj, hf => by
    obtain ⟨f, rfl⟩ : ∃ f', f = f' + 1 := ⟨f - 1, by omega⟩
    have l := (mlen_eq h1 h4).2
    have hp := h.2.1
    rw [lp3_s, F_X12_adds_2, h.1, if_pos (nI_le (by omega) (by omega))]
  | k + 1, f, j, hj, hf => by
    obtain ⟨f, rfl⟩ : ∃ f', f = f' + 1 := ⟨f - 1, by omega⟩
    have l := (mlen_eq h1 h4).2
    have hp := h.2.1
    have m := mI_at h1 h4 (i := j) (by omega)
    rw [lp3_s, F_X12_adds_2, h.1, if_neg (nI_ge (by omega) (by omega)), e_ld (by omega) (by omega), Option.bind_some, (h.2.2 j (by omega)).1, if_neg (fun q => no j (by omega) ((nI_eq (by omega) (by omega)).mp q)), nI_1]
    exact ad_no h1 h4 h ht no K20 K27 s k f (j + 1) (by omega) (by omega)
theorem ad_yes (h1 : 1 ≤ c) (h4 : c ≤ 4) {p t i : Nat} (h : MX c M p) (ht : t < 65536) (hi : i < p) (ei : mT c i = t) (K20 : g_M → Option g_M) (K27 : Int32 → Int32 → g_M → Option g_M) (s : Int32) : ∀ (k f j : Nat), j + k = i → k < f → g_lp3 (F_X12_adds_2 K20 K27) f (nI t) s (nI j) M = K20 M
  | 0, f, j, hj, hf => by
    obtain ⟨f, rfl⟩ : ∃ f', f = f' + 1 := ⟨f - 1, by omega⟩
    have l := (mlen_eq h1 h4).2
    have hp := h.2.1
    have : j = i := by omega
    subst this
    rw [lp3_s, F_X12_adds_2, h.1, if_neg (nI_ge (by omega) (by omega)), e_ld (by omega) (by omega), Option.bind_some, (h.2.2 j (by omega)).1, if_pos (by rw [ei])]
  | k + 1, f, j, hj, hf => by
    obtain ⟨f, rfl⟩ : ∃ f', f = f' + 1 := ⟨f - 1, by omega⟩
    have l := (mlen_eq h1 h4).2
    have hp := h.2.1
    have m := mI_at h1 h4 (i := j) (by omega)
    have mi := mI_at h1 h4 (i := i) (by omega)
    rw [lp3_s, F_X12_adds_2, h.1, if_neg (nI_ge (by omega) (by omega)), e_ld (by omega) (by omega), Option.bind_some, (h.2.2 j (by omega)).1, if_neg (fun q => by
      have e := (nI_eq (by omega) (by omega)).mp q
      rw [e, ← ei] at m
      omega), nI_1]
    exact ad_yes h1 h4 h ht hi ei K20 K27 s k f (j + 1) (by omega) (by omega)
theorem ad_eq (h1 : 1 ≤ c) (h4 : c ≤ 4) {p t s p' : Nat} (h : MX c M p) (ht : t < 2 ^ 2 ^ c) (ht2 : t < 65536) (e : aM c p t s = some p') : ∃ M' : g_M, f_X12_adds (nI t) (nI s) M = some M' ∧ FZ M M' ∧ MX c M' p' ∧ p ≤ p' := by
  have l := (mlen_eq h1 h4).2
  have hp := h.2.1
  unfold aM at e
  by_cases i0 : mI c t = 0
  · rw [if_pos i0] at e
    exact absurd e (by simp)
  rw [if_neg i0] at e
  have fo := mI_of h1 h4 ht i0
  have fl := mI_le h1 h4 ht i0
  by_cases c1 : mI c t ≤ p
  · rw [if_pos c1] at e
    have ep := Option.some.inj e
    subst ep
    exact ⟨M, ad_yes h1 h4 h ht2 (i := mI c t - 1) (by omega) fo _ _ _ (mI c t - 1) 20000000 0 (by omega) (by omega), g_fr.rfl, h, Nat.le_refl _⟩
  · rw [if_neg c1] at e
    by_cases c2 : mI c t = p + 1
    · rw [if_pos c2] at e
      by_cases c3 : mZ c p = s
      · rw [if_pos c3] at e
        have ep := Option.some.inj e
        subst ep
        rw [c2, Nat.add_sub_cancel] at fo
        have no : ∀ i, i < p → mT c i ≠ t := fun i hi q => by
          have := (mI_at h1 h4 (i := i) (by omega)).1
          rw [q] at this
          omega
        refine ⟨g_u (g_u (g_u M 71 p (nI t)) 72 p (nI s)) 59 26 (nI (p + 1)), ?_, ((g_fr.rfl.uS (by decide)).uS (by decide)).uT (by decide), ⟨rfl, by omega, fun i hi => ?_⟩, by omega⟩
        · refine (ad_no h1 h4 h ht2 no _ _ _ p 20000000 0 (by omega) (by omega)).trans ?_
          rw [h.1, e_st (by omega) (by omega), Option.bind_some, show (g_u M 71 p (nI t)).1 59 26 = nI p from h.1, e_st (by omega) (by omega), Option.bind_some, Option.bind_some, show (g_u (g_u M 71 p (nI t)) 72 p (nI s)).1 59 26 = nI p from h.1, nI_1]
        · show upd (M.1 71) p (nI t) i = _ ∧ upd (M.1 72) p (nI s) i = _
          by_cases q : i = p
          · subst q
            rw [upd_eq, upd_eq, fo, c3]
            exact ⟨rfl, rfl⟩
          · rw [upd_ne q, upd_ne q]
            exact h.2.2 i (by omega)
      · rw [if_neg c3] at e
        exact absurd e (by simp)
    · rw [if_neg c2] at e
      exact absurd e (by simp)
theorem so_go (h1 : 1 ≤ c) (h4 : c ≤ 4) {p t i : Nat} (h : MX c M p) (ht : t < 65536) (hi : i < p) (ei : mT c i = t) : ∀ (k f j : Nat), j + k = i → k < f → g_lq2 (F_X12_sizeOf_2 M (fun (x2 : Int32) => (g_ld M 72 200 x2).bind fun v2 => some v2) (some 0)) f (nI t) (nI j) = some (nI (mZ c i))
  | 0, f, j, hj, hf => by
    obtain ⟨f, rfl⟩ : ∃ f', f = f' + 1 := ⟨f - 1, by omega⟩
    have l := (mlen_eq h1 h4).2
    have hp := h.2.1
    have : j = i := by omega
    subst this
    rw [lq2_s, F_X12_sizeOf_2, h.1, if_neg (nI_ge (by omega) (by omega)), e_ld (by omega) (by omega), Option.bind_some, (h.2.2 j (by omega)).1, if_pos (by rw [ei]), e_ld (by omega) (by omega), Option.bind_some, (h.2.2 j (by omega)).2]
  | k + 1, f, j, hj, hf => by
    obtain ⟨f, rfl⟩ : ∃ f', f = f' + 1 := ⟨f - 1, by omega⟩
    have l := (mlen_eq h1 h4).2
    have hp := h.2.1
    have m := mI_at h1 h4 (i := j) (by omega)
    have mi := mI_at h1 h4 (i := i) (by omega)
    rw [lq2_s, F_X12_sizeOf_2, h.1, if_neg (nI_ge (by omega) (by omega)), e_ld (by omega) (by omega), Option.bind_some, (h.2.2 j (by omega)).1, if_neg (fun q => by
      have e := (nI_eq (by omega) (by omega)).mp q
      rw [e, ← ei] at m
      omega), nI_1]
    exact so_go h1 h4 h ht hi ei k f (j + 1) (by omega) (by omega)
theorem so_no (h1 : 1 ≤ c) (h4 : c ≤ 4) {p t : Nat} (h : MX c M p) (ht : t < 65536) (no : ∀ i, i < p → mT c i ≠ t) : ∀ (k f j : Nat), j + k = p → k < f → g_lq2 (F_X12_sizeOf_2 M (fun (x2 : Int32) => (g_ld M 72 200 x2).bind fun v2 => some v2) (some 0)) f (nI t) (nI j) = some 0
  | 0, f, j, hj, hf => by
    obtain ⟨f, rfl⟩ : ∃ f', f = f' + 1 := ⟨f - 1, by omega⟩
    have l := (mlen_eq h1 h4).2
    have hp := h.2.1
    rw [lq2_s, F_X12_sizeOf_2, h.1, if_pos (nI_le (by omega) (by omega))]
  | k + 1, f, j, hj, hf => by
    obtain ⟨f, rfl⟩ : ∃ f', f = f' + 1 := ⟨f - 1, by omega⟩
    have l := (mlen_eq h1 h4).2
    have hp := h.2.1
    have m := mI_at h1 h4 (i := j) (by omega)
    rw [lq2_s, F_X12_sizeOf_2, h.1, if_neg (nI_ge (by omega) (by omega)), e_ld (by omega) (by omega), Option.bind_some, (h.2.2 j (by omega)).1, if_neg (fun q => no j (by omega) ((nI_eq (by omega) (by omega)).mp q)), nI_1]
    exact so_no h1 h4 h ht no k f (j + 1) (by omega) (by omega)
theorem dropM (h1 : 1 ≤ c) (h4 : c ≤ 4) {j : Nat} (hj : j < mP c 8) : (mW c).drop j = (mT c j, mZ c j) :: (mW c).drop (j + 1) := by
  have hl : j < (mW c).length := by rw [(mlen_eq h1 h4).1]; exact hj
  rw [List.drop_eq_getElem_cons hl]
  congr 1
  unfold mT mZ
  rw [List.getD_eq_getElem?_getD, List.getElem?_eq_getElem hl]
  rfl
theorem mB_s {s n p p' : Nat} {x y : Nat × Nat} {ys : List (Nat × Nat)} (h : mB c s x (n + 1) (y :: ys) p = some p') : (x.2 + y.2 = s ∧ ∃ p1 p2, aM c p (x.1 ||| y.1) s = some p1 ∧ aM c p1 (x.1 &&& y.1) s = some p2 ∧ mB c s x n ys p2 = some p') ∨ (¬ x.2 + y.2 = s ∧ mB c s x n ys p = some p') := by
  have h' : (if x.2 + y.2 = s then (match aM c p (x.1 ||| y.1) s with | none => none | some p1 => match aM c p1 (x.1 &&& y.1) s with | none => none | some p2 => mB c s x n ys p2) else mB c s x n ys p) = some p' := h
  by_cases e : x.2 + y.2 = s
  · left
    rw [if_pos e] at h'
    refine ⟨e, ?_⟩
    cases e1 : aM c p (x.1 ||| y.1) s with
    | none => rw [e1] at h'; exact absurd h' (by simp)
    | some p1 =>
      rw [e1] at h'
      dsimp only at h'
      cases e2 : aM c p1 (x.1 &&& y.1) s with
      | none => rw [e2] at h'; exact absurd h' (by simp)
      | some p2 =>
        rw [e2] at h'
        exact ⟨p1, p2, rfl, e2, h'⟩
  · right
    rw [if_neg e] at h'
    exact ⟨e, h'⟩
theorem mA_s {s n a p p' : Nat} {x : Nat × Nat} {xs : List (Nat × Nat)} (h : mA c s (n + 1) (x :: xs) a p = some p') : ∃ p1, mB c s x (a + 1) (mW c) p = some p1 ∧ mA c s n xs (a + 1) p1 = some p' := by
  have h' : (match mB c s x (a + 1) (mW c) p with | none => none | some p1 => mA c s n xs (a + 1) p1) = some p' := h
  cases e1 : mB c s x (a + 1) (mW c) p with
  | none => rw [e1] at h'; exact absurd h' (by simp)
  | some p1 =>
    rw [e1] at h'
    exact ⟨p1, rfl, h'⟩
theorem mb_go (h1 : 1 ≤ c) (h4 : c ≤ 4) {a s : Nat} (hs : s ≤ 100) (K : Int32 → Int32 → Int32 → Int32 → g_M → Option (Int32 × g_M)) (x4 x6 : Int32) : ∀ (n f b p p' : Nat) (M : g_M), b + n = a + 1 → n < f → MX c M p → a < p → mB c s (mT c a, mZ c a) n ((mW c).drop b) p = some p' → ∃ M' : g_M, g_lp5 (F_X12_fewest_219 K) f x4 (nI s) x6 (nI a) (nI b) M = K x4 (nI s) x6 (nI a) M' ∧ FZ M M' ∧ MX c M' p' ∧ p ≤ p'
  | 0, f, b, p, p', M, hb, hf, h, ha, e => by
    obtain ⟨f, rfl⟩ : ∃ f', f = f' + 1 := ⟨f - 1, by omega⟩
    have l := (mlen_eq h1 h4).2
    have hp := h.2.1
    have ep : p = p' := Option.some.inj e
    subst ep
    refine ⟨M, ?_, g_fr.rfl, h, Nat.le_refl _⟩
    rw [lp5_s, F_X12_fewest_219, if_pos (nI_lt (by omega) (by omega))]
  | n + 1, f, b, p, p', M, hb, hf, h, ha, e => by
    obtain ⟨f, rfl⟩ : ∃ f', f = f' + 1 := ⟨f - 1, by omega⟩
    have l := (mlen_eq h1 h4).2
    have hp := h.2.1
    have ia := mI_at h1 h4 (i := a) (by omega)
    have ib := mI_at h1 h4 (i := b) (by omega)
    rw [dropM h1 h4 (show b < mP c 8 by omega)] at e
    rw [lp5_s, F_X12_fewest_219, if_neg (nI_nlt (by omega) (by omega)), e_ld (by omega) (by omega), Option.bind_some, e_ld (by omega) (by omega), Option.bind_some, (h.2.2 a ha).2, (h.2.2 b (by omega)).2, nI_add]
    rcases mB_s e with ⟨q0, p1, p2, q1, q2, q3⟩ | ⟨q0, q3⟩
    · obtain ⟨M1, a1, a2, a3, a4⟩ := ad_eq h1 h4 h (t := mT c a ||| mT c b) (Nat.or_lt_two_pow ia.2.2.2.2 ib.2.2.2.2) (or16 ia.2.2.2.1 ib.2.2.2.1) q1
      obtain ⟨M2, b1, b2, b3, b4⟩ := ad_eq h1 h4 a3 (t := mT c a &&& mT c b) (Nat.lt_of_le_of_lt Nat.and_le_left ia.2.2.2.2) (and16 ia.2.2.2.1) q2
      obtain ⟨M', m1, m2, m3, m4⟩ := mb_go h1 h4 hs K x4 x6 n f (b + 1) p2 p' M2 (by omega) (by omega) b3 (by omega) q3
      refine ⟨M', ?_, (a2.trans b2).trans m2, m3, by omega⟩
      have q0' : mZ c a + mZ c b = s := q0
      rw [if_pos (by rw [q0']), e_ld (by omega) (by omega), Option.bind_some, e_ld (by omega) (by omega), Option.bind_some, (h.2.2 a ha).1, (h.2.2 b (by omega)).1, nx_or, a1, Option.bind_some, e_ld (by omega) (by omega), Option.bind_some, e_ld (by omega) (by omega), Option.bind_some, (a3.2.2 a (by omega)).1, (a3.2.2 b (by omega)).1, nx_and, b1, Option.bind_some, nI_1, m1]
    · obtain ⟨M', m1, m2, m3, m4⟩ := mb_go h1 h4 hs K x4 x6 n f (b + 1) p p' M (by omega) (by omega) h ha q3
      refine ⟨M', ?_, m2, m3, m4⟩
      have q0' : ¬ mZ c a + mZ c b = s := q0
      rw [if_neg (fun q => q0' ((nI_eq (by omega) (by omega)).mp q)), nI_1, m1]
theorem ma_go (h1 : 1 ≤ c) (h4 : c ≤ 4) {s had : Nat} (hs : s ≤ 100) (hh : had ≤ 166) (K : Int32 → Int32 → g_M → Option (Int32 × g_M)) (x4 : Int32) : ∀ (n f a p p' : Nat) (M : g_M), a + n = had → n < f → MX c M p → had ≤ p → mA c s n ((mW c).drop a) a p = some p' → ∃ M' : g_M, g_lp4 (F_X12_fewest_209 K) f x4 (nI s) (nI had) (nI a) M = K x4 (nI s) M' ∧ FZ M M' ∧ MX c M' p'
  | 0, f, a, p, p', M, ha, hf, h, hp, e => by
    obtain ⟨f, rfl⟩ : ∃ f', f = f' + 1 := ⟨f - 1, by omega⟩
    have ep : p = p' := Option.some.inj e
    subst ep
    refine ⟨M, ?_, g_fr.rfl, h⟩
    rw [lp4_s, F_X12_fewest_209, if_pos (nI_le (by omega) (by omega))]
  | n + 1, f, a, p, p', M, ha, hf, h, hp, e => by
    obtain ⟨f, rfl⟩ : ∃ f', f = f' + 1 := ⟨f - 1, by omega⟩
    have hp8 := h.2.1
    rw [dropM h1 h4 (show a < mP c 8 by omega)] at e
    obtain ⟨p1, q1, q2⟩ := mA_s e
    obtain ⟨M1, a1, a2, a3, a4⟩ := mb_go h1 h4 hs (fun (x4 : Int32) (x5 : Int32) (x6 : Int32) (x7 : Int32) (M : g_M) => g_lp4 (F_X12_fewest_209 K) f x4 x5 x6 (x7 + 1) M) x4 (nI had) (a + 1) 20000000 0 p p1 M (by omega) (by omega) h (by omega) q1
    obtain ⟨M', m1, m2, m3⟩ := ma_go h1 h4 hs hh K x4 n f (a + 1) p1 p' M1 (by omega) (by omega) a3 (by omega) q2
    refine ⟨M', ?_, a2.trans m2, m3⟩
    rw [lp4_s, F_X12_fewest_209, if_neg (nI_ge (by omega) (by omega))]
    refine Eq.trans a1 ?_
    rw [nI_1]
    exact m1
theorem mlev (h1 : 1 ≤ c) (h4 : c ≤ 4) {s : Nat} (hs1 : 1 ≤ s) (hs : s < 8) : mA c (s + 1) (mP c s) (mW c) 0 (mP c s) = some (mP c (s + 1)) := by
  by_cases c4 : c = 4
  · subst c4
    exact beq_iff_eq.mp (orN hs1 (allN_1 mlev4 s hs))
  · exact beq_iff_eq.mp (orN hs1 (allN_1 (orN h1 (allN_1 mlev3 c (by omega))) s hs))
theorem lv_go (h1 : 1 ≤ c) (h4 : c ≤ 4) {due : Nat} (hd : due < 2 ^ 2 ^ c) (hd2 : due < 65536) (hm : mI c due ≠ 0) : ∀ (n f s : Nat) (M : g_M), s + n = 8 → n < f → 1 ≤ s → MX c M (mP c s) → ∃ M' : g_M, g_lp2 (F_X12_fewest_191 (fun (x4 : Int32) (M : g_M) => (f_X12_sizeOf x4 M).bind fun p23 => some (p23, M))) f (nI due) (nI (s + 1)) M = some (nI (mZ c (mI c due - 1)), M') ∧ FZ M M' := by
  have fo := mI_of h1 h4 hd hm
  have fl := mI_le h1 h4 hd hm
  have l := (mlen_eq h1 h4).2
  have mz := mI_at h1 h4 (i := mI c due - 1) (by omega)
  have found : ∀ (f s : Nat) (M : g_M), MX c M (mP c s) → mI c due ≤ mP c s → g_lp2 (F_X12_fewest_191 (fun (x4 : Int32) (M : g_M) => (f_X12_sizeOf x4 M).bind fun p23 => some (p23, M))) (f + 1) (nI due) (nI (s + 1)) M = some (nI (mZ c (mI c due - 1)), M) := fun f s M h hle => by
    have so : f_X12_sizeOf (nI due) M = some (nI (mZ c (mI c due - 1))) := so_go h1 h4 h hd2 (i := mI c due - 1) (by omega) fo (mI c due - 1) 20000000 0 (by omega) (by omega)
    rw [lp2_s, F_X12_fewest_191, so, Option.bind_some, if_neg (nI_ne0 (by omega) (by omega)), Option.bind_some]
  intro n
  induction n with
  | zero =>
    intro f s M hs hf hs1 h
    obtain ⟨f, rfl⟩ : ∃ f', f = f' + 1 := ⟨f - 1, by omega⟩
    have : s = 8 := by omega
    subst this
    exact ⟨M, found f 8 M h fl, g_fr.rfl⟩
  | succ n ih =>
    intro f s M hs hf hs1 h
    obtain ⟨f, rfl⟩ : ∃ f', f = f' + 1 := ⟨f - 1, by omega⟩
    by_cases q : mI c due ≤ mP c s
    · exact ⟨M, found f s M h q, g_fr.rfl⟩
    · have no : ∀ i, i < mP c s → mT c i ≠ due := fun i hi z => by
        have hp := h.2.1
        have := (mI_at h1 h4 (i := i) (by omega)).1
        rw [z] at this
        omega
      have so : f_X12_sizeOf (nI due) M = some 0 := so_no h1 h4 h hd2 no (mP c s) 20000000 0 (by omega) (by have hp := h.2.1; omega)
      have hp := h.2.1
      obtain ⟨M1, a1, a2, a3⟩ := ma_go h1 h4 (s := s + 1) (had := mP c s) (by omega) (by omega) (fun (x4 : Int32) (x5 : Int32) (M : g_M) => g_lp2 (F_X12_fewest_191 (fun (x4 : Int32) (M : g_M) => (f_X12_sizeOf x4 M).bind fun p23 => some (p23, M))) f x4 (x5 + 1) M) (nI due) (mP c s) 20000000 0 (mP c s) (mP c (s + 1)) M (by omega) (by omega) h (Nat.le_refl _) (mlev h1 h4 hs1 (by omega))
      obtain ⟨M', m1, m2⟩ := ih f (s + 1) M1 (by omega) (by omega) (by omega) a3
      refine ⟨M', ?_, a2.trans m2⟩
      rw [lp2_s, F_X12_fewest_191, so, Option.bind_some, if_pos rfl, h.1]
      refine Eq.trans a1 ?_
      rw [nI_1]
      exact m1
theorem tb_lt {e : Nat} : ∀ j, tb e j < 2 ^ j
  | 0 => show (0 : Nat) < 1 by omega
  | j + 1 => by
    have ih := tb_lt (e := e) j
    have p1 : 2 ^ j < 2 ^ (j + 1) := Nat.pow_lt_pow_right (by omega) (by omega)
    show tb e j ||| _ < 2 ^ (j + 1)
    refine Nat.or_lt_two_pow (by omega) ?_
    split
    · exact p1
    · exact Nat.two_pow_pos _
theorem tb_go {e N : Nat} (he : e < 4) (hN : N ≤ 16) (K : Int32 → Int32 → Int32 → Int32 → Int32 → g_M → Option (Int32 × g_M)) (x2 x4 : Int32) : ∀ (k f j : Nat), j + k = N → k < f → g_lp6 (F_X12_fewest_148 K) f x2 (nI N) x4 (nI e) (nI (tb e j)) (nI j) M = K x2 (nI N) x4 (nI e) (nI (tb e N)) M
  | 0, f, j, hj, hf => by
    obtain ⟨f, rfl⟩ : ∃ f', f = f' + 1 := ⟨f - 1, by omega⟩
    have : j = N := by omega
    subst this
    rw [lp6_s, F_X12_fewest_148, if_pos (nI_le (Nat.le_refl _) (by omega))]
  | k + 1, f, j, hj, hf => by
    obtain ⟨f, rfl⟩ : ∃ f', f = f' + 1 := ⟨f - 1, by omega⟩
    have ih := tb_go he hN K x2 x4 k f (j + 1) (by omega) (by omega)
    have st : tb e (j + 1) = tb e j ||| (if j.testBit e = true then 2 ^ j else 0) := rfl
    rw [st] at ih
    rw [lp6_s, F_X12_fewest_148, if_neg (nI_ge (by omega) (by omega)), b_bit _ (by omega), bt_nI (by omega), Option.bind_some, nI_1]
    cases q : j.testBit e
    · rw [q, if_neg (by decide), Nat.or_zero] at ih
      rw [if_neg (by decide), shl_0 (by omega), Int32.or_zero]
      exact ih
    · rw [q, if_pos rfl] at ih
      rw [if_pos rfl, pw_shl j (by omega), nx_or]
      exact ih
theorem in_go (h1 : 1 ≤ c) (h4 : c ≤ 4) (K : Int32 → g_M → Option (Int32 × g_M)) (x4 : Int32) : ∀ (n f e : Nat) (M : g_M), e + n = c → n < f → MX c M e → ∃ M' : g_M, g_lp4 (F_X12_fewest_136 K) f (nI c) (nI (2 ^ c)) x4 (nI e) M = K x4 M' ∧ FZ M M' ∧ MX c M' c
  | 0, f, e, M, he, hf, h => by
    obtain ⟨f, rfl⟩ : ∃ f', f = f' + 1 := ⟨f - 1, by omega⟩
    have : e = c := by omega
    refine ⟨M, ?_, g_fr.rfl, by rw [this] at h; exact h⟩
    rw [lp4_s, F_X12_fewest_136, if_pos (nI_le (by omega) (by omega))]
  | n + 1, f, e, M, he, hf, h => by
    obtain ⟨f, rfl⟩ : ∃ f', f = f' + 1 := ⟨f - 1, by omega⟩
    have p16 : 2 ^ c ≤ 2 ^ 4 := Nat.pow_le_pow_right (by omega) h4
    have ini := orN h1 (allN_1 mini c (by omega))
    rw [Bool.and_eq_true] at ini
    have ie := beq_iff_eq.mp (allN_1 ini.1 e (by omega))
    have tl := tb_lt (e := e) (2 ^ c)
    have p65 : 2 ^ 2 ^ c ≤ 2 ^ 16 := Nat.pow_le_pow_right (by omega) p16
    obtain ⟨M1, a1, a2, a3, a4⟩ := ad_eq h1 h4 h (t := tb e (2 ^ c)) tl (by omega) ie
    obtain ⟨M', m1, m2, m3⟩ := in_go h1 h4 K x4 n f (e + 1) M1 (by omega) (by omega) a3
    refine ⟨M', ?_, a2.trans m2, m3⟩
    rw [lp4_s, F_X12_fewest_136, if_neg (nI_ge (by omega) (by omega))]
    refine (tb_go (e := e) (N := 2 ^ c) (by omega) (by omega) _ (nI c) x4 (2 ^ c) 20000000 0 (by omega) (by omega)).trans ?_
    rw [show f_X12_adds (nI (tb e (2 ^ c))) 1 M = some M1 from a1, Option.bind_some, nI_1]
    exact m1
end FEWL
