/-! ===== the class's lists ===== -/
def Gl66 (c : Nat) (k : Int32 → g_M → Option (g_M)) (x2 : Int32) (x3 : Int32) (M : g_M) : Option (g_M) :=
  (if x3 = 0 then ((g_ld M c 1024 x2).bind fun v7 => (if v7 = 0 then (f_X6_findLeast_43_39_102 k x2 x3 0 x2 M) else (f_X6_findLeast_43_39_102 k x2 x3 1 x2 M))) else (f_X6_findLeast_43_39_102 k x2 x3 1 x2 M))
def Gl7 (o c : Nat) (k114 : g_M → Option (g_M)) (k : Int32 → g_M → Option (g_M)) (x2 : Int32) (M : g_M) : Option (g_M) :=
  (if (M.1 o 1) < x2 then (k114 M) else ((if (x2 &&& ((M.1 o 1) ^^^ (-1))) = 0 then (g_lp3 (F_X6_findLeast_43_39_31 (fun (x2 : Int32) (x3 : Int32) (M : g_M) => Gl66 c k x2 x3 M)) 20000000 x2 0 0 M) else (k (x2 + 1) M))))
theorem Gl39 : F_X6_findLeast_43_39_7 = Gl7 39 40 := rfl
theorem Gl41 : F_X6_findLeast_43_41_7 = Gl7 41 42 := rfl
def Gm72 (c : Nat) (k : Int32 → g_M → Option (g_M)) (x2 : Int32) (x3 : Int32) (M : g_M) : Option (g_M) :=
  (if x3 = 0 then ((g_ld M c 1024 x2).bind fun v7 => (if v7 = 0 then (f_X6_findMost_43_39_106 k x2 x3 1 x2 M) else (f_X6_findMost_43_39_106 k x2 x3 0 x2 M))) else (f_X6_findMost_43_39_106 k x2 x3 1 x2 M))
def Gm30 (o : Nat) (k83 : Int32 → Int32 → g_M → Option (g_M)) (k : Int32 → Int32 → Int32 → g_M → Option (g_M)) (x2 : Int32) (x3 : Int32) (x4 : Int32) (M : g_M) : Option (g_M) :=
  (if 10 ≤ x4 then (k83 x2 x3 M) else ((if x3 = 0 then ((if (((M.1 o 1) &&& (x2 ^^^ (-1))) &&& ((1 : Int32) <<< (x4 &&& 31))) = 0 then (k x2 0 (x4 + 1) M) else ((g_ld M 45 1024 (x2 ||| ((1 : Int32) <<< (x4 &&& 31)))).bind fun v2 => (if v2 = 0 then (k x2 0 (x4 + 1) M) else (k x2 1 (x4 + 1) M))))) else (k83 x2 x3 M))))
def Gm10 (o c : Nat) (k120 : g_M → Option (g_M)) (k : Int32 → g_M → Option (g_M)) (x2 : Int32) (M : g_M) : Option (g_M) :=
  (if x2 < 0 then (k120 M) else ((if (x2 &&& ((M.1 o 1) ^^^ (-1))) = 0 then (g_lp3 (Gm30 o (fun (x2 : Int32) (x3 : Int32) (M : g_M) => Gm72 c k x2 x3 M)) 20000000 x2 0 0 M) else (k (x2 + (-1)) M))))
theorem Gm39 : F_X6_findMost_43_39_10 = Gm10 39 40 := rfl
theorem Gm41 : F_X6_findMost_43_41_10 = Gm10 41 42 := rfl
theorem any_ge (G : Nat → Bool) {e : Nat} (he : e < 10) : (List.range 10).any (fun i => decide (e ≤ i) && G i) = (G e || (List.range 10).any (fun i => decide (e + 1 ≤ i) && G i)) := by
  apply bool_iff
  rw [any_iff, Bool.or_eq_true, any_iff]
  constructor
  · rintro ⟨i, hi, b⟩
    rw [Bool.and_eq_true, decide_eq_true_eq] at b
    by_cases c : i = e
    · subst c
      exact Or.inl b.2
    · exact Or.inr ⟨i, hi, by rw [Bool.and_eq_true, decide_eq_true_eq]; exact ⟨by omega, b.2⟩⟩
  · rintro (b | ⟨i, hi, b⟩)
    · exact ⟨e, he, by rw [Bool.and_eq_true, decide_eq_true_eq]; exact ⟨Nat.le_refl _, b⟩⟩
    · rw [Bool.and_eq_true, decide_eq_true_eq] at b
      exact ⟨i, hi, by rw [Bool.and_eq_true, decide_eq_true_eq]; exact ⟨by omega, b.2⟩⟩
theorem any_ge10 (G : Nat → Bool) : (List.range 10).any (fun i => decide (10 ≤ i) && G i) = false := by
  rw [Bool.eq_false_iff]
  intro e
  rw [any_iff] at e
  obtain ⟨i, hi, b⟩ := e
  rw [Bool.and_eq_true, decide_eq_true_eq] at b
  omega
theorem any_ge0 (G : Nat → Bool) : (List.range 10).any (fun i => decide (0 ≤ i) && G i) = (List.range 10).any G := by
  have e : (fun i => decide (0 ≤ i) && G i) = G := funext (fun i => by rw [decide_eq_true (Nat.zero_le i), Bool.true_and])
  rw [e]
theorem clr_I {s e : Nat} (hs : s < 1024) (he : e < 10) (c : s.testBit e = true) : nI s &&& (((1 : Int32) <<< (nI e &&& 31)) ^^^ (-1)) = nI (s ^^^ 2 ^ e) := by
  have le := sb_le (sb_xor c).1
  refine b_ext (fun i hi => ?_)
  rw [b_and, bt_not _ hi, bt_one (by omega), bt_nI (by omega), bt_nI (by omega), xb]
  by_cases d : i = e
  · subst d
    rw [c, decide_eq_true rfl]
    rfl
  · rw [decide_eq_false d, decide_eq_false (fun q => d q.symm)]
    cases s.testBit i <;> rfl
theorem rest_I {A s : Nat} (hA : A < 1024) (hs : s < 1024) : nI A &&& (nI s ^^^ (-1)) = nI (A &&& (s ^^^ 1023)) := by
  have hlt : A &&& (s ^^^ 1023) < 2 ^ 10 := Nat.and_lt_two_pow _ (Nat.xor_lt_two_pow hs (by omega))
  refine b_ext (fun i hi => ?_)
  rw [b_and, bt_not _ hi, bt_nI (by omega), bt_nI (by omega), bt_nI (by omega), Nat.testBit_and, Nat.testBit_xor]
  by_cases c : i < 10
  · have t1023 : ∀ i, i < 10 → (1023 : Nat).testBit i = true := by decide
    rw [t1023 i c]
    cases A.testBit i <;> cases s.testBit i <;> rfl
  · rw [tb_big hA (by omega)]
    rfl
theorem any_lb {x : Nat} (hx : x < 1024) (h0 : x ≠ 0) (F : Nat → Bool) : (List.range 10).any (fun i => x.testBit i && F i) = (F (lb x) || (List.range 10).any (fun i => (x ^^^ 2 ^ lb x).testBit i && F i)) := by
  have r := lb_row x hx h0
  apply bool_iff
  rw [any_iff, Bool.or_eq_true, any_iff]
  constructor
  · rintro ⟨i, hi, b⟩
    rw [Bool.and_eq_true] at b
    by_cases c : lb x = i
    · left
      rw [c]
      exact b.2
    · right
      refine ⟨i, hi, ?_⟩
      rw [Bool.and_eq_true, xb, b.1, decide_eq_false c]
      exact ⟨rfl, b.2⟩
  · rintro (b | ⟨i, hi, b⟩)
    · exact ⟨lb x, r.1, by rw [Bool.and_eq_true]; exact ⟨r.2.1, b⟩⟩
    · rw [Bool.and_eq_true] at b
      exact ⟨i, hi, by rw [Bool.and_eq_true]; exact ⟨sb_iff.mp (sb_xor r.2.1).1 i b.1, b.2⟩⟩
theorem any_0 (F : Nat → Bool) : (List.range 10).any (fun i => (0 : Nat).testBit i && F i) = false := by
  rw [Bool.eq_false_iff]
  intro e
  rw [any_iff] at e
  obtain ⟨i, -, b⟩ := e
  rw [Nat.zero_testBit, Bool.false_and] at b
  exact absurd b (by decide)
theorem il_go (K : Int32 → Int32 → g_M → Option g_M) {s : Nat} (hs : s < 1024) (g : Nat → Bool) (M : g_M) (h45 : ∀ i, s.testBit i = true → M.1 45 (s ^^^ 2 ^ i) = bi (g (s ^^^ 2 ^ i))) : ∀ (n e f : Nat) (acc : Bool), e + n = 10 → n < f → g_lp3 (F_X6_findLeast_43_39_31 K) f (nI s) (bi acc) (nI e) M = K (nI s) (bi (acc || (List.range 10).any (fun i => decide (e ≤ i) && (s.testBit i && g (s ^^^ 2 ^ i))))) M := by
  intro n
  induction n with
  | zero =>
    intro e f acc he hf
    obtain ⟨f, rfl⟩ : ∃ f', f = f' + 1 := ⟨f - 1, by omega⟩
    have : e = 10 := by omega
    subst this
    rw [lp3_s, F_X6_findLeast_43_39_31, if_pos (show (10 : Int32) ≤ nI 10 by decide), any_ge10, Bool.or_false]
  | succ n ih =>
    intro e f acc he hf
    obtain ⟨f, rfl⟩ : ∃ f', f = f' + 1 := ⟨f - 1, by omega⟩
    rw [lp3_s, F_X6_findLeast_43_39_31, if_neg (show ¬ (10 : Int32) ≤ nI e from nI_ge (b := 10) (by omega) (by omega))]
    cases acc
    · rw [if_pos ((bi_0 false).mpr rfl), b_bit (nI s) (k := e) (by omega), bt_nI (n := s) (by omega), any_ge _ (e := e) (by omega)]
      cases c : s.testBit e
      · rw [if_neg Bool.false_ne_true, if_pos rfl, nI_1]
        exact ih (e + 1) f false (by omega) (by omega)
      · have le := sb_le (sb_xor c).1
        rw [if_pos rfl, if_neg (show ¬ (1 : Int32) = 0 by decide), clr_I hs (by omega) c, e_ld (by omega) (by omega), Option.bind_some, h45 e c]
        cases d : g (s ^^^ 2 ^ e)
        · rw [if_pos ((bi_0 false).mpr rfl), nI_1]
          exact ih (e + 1) f false (by omega) (by omega)
        · rw [if_neg (fun p => absurd ((bi_0 true).mp p) (by decide)), nI_1]
          exact ih (e + 1) f true (by omega) (by omega)
    · rw [if_neg (fun p => absurd ((bi_0 true).mp p) (by decide)), Bool.true_or]
theorem im_go (K : Int32 → Int32 → g_M → Option g_M) {o s A : Nat} (hs : s < 1024) (hA : A < 1024) (g : Nat → Bool) (M : g_M) (hM : M.1 o 1 = nI A) (h45 : ∀ i, (A &&& (s ^^^ 1023)).testBit i = true → M.1 45 (s ||| 2 ^ i) = bi (g (s ||| 2 ^ i))) : ∀ (n e f : Nat) (acc : Bool), e + n = 10 → n < f → g_lp3 (Gm30 o K) f (nI s) (bi acc) (nI e) M = K (nI s) (bi (acc || (List.range 10).any (fun i => decide (e ≤ i) && ((A &&& (s ^^^ 1023)).testBit i && g (s ||| 2 ^ i))))) M := by
  intro n
  induction n with
  | zero =>
    intro e f acc he hf
    obtain ⟨f, rfl⟩ : ∃ f', f = f' + 1 := ⟨f - 1, by omega⟩
    have : e = 10 := by omega
    subst this
    rw [lp3_s, Gm30, if_pos (show (10 : Int32) ≤ nI 10 by decide), any_ge10, Bool.or_false]
  | succ n ih =>
    intro e f acc he hf
    obtain ⟨f, rfl⟩ : ∃ f', f = f' + 1 := ⟨f - 1, by omega⟩
    have hR : A &&& (s ^^^ 1023) < 1024 := Nat.lt_of_le_of_lt Nat.and_le_left hA
    rw [lp3_s, Gm30, if_neg (show ¬ (10 : Int32) ≤ nI e from nI_ge (b := 10) (by omega) (by omega))]
    cases acc
    · rw [if_pos ((bi_0 false).mpr rfl), hM, rest_I hA hs, any_ge _ (e := e) (by omega)]
      have q := b_and1 (nI (A &&& (s ^^^ 1023))) (k := e) (by omega)
      rw [bt_nI (n := A &&& (s ^^^ 1023)) (by omega)] at q
      cases c : (A &&& (s ^^^ 1023)).testBit e
      · rw [if_pos (q.mpr c), nI_1]
        exact ih (e + 1) f false (by omega) (by omega)
      · have lt : s ||| 2 ^ e < 2 ^ 10 := Nat.or_lt_two_pow hs (Nat.pow_lt_pow_right (by omega) (by omega))
        rw [if_neg (fun z => absurd ((q.mp z).symm.trans c) (by decide)), pw_shl e (by omega), nx_or, e_ld (by omega) (by omega), Option.bind_some, h45 e c]
        cases d : g (s ||| 2 ^ e)
        · rw [if_pos ((bi_0 false).mpr rfl), nI_1]
          exact ih (e + 1) f false (by omega) (by omega)
        · rw [if_neg (fun p => absurd ((bi_0 true).mp p) (by decide)), nI_1]
          exact ih (e + 1) f true (by omega) (by omega)
    · rw [if_neg (fun p => absurd ((bi_0 true).mp p) (by decide)), Bool.true_or]
/-- a list as the class keeps it -/
def LX (M : g_M) (L : List Nat) : Prop := M.1 43 1 = nI L.length ∧ ∀ i, i < L.length → M.1 44 i = nI (L.getD i 0)
theorem LX.add {M : g_M} {L : List Nat} (h : LX M L) (hl : L.length < 252) (s : Nat) : ∃ M' : g_M, f_X6_add (nI s) M = some M' ∧ g_fr [44] [(43, 1)] M M' ∧ LX M' (L ++ [s]) := by
  refine ⟨g_u (g_u M 44 L.length (nI s)) 43 1 (nI (L.length + 1)), ?_, (g_fr.rfl.uS (by decide)).uT (by decide), ?_, fun i hi => ?_⟩
  · unfold f_X6_add
    rw [h.1, if_neg (show ¬ (252 : Int32) ≤ nI L.length from nI_ge (b := 252) hl (by omega)), e_st hl (by omega), Option.bind_some, Option.bind_some, show (g_u M 44 L.length (nI s)).1 43 1 = nI L.length from h.1, nI_1]
  · rw [List.length_append]
    rfl
  · show upd (M.1 44) L.length (nI s) i = _
    rw [List.length_append] at hi
    by_cases c : i = L.length
    · subst c
      rw [upd_eq, List.getD_eq_getElem?_getD, List.getElem?_append_right (Nat.le_refl _), Nat.sub_self]
      rfl
    · have hi2 : i < L.length := by
        have : ([s] : List Nat).length = 1 := rfl
        omega
      rw [upd_ne c, h.2 i hi2, List.getD_eq_getElem?_getD, List.getD_eq_getElem?_getD, List.getElem?_append_left hi2]
theorem LX.keep {M M' : g_M} {L : List Nat} (h : LX M L) (fr : g_fr [45] [] M M') : LX M' L := ⟨(fr.at (by decide) (by simp)).trans h.1, fun i hi => (fr.at (by decide) (by simp)).trans (h.2 i hi)⟩
theorem e89 {k : Int32 → g_M → Option g_M} {s : Nat} (hs : s < 1024) {M : g_M} (a v : Bool) : f_X6_findLeast_43_39_102 k (nI s) (bi a) (bi v) (nI s) M = if v = true then (if a = true then k (nI (s + 1)) (g_u M 45 s (bi v)) else (f_X6_add (nI s) (g_u M 45 s (bi v))).bind fun p6 => k (nI (s + 1)) p6) else k (nI (s + 1)) (g_u M 45 s (bi v)) := by
  unfold f_X6_findLeast_43_39_102
  rw [bi_bz, Option.bind_some, e_st hs (by omega), Option.bind_some, e_ld hs (by omega), Option.bind_some, show (g_u M 45 s (bi v)).1 45 s = bi v from upd_eq, nI_1]
  cases v
  · rw [if_pos ((bi_0 false).mpr rfl), if_neg (by decide)]
  · rw [if_neg (fun p => absurd ((bi_0 true).mp p) (by decide)), if_pos rfl]
    cases a
    · rw [if_pos ((bi_0 false).mpr rfl), if_neg (by decide)]
    · rw [if_neg (fun p => absurd ((bi_0 true).mp p) (by decide)), if_pos rfl]
theorem e95 {k : Int32 → g_M → Option g_M} {s : Nat} (hs : s < 1024) {M : g_M} (a v : Bool) : f_X6_findMost_43_39_106 k (nI s) (bi a) (bi v) (nI s) M = if v = true then (if a = true then k (nI s + (-1)) (g_u M 45 s (bi v)) else (f_X6_add (nI s) (g_u M 45 s (bi v))).bind fun p6 => k (nI s + (-1)) p6) else k (nI s + (-1)) (g_u M 45 s (bi v)) := by
  unfold f_X6_findMost_43_39_106
  rw [bi_bz, Option.bind_some, e_st hs (by omega), Option.bind_some, e_ld hs (by omega), Option.bind_some, show (g_u M 45 s (bi v)).1 45 s = bi v from upd_eq]
  cases v
  · rw [if_pos ((bi_0 false).mpr rfl), if_neg (by decide)]
  · rw [if_neg (fun p => absurd ((bi_0 true).mp p) (by decide)), if_pos rfl]
    cases a
    · rw [if_pos ((bi_0 false).mpr rfl), if_neg (by decide)]
    · rw [if_neg (fun p => absurd ((bi_0 true).mp p) (by decide)), if_pos rfl]
/-- the family as a row of the class -/
def FC (M : g_M) (o c A : Nat) (p : Nat → Bool) : Prop := M.1 o 1 = nI A ∧ ∀ q, q ≤ A → M.1 c q = bi (sb q A && p q)
theorem FC.keep {M M' : g_M} {o c A : Nat} {p : Nat → Bool} (h : FC M o c A p) (ho : o ≠ 43 ∧ o ≠ 44 ∧ o ≠ 45) (hc : c ≠ 43 ∧ c ≠ 44 ∧ c ≠ 45) (fr : g_fr [44, 45] [(43, 1)] M M') : FC M' o c A p := ⟨(fr.at (by simp; omega) (by simp; omega)).trans h.1, fun q hq => (fr.at (by simp; omega) (by simp; omega)).trans (h.2 q hq)⟩
theorem gl_go {o c A : Nat} {p : Nat → Bool} (hA : A < 1024) (ho : o ≠ 43 ∧ o ≠ 44 ∧ o ≠ 45) (hc : c ≠ 43 ∧ c ≠ 44 ∧ c ≠ 45) : ∀ (k f s : Nat) (M : g_M), s + k = A + 1 → k < f → FC M o c A p → (∀ q, q < s → sb q A = true → M.1 45 q = bi (nr p q)) → LX M (lst (mn p) A s) → ∃ M' : g_M, g_lp1 (Gl7 o c (fun (M : g_M) => some M)) f (nI s) M = some M' ∧ g_fr [44, 45] [(43, 1)] M M' ∧ LX M' (lst (mn p) A (A + 1))
  | 0, f, s, M, hs, hf, hF, hN, hL => by
    obtain ⟨f, rfl⟩ : ∃ f', f = f' + 1 := ⟨f - 1, by omega⟩
    have : s = A + 1 := by omega
    subst this
    refine ⟨M, ?_, g_fr.rfl, hL⟩
    rw [lp1_s, Gl7, hF.1, if_pos (nI_lt (by omega) (by omega))]
  | k + 1, f, s, M, hs, hf, hF, hN, hL => by
    obtain ⟨f, rfl⟩ : ∃ f', f = f' + 1 := ⟨f - 1, by omega⟩
    have next : ∀ (M2 : g_M), g_fr [44, 45] [(43, 1)] M M2 → (∀ q, q < s + 1 → sb q A = true → M2.1 45 q = bi (nr p q)) → LX M2 (lst (mn p) A (s + 1)) → g_lp1 (Gl7 o c (fun (M : g_M) => some M)) (f + 1) (nI s) M = g_lp1 (Gl7 o c (fun (M : g_M) => some M)) f (nI (s + 1)) M2 → ∃ M' : g_M, g_lp1 (Gl7 o c (fun (M : g_M) => some M)) (f + 1) (nI s) M = some M' ∧ g_fr [44, 45] [(43, 1)] M M' ∧ LX M' (lst (mn p) A (A + 1)) := by
      intro M2 q1 q2 q3 q4
      obtain ⟨M', m1, m2, m3⟩ := gl_go hA ho hc k f (s + 1) M2 (by omega) (by omega) (hF.keep ho hc q1) q2 q3
      exact ⟨M', by rw [q4]; exact m1, q1.trans m2, m3⟩
    by_cases cs : sb s A = true
    · have hs2 : s < 1024 := by omega
      have inner := il_go (fun (x2 : Int32) (x3 : Int32) (M : g_M) => Gl66 c (g_lp1 (Gl7 o c (fun (M : g_M) => some M)) f) x2 x3 M) hs2 (nr p) M (fun i hi => by
        have x := sb_xor hi
        exact hN _ (sb_lt x.1 x.2) (sb_trans x.1 cs)) 10 0 20000000 false (by omega) (by omega)
      rw [any_ge0, pn_step hs2, Bool.false_or] at inner
      have go : g_lp1 (Gl7 o c (fun (M : g_M) => some M)) (f + 1) (nI s) M = Gl66 c (g_lp1 (Gl7 o c (fun (M : g_M) => some M)) f) (nI s) (bi (pn p s)) M := by
        rw [lp1_s, Gl7, hF.1, if_neg (nI_nlt (by omega) (by omega)), if_pos ((sb_I hs2 hA).mpr cs)]
        exact inner
      have w45 : ∀ (v : Bool), v = nr p s → ∀ q, q < s + 1 → sb q A = true → (g_u M 45 s (bi v)).1 45 q = bi (nr p q) := fun v hv q hq hqA => by
        show upd (M.1 45) s (bi v) q = _
        by_cases e : q = s
        · subst e
          rw [upd_eq, hv]
        · rw [upd_ne e]
          exact hN q (by omega) hqA
      have fr1 : ∀ v, g_fr [45] [] M (g_u M 45 s v) := fun v => g_fr.rfl.uS (by decide)
      have fr2 : ∀ v, g_fr [44, 45] [(43, 1)] M (g_u M 45 s v) := fun v => (fr1 v).mono (by decide) (by simp)
      have nre := nr_eq (p := p) hs2
      have hld : g_ld M c 1024 (nI s) = some (bi (p s)) := by
        rw [e_ld hs2 (by omega), hF.2 s (by omega), cs, Bool.true_and]
      cases cp : pn p s
      · rw [cp, Gl66, if_pos ((bi_0 false).mpr rfl), hld, Option.bind_some] at go
        rw [cp, Bool.false_or] at nre
        cases ps : p s
        · rw [ps, if_pos ((bi_0 false).mpr rfl), show (0 : Int32) = bi false from rfl, e89 hs2 false false, if_neg (by decide)] at go
          refine next _ (fr2 _) (w45 false (by rw [nre, ps])) ?_ go
          rw [lst_s, if_neg, List.append_nil]
          · exact hL.keep (fr1 _)
          · unfold mn
            rw [ps]
            simp
        · rw [ps, if_neg (fun q => absurd ((bi_0 true).mp q) (by decide)), show (1 : Int32) = bi true from rfl, e89 hs2 false true, if_pos rfl, if_neg (by decide)] at go
          have m1 : (sb s A && mn p s) = true := by
            unfold mn
            rw [cs, ps, cp]
            rfl
          have hl := mn_252 p (A := A) (k := s + 1) (by omega)
          rw [lst_s, if_pos m1, List.length_append] at hl
          obtain ⟨M2, a1, a2, a3⟩ := (hL.keep (fr1 (bi true))).add (by simp at hl; omega) s
          rw [a1, Option.bind_some] at go
          refine next M2 ((fr2 _).trans (a2.mono (by decide) (by decide))) (fun q hq hqA => ?_) ?_ go
          · rw [a2.at (by decide) (by simp)]
            exact w45 true (by rw [nre, ps]) q hq hqA
          · rw [lst_s, if_pos m1]
            exact a3
      · rw [cp, Gl66, if_neg (fun q => absurd ((bi_0 true).mp q) (by decide)), show (1 : Int32) = bi true from rfl, e89 hs2 true true, if_pos rfl, if_pos rfl] at go
        rw [cp, Bool.true_or] at nre
        refine next _ (fr2 _) (w45 true nre.symm) ?_ go
        rw [lst_s, if_neg, List.append_nil]
        · exact hL.keep (fr1 _)
        · unfold mn
          rw [cp]
          simp
    · refine next M g_fr.rfl (fun q hq hqA => ?_) ?_ ?_
      · by_cases e : q = s
        · subst e
          exact absurd hqA cs
        · exact hN q (by omega) hqA
      · rw [lst_s, if_neg (by rw [Bool.and_eq_true]; exact fun q => cs q.1), List.append_nil]
        exact hL
      · rw [lp1_s, Gl7, hF.1, if_neg (nI_nlt (by omega) (by omega)), if_neg (fun q => cs ((sb_I (by omega) hA).mp q)), nI_1]
