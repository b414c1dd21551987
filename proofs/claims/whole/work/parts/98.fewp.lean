section FEWP
variable {M : g_M}
theorem sM_b {few A : Nat} : ∀ e, (sM few A e).2 ≤ e ∧ (sM few A e).1 < 2 ^ e
  | 0 => ⟨Nat.le_refl _, show (0 : Nat) < 1 by omega⟩
  | e + 1 => by
    have ih := sM_b (few := few) (A := A) e
    have p1 : 2 ^ e < 2 ^ (e + 1) := Nat.pow_lt_pow_right (by omega) (by omega)
    unfold sM
    split
    · refine ⟨by show (sM few A e).2 + 1 ≤ e + 1; omega, ?_⟩
      show (sM few A e).1 ||| _ < 2 ^ (e + 1)
      refine Nat.or_lt_two_pow (by omega) ?_
      split
      · exact p1
      · exact Nat.two_pow_pos _
    · exact ⟨by omega, by omega⟩
theorem spm_go {few A : Nat} (hf : few < 2 ^ 16) (hA : A < 1024) : ∀ (k f e : Nat), e + k = 10 → k < f → g_lq5 (F_X12_spread_7 M (fun (x2 : Int32) => some x2)) f (nI few) (nI A) (nI (sM few A e).1) (nI (sM few A e).2) (nI e) = some (nI (sp few A))
  | 0, f, e, he, hk => by
    obtain ⟨f, rfl⟩ : ∃ f', f = f' + 1 := ⟨f - 1, by omega⟩
    have : e = 10 := by omega
    subst this
    rw [lq5_s, F_X12_spread_7, if_pos (by decide)]
    rfl
  | k + 1, f, e, he, hk => by
    obtain ⟨f, rfl⟩ : ∃ f', f = f' + 1 := ⟨f - 1, by omega⟩
    have ih := spm_go hf hA k f (e + 1) (by omega) (by omega)
    have b := sM_b (few := few) (A := A) e
    rw [lq5_s, F_X12_spread_7, if_neg (show ¬ (10 : Int32) ≤ nI e from nI_ge (b := 10) (by omega) (by omega)), b_bit _ (by omega), b_bit _ (by omega), bt_nI (by omega), bt_nI (by omega), Option.bind_some, nI_1, nI_1]
    have st : sM few A (e + 1) = if A.testBit e = true then ((sM few A e).1 ||| (if few.testBit (sM few A e).2 = true then 2 ^ e else 0), (sM few A e).2 + 1) else sM few A e := rfl
    cases ca : A.testBit e
    · rw [if_neg (show ¬ (if false = true then (1 : Int32) else 0) = 1 by decide)]
      rw [st, ca, if_neg (by decide)] at ih
      exact ih
    · rw [if_pos (show (if true = true then (1 : Int32) else 0) = 1 by decide)]
      rw [st, ca, if_pos rfl] at ih
      dsimp only at ih
      cases cf : few.testBit (sM few A e).2
      · rw [cf, if_neg (by decide), Nat.or_zero] at ih
        rw [if_neg (by decide), shl_0 (by omega), Int32.or_zero]
        exact ih
      · rw [cf, if_pos rfl] at ih
        rw [if_pos rfl, pw_shl e (by omega), nx_or]
        exact ih
theorem spm_eq {few A : Nat} (hf : few < 2 ^ 16) (hA : A < 1024) : f_X12_spread (nI few) (nI A) M = some (nI (sp few A)) := spm_go hf hA 10 20000000 0 (by omega) (by omega)
theorem spc_go {few A : Nat} (hM : M.1 39 1 = nI A) (hf : few < 2 ^ 16) (hA : A < 1024) (K : Int32 → Int32 → Int32 → Option Int32) (x1 x2 : Int32) : ∀ (k f e : Nat), e + k = 10 → k < f → g_lq5 (F_X1_truth_18 M K) f x1 x2 (nI (sM few A e).1) (nI (few / 2 ^ (sM few A e).2)) (nI e) = K x1 x2 (nI (sp few A))
  | 0, f, e, he, hk => by
    obtain ⟨f, rfl⟩ : ∃ f', f = f' + 1 := ⟨f - 1, by omega⟩
    have : e = 10 := by omega
    subst this
    rw [lq5_s, F_X1_truth_18, if_pos (show (10 : Int32) ≤ nI 10 by decide)]
    rfl
  | k + 1, f, e, he, hk => by
    obtain ⟨f, rfl⟩ : ∃ f', f = f' + 1 := ⟨f - 1, by omega⟩
    have ih := spc_go hM hf hA K x1 x2 k f (e + 1) (by omega) (by omega)
    have lf : few / 2 ^ (sM few A e).2 ≤ few := Nat.div_le_self _ _
    rw [lq5_s, F_X1_truth_18, if_neg (show ¬ (10 : Int32) ≤ nI e from nI_ge (b := 10) (by omega) (by omega)), hM, b_bit (nI A) (k := e) (by omega), bt_nI (n := A) (by omega), Option.bind_some, nI_1, pk_andN (n := few / 2 ^ (sM few A e).2) (by omega) 1 (by decide), pk_shrN (n := few / 2 ^ (sM few A e).2) (by omega) (1 &&& 31) 1 (by decide)]
    have st : sM few A (e + 1) = if A.testBit e = true then ((sM few A e).1 ||| (if few.testBit (sM few A e).2 = true then 2 ^ e else 0), (sM few A e).2 + 1) else sM few A e := rfl
    cases ca : A.testBit e
    · rw [if_pos (show (if false = true then (1 : Int32) else 0) = 0 by decide)]
      rw [st, ca, if_neg (by decide)] at ih
      exact ih
    · rw [if_neg (show ¬ (if true = true then (1 : Int32) else 0) = 0 by decide)]
      rw [st, ca, if_pos rfl] at ih
      dsimp only at ih
      rw [Nat.div_div_eq_div_mul, ← Nat.pow_add]
      have tb : few.testBit (sM few A e).2 = decide (few / 2 ^ (sM few A e).2 % 2 = 1) := Nat.testBit_eq_decide_div_mod_eq
      cases cf : few.testBit (sM few A e).2
      · rw [cf, if_neg (by decide), Nat.or_zero] at ih
        rw [cf] at tb
        have t0 : few / 2 ^ (sM few A e).2 % 2 ^ 1 = 0 := by
          have := of_decide_eq_false tb.symm
          omega
        rw [t0, show nI 0 = (0 : Int32) from rfl, shl_0 (by omega), Int32.or_zero]
        exact ih
      · rw [cf, if_pos rfl] at ih
        rw [cf] at tb
        have t1 : few / 2 ^ (sM few A e).2 % 2 ^ 1 = 1 := by
          have := of_decide_eq_true tb.symm
          omega
        rw [t1, show nI 1 = (1 : Int32) from rfl, pw_shl e (by omega), nx_or]
        exact ih
/-- a table of what holds, by numbers -/
def dF (p : Nat → Bool) (A : Nat) : Nat → Nat
  | 0 => 0
  | j + 1 => dF p A j ||| (if p (sp j A) = true then 2 ^ j else 0)
theorem dF_b {p : Nat → Bool} {A : Nat} : ∀ j, dF p A j < 2 ^ j ∧ ∀ i, (dF p A j).testBit i = (decide (i < j) && p (sp i A))
  | 0 => ⟨show (0 : Nat) < 1 by omega, fun i => by rw [show dF p A 0 = 0 from rfl, Nat.zero_testBit, decide_eq_false (by omega), Bool.false_and]⟩
  | j + 1 => by
    have ih := dF_b (p := p) (A := A) j
    have p1 : 2 ^ j < 2 ^ (j + 1) := Nat.pow_lt_pow_right (by omega) (by omega)
    have st : dF p A (j + 1) = dF p A j ||| (if p (sp j A) = true then 2 ^ j else 0) := rfl
    rw [st]
    refine ⟨Nat.or_lt_two_pow (by omega) ?_, fun i => ?_⟩
    · split
      · exact p1
      · exact Nat.two_pow_pos _
    · rw [Nat.testBit_or, ih.2 i]
      by_cases c : i = j
      · subst c
        rw [decide_eq_false (by omega), Bool.false_and, Bool.false_or, decide_eq_true (by omega), Bool.true_and]
        cases q : p (sp i A)
        · rw [if_neg (by decide), Nat.zero_testBit]
        · rw [if_pos rfl, Nat.testBit_two_pow_self]
      · have : (if p (sp j A) = true then 2 ^ j else 0 : Nat).testBit i = false := by
          split
          · rw [Nat.testBit_two_pow, decide_eq_false (fun z => c z.symm)]
          · exact Nat.zero_testBit i
        rw [this, Bool.or_false]
        congr 1
        exact decide_eq_decide.mpr (by omega)
theorem tru_go {A : Nat} {p : Nat → Bool} (hF : FC M 39 40 A p) (hA : A < 1024) (h4 : pt A 24 ≤ 4) : ∀ (k f j : Nat), j + k = 16 → k < f → g_lq2 (F_X1_truth_4 M (fun (x1 : Int32) => some x1)) f (nI (dF p A j)) (nI j) = some (nI (dF p A 16))
  | 0, f, j, hj, hf => by
    obtain ⟨f, rfl⟩ : ∃ f', f = f' + 1 := ⟨f - 1, by omega⟩
    have : j = 16 := by omega
    subst this
    rw [lq2_s, F_X1_truth_4, if_pos (by decide)]
  | k + 1, f, j, hj, hf => by
    obtain ⟨f, rfl⟩ : ∃ f', f = f' + 1 := ⟨f - 1, by omega⟩
    have ih := tru_go hF hA h4 k f (j + 1) (by omega) (by omega)
    have fact := allN_1 sp_all A hA
    rw [Bool.or_eq_true, decide_eq_true_eq] at fact
    have fj := allN_1 (fact.resolve_left (by omega)) j (by omega)
    rw [Bool.and_eq_true, Bool.and_eq_true, beq_iff_eq, beq_iff_eq] at fj
    have sl := sb_le fj.1.2
    have inner := spc_go (M := M) (few := j) hF.1 (by omega) hA (fun (x1 : Int32) (x2 : Int32) (x3 : Int32) => (g_ld M 40 1024 x3).bind fun v2 => (if v2 = 0 then (g_lq2 (F_X1_truth_4 M (fun (x1 : Int32) => some x1)) f x1 (x2 + 1)) else ((some (x1 ||| ((1 : Int32) <<< (x2 &&& 31)))).bind fun y3 => g_lq2 (F_X1_truth_4 M (fun (x1 : Int32) => some x1)) f y3 (x2 + 1)))) (nI (dF p A j)) (nI j) 10 20000000 0 (by omega) (by omega)
    rw [lq2_s, F_X1_truth_4, if_neg (show ¬ (16 : Int32) ≤ nI j from nI_ge (b := 16) (by omega) (by omega))]
    have j0 : j / 2 ^ (sM j A 0).2 = j := by
      show j / 2 ^ 0 = j
      rw [Nat.pow_zero, Nat.div_one]
    rw [j0] at inner
    refine Eq.trans inner ?_
    rw [e_ld (by omega) (by omega), Option.bind_some, hF.2 _ sl, fj.1.2, Bool.true_and, Option.bind_some, nI_1, pw_shl j (by omega), nx_or]
    have st : dF p A (j + 1) = dF p A j ||| (if p (sp j A) = true then 2 ^ j else 0) := rfl
    rw [st] at ih
    cases q : p (sp j A)
    · rw [q, if_neg (by decide), Nat.or_zero] at ih
      rw [if_pos ((bi_0 false).mpr rfl)]
      exact ih
    · rw [q, if_pos rfl] at ih
      rw [if_neg (fun z => absurd ((bi_0 true).mp z) (by decide))]
      exact ih
theorem tru_eq {A : Nat} {p : Nat → Bool} (hF : FC M 39 40 A p) (hA : A < 1024) (h4 : pt A 24 ≤ 4) : f_X1_truth M = some (nI (dF p A 16)) := tru_go hF hA h4 16 20000000 0 (by omega) (by omega)
theorem due_go {A N : Nat} {p : Nat → Bool} (hF : FM M A p) (hA : A < 1024) (h4 : pt A 24 ≤ 4) (hN : N ≤ 16) (K : Int32 → Int32 → Int32 → g_M → Option (Int32 × g_M)) (x2 : Int32) : ∀ (k f j : Nat), j + k = N → k < f → g_lp5 (F_X12_fewest_68 K) f (nI A) x2 (nI N) (nI (dF p A j)) (nI j) M = K x2 (nI N) (nI (dF p A N)) M
  | 0, f, j, hj, hf => by
    obtain ⟨f, rfl⟩ : ∃ f', f = f' + 1 := ⟨f - 1, by omega⟩
    have : j = N := by omega
    subst this
    rw [lp5_s, F_X12_fewest_68, if_pos (nI_le (Nat.le_refl _) (by omega))]
  | k + 1, f, j, hj, hf => by
    obtain ⟨f, rfl⟩ : ∃ f', f = f' + 1 := ⟨f - 1, by omega⟩
    have ih := due_go hF hA h4 hN K x2 k f (j + 1) (by omega) (by omega)
    have fact := allN_1 sp_all A hA
    rw [Bool.or_eq_true, decide_eq_true_eq] at fact
    have fj := allN_1 (fact.resolve_left (by omega)) j (by omega)
    rw [Bool.and_eq_true, Bool.and_eq_true, beq_iff_eq, beq_iff_eq] at fj
    have sl := sb_le fj.1.2
    rw [lp5_s, F_X12_fewest_68, if_neg (nI_ge (by omega) (by omega)), spm_eq (by omega) hA, Option.bind_some, e_ld (by omega) (by omega), Option.bind_some, hF _ (by omega), fj.1.2, Bool.true_and, Option.bind_some, nI_1, pw_shl j (by omega), nx_or, Int32.or_zero]
    have st : dF p A (j + 1) = dF p A j ||| (if p (sp j A) = true then 2 ^ j else 0) := rfl
    rw [st] at ih
    cases q : p (sp j A)
    · rw [q, if_neg (by decide), Nat.or_zero] at ih
      rw [if_pos ((bi_0 false).mpr rfl)]
      exact ih
    · rw [q, if_pos rfl] at ih
      rw [if_neg (fun z => absurd ((bi_0 true).mp z) (by decide))]
      exact ih
/-- the class's table is the model's, as one of four -/
theorem ext_eq {A : Nat} {p : Nat → Bool} (hA : A < 1024) (h4 : pt A 24 ≤ 4) : ∀ j, j ≤ 16 → ext (pt A 24) (dF p A (2 ^ pt A 24)) j = dF p A j
  | 0, _ => rfl
  | j + 1, hj => by
    have ih := ext_eq (p := p) hA h4 j (by omega)
    have fact := allN_1 sp_all A hA
    rw [Bool.or_eq_true, decide_eq_true_eq] at fact
    have fj := allN_1 (fact.resolve_left (by omega)) j (by omega)
    rw [Bool.and_eq_true, Bool.and_eq_true, beq_iff_eq, beq_iff_eq] at fj
    show ext (pt A 24) (dF p A (2 ^ pt A 24)) j ||| (if (dF p A (2 ^ pt A 24)).testBit (j % 2 ^ pt A 24) = true then 2 ^ j else 0) = dF p A j ||| (if p (sp j A) = true then 2 ^ j else 0)
    rw [ih, (dF_b _).2, decide_eq_true (Nat.mod_lt _ (Nat.two_pow_pos _)), Bool.true_and, ← fj.2]
/-- it rises, where nobody makes a set fall -/
theorem mono_eq {A : Nat} {p : Nat → Bool} (hA : A < 1024) (h4 : pt A 24 ≤ 4) (nf : ffn (fal p A) (A + 1) 0 = none) : ∀ f, f < 2 ^ pt A 24 → (dF p A (2 ^ pt A 24)).testBit f = true → ∀ k, k < pt A 24 → (dF p A (2 ^ pt A 24)).testBit (f ||| 2 ^ k) = true := fun f hf hb k hk => by
  have fact := allN_1 sp_all A hA
  rw [Bool.or_eq_true, decide_eq_true_eq] at fact
  have p16 : 2 ^ pt A 24 ≤ 2 ^ 4 := Nat.pow_le_pow_right (by omega) h4
  have ff := allN_1 (fact.resolve_left (by omega)) f (by omega)
  rw [Bool.and_eq_true, Bool.and_eq_true] at ff
  have fact2 := allN_1 sp_up A hA
  rw [Bool.or_eq_true, decide_eq_true_eq] at fact2
  have fk := allN_1 (allN_1 (fact2.resolve_left (by omega)) f hf) k hk
  obtain ⟨e, he, hee⟩ := any_iff.mp fk
  rw [Bool.and_eq_true, beq_iff_eq] at hee
  rw [(dF_b _).2, decide_eq_true hf, Bool.true_and] at hb
  have lt : f ||| 2 ^ k < 2 ^ pt A 24 := Nat.or_lt_two_pow hf (Nat.pow_lt_pow_right (by omega) hk)
  rw [(dF_b _).2, decide_eq_true lt, Bool.true_and, hee.2]
  by_cases c : (sp f A).testBit e = true
  · have : sp f A ||| 2 ^ e = sp f A := Nat.eq_of_testBit_eq (fun i => by
      rw [ob]
      by_cases z : e = i
      · subst z
        rw [c, Bool.true_or]
      · rw [decide_eq_false z, Bool.or_false])
    rw [this]
    exact hb
  · have sl := sb_le ff.1.2
    have nofal := ffn_no nf (sp f A) (by omega) (by omega)
    unfold fal at nofal
    rw [ff.1.2, hb, Bool.true_and, Bool.true_and] at nofal
    have ln : lo p A (sp f A) = none := by
      cases q : lo p A (sp f A) with
      | none => rfl
      | some z => rw [q] at nofal; exact Bool.noConfusion nofal
    have := ffn_no ln e (by omega) (by omega)
    rw [rest_tb he, hee.1, Bool.eq_false_iff.mpr c, Bool.not_false, Bool.true_and, Bool.true_and, Bool.not_eq_false'] at this
    exact this
end FEWP
