/-! ===== what the model finds ===== -/
def FM (M : g_M) (A : Nat) (p : Nat → Bool) : Prop := ∀ q, q < 1024 → M.1 64 q = bi (sb q A && p q)
section FIND
variable {M : g_M} {A : Nat} {p : Nat → Bool}
/-- none of the submasks up to q is in -/
def aF (p : Nat → Bool) (s q : Nat) : Bool := !(List.range 1024).any (fun r => sb r s && decide (r ≤ q) && p r)
theorem aF_1 {s q : Nat} (hq : q < 1024) : aF p s q = true ↔ ∀ r, sb r s = true → r ≤ q → p r = false := by
  unfold aF
  rw [Bool.not_eq_true', Bool.eq_false_iff, ne_eq, any_iff]
  constructor
  · intro no r h1 h2
    cases e : p r
    · rfl
    · exact absurd ⟨r, by omega, by rw [h1, decide_eq_true h2, e]; rfl⟩ no
  · rintro a ⟨r, h1, h2⟩
    rw [Bool.and_eq_true, Bool.and_eq_true] at h2
    rw [a r h2.1.1 (of_decide_eq_true h2.1.2)] at h2
    exact absurd h2.2 (by decide)
theorem aF_s {s q : Nat} (hq : q < 1024) (h0 : q ≠ 0) (hs : sb q s = true) : aF p s q = (!p q && aF p s ((q - 1) &&& s)) := by
  have le : (q - 1) &&& s ≤ q - 1 := Nat.and_le_left
  apply bool_iff
  rw [aF_1 hq, Bool.and_eq_true, aF_1 (by omega)]
  constructor
  · intro a
    exact ⟨by rw [a q hs (Nat.le_refl _)]; rfl, fun r h1 h2 => a r h1 (by omega)⟩
  · rintro ⟨a, b⟩ r h1 h2
    by_cases c : r = q
    · rw [c]
      simpa using a
    · exact b r h1 (sb_pred 10 s q r hq hs h1 (by omega))
theorem pred_I {s q : Nat} (h0 : q ≠ 0) : (nI q - 1) &&& nI s = nI ((q - 1) &&& s) := by
  obtain ⟨q, rfl⟩ : ∃ q', q = q' + 1 := ⟨q - 1, by omega⟩
  rw [nI_pred, nx_and]
  rfl
theorem isl_go (hF : FM M A p) {s : Nat} (hs : s < 1024) (hA : sb s A = true) : ∀ (n q f : Nat), q ≤ n → n + 1 < f → sb q s = true → q ≠ s → g_lq3 (F_X12_isLeast_13 M (fun (x2 : Int32) => (g_bz x2).bind fun z3 => some z3) (fun (x2 : Int32) => (g_bz x2).bind fun z4 => some z4)) f (nI s) (bi true) (nI q) = some (bi (aF p s q)) := by
  intro n
  induction n with
  | zero =>
    intro q f hq hf hsb ne
    obtain ⟨f, rfl⟩ : ∃ f', f = f' + 1 := ⟨f - 1, by omega⟩
    have : q = 0 := by omega
    subst this
    have e : aF p s 0 = !p 0 := by
      apply bool_iff
      rw [aF_1 (by omega)]
      constructor
      · intro a
        rw [a 0 hsb (Nat.le_refl _)]
        rfl
      · intro a r _ h2
        have : r = 0 := by omega
        rw [this]
        simpa using a
    rw [lq3_s, F_X12_isLeast_13, if_neg (fun q => absurd ((bi_0 true).mp q) (by decide)), if_neg (fun q => ne ((nI_eq (by omega) (by omega)).mp q)), e_ld (by omega) (by omega), Option.bind_some, hF 0 (by omega), sb_trans hsb hA, Bool.true_and, e]
    unfold f_X12_isLeast_36
    rw [if_pos (show nI 0 = 0 from rfl), if_pos (show nI 0 = 0 from rfl)]
    cases p 0
    · rw [if_pos ((bi_0 false).mpr rfl)]
      rfl
    · rw [if_neg (fun q => absurd ((bi_0 true).mp q) (by decide))]
      rfl
  | succ n ih =>
    intro q f hq hf hsb ne
    by_cases h0 : q = 0
    · exact ih q f (by omega) (by omega) hsb ne
    · obtain ⟨f, rfl⟩ : ∃ f', f = f' + 1 := ⟨f - 1, by omega⟩
      have hqs := sb_le hsb
      have le : (q - 1) &&& s ≤ q - 1 := Nat.and_le_left
      have sb2 : sb ((q - 1) &&& s) s = true := sb_iff.mpr (fun i hi => by
        rw [Nat.testBit_and, Bool.and_eq_true] at hi
        exact hi.2)
      rw [lq3_s, F_X12_isLeast_13, if_neg (fun q => absurd ((bi_0 true).mp q) (by decide)), if_neg (fun q => ne ((nI_eq (by omega) (by omega)).mp q)), e_ld (by omega) (by omega), Option.bind_some, hF q (by omega), sb_trans hsb hA, Bool.true_and, aF_s (by omega) h0 hsb]
      unfold f_X12_isLeast_36
      rw [if_neg (nI_ne0 (by omega) (by omega)), if_neg (nI_ne0 (by omega) (by omega)), pred_I h0]
      cases p q
      · rw [if_pos ((bi_0 false).mpr rfl), Bool.not_false, Bool.true_and]
        exact ih _ f (by omega) (by omega) sb2 (by omega)
      · rw [if_neg (fun q => absurd ((bi_0 true).mp q) (by decide)), Bool.not_true, Bool.false_and]
        obtain ⟨f, rfl⟩ : ∃ f', f = f' + 1 := ⟨f - 1, by omega⟩
        rw [lq3_s, F_X12_isLeast_13, if_pos rfl]
        rfl
theorem isl_eq (hF : FM M A p) {s : Nat} (hs : s < 1024) (hA : sb s A = true) : f_X12_isLeast (nI s) M = some (bi (mn p s)) := by
  unfold f_X12_isLeast
  rw [e_ld hs (by omega), Option.bind_some, hF s hs, hA, Bool.true_and]
  by_cases h0 : s = 0
  · subst h0
    have e : mn p 0 = p 0 := by
      unfold mn
      rw [show pn p 0 = false from Bool.eq_false_iff.mpr (fun q => by
        obtain ⟨r, r1, r2, -⟩ := (pn_iff (by omega)).mp q
        have := sb_le r1
        omega), Bool.not_false, Bool.and_true]
    rw [show (20000000 : Nat) = 19999999 + 1 from rfl, lq3_s, F_X12_isLeast_13, e]
    cases p 0
    · rw [if_pos ((bi_0 false).mpr rfl)]
      rfl
    · rw [if_neg (fun q => absurd ((bi_0 true).mp q) (by decide)), if_pos (by decide)]
      rfl
  · have le : (s - 1) &&& s ≤ s - 1 := Nat.and_le_left
    have sb2 : sb ((s - 1) &&& s) s = true := sb_iff.mpr (fun i hi => by
      rw [Nat.testBit_and, Bool.and_eq_true] at hi
      exact hi.2)
    rw [pred_I h0]
    unfold mn
    cases ps : p s
    · rw [show (20000000 : Nat) = 19999999 + 1 from rfl, lq3_s, F_X12_isLeast_13, if_pos ((bi_0 false).mpr rfl), Bool.false_and]
      rfl
    · have key : aF p s ((s - 1) &&& s) = !pn p s := by
        apply bool_iff
        rw [aF_1 (by omega), Bool.not_eq_true']
        constructor
        · intro a
          cases e : pn p s
          · rfl
          · obtain ⟨r, r1, r2, r3⟩ := (pn_iff hs).mp e
            have := sb_lt r1 r2
            rw [a r r1 (sb_pred 10 s s r hs (sb_refl s) r1 this)] at r3
            exact absurd r3 (by decide)
        · intro a r h1 h2
          cases e : p r
          · rfl
          · have := (pn_iff (p := p) hs).mpr ⟨r, h1, by omega, e⟩
            rw [this] at a
            exact absurd a (by decide)
      rw [isl_go hF hs hA s ((s - 1) &&& s) 20000000 (by omega) (by omega) sb2 (by omega), Bool.true_and, key]
/-- all that add some of R up to r are in -/
def aG (p : Nat → Bool) (s R r : Nat) : Bool := !(List.range 1024).any (fun q => sb q R && decide (q ≠ 0) && decide (q ≤ r) && !p (s ||| q))
theorem aG_1 {s R r : Nat} (hr : r < 1024) : aG p s R r = true ↔ ∀ q, sb q R = true → q ≠ 0 → q ≤ r → p (s ||| q) = true := by
  unfold aG
  rw [Bool.not_eq_true', Bool.eq_false_iff, ne_eq, any_iff]
  constructor
  · intro no q h1 h2 h3
    cases e : p (s ||| q)
    · exact absurd ⟨q, by omega, by rw [h1, decide_eq_true h2, decide_eq_true h3, e]; rfl⟩ no
    · rfl
  · rintro a ⟨q, h1, h2⟩
    rw [Bool.and_eq_true, Bool.and_eq_true, Bool.and_eq_true] at h2
    rw [a q h2.1.1.1 (of_decide_eq_true h2.1.1.2) (of_decide_eq_true h2.1.2)] at h2
    exact absurd h2.2 (by decide)
theorem aG_s {s R r : Nat} (hr : r < 1024) (h0 : r ≠ 0) (hs : sb r R = true) : aG p s R r = (p (s ||| r) && aG p s R ((r - 1) &&& R)) := by
  have le : (r - 1) &&& R ≤ r - 1 := Nat.and_le_left
  apply bool_iff
  rw [aG_1 hr, Bool.and_eq_true, aG_1 (by omega)]
  constructor
  · intro a
    exact ⟨a r hs h0 (Nat.le_refl _), fun q h1 h2 h3 => a q h1 h2 (by omega)⟩
  · rintro ⟨a, b⟩ q h1 h2 h3
    by_cases c : q = r
    · rw [c]
      exact a
    · exact b q h1 h2 (sb_pred 10 R r q hr hs h1 (by omega))
theorem ism_go (hF : FM M A p) (hA : A < 1024) {s R : Nat} (hs : sb s A = true) (hR : sb R A = true) : ∀ (n r f : Nat) (acc : Bool), r ≤ n → n < f → sb r R = true → g_lq4 (F_X12_isMost_26 M (fun (x3 : Int32) => (g_bz x3).bind fun z3 => some z3)) f (nI s) (bi acc) (nI R) (nI r) = some (bi (acc && aG p s R r)) := by
  have a0 : aG p s R 0 = true := (aG_1 (by omega)).mpr (fun q _ h2 h3 => absurd h3 (by omega))
  have fin : ∀ c : Bool, ((g_bz (bi c)).bind fun z3 => some z3) = some (bi c) := fun c => by rw [bi_bz]; rfl
  intro n
  induction n with
  | zero =>
    intro r f acc hr hf hsb
    obtain ⟨f, rfl⟩ : ∃ f', f = f' + 1 := ⟨f - 1, by omega⟩
    have : r = 0 := by omega
    subst this
    rw [lq4_s, F_X12_isMost_26, a0, Bool.and_true]
    split
    · exact fin acc
    · rw [if_pos (show nI 0 ≤ 0 by decide)]
      exact fin acc
  | succ n ih =>
    intro r f acc hr hf hsb
    obtain ⟨f, rfl⟩ : ∃ f', f = f' + 1 := ⟨f - 1, by omega⟩
    by_cases h0 : r = 0
    · subst h0
      rw [lq4_s, F_X12_isMost_26, a0, Bool.and_true]
      split
      · exact fin acc
      · rw [if_pos (show nI 0 ≤ 0 by decide)]
        exact fin acc
    · have l1 := sb_le hsb
      have l2 := sb_le hR
      have le : (r - 1) &&& R ≤ r - 1 := Nat.and_le_left
      have sb2 : sb ((r - 1) &&& R) R = true := sb_iff.mpr (fun i hi => by
        rw [Nat.testBit_and, Bool.and_eq_true] at hi
        exact hi.2)
      have sor : sb (s ||| r) A = true := sb_iff.mpr (fun i hi => by
        rw [Nat.testBit_or, Bool.or_eq_true] at hi
        rcases hi with hi | hi
        · exact sb_iff.mp hs i hi
        · exact sb_iff.mp (sb_trans hsb hR) i hi)
      have lor := sb_le sor
      cases acc
      · rw [lq4_s, F_X12_isMost_26, if_pos ((bi_0 false).mpr rfl), Bool.false_and]
        exact fin false
      · rw [lq4_s, F_X12_isMost_26, if_neg (fun q => absurd ((bi_0 true).mp q) (by decide)), if_neg (nI_nle (by omega) (by omega)), nx_or, e_ld (by omega) (by omega), Option.bind_some, hF _ (by omega), sor, Bool.true_and, pred_I h0, ih _ f _ (by omega) (by omega) sb2, aG_s (by omega) h0 hsb, Bool.true_and]
theorem ism_eq (hF : FM M A p) (hA : A < 1024) {s : Nat} (hs : sb s A = true) : f_X12_isMost (nI s) (nI A) M = some (bi (mx p A s)) := by
  have l1 := sb_le hs
  have hR : sb (A &&& (s ^^^ 1023)) A = true := sb_iff.mpr (fun i hi => by
    rw [Nat.testBit_and, Bool.and_eq_true] at hi
    exact hi.1)
  have l2 := sb_le hR
  have tb : ∀ i, (A &&& (s ^^^ 1023)).testBit i = true ↔ A.testBit i = true ∧ s.testBit i = false := fun i => by
    rw [Nat.testBit_and, Bool.and_eq_true, Nat.testBit_xor]
    by_cases hi10 : i < 10
    · have t1023 : ∀ i, i < 10 → (1023 : Nat).testBit i = true := by decide
      rw [t1023 i hi10]
      cases s.testBit i <;> simp
    · rw [tb_big hA (by omega)]
      simp
  have key : aG p s (A &&& (s ^^^ 1023)) (A &&& (s ^^^ 1023)) = !qn p A s := by
    apply bool_iff
    rw [aG_1 (by omega), Bool.not_eq_true', Bool.eq_false_iff, ne_eq, qn_iff hA]
    constructor
    · rintro a ⟨q, q1, q2, q3, q4⟩
      have e : s ||| (q ^^^ s) = q := Nat.eq_of_testBit_eq (fun i => by
        rw [Nat.testBit_or, Nat.testBit_xor]
        have := sb_iff.mp q1 i
        cases x : s.testBit i <;> cases y : q.testBit i <;> simp_all)
      have w : sb (q ^^^ s) (A &&& (s ^^^ 1023)) = true := sb_iff.mpr (fun i hi => by
        rw [Nat.testBit_xor] at hi
        rw [tb]
        have h1 := sb_iff.mp q1 i
        have h2 := sb_iff.mp q2 i
        cases x : s.testBit i <;> cases y : q.testBit i <;> simp_all)
      have := a (q ^^^ s) w (fun z => q3 (by rw [z, Nat.or_zero] at e; exact e.symm)) (sb_le w)
      rw [e, q4] at this
      exact absurd this (by decide)
    · intro no q h1 h2 h3
      cases e : p (s ||| q)
      · refine absurd ⟨s ||| q, sb_iff.mpr (fun i hi => by rw [Nat.testBit_or, hi, Bool.true_or]), sb_iff.mpr (fun i hi => ?_), fun z => ?_, e⟩ no
        · rw [Nat.testBit_or, Bool.or_eq_true] at hi
          rcases hi with hi | hi
          · exact sb_iff.mp hs i hi
          · exact ((tb i).mp (sb_iff.mp h1 i hi)).1
        · refine h2 (Nat.eq_of_testBit_eq (fun i => ?_))
          rw [Nat.zero_testBit]
          cases x : q.testBit i
          · rfl
          · have := (tb i).mp (sb_iff.mp h1 i x)
            have z2 := congrArg (fun w => w.testBit i) z
            simp only [Nat.testBit_or, x, this.2, Bool.or_true] at z2
            exact absurd z2 (by decide)
      · rfl
  unfold f_X12_isMost f_X12_isMost_14
  rw [e_ld (by omega) (by omega), Option.bind_some, hF s (by omega), hs, Bool.true_and, rest_I hA (by omega)]
  have g := fun acc => ism_go hF hA hs hR (A &&& (s ^^^ 1023)) (A &&& (s ^^^ 1023)) 20000000 acc (Nat.le_refl _) (by omega) (sb_refl _)
  unfold mx
  cases p s
  · rw [if_pos ((bi_0 false).mpr rfl), show (1 : Int32) = bi true from rfl, g true, key, Bool.true_and, Bool.not_false, Bool.true_and]
  · rw [if_neg (fun q => absurd ((bi_0 true).mp q) (by decide)), show (0 : Int32) = bi false from rfl, g false, Bool.false_and, Bool.not_true, Bool.false_and]
end FIND
