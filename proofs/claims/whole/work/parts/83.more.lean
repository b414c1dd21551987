section MORE
variable {t n l m h c1 c2 c3 : Nat} {M : g_M}
/-- the first of k numbers from s on with a property -/
def ffn (P : Nat → Bool) : Nat → Nat → Option Nat
  | 0, _ => none
  | k + 1, s => if P s = true then some s else ffn P k (s + 1)
theorem ffn_t {P : Nat → Bool} {k s : Nat} (h : P s = true) : ffn P (k + 1) s = some s := if_pos h
theorem ffn_f {P : Nat → Bool} {k s : Nat} (h : P s = false) : ffn P (k + 1) s = ffn P k (s + 1) := if_neg (by rw [h]; decide)
theorem ffn_cong {P P' : Nat → Bool} : ∀ {k s : Nat}, (∀ q, s ≤ q → q < s + k → P q = P' q) → ffn P k s = ffn P' k s
  | 0, _, _ => rfl
  | k + 1, s, h => by
    unfold ffn
    rw [h s (by omega) (by omega), ffn_cong (k := k) (fun q h1 h2 => h q (by omega) (by omega))]
theorem ffn_none {P : Nat → Bool} : ∀ {k s : Nat}, (∀ q, s ≤ q → q < s + k → P q = false) → ffn P k s = none
  | 0, _, _ => rfl
  | k + 1, s, h => by
    rw [ffn_f (h s (by omega) (by omega))]
    exact ffn_none (fun q h1 h2 => h q (by omega) (by omega))
theorem ffn_ext {P : Nat → Bool} {j : Nat} : ∀ {k s : Nat}, (∀ q, s + k ≤ q → q < s + k + j → P q = false) → ffn P (k + j) s = ffn P k s
  | 0, s, h => by
    rw [ffn_none (fun q h1 h2 => h q (by omega) (by omega))]
    rfl
  | k + 1, s, h => by
    rw [show k + 1 + j = k + j + 1 by omega]
    unfold ffn
    rw [ffn_ext (k := k) (fun q h1 h2 => h q (by omega) (by omega))]
theorem ffn_is {P : Nat → Bool} {e : Nat} (h : P e = true) : ∀ {k s : Nat}, s ≤ e → e < s + k → (∀ q, s ≤ q → q < e → P q = false) → ffn P k s = some e
  | 0, s, h1, h2, _ => absurd h2 (by omega)
  | k + 1, s, h1, h2, h3 => by
    by_cases c : s = e
    · subst c
      exact ffn_t h
    · rw [ffn_f (h3 s (Nat.le_refl _) (by omega))]
      exact ffn_is h (by omega) (by omega) (fun q h4 h5 => h3 q (by omega) h5)
theorem ffn_in {P : Nat → Bool} : ∀ {k s e : Nat}, ffn P k s = some e → s ≤ e ∧ e < s + k ∧ P e = true ∧ ∀ q, s ≤ q → q < e → P q = false
  | 0, s, e, h => by
    unfold ffn at h
    exact absurd h (by simp)
  | k + 1, s, e, h => by
    cases c : P s
    · rw [ffn_f c] at h
      obtain ⟨h1, h2, h3, h4⟩ := ffn_in h
      refine ⟨by omega, by omega, h3, fun q h5 h6 => ?_⟩
      by_cases z : q = s
      · subst z
        exact c
      · exact h4 q (by omega) h6
    · rw [ffn_t c] at h
      have := Option.some.inj h
      subst this
      exact ⟨Nat.le_refl _, by omega, c, fun q h1 h2 => absurd h1 (by omega)⟩
theorem ffn_no {P : Nat → Bool} : ∀ {k s : Nat}, ffn P k s = none → ∀ q, s ≤ q → q < s + k → P q = false
  | 0, s, _, q, h1, h2 => absurd h2 (by omega)
  | k + 1, s, h, q, h1, h2 => by
    cases c : P s
    · rw [ffn_f c] at h
      by_cases z : q = s
      · subst z
        exact c
      · exact ffn_no h q (by omega) (by omega)
    · rw [ffn_t c] at h
      exact absurd h (by simp)
/-- the least elder of all with whom a set that is let isn't -/
def lo (p : Nat → Bool) (A s : Nat) : Option Nat := ffn (fun e => (A &&& (s ^^^ 1023)).testBit e && !p (s ||| 2 ^ e)) 10 0
def fal (p : Nat → Bool) (A s : Nat) : Bool := sb s A && p s && (lo p A s).isSome
def loI (o : Option Nat) : Int32 := match o with | none => -1 | some e => nI e
def mrI (p : Nat → Bool) (A : Nat) (o : Option Nat) : Int32 := match o with | none => -1 | some s => nI (16 * s + (lo p A s).getD 0)
theorem rest_tb {A s e : Nat} (he : e < 10) : (A &&& (s ^^^ 1023)).testBit e = (A.testBit e && !s.testBit e) := by
  rw [Nat.testBit_and, Nat.testBit_xor]
  have : (1023 : Nat).testBit e = true := by
    have : ∀ e, e < 10 → (1023 : Nat).testBit e = true := by decide
    exact this e he
  rw [this, Bool.xor_true]
/-- the class's inner loop: the elders that are not in a set -/
def ffK (K62 : Int32 → Int32 → Option Int32) (K75 : Int32 → Option Int32) (s : Nat) : Option Nat → Option Int32
  | none => K75 (nI s)
  | some x => K62 (nI s) (nI x)
theorem ffi_go {A s : Nat} {p : Nat → Bool} (hF : FC M 39 40 A p) (hA : A < 1024) (hs : sb s A = true) (hp : p s = true) (K62 : Int32 → Int32 → Option Int32) (K75 : Int32 → Option Int32) : ∀ (k f e : Nat), e + k = 10 → k < f → g_lq2 (F_X1_firstFall_32 M K62 K75) f (nI s) (nI e) = ffK K62 K75 s (ffn (fun e => (A &&& (s ^^^ 1023)).testBit e && !p (s ||| 2 ^ e)) k e)
  | 0, f, e, he, hf => by
    obtain ⟨f, rfl⟩ : ∃ f', f = f' + 1 := ⟨f - 1, by omega⟩
    have : e = 10 := by omega
    subst this
    rw [lq2_s, F_X1_firstFall_32, if_pos (show (10 : Int32) ≤ nI 10 by decide)]
    rfl
  | k + 1, f, e, he, hf => by
    obtain ⟨f, rfl⟩ : ∃ f', f = f' + 1 := ⟨f - 1, by omega⟩
    have ih := ffi_go hF hA hs hp K62 K75 k f (e + 1) (by omega) (by omega)
    have rt := rest_tb (A := A) (s := s) (e := e) (by omega)
    have sl := sb_le hs
    rw [lq2_s, F_X1_firstFall_32, if_neg (show ¬ (10 : Int32) ≤ nI e from nI_ge (b := 10) (by omega) (by omega)), hF.1, b_bit (nI A) (k := e) (by omega), bt_nI (n := A) (by omega), nI_1, ih]
    cases ca : A.testBit e
    · rw [if_pos (show (if false = true then (1 : Int32) else 0) = 0 by decide), ffn_f (by rw [rt, ca, Bool.false_and, Bool.false_and])]
    · rw [if_neg (show ¬ (if true = true then (1 : Int32) else 0) = 0 by decide), pw_shl e (by omega), nx_or]
      cases cb : s.testBit e
      · have so := sb_or hs ca cb
        have sl2 := sb_le so.2.1
        rw [e_ld (by omega) (by omega), Option.bind_some, hF.2 _ sl2, so.2.1, Bool.true_and]
        cases cq : p (s ||| 2 ^ e)
        · rw [if_pos ((bi_0 false).mpr rfl), ffn_t (by rw [rt, ca, cb, cq]; rfl)]
          rfl
        · rw [if_neg (fun q => absurd ((bi_0 true).mp q) (by decide)), ffn_f (by rw [cq, Bool.not_true, Bool.and_false])]
      · have e1 : s ||| 2 ^ e = s := Nat.eq_of_testBit_eq (fun i => by
          rw [ob]
          by_cases z : e = i
          · subst z
            rw [cb, Bool.true_or]
          · rw [decide_eq_false z, Bool.or_false])
        rw [e1, e_ld (by omega) (by omega), Option.bind_some, hF.2 _ sl, hs, Bool.true_and, hp, if_neg (fun q => absurd ((bi_0 true).mp q) (by decide)), ffn_f (by rw [rt, ca, cb, Bool.not_true, Bool.and_false, Bool.false_and])]
theorem ff_go {A : Nat} {p : Nat → Bool} (hF : FC M 39 40 A p) (hA : A < 1024) : ∀ (k f s : Nat), s + k = A + 1 → k < f → g_lq1 (F_X1_firstFall_2 M (fun (x1 : Int32) (x2 : Int32) => some ((16 * x1) + x2)) (some (-1))) f (nI s) = some (mrI p A (ffn (fal p A) k s))
  | 0, f, s, hs, hf => by
    obtain ⟨f, rfl⟩ : ∃ f', f = f' + 1 := ⟨f - 1, by omega⟩
    rw [lq1_s, F_X1_firstFall_2, hF.1, if_pos (nI_lt (by omega) (by omega))]
    rfl
  | k + 1, f, s, hs, hf => by
    obtain ⟨f, rfl⟩ : ∃ f', f = f' + 1 := ⟨f - 1, by omega⟩
    have ih := ff_go hF hA k f (s + 1) (by omega) (by omega)
    have hs2 : s < 1024 := by omega
    rw [lq1_s, F_X1_firstFall_2, hF.1, if_neg (nI_nlt (by omega) (by omega)), nI_1]
    by_cases cs : sb s A = true
    · rw [if_pos ((sb_I hs2 hA).mpr cs), e_ld hs2 (by omega), Option.bind_some, hF.2 s (by omega), cs, Bool.true_and]
      cases c : p s
      · rw [if_pos ((bi_0 false).mpr rfl), ffn_f (show fal p A s = false by unfold fal; rw [c, Bool.and_false, Bool.false_and]), ih]
      · rw [if_neg (fun q => absurd ((bi_0 true).mp q) (by decide))]
        refine Eq.trans (ffi_go hF hA cs c (fun (x1 : Int32) (x2 : Int32) => some ((16 * x1) + x2)) (fun (x1 : Int32) => g_lq1 (F_X1_firstFall_2 M (fun (x1 : Int32) (x2 : Int32) => some ((16 * x1) + x2)) (some (-1))) f (x1 + 1)) 10 20000000 0 (by omega) (by omega)) ?_
        cases el : lo p A s with
        | none =>
          have el' : ffn (fun e => (A &&& (s ^^^ 1023)).testBit e && !p (s ||| 2 ^ e)) 10 0 = none := el
          rw [el', ffn_f (show fal p A s = false by unfold fal; rw [el]; exact Bool.and_false _)]
          show g_lq1 _ f (nI s + 1) = _
          rw [nI_1, ih]
        | some e =>
          have el' : ffn (fun e => (A &&& (s ^^^ 1023)).testBit e && !p (s ||| 2 ^ e)) 10 0 = some e := el
          rw [el', ffn_t (show fal p A s = true by unfold fal; rw [cs, c, el]; rfl)]
          show some ((16 : Int32) * nI s + nI e) = _
          rw [show (16 : Int32) = nI 16 from rfl, pk_mul, nI_add]
          unfold mrI
          dsimp only
          rw [el]
          rfl
    · rw [if_neg (fun q => cs ((sb_I hs2 hA).mp q)), ffn_f (show fal p A s = false by unfold fal; rw [Bool.eq_false_iff.mpr cs, Bool.false_and, Bool.false_and]), ih]
theorem ff_eq {A : Nat} {p : Nat → Bool} (hF : FC M 39 40 A p) (hA : A < 1024) : f_X1_firstFall M = some (mrI p A (ffn (fal p A) (A + 1) 0)) := ff_go hF hA (A + 1) 20000000 0 (by omega) (by omega)
theorem fal_1024 {A : Nat} {p : Nat → Bool} (hA : A < 1024) : ffn (fal p A) 1024 0 = ffn (fal p A) (A + 1) 0 := by
  have := ffn_ext (P := fal p A) (k := A + 1) (s := 0) (j := 1024 - (A + 1)) (fun q h1 _ => by
    unfold fal
    rw [show sb q A = false from Bool.eq_false_iff.mpr (fun z => by have := sb_le z; omega), Bool.false_and, Bool.false_and])
  rw [← this]
  congr 1
  omega
theorem lo_go {A s : Nat} {p : Nat → Bool} (hF : FM M A p) (hA : A < 1024) (hs : sb s A = true) : ∀ (k f e : Nat), e + k = 10 → k < f → g_lq3 (F_X12_loses_2 M (fun (x3 : Int32) => some x3) (some (-1))) f (nI s) (nI A) (nI e) = some (loI (ffn (fun e => p s && ((A &&& (s ^^^ 1023)).testBit e && !p (s ||| 2 ^ e))) k e))
  | 0, f, e, he, hf => by
    obtain ⟨f, rfl⟩ : ∃ f', f = f' + 1 := ⟨f - 1, by omega⟩
    have : e = 10 := by omega
    subst this
    rw [lq3_s, F_X12_loses_2, if_pos (by decide)]
    rfl
  | k + 1, f, e, he, hf => by
    obtain ⟨f, rfl⟩ : ∃ f', f = f' + 1 := ⟨f - 1, by omega⟩
    have ih := lo_go hF hA hs k f (e + 1) (by omega) (by omega)
    have sl := sb_le hs
    rw [lq3_s, F_X12_loses_2, if_neg (show ¬ (10 : Int32) ≤ nI e from nI_ge (b := 10) (by omega) (by omega)), b_bit _ (by omega), b_bit _ (by omega), bt_nI (by omega), bt_nI (by omega), nI_1, ih]
    have rt := rest_tb (A := A) (s := s) (e := e) (by omega)
    cases ca : A.testBit e
    · rw [if_neg (show ¬ (if false = true then (1 : Int32) else 0) = 1 by decide), ffn_f (by rw [rt, ca, Bool.false_and, Bool.false_and, Bool.and_false])]
    · rw [if_pos (show (if true = true then (1 : Int32) else 0) = 1 by decide)]
      cases cb : s.testBit e
      · have so := sb_or hs ca cb
        have sl2 := sb_le so.2.1
        rw [if_pos (show (if false = true then (1 : Int32) else 0) = 0 by decide), e_ld (by omega) (by omega), Option.bind_some, hF s (by omega), hs, Bool.true_and]
        cases cp : p s
        · rw [if_pos ((bi_0 false).mpr rfl)]
          simp only [Bool.false_and]
          rw [ffn_f rfl]
        · rw [if_neg (fun q => absurd ((bi_0 true).mp q) (by decide)), pw_shl e (by omega), nx_or, e_ld (by omega) (by omega), Option.bind_some, hF _ (by omega), so.2.1, Bool.true_and]
          simp only [Bool.true_and]
          cases cq : p (s ||| 2 ^ e)
          · rw [if_pos ((bi_0 false).mpr rfl), ffn_t (by rw [rt, ca, cb, cq]; rfl)]
            rfl
          · rw [if_neg (fun q => absurd ((bi_0 true).mp q) (by decide)), ffn_f (by rw [cq, Bool.not_true, Bool.and_false])]
      · rw [if_neg (show ¬ (if true = true then (1 : Int32) else 0) = 0 by decide), ffn_f (by rw [rt, ca, cb, Bool.not_true, Bool.and_false, Bool.false_and, Bool.and_false])]
theorem lo_eq {A s : Nat} {p : Nat → Bool} (hF : FM M A p) (hA : A < 1024) (hs : sb s A = true) : f_X12_loses (nI s) (nI A) M = some (loI (if p s = true then lo p A s else none)) := by
  refine (lo_go hF hA hs 10 20000000 0 (by omega) (by omega)).trans ?_
  congr 2
  cases c : p s
  · rw [if_neg (by decide), ffn_none (fun q _ _ => Bool.false_and _)]
  · rw [if_pos rfl]
    unfold lo
    exact ffn_cong (fun q _ _ => Bool.true_and _)
theorem lo_lt {p : Nat → Bool} {A s e : Nat} (h : lo p A s = some e) : e < 10 := by
  have := (ffn_in h).2.1
  omega
theorem fl_go {A : Nat} {p : Nat → Bool} (hF : FM M A p) (hA : A < 1024) : ∀ (k f s : Nat), s + k = 1024 → k < f → g_lq2 (F_X12_firstThatLoses_7 M (fun (x2 : Int32) => some x2) (some (-1))) f (nI A) (nI s) = some (loI (ffn (fal p A) k s))
  | 0, f, s, hs, hf => by
    obtain ⟨f, rfl⟩ : ∃ f', f = f' + 1 := ⟨f - 1, by omega⟩
    have : s = 1024 := by omega
    subst this
    rw [lq2_s, F_X12_firstThatLoses_7, if_pos (by decide)]
    rfl
  | k + 1, f, s, hs, hf => by
    obtain ⟨f, rfl⟩ : ∃ f', f = f' + 1 := ⟨f - 1, by omega⟩
    have ih := fl_go hF hA k f (s + 1) (by omega) (by omega)
    have hs2 : s < 1024 := by omega
    rw [lq2_s, F_X12_firstThatLoses_7, if_neg (show ¬ (1024 : Int32) ≤ nI s from nI_ge (b := 1024) hs2 (by omega)), nI_1, ih]
    by_cases cs : sb s A = true
    · rw [if_pos ((sb_I hs2 hA).mpr cs), lo_eq hF hA cs, Option.bind_some]
      cases c : p s
      · rw [if_neg (show ¬ false = true by decide), if_pos (show loI none < 0 by decide), ffn_f (show fal p A s = false by unfold fal; rw [c, Bool.and_false, Bool.false_and])]
      · rw [if_pos rfl]
        cases el : lo p A s with
        | none => rw [if_pos (show loI none < 0 by decide), ffn_f (show fal p A s = false by unfold fal; rw [el]; exact Bool.and_false _)]
        | some e =>
          have := lo_lt el
          rw [if_neg (show ¬ loI (some e) < 0 from nI_pos (by omega)), ffn_t (show fal p A s = true by unfold fal; rw [cs, c, el]; rfl)]
          rfl
    · rw [if_neg (fun q => cs ((sb_I hs2 hA).mp q)), ffn_f (show fal p A s = false by unfold fal; rw [Bool.eq_false_iff.mpr cs, Bool.false_and, Bool.false_and])]
theorem fl_eq {A : Nat} {p : Nat → Bool} (hF : FM M A p) (hA : A < 1024) (ha : f_X12_all M = some (nI A)) : f_X12_firstThatLoses M = some (loI (ffn (fal p A) (A + 1) 0)) := by
  unfold f_X12_firstThatLoses
  rw [ha, Option.bind_some, ← fal_1024 hA]
  exact fl_go hF hA 1024 20000000 0 (by omega) (by omega)
theorem op_more (ht : t < 64) (H : Rel0 t n l m h c1 c2 c3 M) : Op f_X11_more f_X12_more t M := by
  obtain ⟨h1, h2, h3, h4, h5, h6, h7, h8, h9, h10, h11⟩ := id H
  obtain ⟨b1, b2, b3, b4, e0, e4, e1, e3, eu, wA, wL, wH, wT⟩ := id h1
  rcases eu with ⟨-, eu⟩ | ⟨u, hu, eu⟩
  · refine Op.t4 H ?_ ?_
    · unfold f_X11_more
      rw [h4.2.1, eu, if_neg (by decide)]
    · unfold f_X12_more
      rw [ld_2, Option.bind_some, show (tellM 4 M).1 60 2 = -1 from eu, if_neg (by decide)]
  have p0 : (0 : Int32) ≤ nI u := nI_pos' (by omega)
  have hA := all_1024 (M.1 60) b1
  obtain ⟨M0, o1, o2, o3, o4⟩ := as_eq H ht hu eu
  have e60 : M0.1 60 = M.1 60 := (o3.row (by decide) (by decide)).1
  have ff := ff_eq o4 hA
  have cls : f_X11_more M = (if 0 ≤ mrI (pM (M.1 60) n u) (s_all (M.1 60) n) (ffn (fal (pM (M.1 60) n u) (s_all (M.1 60) n)) (s_all (M.1 60) n + 1) 0) then (some (mrI (pM (M.1 60) n u) (s_all (M.1 60) n) (ffn (fal (pM (M.1 60) n u) (s_all (M.1 60) n)) (s_all (M.1 60) n + 1) 0), M0)) else ((f_X2_tell (-1000000004) M0).bind fun p3 => some (p3.1, p3.2))) := by
    unfold f_X11_more
    rw [h4.2.1, eu, if_pos p0, o1, Option.bind_some, ff, Option.bind_some]
  have mdl : ∀ M', M'.1 60 = M.1 60 → ∃ M2 : g_M, g_fr [64] T9 M' M2 ∧ FM M2 (s_all (M.1 60) n) (pM (M.1 60) n u) ∧ f_X12_all M2 = some (nI (s_all (M.1 60) n)) ∧ f_X12_more M' = (if 0 ≤ loI (ffn (fal (pM (M.1 60) n u) (s_all (M.1 60) n)) (s_all (M.1 60) n + 1) 0) then ((f_X12_all M2).bind fun p4 => (f_X12_loses (loI (ffn (fal (pM (M.1 60) n u) (s_all (M.1 60) n)) (s_all (M.1 60) n + 1) 0)) p4 M2).bind fun p5 => some ((16 * loI (ffn (fal (pM (M.1 60) n u) (s_all (M.1 60) n)) (s_all (M.1 60) n + 1) 0)) + p5, M2)) else ((f_X12_finding 3 M2).bind fun p6 => some (p6.1, p6.2))) := fun M' ed => by
    obtain ⟨M2, f1, f2, f3⟩ := fm_eq h1 hu eu ed
    have ed2 : M2.1 60 = M.1 60 := (f2.row (by decide) (by decide)).1.trans ed
    have al2 : f_X12_all M2 = some (nI (s_all (M.1 60) n)) := by rw [all_eq b1 (by rw [ed2]; exact e0), ed2]
    refine ⟨M2, f2, f3, al2, ?_⟩
    unfold f_X12_more
    rw [ld_2, Option.bind_some, ed, eu, if_pos p0, f1, Option.bind_some, fl_eq f3 hA al2, Option.bind_some]
  cases hr : ffn (fal (pM (M.1 60) n u) (s_all (M.1 60) n)) (s_all (M.1 60) n + 1) 0 with
  | none =>
    obtain ⟨M2, g1, g2, g3, g4⟩ := mdl (tellM 3 M0) e60
    rw [hr] at cls g4
    exact Op.t3' o2 (cls.trans (if_neg (by show ¬ (0 : Int32) ≤ -1; decide))) (g4.trans (if_neg (by show ¬ (0 : Int32) ≤ -1; decide))) g1 (by decide) (by decide)
  | some s =>
    obtain ⟨M2, g1, g2, g3, g4⟩ := mdl M0 e60
    rw [hr] at cls g4
    obtain ⟨i1, i2, i3, i4⟩ := ffn_in hr
    unfold fal at i3
    rw [Bool.and_eq_true, Bool.and_eq_true] at i3
    obtain ⟨e, he⟩ := Option.isSome_iff_exists.mp i3.2
    have hl := lo_lt he
    have em : mrI (pM (M.1 60) n u) (s_all (M.1 60) n) (some s) = nI (16 * s + e) := by
      show nI (16 * s + (lo (pM (M.1 60) n u) (s_all (M.1 60) n) s).getD 0) = _
      rw [he]
      rfl
    have eL : loI (some s) = nI s := rfl
    rw [em, if_pos (nI_pos' (by omega))] at cls
    rw [eL, if_pos (nI_pos' (by omega)), g3, Option.bind_some, lo_eq g2 hA i3.1.1, i3.1.2, if_pos rfl, he, Option.bind_some, show loI (some e) = nI e from rfl, show (16 : Int32) = nI 16 from rfl, pk_mul, nI_add] at g4
    exact Op.say' o2 cls g4 g1 (by decide) (by decide)
end MORE
