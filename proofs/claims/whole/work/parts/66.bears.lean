section BEARS
variable {t n l m h c1 c2 c3 : Nat} {M : g_M}
def ct (x : Int32) : Nat := s_pop x 24
theorem ct_le (x : Int32) : ct x ≤ 24 := by
  have : ∀ k, s_pop x k ≤ k := fun k => by
    induction k with
    | zero => exact Nat.le_refl _
    | succ k ih =>
      unfold s_pop
      split <;> omega
  exact this 24
def be (p : Nat → Bool) (A w k : Nat) : Bool := (List.range k).all (fun s => !(sb s A && (ct (nI s) == w)) || p s)
theorem be_s {p : Nat → Bool} {A w k : Nat} : be p A w (k + 1) = (be p A w k && (!(sb k A && (ct (nI k) == w)) || p k)) := by
  unfold be
  rw [List.range_succ, List.all_append, List.all_cons, List.all_nil, Bool.and_true]
theorem be_1 {p : Nat → Bool} {A w k : Nat} : be p A w k = true ↔ ∀ s, s < k → sb s A = true → ct (nI s) = w → p s = true := by
  unfold be
  rw [List.all_eq_true]
  constructor
  · intro a s hs c1 c2
    have := a s (List.mem_range.mpr hs)
    rw [c1, c2, beq_self_eq_true] at this
    simpa using this
  · intro a s hs
    cases c1 : sb s A
    · rfl
    · by_cases c2 : ct (nI s) = w
      · rw [a s (List.mem_range.mp hs) c1 c2, Bool.or_true]
      · rw [beq_eq_false_iff_ne.mpr c2]
        rfl
theorem part_eq {A s : Nat} (hA : A < 1024) (hs : s < 1024) (ha : f_X12_all M = some (nI A)) : f_X12_isPart (nI s) M = some (bi (sb s A)) := by
  unfold f_X12_isPart
  rw [ha, Option.bind_some]
  cases c : sb s A
  · rw [if_neg (fun q => by rw [(sb_I hs hA).mp q] at c; exact absurd c (by decide))]
    rfl
  · rw [if_pos ((sb_I hs hA).mpr c)]
    rfl
theorem bc_go {d : Nat → Int32} {A i w : Nat} (hA : A < 1024) (hi : i < 64) (hw : w < 100) (hV : ∀ q, sb q A = true → VO M d n h q) : ∀ (k fu s : Nat), s + k = A + 1 → k < fu → be (pO d n h i) A w s = true → g_lp4 (F_X11_bears_64 (fun (M : g_M) => some (0, M)) (fun (M : g_M) => some (1, M))) fu (nI i) (nI A) (nI w) (nI s) M = some (bi (be (pO d n h i) A w 1024), M)
  | 0, fu, s, hs, hf, hq => by
    obtain ⟨fu, rfl⟩ : ∃ f', fu = f' + 1 := ⟨fu - 1, by omega⟩
    have e : be (pO d n h i) A w 1024 = true := be_1.mpr (fun q _ c1 c2 => be_1.mp hq q (by have := sb_le c1; omega) c1 c2)
    rw [lp4_s, F_X11_bears_64, if_pos (nI_lt (by omega) (by omega)), e]
    rfl
  | k + 1, fu, s, hs, hf, hq => by
    obtain ⟨fu, rfl⟩ : ∃ f', fu = f' + 1 := ⟨fu - 1, by omega⟩
    have hs2 : s < 1024 := by omega
    have next : (!(sb s A && (ct (nI s) == w)) || pO d n h i s) = true → g_lp4 (F_X11_bears_64 (fun (M : g_M) => some (0, M)) (fun (M : g_M) => some (1, M))) fu (nI i) (nI A) (nI w) (nI s + 1) M = some (bi (be (pO d n h i) A w 1024), M) := fun e => by
      rw [nI_1]
      exact bc_go hA hi hw hV k fu (s + 1) (by omega) (by omega) (by rw [be_s, hq, e]; rfl)
    rw [lp4_s, F_X11_bears_64, if_neg (nI_nlt (by omega) (by omega))]
    unfold f_X11_bears_93 f_X11_bears_94 f_X11_bears_94_b
    rw [if_neg (show ¬ (1 : Int32) = 0 by decide), if_pos (show (0 : Int32) = 0 from rfl)]
    by_cases cs : sb s A = true
    · rw [if_pos ((sb_I hs2 hA).mpr cs), bitc (by omega), Option.bind_some]
      have cl := ct_le (nI s)
      by_cases cw : ct (nI s) = w
      · rw [if_pos (show nI (s_pop (nI s) 24) = nI w by rw [← cw]; rfl), isOpen_eq hs2 hi (hV s cs), Option.bind_some]
        cases c : pO d n h i s
        · rw [if_pos ((bi_0 false).mpr rfl)]
          have e : be (pO d n h i) A w 1024 = false := Bool.eq_false_iff.mpr (fun q => by
            have := be_1.mp q s hs2 cs cw
            rw [c] at this
            exact absurd this (by decide))
          rw [e]
          rfl
        · rw [if_neg (fun q => absurd ((bi_0 true).mp q) (by decide))]
          exact next (by rw [c, Bool.or_true])
      · rw [if_neg (show ¬ nI (s_pop (nI s) 24) = nI w from fun q => cw ((nI_eq (a := ct (nI s)) (by omega) (by omega)).mp q))]
        exact next (by rw [beq_eq_false_iff_ne.mpr cw, Bool.and_false]; rfl)
    · rw [if_neg (fun q => cs ((sb_I hs2 hA).mp q))]
      exact next (by rw [Bool.eq_false_iff.mpr cs]; rfl)
theorem bm_go {A w z : Nat} {p : Nat → Bool} (hA : A < 1024) (ha : f_X12_all M = some (nI A)) (hF : FM M A p) (hz : z ≤ ct (nI A)) (hw : w = ct (nI A) - z) : ∀ (k fu s : Nat), s + k = 1024 → k < fu → g_lp4 (F_X12_bears_42 (fun (x4 : Int32) (M : g_M) => (if x4 = 0 then (some (0, M)) else (some (1, M))))) fu (nI z) (nI A) (bi (be p A w s)) (nI s) M = some (bi (be p A w 1024), M)
  | 0, fu, s, hs, hf => by
    obtain ⟨fu, rfl⟩ : ∃ f', fu = f' + 1 := ⟨fu - 1, by omega⟩
    have : s = 1024 := by omega
    subst this
    rw [lp4_s, F_X12_bears_42, if_pos (by decide)]
    generalize be p A w 1024 = b
    cases b
    · rw [if_pos ((bi_0 false).mpr rfl)]
      rfl
    · rw [if_neg (fun q => absurd ((bi_0 true).mp q) (by decide))]
      rfl
  | k + 1, fu, s, hs, hf => by
    obtain ⟨fu, rfl⟩ : ∃ f', fu = f' + 1 := ⟨fu - 1, by omega⟩
    have hs2 : s < 1024 := by omega
    have ih := bm_go hA ha hF hz hw k fu (s + 1) (by omega) (by omega)
    rw [be_s] at ih
    have cl := ct_le (nI s)
    have cA := ct_le (nI A)
    rw [lp4_s, F_X12_bears_42, if_neg (show ¬ (1024 : Int32) ≤ nI s from nI_ge (b := 1024) hs2 (by omega)), part_eq hA hs2 ha, Option.bind_some, many_eq, Option.bind_some, many_eq, Option.bind_some, show nI (s_pop (nI A) 24) - nI z = nI w by rw [hw]; exact pk_sub hz]
    unfold f_X12_bears_77 f_X12_bears_78 f_X12_bears_78_b
    rw [if_pos (show (0 : Int32) = 0 from rfl), if_neg (show ¬ (1 : Int32) = 0 by decide), nI_1, e_ld hs2 (by omega), Option.bind_some, hF s hs2]
    cases bs : be p A w s
    · rw [bs, Bool.false_and] at ih
      rw [if_pos ((bi_0 false).mpr rfl), if_pos ((bi_0 false).mpr rfl)]
      split
      · exact ih
      · split
        · exact ih
        · exact ih
    · rw [bs, Bool.true_and] at ih
      rw [if_neg (fun q => absurd ((bi_0 true).mp q) (by decide)), if_neg (fun q => absurd ((bi_0 true).mp q) (by decide))]
      cases cs : sb s A
      · rw [cs] at ih
        rw [if_pos ((bi_0 false).mpr rfl)]
        exact ih
      · rw [cs, Bool.true_and] at ih
        rw [if_neg (fun q => absurd ((bi_0 true).mp q) (by decide)), Bool.true_and]
        by_cases cw : ct (nI s) = w
        · rw [beq_iff_eq.mpr cw] at ih
          rw [if_pos (show nI (s_pop (nI s) 24) = nI w by rw [← cw]; rfl)]
          cases c : p s
          · rw [c] at ih
            rw [if_pos ((bi_0 false).mpr rfl)]
            exact ih
          · rw [c] at ih
            rw [if_neg (fun q => absurd ((bi_0 true).mp q) (by decide))]
            exact ih
        · rw [beq_eq_false_iff_ne.mpr cw] at ih
          rw [if_neg (show ¬ nI (s_pop (nI s) 24) = nI w from fun q => cw ((nI_eq (a := ct (nI s)) (by omega) (by omega)).mp q))]
          exact ih
theorem op_bears (ht : t < 64) (H : Rel0 t n l m h c1 c2 c3 M) (x y : Int32) : Op (f_X11_bears x y) (f_X12_bears x y) t M := by
  obtain ⟨h1, h2, h3, h4, h5, h6, h7, h8, h9, h10, h11⟩ := id H
  obtain ⟨b1, b2, b3, b4, e0, e4, e1, e3, eu, wA, wL, wH, wT⟩ := id h1
  have hA := all_1024 (M.1 60) b1
  have cA := ct_le (nI (s_all (M.1 60) n))
  have al0 : ∀ M' : g_M, M'.1 60 = M.1 60 → f_X12_all M' = some (nI (s_all (M.1 60) n)) := fun M' e => by rw [all_eq b1 (by rw [e]; exact e0), e]
  rcases ix x (n := h) (by omega) with ho | ⟨i, hi, rfl⟩
  · refine Op.t0 H ?_ ?_
    · unfold f_X11_bears
      rw [present_eq h1 h2, Option.bind_some, bitc (by omega), Option.bind_some, hh_out h3.1 ho, Option.bind_some, if_pos rfl]
      rfl
    · unfold f_X12_bears
      rw [al0 (tellM 0 M) rfl, Option.bind_some, mh_out (n := h) (M := tellM 0 M) e3 (by omega) ho, Option.bind_some, if_pos rfl]
      rfl
  rcases ix y (n := ct (nI (s_all (M.1 60) n)) + 1) (by omega) with ho | ⟨z, hz, rfl⟩
  · refine Op.t0 H ?_ ?_
    · unfold f_X11_bears
      rw [present_eq h1 h2, Option.bind_some, bitc (by omega), Option.bind_some, hh_in h3.1 hi (by omega), Option.bind_some, if_neg (by decide)]
      by_cases c : y < 0
      · rw [if_pos c]
        rfl
      · obtain ⟨j, hj, rfl⟩ := nI_of c
        have := (nI_leI (by omega) hj).mp (ho.resolve_left c)
        rw [if_neg c, if_neg]
        · rfl
        · intro q
          rw [i_le] at q
          have e1 : (0 : Int32).toInt = 0 := by decide
          have neg : nI (s_pop (nI (s_all (M.1 60) n)) 24) - nI j < 0 := by
            rw [i_lt, Int32.toInt_sub]
            have a1 : (nI (s_pop (nI (s_all (M.1 60) n)) 24)).toInt = (ct (nI (s_all (M.1 60) n)) : Int) := nI_toInt (n := ct (nI (s_all (M.1 60) n))) (by omega)
            rw [a1, nI_toInt hj, e1, Int.bmod_eq_of_le (by omega) (by omega)]
            omega
          rw [i_lt] at neg
          omega
    · unfold f_X12_bears
      rw [al0 (tellM 0 M) rfl, Option.bind_some, mh_in (n := h) (M := tellM 0 M) e3 (by omega) hi, Option.bind_some, if_neg (by decide), many_eq, Option.bind_some, in_out _ (a := 0) (b := nI (s_pop (nI (s_all (M.1 60) n)) 24)) (by
        have := out_m1 (n := ct (nI (s_all (M.1 60) n)) + 1) (by omega) ho
        rw [nI_pred] at this
        exact this), Option.bind_some, if_pos rfl]
      rfl
  obtain ⟨M1, a1, a2, a3, a4⟩ := fresh_eq H ht
  have r60 : M1.1 60 = M.1 60 := (a2.row (by decide) (by decide)).1
  obtain ⟨N1, f1, f2, f3⟩ := fo_eq hi h1 r60
  have s60 : N1.1 60 = M.1 60 := (f2.row (by decide) (by simp)).1.trans r60
  refine Op.say' (v := bi (be (pO (M.1 60) n h i) (s_all (M.1 60) n) (ct (nI (s_all (M.1 60) n)) - z) 1024)) a3 ?_ ?_ f2 (by decide) (by simp)
  · unfold f_X11_bears
    rw [present_eq h1 h2, Option.bind_some, bitc (by omega), Option.bind_some, hh_in h3.1 hi (by omega), Option.bind_some, if_neg (by decide), if_neg (nI_pos (by omega)), show nI (s_pop (nI (s_all (M.1 60) n)) 24) - nI z = nI (ct (nI (s_all (M.1 60) n)) - z) from pk_sub (a := ct (nI (s_all (M.1 60) n))) (by omega), if_pos (nI_pos' (by omega)), a1, Option.bind_some]
    exact bc_go hA (by omega) (by omega) a4 (s_all (M.1 60) n + 1) 20000000 0 (by omega) (by omega) rfl
  · unfold f_X12_bears
    rw [al0 M1 r60, Option.bind_some, mh_in (n := h) (M := M1) (by rw [r60]; exact e3) (by omega) hi, Option.bind_some, if_neg (by decide), many_eq, Option.bind_some, in_in _ (nI_pos (by omega)) (show ¬ nI (s_pop (nI (s_all (M.1 60) n)) 24) < nI z from nI_nlt (a := ct (nI (s_all (M.1 60) n))) (by omega) (by omega)), Option.bind_some, if_neg (by decide), f1, Option.bind_some]
    exact bm_go hA (al0 N1 s60) f3 (by omega) rfl 1024 20000000 0 (by omega) (by omega)
end BEARS
