theorem rng_split (g : Nat → Bool) : ∀ (n r : Nat), r < n → (List.range n).filter (fun a => decide (r ≤ a) && g a) = (if g r = true then [r] else []) ++ (List.range n).filter (fun a => decide (r + 1 ≤ a) && g a)
  | 0, r, h => absurd h (by omega)
  | n + 1, r, h => by
    rw [List.range_succ, List.filter_append, List.filter_append]
    by_cases c : r = n
    · subst c
      have e1 : (List.range r).filter (fun a => decide (r ≤ a) && g a) = [] := by
        rw [List.filter_eq_nil_iff]
        intro a ha
        have := List.mem_range.mp ha
        simp
        omega
      have e2 : (List.range r).filter (fun a => decide (r + 1 ≤ a) && g a) = [] := by
        rw [List.filter_eq_nil_iff]
        intro a ha
        have := List.mem_range.mp ha
        simp
        omega
      rw [e1, e2, List.filter_cons, List.filter_cons, List.filter_nil]
      rw [decide_eq_true (Nat.le_refl r), Bool.true_and, decide_eq_false (show ¬ r + 1 ≤ r by omega), Bool.false_and]
      simp
    · rw [rng_split g n r (by omega), List.append_assoc]
      congr 1
      congr 1
      rw [List.filter_cons, List.filter_cons, decide_eq_true (show r ≤ n by omega), decide_eq_true (show r + 1 ≤ n by omega), List.filter_nil, List.filter_nil]
/-- the list from above, as far as r -/
def dl (f : Nat → Bool) (A r : Nat) : List Nat := ((lst f A (A + 1)).filter (fun s => decide (r ≤ s))).reverse
theorem dl_s {f : Nat → Bool} {A r : Nat} (h : r ≤ A) : dl f A r = dl f A (r + 1) ++ (if (sb r A && f r) = true then [r] else []) := by
  unfold dl lst
  rw [List.filter_filter, List.filter_filter, rng_split (fun s => sb s A && f s) (A + 1) r (by omega), List.reverse_append]
  congr 1
  split <;> rfl
theorem dl_top {f : Nat → Bool} {A : Nat} : dl f A (A + 1) = [] := by
  unfold dl
  rw [List.reverse_eq_nil_iff, List.filter_eq_nil_iff]
  intro a ha
  have := (lst_mem.mp ha).1
  simp
  omega
theorem dl_0 {f : Nat → Bool} {A : Nat} : dl f A 0 = (lst f A (A + 1)).reverse := by
  unfold dl
  congr 1
  rw [List.filter_eq_self]
  intro a _
  simp
theorem dl_len {f : Nat → Bool} {A r : Nat} : (dl f A r).length ≤ (lst f A (A + 1)).length := by
  unfold dl
  rw [List.length_reverse]
  exact List.length_filter_le _ _
theorem gm_go {o c A : Nat} {p : Nat → Bool} (K : g_M → Option g_M) (hA : A < 1024) (ho : o ≠ 43 ∧ o ≠ 44 ∧ o ≠ 45) (hc : c ≠ 43 ∧ c ≠ 44 ∧ c ≠ 45) : ∀ (r f : Nat) (M : g_M), r ≤ A + 1 → r < f → FC M o c A p → (∀ q, r ≤ q → sb q A = true → M.1 45 q = bi (ns p A q)) → LX M (dl (mx p A) A r) → ∃ M' : g_M, g_lp1 (Gm10 o c K) f (nI r - 1) M = K M' ∧ g_fr [44, 45] [(43, 1)] M M' ∧ LX M' (dl (mx p A) A 0)
  | 0, f, M, hr, hf, hF, hN, hL => by
    obtain ⟨f, rfl⟩ : ∃ f', f = f' + 1 := ⟨f - 1, by omega⟩
    refine ⟨M, ?_, g_fr.rfl, hL⟩
    rw [lp1_s, Gm10, if_pos (by decide)]
  | s + 1, f, M, hr, hf, hF, hN, hL => by
    obtain ⟨f, rfl⟩ : ∃ f', f = f' + 1 := ⟨f - 1, by omega⟩
    have next : ∀ (M2 : g_M), g_fr [44, 45] [(43, 1)] M M2 → (∀ q, s ≤ q → sb q A = true → M2.1 45 q = bi (ns p A q)) → LX M2 (dl (mx p A) A s) → g_lp1 (Gm10 o c K) (f + 1) (nI s) M = g_lp1 (Gm10 o c K) f (nI s - 1) M2 → ∃ M' : g_M, g_lp1 (Gm10 o c K) (f + 1) (nI (s + 1) - 1) M = K M' ∧ g_fr [44, 45] [(43, 1)] M M' ∧ LX M' (dl (mx p A) A 0) := by
      intro M2 q1 q2 q3 q4
      obtain ⟨M', m1, m2, m3⟩ := gm_go K hA ho hc s f M2 (by omega) (by omega) (hF.keep ho hc q1) q2 q3
      exact ⟨M', by rw [nI_pred, q4]; exact m1, q1.trans m2, m3⟩
    have hs2 : s < 1024 := by omega
    by_cases cs : sb s A = true
    · have hR : A &&& (s ^^^ 1023) < 1024 := Nat.lt_of_le_of_lt Nat.and_le_left hA
      have tb : ∀ i, (A &&& (s ^^^ 1023)).testBit i = true → A.testBit i = true ∧ s.testBit i = false := fun i hi => by
        rw [Nat.testBit_and, Bool.and_eq_true, Nat.testBit_xor] at hi
        refine ⟨hi.1, ?_⟩
        have hi10 : i < 10 := by
          apply Classical.byContradiction
          intro q
          rw [tb_big hA (by omega)] at hi
          exact absurd hi.1 (by decide)
        have t1023 : ∀ i, i < 10 → (1023 : Nat).testBit i = true := by decide
        have := hi.2
        rw [t1023 i hi10] at this
        cases e : s.testBit i
        · rfl
        · rw [e] at this
          exact absurd this (by decide)
      have inner := im_go (fun (x2 : Int32) (x3 : Int32) (M : g_M) => Gm72 c (g_lp1 (Gm10 o c K) f) x2 x3 M) hs2 hA (ns p A) M hF.1 (fun i hi => by
        have x := sb_or cs (tb i hi).1 (tb i hi).2
        have := sb_lt x.1 (fun e => x.2.2 e.symm)
        exact hN _ (by omega) x.2.1) 10 0 20000000 false (by omega) (by omega)
      rw [any_ge0, qn_step hA cs, Bool.false_or] at inner
      have go : g_lp1 (Gm10 o c K) (f + 1) (nI s) M = Gm72 c (g_lp1 (Gm10 o c K) f) (nI s) (bi (qn p A s)) M := by
        rw [lp1_s, Gm10, if_neg (nI_pos (by omega)), hF.1, if_pos ((sb_I hs2 hA).mpr cs)]
        exact inner
      have w45 : ∀ (v : Bool), v = ns p A s → ∀ q, s ≤ q → sb q A = true → (g_u M 45 s (bi v)).1 45 q = bi (ns p A q) := fun v hv q hq hqA => by
        show upd (M.1 45) s (bi v) q = _
        by_cases e : q = s
        · subst e
          rw [upd_eq, hv]
        · rw [upd_ne e]
          exact hN q (by omega) hqA
      have fr1 : ∀ v, g_fr [45] [] M (g_u M 45 s v) := fun v => g_fr.rfl.uS (by decide)
      have fr2 : ∀ v, g_fr [44, 45] [(43, 1)] M (g_u M 45 s v) := fun v => (fr1 v).mono (by decide) (by simp)
      have nre := ns_eq (p := p) hA cs
      have hld : g_ld M c 1024 (nI s) = some (bi (p s)) := by
        rw [e_ld hs2 (by omega), hF.2 s (by omega), cs, Bool.true_and]
      have st := dl_s (f := mx p A) (A := A) (r := s) (by omega)
      cases cp : qn p A s
      · rw [cp, Gm72, if_pos ((bi_0 false).mpr rfl), hld, Option.bind_some] at go
        rw [cp, Bool.false_or] at nre
        cases ps : p s
        · rw [ps, if_pos ((bi_0 false).mpr rfl), show (1 : Int32) = bi true from rfl, e95 hs2 false true, if_pos rfl, if_neg (by decide)] at go
          have m1 : (sb s A && mx p A s) = true := by
            unfold mx
            rw [cs, ps, cp]
            rfl
          have hl := Nat.le_trans (dl_len (f := mx p A) (A := A) (r := s)) (mx_252 p hA (k := A + 1) (by omega))
          rw [st, if_pos m1, List.length_append] at hl
          obtain ⟨M2, a1, a2, a3⟩ := (hL.keep (fr1 (bi true))).add (by simp at hl; omega) s
          rw [a1, Option.bind_some, sub_1] at go
          refine next M2 ((fr2 _).trans (a2.mono (by decide) (by decide))) (fun q hq hqA => ?_) ?_ go
          · rw [a2.at (by decide) (by simp)]
            exact w45 true (by rw [nre, ps]; rfl) q hq hqA
          · rw [st, if_pos m1]
            exact a3
        · rw [ps, if_neg (fun q => absurd ((bi_0 true).mp q) (by decide)), show (0 : Int32) = bi false from rfl, e95 hs2 false false, if_neg (by decide), sub_1] at go
          refine next _ (fr2 _) (w45 false (by rw [nre, ps]; rfl)) ?_ go
          rw [st, if_neg, List.append_nil]
          · exact hL.keep (fr1 _)
          · unfold mx
            rw [ps]
            simp
      · rw [cp, Gm72, if_neg (fun q => absurd ((bi_0 true).mp q) (by decide)), show (1 : Int32) = bi true from rfl, e95 hs2 true true, if_pos rfl, if_pos rfl, sub_1] at go
        rw [cp, Bool.true_or] at nre
        refine next _ (fr2 _) (w45 true nre.symm) ?_ go
        rw [st, if_neg, List.append_nil]
        · exact hL.keep (fr1 _)
        · unfold mx
          rw [cp]
          simp
    · refine next M g_fr.rfl (fun q hq hqA => ?_) ?_ ?_
      · by_cases e : q = s
        · subst e
          exact absurd hqA cs
        · exact hN q (by omega) hqA
      · rw [dl_s (by omega), if_neg (by rw [Bool.and_eq_true]; exact fun q => cs q.1), List.append_nil]
        exact hL
      · rw [lp1_s, Gm10, if_neg (nI_pos (by omega)), hF.1, if_neg (fun q => cs ((sb_I hs2 hA).mp q)), sub_1]
/-! turning a list -/
theorem rev_at {L : List Nat} {j : Nat} (h : j < L.length) : L.reverse.getD j 0 = L.getD (L.length - 1 - j) 0 := by
  rw [List.getD_eq_getElem?_getD, List.getD_eq_getElem?_getD, List.getElem?_reverse h]
theorem tu_go (L : List Nat) (hL : L.length ≤ 252) : ∀ (k f i : Nat) (M : g_M), i + k = L.length / 2 → k < f → M.1 43 1 = nI L.length → (∀ j, j < L.length → M.1 44 j = nI (if j < i ∨ L.length - i ≤ j then L.getD (L.length - 1 - j) 0 else L.getD j 0)) → ∃ M' : g_M, g_lp1 (F_X6_turn_2 (fun (M : g_M) => some M)) f (nI i) M = some M' ∧ g_fr [44] [] M M' ∧ LX M' L.reverse
  | 0, f, i, M, hi, hf, e43, h44 => by
    obtain ⟨f, rfl⟩ : ∃ f', f = f' + 1 := ⟨f - 1, by omega⟩
    refine ⟨M, ?_, g_fr.rfl, by rw [List.length_reverse]; exact e43, fun j hj => ?_⟩
    · rw [lp1_s, F_X6_turn_2, show g_nz 2 = some 2 from rfl, Option.bind_some, e43, show nI L.length / 2 = nI (L.length / 2) from pk_div (d := 2) (by omega) (by omega) (by omega), if_pos (nI_le (by omega) (by omega))]
    · rw [List.length_reverse] at hj
      rw [h44 j hj, rev_at hj]
      by_cases c : j < i ∨ L.length - i ≤ j
      · rw [if_pos c]
      · rw [if_neg c, show L.length - 1 - j = j by omega]
  | k + 1, f, i, M, hi, hf, e43, h44 => by
    obtain ⟨f, rfl⟩ : ∃ f', f = f' + 1 := ⟨f - 1, by omega⟩
    have hii : i < L.length := by omega
    have e1 : M.1 44 (L.length - 1 - i) = nI (L.getD (L.length - 1 - i) 0) := by rw [h44 _ (by omega), if_neg (by omega)]
    have e2 : M.1 44 i = nI (L.getD i 0) := by rw [h44 _ (by omega), if_neg (by omega)]
    obtain ⟨M', m1, m2, m3⟩ := tu_go L hL k f (i + 1) (g_u (g_u M 44 (L.length - 1 - i) (nI (L.getD i 0))) 44 i (nI (L.getD (L.length - 1 - i) 0))) (by omega) (by omega) e43 (fun j hj => by
      show upd (upd (M.1 44) (L.length - 1 - i) (nI (L.getD i 0))) i (nI (L.getD (L.length - 1 - i) 0)) j = _
      by_cases c : j = i
      · subst c
        rw [upd_eq, if_pos (by omega)]
      · rw [upd_ne c]
        by_cases c2 : j = L.length - 1 - i
        · subst c2
          rw [upd_eq, if_pos (by omega), show L.length - 1 - (L.length - 1 - i) = i by omega]
        · rw [upd_ne c2, h44 j hj]
          by_cases c3 : j < i ∨ L.length - i ≤ j
          · rw [if_pos c3, if_pos (by omega)]
          · rw [if_neg c3, if_neg (by omega)])
    refine ⟨M', ?_, ((g_fr.rfl.uS (by decide)).uS (by decide)).trans m2, m3⟩
    rw [lp1_s, F_X6_turn_2, show g_nz 2 = some 2 from rfl, Option.bind_some, e43, show nI L.length / 2 = nI (L.length / 2) from pk_div (d := 2) (by omega) (by omega) (by omega), if_neg (nI_ge (by omega) (by omega)), show nI L.length - 1 - nI i = nI (L.length - 1 - i) by rw [show nI L.length - 1 = nI (L.length - 1) from pk_sub (b := 1) (by omega), pk_sub (by omega)], e_ld (by omega) (by omega), Option.bind_some, e_ld (by omega) (by omega), Option.bind_some, e_st (by omega) (by omega), Option.bind_some, e_st (by omega) (by omega), Option.bind_some, e1, e2, nI_1, m1]
theorem tu_eq {M : g_M} {L : List Nat} (h : LX M L) (hL : L.length ≤ 252) : ∃ M' : g_M, f_X6_turn M = some M' ∧ g_fr [44] [] M M' ∧ LX M' L.reverse := tu_go L hL (L.length / 2) 20000000 0 M (by omega) (by omega) h.1 (fun j hj => by rw [if_neg (by omega)]; exact h.2 j hj)
