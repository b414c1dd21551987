section APART
variable {t n l m h c1 c2 c3 : Nat} {M : g_M}
/-- sets of all for which one holds as asked and the other doesn't -/
def apP (p q : Nat → Bool) (A : Nat) (o : Bool) (s : Nat) : Bool := sb s A && (p s == o) && (q s != o)
theorem ac_go {d : Nat → Int32} {A i : Nat} {q : Nat → Bool} {o : Bool} (hA : A < 1024) (hi : i < 64) (hV : ∀ q, sb q A = true → VO M d n h q) (hF : ∀ s, s ≤ A → M.1 40 s = bi (sb s A && q s)) (K127 : Int32 → g_M → Option (Int32 × g_M)) (K136 : g_M → Option (Int32 × g_M)) : ∀ (k f s : Nat), s + k = A + 1 → k < f → g_lp4 (F_X11_firstApart_73 K127 K136) f (nI i) (bi o) (nI A) (nI s) M = (match ffn (apP (pO d n h i) q A o) k s with | some z => K127 (nI z) M | none => K136 M)
  | 0, f, s, hs, hf => by
    obtain ⟨f, rfl⟩ : ∃ f', f = f' + 1 := ⟨f - 1, by omega⟩
    rw [lp4_s, F_X11_firstApart_73, if_pos (nI_lt (by omega) (by omega))]
    rfl
  | k + 1, f, s, hs, hf => by
    obtain ⟨f, rfl⟩ : ∃ f', f = f' + 1 := ⟨f - 1, by omega⟩
    have ih := ac_go (q := q) (o := o) hA hi hV hF K127 K136 k f (s + 1) (by omega) (by omega)
    have hs2 : s < 1024 := by omega
    rw [lp4_s, F_X11_firstApart_73, if_neg (nI_nlt (by omega) (by omega))]
    unfold f_X11_firstApart_108 f_X11_firstApart_109 f_X11_firstApart_109_b
    rw [if_pos (show (0 : Int32) = 0 from rfl), if_neg (show ¬ (1 : Int32) = 0 by decide), nI_1, ih]
    by_cases cs : sb s A = true
    · rw [if_pos ((sb_I hs2 hA).mpr cs), isOpen_eq hs2 hi (hV s cs), Option.bind_some]
      by_cases c : pO d n h i s = o
      · rw [if_pos (bi_inj.mpr c), e_ld hs2 (by omega), Option.bind_some, hF s (by omega), cs, Bool.true_and]
        by_cases e : q s = o
        · rw [if_pos (bi_inj.mpr e), ffn_f (show apP (pO d n h i) q A o s = false by
            unfold apP
            rw [bne_eq_false_iff_eq.mpr e, Bool.and_false])]
        · rw [if_neg (fun z => e (bi_inj.mp z)), ffn_t (show apP (pO d n h i) q A o s = true by
            unfold apP
            rw [cs, beq_iff_eq.mpr c, bne_iff_ne.mpr e]
            rfl)]
      · rw [if_neg (fun z => c (bi_inj.mp z)), ffn_f (show apP (pO d n h i) q A o s = false by
            unfold apP
            rw [beq_eq_false_iff_ne.mpr c, Bool.and_false, Bool.false_and])]
    · rw [if_neg (fun z => cs ((sb_I hs2 hA).mp z)), ffn_f (show apP (pO d n h i) q A o s = false by
            unfold apP
            rw [Bool.eq_false_iff.mpr cs, Bool.false_and, Bool.false_and])]
theorem am_go {d : Nat → Int32} (W : W_D d n l m h) {u : Nat} (hu : u < m) (eu : d 2 = nI u) {p : Nat → Bool} {o : Bool} (K76 : Int32 → g_M → Option (Int32 × g_M)) (K84 : g_M → Option (Int32 × g_M)) : ∀ (k f s : Nat) (M : g_M), s + k = 1024 → k < f → M.1 60 = d → FM M (s_all d n) p → ∃ M' : g_M, g_fr [] T9 M M' ∧ g_lp2 (F_X12_unlike_36 K76 K84) f (bi o) (nI s) M = (match ffn (apP p (pM d n u) (s_all d n) o) k s with | some z => K76 (nI z) M' | none => K84 M')
  | 0, f, s, M, hs, hf, ed, hF => by
    obtain ⟨f, rfl⟩ : ∃ f', f = f' + 1 := ⟨f - 1, by omega⟩
    have : s = 1024 := by omega
    subst this
    refine ⟨M, g_fr.rfl, ?_⟩
    rw [lp2_s, F_X12_unlike_36, if_pos (by decide)]
    rfl
  | k + 1, f, s, M, hs, hf, ed, hF => by
    obtain ⟨f, rfl⟩ : ∃ f', f = f' + 1 := ⟨f - 1, by omega⟩
    have hA := all_1024 d W.1
    have hs2 : s < 1024 := by omega
    have al : f_X12_all M = some (nI (s_all d n)) := by rw [all_eq W.1 (by rw [ed]; exact W.2.2.2.2.1), ed]
    rw [lp2_s, F_X12_unlike_36, if_neg (show ¬ (1024 : Int32) ≤ nI s from nI_ge (b := 1024) hs2 (by omega)), part_eq hA hs2 al, Option.bind_some, nI_1]
    cases cs : sb s (s_all d n)
    · rw [if_pos ((bi_0 false).mpr rfl), ffn_f (show apP p (pM d n u) (s_all d n) o s = false by
            unfold apP
            rw [cs, Bool.false_and, Bool.false_and])]
      exact am_go W hu eu K76 K84 k f (s + 1) M (by omega) (by omega) ed hF
    · rw [if_neg (fun q => absurd ((bi_0 true).mp q) (by decide)), e_ld hs2 (by omega), Option.bind_some, hF s hs2, cs, Bool.true_and]
      by_cases c : p s = o
      · obtain ⟨M2, a1, a2⟩ := mb_eq W ed hu (nI s)
        have e60 : M2.1 60 = d := (a2.row (k := 60) (by decide) (by decide)).1.trans ed
        have hF2 : FM M2 (s_all d n) p := fun q hq => by
          rw [(a2.row (k := 64) (by decide) (by decide)).1]
          exact hF q hq
        rw [if_pos (bi_inj.mpr c), ld_2, Option.bind_some, ed, eu, a1, Option.bind_some]
        dsimp only
        by_cases e : s_may d n u (nI s) = o
        · rw [if_pos (bi_inj.mpr e), ffn_f (show apP p (pM d n u) (s_all d n) o s = false by
            unfold apP
            rw [bne_eq_false_iff_eq.mpr (show pM d n u s = o from e), Bool.and_false])]
          obtain ⟨M', m1, m2⟩ := am_go W hu eu (p := p) (o := o) K76 K84 k f (s + 1) M2 (by omega) (by omega) e60 hF2
          exact ⟨M', a2.trans m1, m2⟩
        · rw [if_neg (fun z => e (bi_inj.mp z)), ffn_t (show apP p (pM d n u) (s_all d n) o s = true by
            unfold apP
            rw [cs, beq_iff_eq.mpr c, bne_iff_ne.mpr (show pM d n u s ≠ o from e)]
            rfl)]
          exact ⟨M2, a2, rfl⟩
      · rw [if_neg (fun z => c (bi_inj.mp z)), ffn_f (show apP p (pM d n u) (s_all d n) o s = false by
            unfold apP
            rw [beq_eq_false_iff_ne.mpr c, Bool.and_false, Bool.false_and])]
        exact am_go W hu eu K76 K84 k f (s + 1) M (by omega) (by omega) ed hF
theorem op_apart (ht : t < 64) (H : Rel0 t n l m h c1 c2 c3 M) (x : Int32) (o : Bool) : Op (fun M => (f_X11_firstApart x (bi o) M).bind fun p1 => some (p1.1, p1.2)) (fun M => (f_X12_unlike x (bi o) M).bind fun p1 => some (p1.1, p1.2)) t M := by
  have eta : ∀ o : Option (Int32 × g_M), (o.bind fun p1 => some (p1.1, p1.2)) = o := fun o => by cases o <;> rfl
  simp only [eta]
  obtain ⟨h1, h2, h3, h4, h5, h6, h7, h8, h9, h10, h11⟩ := id H
  obtain ⟨b1, b2, b3, b4, e0, e4, e1, e3, eu, wA, wL, wH, wT⟩ := id h1
  rcases ix x (n := h) (by omega) with ho | ⟨i, hi, rfl⟩
  · refine Op.t0 H ?_ ?_
    · unfold f_X11_firstApart
      rw [hh_out h3.1 ho, Option.bind_some, if_pos rfl]
    · unfold f_X12_unlike
      rw [mh_out (n := h) (M := tellM 0 M) e3 (by omega) ho, Option.bind_some, if_pos rfl]
  rcases eu with ⟨-, eu⟩ | ⟨u, hu, eu⟩
  · refine Op.t4 H ?_ ?_
    · unfold f_X11_firstApart
      rw [hh_in h3.1 hi (by omega), Option.bind_some, if_neg (by decide), h4.2.1, eu, if_neg (by decide)]
    · unfold f_X12_unlike
      rw [mh_in (n := h) (M := tellM 4 M) e3 (by omega) hi, Option.bind_some, if_neg (by decide), ld_2, Option.bind_some, show (tellM 4 M).1 60 2 = -1 from eu, if_neg (by decide)]
  have p0 : (0 : Int32) ≤ nI u := nI_pos' (by omega)
  have hA := all_1024 (M.1 60) b1
  obtain ⟨M0, o1, o2, o3, o4⟩ := as_eq H ht hu eu
  have e60 : M0.1 60 = M.1 60 := (o3.row (by decide) (by decide)).1
  obtain ⟨M1, a1, a2, a3, a4⟩ := fresh_eq o2 ht
  have r60 : M1.1 60 = M.1 60 := (a2.row (by decide) (by decide)).1.trans e60
  have pr := present_eq a3.1 a3.2.1
  rw [r60] at pr
  rw [e60] at a4
  have h40 : ∀ s, s ≤ s_all (M.1 60) n → M1.1 40 s = bi (sb s (s_all (M.1 60) n) && pM (M.1 60) n u s) := fun s hs => by
    rw [(a2.row (k := 40) (by decide) (by decide)).1]
    exact o4.2 s hs
  have cls : f_X11_firstApart (nI i) (bi o) M = (match ffn (apP (pO (M.1 60) n h i) (pM (M.1 60) n u) (s_all (M.1 60) n) o) (s_all (M.1 60) n + 1) 0 with | some z => some (nI z, M1) | none => (f_X2_tell (-1000000004) M1).bind fun p8 => some (p8.1, p8.2)) := by
    unfold f_X11_firstApart
    rw [hh_in h3.1 hi (by omega), Option.bind_some, if_neg (by decide), h4.2.1, eu, if_pos p0, o1, Option.bind_some, a1, Option.bind_some, pr, Option.bind_some]
    exact ac_go hA (by omega) a4 h40 (fun (x5 : Int32) (M : g_M) => some (x5, M)) (fun (M : g_M) => (f_X2_tell (-1000000004) M).bind fun p8 => some (p8.1, p8.2)) (s_all (M.1 60) n + 1) 20000000 0 (by omega) (by omega)
  have ex : ffn (apP (pO (M.1 60) n h i) (pM (M.1 60) n u) (s_all (M.1 60) n) o) 1024 0 = ffn (apP (pO (M.1 60) n h i) (pM (M.1 60) n u) (s_all (M.1 60) n) o) (s_all (M.1 60) n + 1) 0 := by
    have := ffn_ext (P := apP (pO (M.1 60) n h i) (pM (M.1 60) n u) (s_all (M.1 60) n) o) (k := s_all (M.1 60) n + 1) (s := 0) (j := 1024 - (s_all (M.1 60) n + 1)) (fun q h1 _ => by
      unfold apP
      rw [show sb q (s_all (M.1 60) n) = false from Bool.eq_false_iff.mpr (fun z => by have := sb_le z; omega), Bool.false_and, Bool.false_and])
    rw [← this]
    congr 1
    omega
  have mdl : ∀ M', M'.1 60 = M.1 60 → ∃ M2 : g_M, g_fr [64, 68, 69] T9 M' M2 ∧ f_X12_unlike (nI i) (bi o) M' = (match ffn (apP (pO (M.1 60) n h i) (pM (M.1 60) n u) (s_all (M.1 60) n) o) (s_all (M.1 60) n + 1) 0 with | some z => some (nI z, M2) | none => (f_X12_finding 3 M2).bind fun p8 => some (p8.1, p8.2)) := fun M' ed => by
    obtain ⟨N1, f1, f2, f3⟩ := fo_eq hi h1 ed
    have ed2 : N1.1 60 = M.1 60 := (f2.row (by decide) (by simp)).1.trans ed
    obtain ⟨N2, g1, g2⟩ := am_go h1 hu eu (o := o) (fun (x3 : Int32) (M : g_M) => some (x3, M)) (fun (M : g_M) => (f_X12_finding 3 M).bind fun p8 => some (p8.1, p8.2)) 1024 20000000 0 N1 (by omega) (by omega) ed2 f3
    rw [ex] at g2
    refine ⟨N2, (f2.mono (fun _ z => z) (by simp)).trans (g1.mono (by simp) (fun _ z => z)), ?_⟩
    unfold f_X12_unlike
    rw [mh_in (n := h) (M := M') (by rw [ed]; exact e3) (by omega) hi, Option.bind_some, if_neg (by decide), ld_2, Option.bind_some, ed, eu, if_pos p0, f1, Option.bind_some]
    exact g2
  cases hr : ffn (apP (pO (M.1 60) n h i) (pM (M.1 60) n u) (s_all (M.1 60) n) o) (s_all (M.1 60) n + 1) 0 with
  | none =>
    obtain ⟨M2, g1, g2⟩ := mdl (tellM 3 M1) r60
    rw [hr] at cls g2
    exact Op.t3' a3 cls g2 g1 (by decide) (by decide)
  | some z =>
    obtain ⟨M2, g1, g2⟩ := mdl M1 r60
    rw [hr] at cls g2
    exact Op.say' a3 cls g2 g1 (by decide) (by decide)
theorem op_wrongly (ht : t < 64) (H : Rel0 t n l m h c1 c2 c3 M) (x : Int32) : Op (f_X11_wrongly x) (f_X12_wrongly x) t M := op_apart ht H x true
theorem op_lacks (ht : t < 64) (H : Rel0 t n l m h c1 c2 c3 M) (x : Int32) : Op (f_X11_lacks x) (f_X12_lacks x) t M := op_apart ht H x false
end APART
