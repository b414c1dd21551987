section SAME
variable {t n l m h c1 c2 c3 : Nat} {M : g_M}
theorem ko_go {f : Nat → Bool} : ∀ (k fu s : Nat) (M : g_M), s + k = 1024 → k < fu → (∀ q, q < 1024 → M.1 64 q = bi (f q)) → (∀ q, q < s → M.1 65 q = bi (f q)) → ∃ M' : g_M, g_lp1 (F_X12_keepOther_2 (fun (M : g_M) => some M)) fu (nI s) M = some M' ∧ g_fr [65] [] M M' ∧ ∀ q, q < 1024 → M'.1 65 q = bi (f q)
  | 0, fu, s, M, hs, hf, h64, h65 => by
    obtain ⟨fu, rfl⟩ : ∃ f', fu = f' + 1 := ⟨fu - 1, by omega⟩
    have : s = 1024 := by omega
    subst this
    refine ⟨M, ?_, g_fr.rfl, h65⟩
    rw [lp1_s, F_X12_keepOther_2, if_pos (by decide)]
  | k + 1, fu, s, M, hs, hf, h64, h65 => by
    obtain ⟨fu, rfl⟩ : ∃ f', fu = f' + 1 := ⟨fu - 1, by omega⟩
    have hs2 : s < 1024 := by omega
    obtain ⟨M', m1, m2, m3⟩ := ko_go (f := f) k fu (s + 1) (g_u M 65 s (bi (f s))) (by omega) (by omega) h64 (fun q hq => by
      show upd (M.1 65) s _ q = _
      by_cases c : q = s
      · subst c
        exact upd_eq
      · exact (upd_ne c).trans (h65 q (by omega)))
    refine ⟨M', ?_, (g_fr.rfl.uS (by decide)).trans m2, m3⟩
    rw [lp1_s, F_X12_keepOther_2, if_neg (show ¬ (1024 : Int32) ≤ nI s from nI_ge (b := 1024) hs2 (by omega)), e_ld hs2 (by omega), Option.bind_some, h64 s hs2, bi_bz, Option.bind_some, e_st hs2 (by omega), Option.bind_some, nI_1, m1]
theorem ko_eq {f : Nat → Bool} (h64 : ∀ q, q < 1024 → M.1 64 q = bi (f q)) : ∃ M' : g_M, f_X12_keepOther M = some M' ∧ g_fr [65] [] M M' ∧ ∀ q, q < 1024 → M'.1 65 q = bi (f q) := ko_go 1024 20000000 0 M (by omega) (by omega) h64 (fun q hq => absurd hq (by omega))
/-- up to k they are alike -/
def al (f g : Nat → Bool) (k : Nat) : Bool := (List.range k).all (fun s => f s == g s)
theorem al_1 {f g : Nat → Bool} {k : Nat} : al f g k = true ↔ ∀ q, q < k → f q = g q := by
  unfold al
  rw [List.all_eq_true]
  constructor
  · intro a q hq
    exact beq_iff_eq.mp (a q (List.mem_range.mpr hq))
  · intro a q hq
    exact beq_iff_eq.mpr (a q (List.mem_range.mp hq))
theorem al_s {f g : Nat → Bool} {k : Nat} : al f g (k + 1) = (al f g k && (f k == g k)) := by
  unfold al
  rw [List.range_succ, List.all_append, List.all_cons, List.all_nil, Bool.and_true]
theorem bi_inj {a b : Bool} : bi a = bi b ↔ a = b := by cases a <;> cases b <;> simp [bi]
theorem io_go {f g : Nat → Bool} (h65 : ∀ q, q < 1024 → M.1 65 q = bi (f q)) (h64 : ∀ q, q < 1024 → M.1 64 q = bi (g q)) : ∀ (k fu s : Nat), s + k = 1024 → k < fu → g_lq2 (F_X12_isAsOther_4 M (fun (x1 : Int32) => (g_bz x1).bind fun z3 => some z3)) fu (bi (al f g s)) (nI s) = some (bi (al f g 1024))
  | 0, fu, s, hs, hf => by
    obtain ⟨fu, rfl⟩ : ∃ f', fu = f' + 1 := ⟨fu - 1, by omega⟩
    have : s = 1024 := by omega
    subst this
    rw [lq2_s, F_X12_isAsOther_4, if_pos (by decide), bi_bz, Option.bind_some]
  | k + 1, fu, s, hs, hf => by
    obtain ⟨fu, rfl⟩ : ∃ f', fu = f' + 1 := ⟨fu - 1, by omega⟩
    have hs2 : s < 1024 := by omega
    have ih := io_go h65 h64 k fu (s + 1) (by omega) (by omega)
    rw [lq2_s, F_X12_isAsOther_4, if_neg (show ¬ (1024 : Int32) ≤ nI s from nI_ge (b := 1024) hs2 (by omega)), nI_1, ← ih, al_s, e_ld hs2 (by omega), e_ld hs2 (by omega), Option.bind_some, Option.bind_some, h65 s hs2, h64 s hs2]
    cases al f g s
    · rw [if_pos ((bi_0 false).mpr rfl), Bool.false_and]
      rfl
    · rw [if_neg (fun q => absurd ((bi_0 true).mp q) (by decide)), Bool.true_and]
      by_cases c : f s = g s
      · rw [if_pos (bi_inj.mpr c), c, beq_self_eq_true]
        rfl
      · rw [if_neg (fun q => c (bi_inj.mp q)), beq_eq_false_iff_ne.mpr c]
        rfl
theorem io_eq {f g : Nat → Bool} (h65 : ∀ q, q < 1024 → M.1 65 q = bi (f q)) (h64 : ∀ q, q < 1024 → M.1 64 q = bi (g q)) : f_X12_isAsOther M = some (bi (al f g 1024)) := io_go h65 h64 1024 20000000 0 (by omega) (by omega)
theorem sa_go {d : Nat → Int32} {A i j : Nat} (hA : A < 1024) (hi : i < 64) (hj : j < 64) (hV : ∀ q, sb q A = true → VO M d n h q) : ∀ (k fu s : Nat), s + k = A + 1 → k < fu → (∀ q, q < s → sb q A = true → pO d n h i q = pO d n h j q) → g_lp4 (F_X11_same_58 (fun (M : g_M) => some (0, M)) (fun (M : g_M) => some (1, M))) fu (nI i) (nI j) (nI A) (nI s) M = some (bi (al (fun s => sb s A && pO d n h i s) (fun s => sb s A && pO d n h j s) 1024), M)
  | 0, fu, s, hs, hf, hq => by
    obtain ⟨fu, rfl⟩ : ∃ f', fu = f' + 1 := ⟨fu - 1, by omega⟩
    have e : al (fun s => sb s A && pO d n h i s) (fun s => sb s A && pO d n h j s) 1024 = true := al_1.mpr (fun q _ => by
      cases c : sb q A
      · rfl
      · rw [Bool.true_and, Bool.true_and]
        exact hq q (by have := sb_le c; omega) c)
    rw [lp4_s, F_X11_same_58, if_pos (nI_lt (by omega) (by omega)), e]
    rfl
  | k + 1, fu, s, hs, hf, hq => by
    obtain ⟨fu, rfl⟩ : ∃ f', fu = f' + 1 := ⟨fu - 1, by omega⟩
    have hs2 : s < 1024 := by omega
    rw [lp4_s, F_X11_same_58, if_neg (nI_nlt (by omega) (by omega)), nI_1]
    by_cases cs : sb s A = true
    · rw [if_pos ((sb_I hs2 hA).mpr cs), isOpen_eq hs2 hi (hV s cs), Option.bind_some, isOpen_eq hs2 hj (hV s cs), Option.bind_some]
      by_cases c : pO d n h i s = pO d n h j s
      · rw [if_pos (bi_inj.mpr c)]
        exact sa_go hA hi hj hV k fu (s + 1) (by omega) (by omega) (fun q hq2 hqA => by
          by_cases e : q = s
          · subst e
            exact c
          · exact hq q (by omega) hqA)
      · rw [if_neg (fun q => c (bi_inj.mp q))]
        have e : al (fun s => sb s A && pO d n h i s) (fun s => sb s A && pO d n h j s) 1024 = false := Bool.eq_false_iff.mpr (fun q => by
          have := al_1.mp q s hs2
          rw [cs, Bool.true_and, Bool.true_and] at this
          exact c this)
        rw [e]
        rfl
    · rw [if_neg (fun q => cs ((sb_I hs2 hA).mp q))]
      exact sa_go hA hi hj hV k fu (s + 1) (by omega) (by omega) (fun q hq2 hqA => by
        by_cases e : q = s
        · subst e
          exact absurd hqA cs
        · exact hq q (by omega) hqA)
theorem op_same (ht : t < 64) (H : Rel0 t n l m h c1 c2 c3 M) (x y : Int32) : Op (f_X11_same x y) (f_X12_same x y) t M := by
  obtain ⟨h1, h2, h3, h4, h5, h6, h7, h8, h9, h10, h11⟩ := id H
  obtain ⟨b1, b2, b3, b4, e0, e4, e1, e3, eu, wA, wL, wH, wT⟩ := id h1
  rcases ix x (n := h) (by omega) with ho | ⟨i, hi, rfl⟩
  · refine Op.t0 H ?_ ?_
    · unfold f_X11_same
      rw [hh_out h3.1 ho, Option.bind_some, if_pos rfl]
      rfl
    · unfold f_X12_same
      rw [mh_out (n := h) (M := tellM 0 M) e3 (by omega) ho, Option.bind_some, if_pos rfl]
      rfl
  rcases ix y (n := h) (by omega) with ho | ⟨j, hj, rfl⟩
  · refine Op.t0 H ?_ ?_
    · unfold f_X11_same
      rw [hh_in h3.1 hi (by omega), Option.bind_some, if_neg (by decide), hh_out h3.1 ho, Option.bind_some, if_pos rfl]
      rfl
    · unfold f_X12_same
      rw [mh_in (n := h) (M := tellM 0 M) e3 (by omega) hi, Option.bind_some, if_neg (by decide), mh_out (n := h) (M := tellM 0 M) e3 (by omega) ho, Option.bind_some, if_pos rfl]
      rfl
  have hA := all_1024 (M.1 60) b1
  obtain ⟨M1, a1, a2, a3, a4⟩ := fresh_eq H ht
  have r60 : M1.1 60 = M.1 60 := (a2.row (by decide) (by decide)).1
  have pr := present_eq a3.1 a3.2.1
  rw [r60] at pr
  obtain ⟨N1, f1, f2, f3⟩ := fo_eq hi h1 r60
  have s60 : N1.1 60 = M.1 60 := (f2.row (by decide) (by simp)).1.trans r60
  obtain ⟨N2, k1, k2, k3⟩ := ko_eq f3
  have t60 : N2.1 60 = M.1 60 := (k2.row (by decide) (by simp)).1.trans s60
  obtain ⟨N3, g1, g2, g3⟩ := fo_eq hj h1 t60
  have k4 : ∀ q, q < 1024 → N3.1 65 q = bi (sb q (s_all (M.1 60) n) && pO (M.1 60) n h i q) := fun q hq => (g2.at (by decide) (by simp)).trans (k3 q hq)
  have io := io_eq k4 g3
  have fr : g_fr [64, 65, 68, 69] [] M1 N3 := ((f2.mono (by decide) (by simp)).trans (k2.mono (by decide) (by simp))).trans (g2.mono (by decide) (by simp))
  refine Op.say' (v := bi (al (fun s => sb s (s_all (M.1 60) n) && pO (M.1 60) n h i s) (fun s => sb s (s_all (M.1 60) n) && pO (M.1 60) n h j s) 1024)) a3 ?_ ?_ fr (by decide) (by simp)
  · unfold f_X11_same
    rw [hh_in h3.1 hi (by omega), Option.bind_some, if_neg (by decide), hh_in h3.1 hj (by omega), Option.bind_some, if_neg (by decide), a1, Option.bind_some, pr, Option.bind_some]
    exact sa_go hA (by omega) (by omega) a4 (s_all (M.1 60) n + 1) 20000000 0 (by omega) (by omega) (fun q hq => absurd hq (by omega))
  · unfold f_X12_same
    rw [mh_in (n := h) (M := M1) (by rw [r60]; exact e3) (by omega) hi, Option.bind_some, if_neg (by decide), mh_in (n := h) (M := M1) (by rw [r60]; exact e3) (by omega) hj, Option.bind_some, if_neg (by decide), f1, Option.bind_some, k1, Option.bind_some, g1, Option.bind_some, io, Option.bind_some]
    generalize al (fun s => sb s (s_all (M.1 60) n) && pO (M.1 60) n h i s) (fun s => sb s (s_all (M.1 60) n) && pO (M.1 60) n h j s) 1024 = z
    cases z
    · rw [if_pos ((bi_0 false).mpr rfl)]
      rfl
    · rw [if_neg (fun q => absurd ((bi_0 true).mp q) (by decide))]
      rfl
end SAME
