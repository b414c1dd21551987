section BYTEXT
variable {t n l m h c1 c2 c3 : Nat} {M : g_M}
/-- which sets may by a text -/
def pM (d : Nat → Int32) (n u : Nat) (s : Nat) : Bool := s_may d n u (nI s)
theorem set_and {s A : Nat} (h : sb s A = true) : nI s &&& nI A = nI s := by
  rw [nx_and]
  unfold sb at h
  rw [beq_iff_eq.mp h]
theorem as_go {M0 : g_M} (h1 : W_D (M0.1 60) n l m h) (h2 : X_E (M0.1 60) n l (M0.1 3 0) (M0.1 3 1) (M0.1 3 2) (M0.1 4) (M0.1 5) (M0.1 6) (M0.1 7)) (h4 : X_T (M0.1 60) m (M0.1 13 0) (M0.1 13 1) (M0.1 14) (fun t => M0.1 (16 + t))) {u : Nat} (hu : u < m) (eu : M0.1 60 2 = nI u) (K : Int32 → g_M → Option g_M) (x1 : Int32) : ∀ (k f s : Nat) (M : g_M), s + k = s_all (M0.1 60) n + 1 → k < f → g_fr [40] [(39, 1)] M0 M → (∀ q, q < s → M.1 40 q = bi (sb q (s_all (M0.1 60) n) && pM (M0.1 60) n u q)) → ∃ M' : g_M, g_lp3 (F_X11_allowedSets_45 K) f x1 (nI (s_all (M0.1 60) n)) (nI s) M = K x1 M' ∧ g_fr [40] [] M M' ∧ ∀ q, q ≤ s_all (M0.1 60) n → M'.1 40 q = bi (sb q (s_all (M0.1 60) n) && pM (M0.1 60) n u q)
  | 0, f, s, M, hs, hf, fr, h40 => by
    have hA := all_1024 (M0.1 60) h1.1
    obtain ⟨f, rfl⟩ : ∃ f', f = f' + 1 := ⟨f - 1, by omega⟩
    refine ⟨M, ?_, g_fr.rfl, fun q hq => h40 q (by omega)⟩
    rw [lp3_s, F_X11_allowedSets_45, if_pos (nI_lt (by omega) (by omega))]
  | k + 1, f, s, M, hs, hf, fr, h40 => by
    have hA := all_1024 (M0.1 60) h1.1
    obtain ⟨f, rfl⟩ : ∃ f', f = f' + 1 := ⟨f - 1, by omega⟩
    have hs2 : s < 1024 := by omega
    have fr1 : g_fr [40] [] M (g_u M 40 s (bi (sb s (s_all (M0.1 60) n) && pM (M0.1 60) n u s))) := g_fr.rfl.uS (by decide)
    obtain ⟨M', m1, m2, m3⟩ := as_go h1 h2 h4 hu eu K x1 k f (s + 1) (g_u M 40 s (bi (sb s (s_all (M0.1 60) n) && pM (M0.1 60) n u s))) (by omega) (by omega) (fr.trans (fr1.mono (by decide) (by simp))) (fun q hq => by
      show upd (M.1 40) s _ q = _
      by_cases c : q = s
      · subst c
        exact upd_eq
      · exact (upd_ne c).trans (h40 q (by omega)))
    refine ⟨M', ?_, fr1.trans m2, m3⟩
    have e60 : M.1 60 = M0.1 60 := (fr.row (by decide) (by decide)).1
    have u13 : M.1 13 1 = nI u := by
      rw [(fr.row (k := 13) (by decide) (by decide)).1, h4.2.1]
      exact eu
    rw [lp3_s, F_X11_allowedSets_45, if_neg (nI_nlt (by omega) (by omega)), g_bz0, g_bz1, Option.bind_some, Option.bind_some, e_st hs2 (by omega), e_st hs2 (by omega), Option.bind_some, Option.bind_some, nI_1, ← m1, u13]
    by_cases cs : sb s (s_all (M0.1 60) n) = true
    · have al := allow_eq (M := M) (n := n) (l := l) (m := m) (h := h) (keep1 fr (by decide) h1) (keep2 fr (by decide) h2) (keep4 fr (by decide) h1.2.2.1 h4) hu (S := nI s) (by rw [e60]; exact set_and cs)
      rw [e60] at al
      rw [if_pos ((sb_I hs2 hA).mpr cs), al, Option.bind_some, cs, Bool.true_and]
      unfold pM
      cases s_may (M0.1 60) n u (nI s)
      · rw [if_pos ((bi_0 false).mpr rfl)]
        rfl
      · rw [if_neg (fun q => absurd ((bi_0 true).mp q) (by decide))]
        rfl
    · rw [if_neg (fun q => cs ((sb_I hs2 hA).mp q)), Bool.eq_false_iff.mpr cs, Bool.false_and]
      rfl
theorem va_iff {d : Nat → Int32} {u s : Nat} : (if s &&& s_all d n = s ∧ s_may d n u (nI s) = true then (1 : Int32) else 0) = bi (sb s (s_all d n) && pM d n u s) := by
  unfold pM sb bi
  by_cases c : s &&& s_all d n = s
  · rw [beq_iff_eq.mpr c, Bool.true_and]
    by_cases e : s_may d n u (nI s) = true
    · rw [if_pos ⟨c, e⟩, if_pos e]
    · rw [if_neg (fun q => e q.2), if_neg e]
  · rw [if_neg (fun q => c q.1), beq_eq_false_iff_ne.mpr c, Bool.false_and, if_neg (by decide)]
theorem as_eq (H : Rel0 t n l m h c1 c2 c3 M) (ht : t < 64) {u : Nat} (hu : u < m) (eu : M.1 60 2 = nI u) : ∃ M' : g_M, f_X11_allowedSets M = some M' ∧ Rel0 t n l m h c1 c2 c3 M' ∧ g_fr [40] [(39, 1), (39, 2)] M M' ∧ FC M' 39 40 (s_all (M.1 60) n) (pM (M.1 60) n u) := by
  obtain ⟨h1, h2, h3, h4, h5, h6, h7, h8, h9, h10, h11⟩ := id H
  have hA := all_1024 (M.1 60) h1.1
  have b3 := h1.2.2.1
  have hc := h9.lt ht
  unfold f_X11_allowedSets
  have est : M.1 3 3 + M.1 13 2 = nI (c1 + c2) := by rw [h9.1, h9.2.1, nI_add]
  rw [est]
  by_cases c : M.1 39 2 = nI (c1 + c2)
  · rw [if_pos c]
    have v := (h11.2 c).2
    refine ⟨M, rfl, H, g_fr.rfl, v.1, fun q hq => ?_⟩
    rw [v.2 q hq, eu, nI_clamp (by omega), va_iff]
  · rw [if_neg c, present_eq h1 h2, Option.bind_some, Option.bind_some]
    obtain ⟨M2, m1, m2, m3⟩ := as_go h1 h2 h4 hu eu (fun (x1 : Int32) (M : g_M) => (some (g_u M 39 2 x1)).bind fun M10 => some M10) (nI (c1 + c2)) (s_all (M.1 60) n + 1) 20000000 0 (g_u M 39 1 (nI (s_all (M.1 60) n))) (by omega) (by omega) (g_fr.rfl.uT (by decide)) (fun q hq => absurd hq (by omega))
    have fr : g_fr [40] [(39, 1), (39, 2)] M (g_u M2 39 2 (nI (c1 + c2))) := ((g_fr.rfl.uT (by decide)).trans (m2.mono (by decide) (by simp))).uT (by decide)
    have e60 : (g_u M2 39 2 (nI (c1 + c2))).1 60 = M.1 60 := (fr.row (by decide) (by decide)).1
    have e39 : (g_u M2 39 2 (nI (c1 + c2))).1 39 1 = nI (s_all (M.1 60) n) := (m2.at (k := 39) (i := 1) (by decide) (by simp)).trans rfl
    refine ⟨g_u M2 39 2 (nI (c1 + c2)), m1, ?_, fr, e39, m3⟩
    exact ⟨keep1 fr (by decide) h1, keep2 fr (by decide) h2, keep3 fr (by decide) h3, keep4 fr (by decide) h1.2.2.1 h4, keep5 fr (by decide) h5, keep6 fr (by decide) h6, keep7 fr (by decide) h7, keep8 fr (by decide) h8, keep9 fr (by decide) h9, keep10 fr (by decide) h10, ⟨Or.inr ⟨c1 + c2, Nat.le_refl _, rfl⟩, fun _ => ⟨by rw [e60, eu]; exact fun z => m1_ne (by omega) z.symm, by rw [e60]; exact e39, fun s hs => by
        rw [e60] at hs
        rw [e60, eu, nI_clamp (by omega), va_iff]
        exact m3 s hs⟩⟩⟩
theorem fm_go {d : Nat → Int32} (W : W_D d n l m h) {u : Nat} (hu : u < m) (eu : d 2 = nI u) : ∀ (k f s : Nat) (M : g_M), s + k = 1024 → k < f → M.1 60 = d → (∀ q, q < s → M.1 64 q = bi (sb q (s_all d n) && pM d n u q)) → ∃ M' : g_M, g_lp2 (F_X12_findMay_7 (fun (M : g_M) => some M)) f (nI (s_all d n)) (nI s) M = some M' ∧ g_fr [64] T9 M M' ∧ FM M' (s_all d n) (pM d n u)
  | 0, f, s, M, hs, hf, ed, h64 => by
    obtain ⟨f, rfl⟩ : ∃ f', f = f' + 1 := ⟨f - 1, by omega⟩
    have : s = 1024 := by omega
    subst this
    refine ⟨M, ?_, g_fr.rfl, h64⟩
    rw [lp2_s, F_X12_findMay_7, if_pos (by decide)]
  | k + 1, f, s, M, hs, hf, ed, h64 => by
    obtain ⟨f, rfl⟩ : ∃ f', f = f' + 1 := ⟨f - 1, by omega⟩
    have hA := all_1024 d W.1
    have hs2 : s < 1024 := by omega
    have next : ∀ M2 : g_M, g_fr [] T9 M M2 → F_X12_findMay_7 (fun (M : g_M) => some M) (g_lp2 (F_X12_findMay_7 (fun (M : g_M) => some M)) f) (nI (s_all d n)) (nI s) M = g_lp2 (F_X12_findMay_7 (fun (M : g_M) => some M)) f (nI (s_all d n)) (nI (s + 1)) (g_u M2 64 s (bi (sb s (s_all d n) && pM d n u s))) → ∃ M' : g_M, g_lp2 (F_X12_findMay_7 (fun (M : g_M) => some M)) (f + 1) (nI (s_all d n)) (nI s) M = some M' ∧ g_fr [64] T9 M M' ∧ FM M' (s_all d n) (pM d n u) := by
      intro M2 q1 q2
      obtain ⟨M', m1, m2, m3⟩ := fm_go W hu eu k f (s + 1) (g_u M2 64 s (bi (sb s (s_all d n) && pM d n u s))) (by omega) (by omega) ((q1.row (k := 60) (by decide) (by decide)).1.trans ed) (fun q hq => by
        show upd (M2.1 64) s _ q = _
        by_cases c : q = s
        · subst c
          exact upd_eq
        · rw [upd_ne c, (q1.row (k := 64) (by decide) (by decide)).1]
          exact h64 q (by omega))
      exact ⟨M', by rw [lp2_s, q2]; exact m1, ((q1.mono (by simp) (fun _ z => z)).uS (by decide)).trans m2, m3⟩
    by_cases cs : sb s (s_all d n) = true
    · obtain ⟨M2, a1, a2⟩ := mb_eq W ed hu (nI s)
      refine next M2 a2 ?_
      rw [F_X12_findMay_7, if_neg (show ¬ (1024 : Int32) ≤ nI s from nI_ge (b := 1024) hs2 (by omega)), if_pos ((sb_I hs2 hA).mpr cs), ld_2, Option.bind_some, ed, eu, a1, Option.bind_some, g_bz0, g_bz1, Option.bind_some, Option.bind_some, e_st hs2 (by omega), e_st hs2 (by omega), Option.bind_some, Option.bind_some, nI_1, cs, Bool.true_and]
      unfold pM
      cases s_may d n u (nI s)
      · rw [if_pos ((bi_0 false).mpr rfl)]
        rfl
      · rw [if_neg (fun q => absurd ((bi_0 true).mp q) (by decide))]
        rfl
    · refine next M g_fr.rfl ?_
      rw [F_X12_findMay_7, if_neg (show ¬ (1024 : Int32) ≤ nI s from nI_ge (b := 1024) hs2 (by omega)), if_neg (fun q => cs ((sb_I hs2 hA).mp q)), g_bz0, Option.bind_some, e_st hs2 (by omega), Option.bind_some, nI_1, Bool.eq_false_iff.mpr cs, Bool.false_and]
      rfl
theorem fm_eq {d : Nat → Int32} (W : W_D d n l m h) {u : Nat} (hu : u < m) (eu : d 2 = nI u) (ed : M.1 60 = d) : ∃ M' : g_M, f_X12_findMay M = some M' ∧ g_fr [64] T9 M M' ∧ FM M' (s_all d n) (pM d n u) := by
  obtain ⟨M', m1, m2, m3⟩ := fm_go W hu eu 1024 20000000 0 M (by omega) (by omega) ed (fun q hq => absurd hq (by omega))
  refine ⟨M', ?_, m2, m3⟩
  unfold f_X12_findMay
  rw [all_eq W.1 (by rw [ed]; exact W.2.2.2.2.1), Option.bind_some, ed]
  exact m1
theorem lct (H : Rel0 t n l m h c1 c2 c3 M) {A : Nat} {p : Nat → Bool} (hA : A < 1024) (hF : FC M 39 40 A p) {x : Int32} (hx : -1 ≤ x) {k : Int32} (hk : k = 0 ∨ k = 1) : ∃ M1 : g_M, Rel0 t n l m h c1 c2 c3 M1 ∧ M1.1 60 = M.1 60 ∧ f_X11_listed_0_39 x k M = (if x = -1 then some (nI (kl p A k).length, M1) else if x.toNatClampNeg < (kl p A k).length then some (nI ((kl p A k).getD x.toNatClampNeg 0), M1) else ((f_X2_tell (-1000000004) M1).bind fun p2 => some (p2.1, p2.2))) := by
  rcases hk with rfl | rfl
  · obtain ⟨M1, a1, a2, a3⟩ := fl_c hA (by decide) (by decide) hF
    refine ⟨M1, H.keep a2 (by decide) (by decide), (a2.row (by decide) (by decide)).1, ?_⟩
    unfold f_X11_listed_0_39 f_X6_findLeast_43_39
    rw [if_pos rfl, Option.bind_some, Gl39, a1, Option.bind_some, list_c a3 (kl_252 hA 0) hx]
  · obtain ⟨M1, a1, a2, a3⟩ := fm_c hA (by decide) (by decide) hF
    refine ⟨M1, H.keep a2 (by decide) (by decide), (a2.row (by decide) (by decide)).1, ?_⟩
    unfold f_X11_listed_0_39 f_X6_findMost_43_39
    rw [if_neg (by decide), Option.bind_some, Gm39, a1, Option.bind_some, list_c a3 (kl_252 hA 1) hx]
theorem op_byT (ht : t < 64) (H : Rel0 t n l m h c1 c2 c3 M) (y k : Int32) (hk : k = 0 ∨ k = 1) : Op (fun M => (f_X11_listedByText y k M).bind fun p1 => some (p1.1, p1.2)) (fun M => (f_X12_byText k y M).bind fun p1 => some (p1.1, p1.2)) t M := by
  have eta : ∀ o : Option (Int32 × g_M), (o.bind fun p1 => some (p1.1, p1.2)) = o := fun o => by cases o <;> rfl
  simp only [eta]
  obtain ⟨h1, h2, h3, h4, h5, h6, h7, h8, h9, h10, h11⟩ := id H
  obtain ⟨b1, b2, b3, b4, e0, e4, e1, e3, eu, wA, wL, wH, wT⟩ := id h1
  rcases eu with ⟨-, eu⟩ | ⟨u, hu, eu⟩
  · refine Op.t4 H ?_ ?_
    · unfold f_X11_listedByText
      rw [h4.2.1, eu, if_neg (by decide)]
    · unfold f_X12_byText
      rw [ld_2, Option.bind_some, show (tellM 4 M).1 60 2 = -1 from eu, if_neg (by decide)]
  have p0 : (0 : Int32) ≤ nI u := nI_pos' (by omega)
  by_cases hx : -1 ≤ y
  · have hA := all_1024 (M.1 60) b1
    obtain ⟨M0, o1, o2, o3, o4⟩ := as_eq H ht hu eu
    have e60 : M0.1 60 = M.1 60 := (o3.row (by decide) (by decide)).1
    obtain ⟨M1, g1, g2, g3⟩ := lct o2 hA o4 hx hk
    refine Op.listed (L := kl (pM (M.1 60) n u) (s_all (M.1 60) n) k) (x := y) g1 ?_ (fun M' e => ?_) (M2 := M) (M3 := M)
    · unfold f_X11_listedByText
      rw [h4.2.1, eu, if_pos p0, if_pos hx, o1, Option.bind_some, eta, g3]
    · have ed : M'.1 60 = M.1 60 := e.trans (g2.trans e60)
      obtain ⟨M2, f1, f2, f3⟩ := fm_eq h1 hu eu ed
      have ed2 : M2.1 60 = M.1 60 := (f2.row (by decide) (by decide)).1.trans ed
      refine ⟨M2, f2.mono (by decide) (fun _ z => z), ?_⟩
      unfold f_X12_byText
      rw [ld_2, Option.bind_some, ed, eu, if_pos p0, if_pos hx, f1, Option.bind_some, eta]
      refine told_kl f3 hA ?_ k hx
      rw [all_eq b1 (by rw [ed2]; exact e0), ed2]
  · refine Op.t0 H ?_ ?_
    · unfold f_X11_listedByText
      rw [h4.2.1, eu, if_pos p0, if_neg hx]
    · unfold f_X12_byText
      rw [ld_2, Option.bind_some, show (tellM 0 M).1 60 2 = nI u from eu, if_pos p0, if_neg hx]
theorem op_least (ht : t < 64) (H : Rel0 t n l m h c1 c2 c3 M) (y : Int32) : Op (f_X11_least y) (f_X12_least y) t M := op_byT ht H y 0 (Or.inl rfl)
theorem op_most (ht : t < 64) (H : Rel0 t n l m h c1 c2 c3 M) (y : Int32) : Op (f_X11_most y) (f_X12_most y) t M := op_byT ht H y 1 (Or.inr rfl)
end BYTEXT
