section LETS
variable {t n l m h c1 c2 c3 : Nat} {M : g_M}
/-- which sets open a hanging -/
def pO (d : Nat → Int32) (n h i : Nat) (s : Nat) : Bool := s_opens d h (s_keys d (nI s) n) i
theorem isOpen_eq {d : Nat → Int32} {q i : Nat} (hq : q < 1024) (hi : i < 64) (v : VO M d n h q) : f_X5_isOpen (nI i) (nI q) M = some (bi (pO d n h i q)) := by
  unfold f_X5_isOpen
  rw [e_ldl hq (by omega), Option.bind_some]
  have := lg0_bit (M.2 38 q) hi
  rw [v.2 i hi] at this
  unfold pO
  cases c : s_opens d h (s_keys d (nI q) n) i
  · rw [if_pos (this.mpr c)]
    rfl
  · rw [if_neg (fun p => by rw [this.mp p] at c; exact absurd c (by decide))]
    rfl
theorem os_go {d : Nat → Int32} {A i : Nat} (hA : A < 1024) (hi : i < 64) : ∀ (k f s : Nat) (M : g_M), s + k = A + 1 → k < f → (∀ q, sb q A = true → VO M d n h q) → (∀ q, q < s → M.1 42 q = bi (sb q A && pO d n h i q)) → ∃ M' : g_M, g_lp3 (F_X11_openingSets_33 (fun (M : g_M) => some M)) f (nI i) (nI A) (nI s) M = some M' ∧ g_fr [42] [] M M' ∧ ∀ q, q ≤ A → M'.1 42 q = bi (sb q A && pO d n h i q)
  | 0, f, s, M, hs, hf, hV, h42 => by
    obtain ⟨f, rfl⟩ : ∃ f', f = f' + 1 := ⟨f - 1, by omega⟩
    refine ⟨M, ?_, g_fr.rfl, fun q hq => h42 q (by omega)⟩
    rw [lp3_s, F_X11_openingSets_33, if_pos (nI_lt (by omega) (by omega))]
  | k + 1, f, s, M, hs, hf, hV, h42 => by
    obtain ⟨f, rfl⟩ : ∃ f', f = f' + 1 := ⟨f - 1, by omega⟩
    have hs2 : s < 1024 := by omega
    obtain ⟨M', m1, m2, m3⟩ := os_go hA hi k f (s + 1) (g_u M 42 s (bi (sb s A && pO d n h i s))) (by omega) (by omega) hV (fun q hq => by
      show upd (M.1 42) s _ q = _
      by_cases c : q = s
      · subst c
        exact upd_eq
      · exact (upd_ne c).trans (h42 q (by omega)))
    refine ⟨M', ?_, (g_fr.rfl.uS (by decide)).trans m2, m3⟩
    rw [lp3_s, F_X11_openingSets_33, if_neg (nI_nlt (by omega) (by omega)), g_bz0, g_bz1, Option.bind_some, Option.bind_some, e_st hs2 (by omega), e_st hs2 (by omega), Option.bind_some, Option.bind_some, nI_1, ← m1]
    by_cases cs : sb s A = true
    · rw [if_pos ((sb_I hs2 hA).mpr cs), isOpen_eq hs2 hi (hV s cs), Option.bind_some, cs, Bool.true_and]
      cases pO d n h i s
      · rw [if_pos ((bi_0 false).mpr rfl)]
        rfl
      · rw [if_neg (fun q => absurd ((bi_0 true).mp q) (by decide))]
        rfl
    · rw [if_neg (fun q => cs ((sb_I hs2 hA).mp q)), Bool.eq_false_iff.mpr cs, Bool.false_and]
      rfl
theorem os_eq (H : Rel0 t n l m h c1 c2 c3 M) (ht : t < 64) {i : Nat} (hi : i < h) : ∃ M' : g_M, f_X11_openingSets (nI i) M = some M' ∧ Rel0 t n l m h c1 c2 c3 M' ∧ M'.1 60 = M.1 60 ∧ FC M' 41 42 (s_all (M.1 60) n) (pO (M.1 60) n h i) := by
  have b1 := H.1.1
  have b4 := H.1.2.2.2.1
  have hA := all_1024 (M.1 60) b1
  obtain ⟨M1, a1, a2, a3, a4⟩ := fresh_eq H ht
  have r60 : M1.1 60 = M.1 60 := (a2.row (by decide) (by decide)).1
  obtain ⟨M2, m1, m2, m3⟩ := os_go (n := n) (h := h) (d := M.1 60) hA (show i < 64 by omega) (s_all (M.1 60) n + 1) 20000000 0 (g_u M1 41 1 (nI (s_all (M.1 60) n))) (by omega) (by omega) a4 (fun q hq => absurd hq (by omega))
  have pr := present_eq a3.1 a3.2.1
  rw [r60] at pr
  have fr : g_fr [42] [(41, 1)] M1 M2 := (g_fr.rfl.uT (by decide)).trans (m2.mono (by decide) (by simp))
  refine ⟨M2, ?_, a3.keep fr (by decide) (by decide), ((fr.row (by decide) (by decide)).1).trans r60, (m2.at (by decide) (by simp)).trans rfl, m3⟩
  unfold f_X11_openingSets
  rw [a1, Option.bind_some, pr, Option.bind_some, Option.bind_some]
  exact m1
theorem fo_go {d : Nat → Int32} {A i : Nat} (hA : A < 1024) (hi : i < h) (W : W_D d n l m h) : ∀ (k f s : Nat) (M : g_M), s + k = 1024 → k < f → M.1 60 = d → (∀ q, q < s → M.1 64 q = bi (sb q A && pO d n h i q)) → ∃ M' : g_M, g_lp3 (F_X12_findOpens_7 (fun (M : g_M) => some M)) f (nI i) (nI A) (nI s) M = some M' ∧ g_fr [64, 68, 69] [] M M' ∧ FM M' A (pO d n h i)
  | 0, f, s, M, hs, hf, ed, h64 => by
    obtain ⟨f, rfl⟩ : ∃ f', f = f' + 1 := ⟨f - 1, by omega⟩
    have : s = 1024 := by omega
    subst this
    refine ⟨M, ?_, g_fr.rfl, h64⟩
    rw [lp3_s, F_X12_findOpens_7, if_pos (by decide)]
  | k + 1, f, s, M, hs, hf, ed, h64 => by
    obtain ⟨f, rfl⟩ : ∃ f', f = f' + 1 := ⟨f - 1, by omega⟩
    obtain ⟨b1, b2, b3, b4, e0, e4, e1, e3, eu, wA, wL, wH, wT⟩ := id W
    have hs2 : s < 1024 := by omega
    have next : ∀ M2 : g_M, g_fr [68, 69] [] M M2 → F_X12_findOpens_7 (fun (M : g_M) => some M) (g_lp3 (F_X12_findOpens_7 (fun (M : g_M) => some M)) f) (nI i) (nI A) (nI s) M = g_lp3 (F_X12_findOpens_7 (fun (M : g_M) => some M)) f (nI i) (nI A) (nI (s + 1)) (g_u M2 64 s (bi (sb s A && pO d n h i s))) → ∃ M' : g_M, g_lp3 (F_X12_findOpens_7 (fun (M : g_M) => some M)) (f + 1) (nI i) (nI A) (nI s) M = some M' ∧ g_fr [64, 68, 69] [] M M' ∧ FM M' A (pO d n h i) := by
      intro M2 q1 q2
      obtain ⟨M', m1, m2, m3⟩ := fo_go hA hi W k f (s + 1) (g_u M2 64 s (bi (sb s A && pO d n h i s))) (by omega) (by omega) ((q1.row (by decide) (by simp)).1.trans ed) (fun q hq => by
        show upd (M2.1 64) s _ q = _
        by_cases c : q = s
        · subst c
          exact upd_eq
        · rw [upd_ne c, (q1.row (k := 64) (by decide) (by simp)).1]
          exact h64 q (by omega))
      exact ⟨M', by rw [lp3_s, q2]; exact m1, ((q1.mono (by decide) (by simp)).uS (by decide)).trans m2, m3⟩
    by_cases cs : sb s A = true
    · obtain ⟨M2, a1, a2⟩ := ob_eq b4 e3 wH (s_keys d (nI s) n) (M := M) ed hi
      refine next M2 a2 ?_
      have km := km_eq (M := M) (n := n) (l := l) (m := m) (h := h) (by rw [ed]; exact W) (nI s)
      rw [ed] at km
      rw [F_X12_findOpens_7, if_neg (show ¬ (1024 : Int32) ≤ nI s from nI_ge (b := 1024) hs2 (by omega)), if_pos ((sb_I hs2 hA).mpr cs), km, Option.bind_some, a1, Option.bind_some, g_bz0, g_bz1, Option.bind_some, Option.bind_some, e_st hs2 (by omega), e_st hs2 (by omega), Option.bind_some, Option.bind_some, nI_1, cs, Bool.true_and]
      unfold pO
      cases s_opens d h (s_keys d (nI s) n) i
      · rw [if_pos ((bi_0 false).mpr rfl)]
        rfl
      · rw [if_neg (fun q => absurd ((bi_0 true).mp q) (by decide))]
        rfl
    · refine next M g_fr.rfl ?_
      rw [F_X12_findOpens_7, if_neg (show ¬ (1024 : Int32) ≤ nI s from nI_ge (b := 1024) hs2 (by omega)), if_neg (fun q => cs ((sb_I hs2 hA).mp q)), g_bz0, Option.bind_some, e_st hs2 (by omega), Option.bind_some, nI_1, Bool.eq_false_iff.mpr cs, Bool.false_and]
      rfl
theorem fo_eq {d : Nat → Int32} {i : Nat} (hi : i < h) (W : W_D d n l m h) (ed : M.1 60 = d) : ∃ M' : g_M, f_X12_findOpens (nI i) M = some M' ∧ g_fr [64, 68, 69] [] M M' ∧ FM M' (s_all d n) (pO d n h i) := by
  have b1 := W.1
  have hA := all_1024 d b1
  obtain ⟨M', m1, m2, m3⟩ := fo_go hA hi W 1024 20000000 0 M (by omega) (by omega) ed (fun q hq => absurd hq (by omega))
  refine ⟨M', ?_, m2, m3⟩
  unfold f_X12_findOpens
  rw [all_eq b1 (by rw [ed]; exact W.2.2.2.2.1), Option.bind_some, ed]
  exact m1
/-- both tell from the same list -/
theorem Op.listed {a b : g_M → Option (Int32 × g_M)} {M1 M2 M3 : g_M} {L : List Nat} (H : Rel0 t n l m h c1 c2 c3 M1) {x : Int32} (ha : a M = (if x = -1 then some (nI L.length, M1) else if x.toNatClampNeg < L.length then some (nI (L.getD x.toNatClampNeg 0), M1) else ((f_X2_tell (-1000000004) M1).bind fun p2 => some (p2.1, p2.2)))) (hb : ∀ M', M'.1 60 = M1.1 60 → ∃ M'', g_fr [64, 65, 68, 69] [(59, 6), (59, 7), (59, 8), (59, 9), (59, 10), (59, 11), (59, 12), (59, 13), (59, 14), (59, 15), (59, 16)] M' M'' ∧ b M' = (if x = -1 then some (nI L.length, M'') else if x.toNatClampNeg < L.length then some (nI (L.getD x.toNatClampNeg 0), M'') else ((f_X12_finding 3 M'').bind fun p2 => some (p2.1, p2.2)))) : Op a b t M := by
  by_cases c : x = -1
  · obtain ⟨M'', f1, f2⟩ := hb M1 rfl
    rw [if_pos c] at ha f2
    exact Op.say' H ha f2 f1 (by decide) (by decide)
  · by_cases e : x.toNatClampNeg < L.length
    · obtain ⟨M'', f1, f2⟩ := hb M1 rfl
      rw [if_neg c, if_pos e] at ha f2
      exact Op.say' H ha f2 f1 (by decide) (by decide)
    · obtain ⟨M'', f1, f2⟩ := hb (tellM 3 M1) rfl
      rw [if_neg c, if_neg e] at ha f2
      exact Op.t3' H ha f2 f1 (by decide) (by decide)
theorem lcl (H : Rel0 t n l m h c1 c2 c3 M) {A : Nat} {p : Nat → Bool} (hA : A < 1024) (hF : FC M 41 42 A p) {x : Int32} (hx : -1 ≤ x) {k : Int32} (hk : k = 0 ∨ k = 1) : ∃ M1 : g_M, Rel0 t n l m h c1 c2 c3 M1 ∧ M1.1 60 = M.1 60 ∧ f_X11_listed_0_41 x k M = (if x = -1 then some (nI (kl p A k).length, M1) else if x.toNatClampNeg < (kl p A k).length then some (nI ((kl p A k).getD x.toNatClampNeg 0), M1) else ((f_X2_tell (-1000000004) M1).bind fun p2 => some (p2.1, p2.2))) := by
  rcases hk with rfl | rfl
  · obtain ⟨M1, a1, a2, a3⟩ := fl_c hA (by decide) (by decide) hF
    refine ⟨M1, H.keep a2 (by decide) (by decide), (a2.row (by decide) (by decide)).1, ?_⟩
    unfold f_X11_listed_0_41 f_X6_findLeast_43_41
    rw [if_pos rfl, Option.bind_some, Gl41, a1, Option.bind_some, list_41, list_c a3 (kl_252 hA 0) hx]
  · obtain ⟨M1, a1, a2, a3⟩ := fm_c hA (by decide) (by decide) hF
    refine ⟨M1, H.keep a2 (by decide) (by decide), (a2.row (by decide) (by decide)).1, ?_⟩
    unfold f_X11_listed_0_41 f_X6_findMost_43_41
    rw [if_neg (by decide), Option.bind_some, Gm41, a1, Option.bind_some, list_41, list_c a3 (kl_252 hA 1) hx]
theorem op_byH (ht : t < 64) (H : Rel0 t n l m h c1 c2 c3 M) (x y k : Int32) (hk : k = 0 ∨ k = 1) : Op (fun M => (f_X11_listedByHanging x y k M).bind fun p1 => some (p1.1, p1.2)) (fun M => (f_X12_byHanging x k y M).bind fun p1 => some (p1.1, p1.2)) t M := by
  have eta : ∀ o : Option (Int32 × g_M), (o.bind fun p1 => some (p1.1, p1.2)) = o := fun o => by cases o <;> rfl
  simp only [eta]
  obtain ⟨h1, h2, h3, h4, h5, h6, h7, h8, h9, h10, h11⟩ := id H
  obtain ⟨b1, b2, b3, b4, e0, e4, e1, e3, eu, wA, wL, wH, wT⟩ := id h1
  rcases ix x (n := h) (by omega) with ho | ⟨i, hi, rfl⟩
  · refine Op.t0 H ?_ ?_
    · unfold f_X11_listedByHanging
      rw [hh_out h3.1 ho, Option.bind_some, if_pos rfl]
      rfl
    · unfold f_X12_byHanging
      rw [mh_out (n := h) (M := tellM 0 M) e3 (by omega) ho, Option.bind_some, if_pos rfl]
      rfl
  by_cases hx : -1 ≤ y
  · have hA := all_1024 (M.1 60) b1
    obtain ⟨M0, o1, o2, o3, o4⟩ := os_eq H ht hi
    obtain ⟨M1, g1, g2, g3⟩ := lcl o2 hA o4 hx hk
    refine Op.listed (L := kl (pO (M.1 60) n h i) (s_all (M.1 60) n) k) (x := y) g1 ?_ (fun M' e => ?_) (M2 := M) (M3 := M)
    · unfold f_X11_listedByHanging
      rw [hh_in h3.1 hi (by omega), Option.bind_some, if_neg (by decide), if_pos hx, o1, Option.bind_some, eta, g3]
    · have ed : M'.1 60 = M.1 60 := e.trans (g2.trans o3)
      obtain ⟨M2, f1, f2, f3⟩ := fo_eq hi h1 ed
      have ed2 : M2.1 60 = M.1 60 := (f2.row (by decide) (by simp)).1.trans ed
      refine ⟨M2, f2.mono (by decide) (by simp), ?_⟩
      unfold f_X12_byHanging
      rw [mh_in (n := h) (M := M') (by rw [ed]; exact e3) (by omega) hi, Option.bind_some, if_neg (by decide), if_pos hx, f1, Option.bind_some, eta]
      refine told_kl f3 hA ?_ k hx
      rw [all_eq b1 (by rw [ed2]; exact e0), ed2]
  · refine Op.t0 H ?_ ?_
    · unfold f_X11_listedByHanging
      rw [hh_in h3.1 hi (by omega), Option.bind_some, if_neg (by decide), if_neg hx]
      rfl
    · unfold f_X12_byHanging
      rw [mh_in (n := h) (M := tellM 0 M) e3 (by omega) hi, Option.bind_some, if_neg (by decide), if_neg hx]
      rfl
theorem op_lets (ht : t < 64) (H : Rel0 t n l m h c1 c2 c3 M) (x y : Int32) : Op (f_X11_lets x y) (f_X12_lets x y) t M := op_byH ht H x y 0 (Or.inl rfl)
theorem op_shut (ht : t < 64) (H : Rel0 t n l m h c1 c2 c3 M) (x y : Int32) : Op (f_X11_shut x y) (f_X12_shut x y) t M := op_byH ht H x y 1 (Or.inr rfl)
end LETS
