section BUILDM
variable {t n l m h c1 c2 c3 : Nat} {M : g_M} {d : Nat → Int32}
theorem mf_go {A : Nat} {p : Nat → Bool} (hA : A < 1024) (K : Int32 → g_M → Option (Int32 × g_M)) : ∀ (k f i : Nat) (N : g_M), i + k = (kl p A 1).length → k < f → FM N A p → f_X12_all N = some (nI A) → (∀ z, z < i → N.1 70 z = nI ((kl p A 1).getD z 0)) → ∃ N' : g_M, g_lp2 (F_X12_build_80 K) f (nI (kl p A 1).length) (nI i) N = K (nI (kl p A 1).length) N' ∧ g_fr [70] [] N N' ∧ ∀ z, z < (kl p A 1).length → N'.1 70 z = nI ((kl p A 1).getD z 0)
  | 0, f, i, N, hi, hf, hF, ha, h70 => by
    obtain ⟨f, rfl⟩ : ∃ f', f = f' + 1 := ⟨f - 1, by omega⟩
    have hl := kl_252 (p := p) hA 1
    refine ⟨N, ?_, g_fr.rfl, fun z hz => h70 z (by omega)⟩
    rw [lp2_s, F_X12_build_80, if_pos (nI_le (by omega) (by omega))]
  | k + 1, f, i, N, hi, hf, hF, ha, h70 => by
    obtain ⟨f, rfl⟩ : ∃ f', f = f' + 1 := ⟨f - 1, by omega⟩
    have hl := kl_252 (p := p) hA 1
    have fd : f_X12_find 1 (nI i) N = some (nI ((kl p A 1).getD i 0)) := by
      rw [find_kl hF hA ha 1 (by
        rw [i_le, nI_toInt (by omega)]
        have : (-1 : Int32).toInt = -1 := by decide
        omega)]
      unfold ans
      rw [if_neg (fun q => m1_ne (by omega) q.symm), nI_clamp (by omega), if_pos (by omega)]
    have fr1 : g_fr [70] [] N (g_u N 70 i (nI ((kl p A 1).getD i 0))) := g_fr.rfl.uS (by decide)
    obtain ⟨N', m1, m2, m3⟩ := mf_go hA K k f (i + 1) (g_u N 70 i (nI ((kl p A 1).getD i 0))) (by omega) (by omega) hF ha (fun z hz => by
      show upd (N.1 70) i _ z = _
      by_cases c : z = i
      · subst c
        exact upd_eq
      · exact (upd_ne c).trans (h70 z (by omega)))
    refine ⟨N', ?_, fr1.trans m2, m3⟩
    rw [lp2_s, F_X12_build_80, if_neg (nI_ge (by omega) (by omega)), fd, Option.bind_some, e_st (by omega) (by omega), Option.bind_some, nI_1, m1]
theorem mz_go (K : Int32 → g_M → Option (Int32 × g_M)) (x1 : Int32) : ∀ (k f e : Nat) (N : g_M), e + k = 10 → k < f → N.1 60 = zR d e → ∃ N' : g_M, g_lp2 (F_X12_build_105 K) f x1 (nI e) N = K x1 N' ∧ g_fr [60] [] N N' ∧ N'.2 = N.2 ∧ N'.1 60 = zR d 10
  | 0, f, e, N, he, hf, ed => by
    obtain ⟨f, rfl⟩ : ∃ f', f = f' + 1 := ⟨f - 1, by omega⟩
    have : e = 10 := by omega
    subst this
    refine ⟨N, ?_, g_fr.rfl, rfl, ed⟩
    rw [lp2_s, F_X12_build_105, if_pos (by decide)]
  | k + 1, f, e, N, he, hf, ed => by
    obtain ⟨f, rfl⟩ : ∃ f', f = f' + 1 := ⟨f - 1, by omega⟩
    have row : upd (N.1 60) (30 + e) 0 = zR d (e + 1) := by
      rw [ed]
      funext j
      unfold zR
      by_cases c : j = 30 + e
      · subst c
        rw [upd_eq, if_pos (by omega)]
      · rw [upd_ne c]
        by_cases q : 30 ≤ j ∧ j < 30 + e
        · rw [if_pos q, if_pos (by omega)]
        · rw [if_neg q, if_neg (by omega)]
    have fr1 : g_fr [60] [] N (g_u N 60 (30 + e) 0) := g_fr.rfl.uS (by decide)
    obtain ⟨N', m1, m2, m3, m4⟩ := mz_go K x1 k f (e + 1) (g_u N 60 (30 + e) 0) (by omega) (by omega) row
    refine ⟨N', ?_, fr1.trans m2, m3, m4⟩
    rw [lp2_s, F_X12_build_105, if_neg (show ¬ (10 : Int32) ≤ nI e from nI_ge (b := 10) (by omega) (by omega)), st_30 (by omega), Option.bind_some, nI_1, m1]
theorem dH_c3 {K a1 a2 a3 : Int32} {h : Nat} : dH d h K a1 a2 a3 3 = nI (h + 1) := upd_eq
theorem bL_3 {A : Nat} {L : List Nat} (hn : n ≤ 10) (e0 : d 0 = nI n) (e3 : d 3 = nI h) : ∀ i, (bL n h A L d i) 0 = nI n ∧ (bL n h A L d i) 3 = nI (h + i)
  | 0 => ⟨e0, e3⟩
  | i + 1 => by
    have ih := bL_3 (A := A) (L := L) hn e0 e3 i
    refine ⟨?_, ?_⟩
    · show gR _ i (dH (bL n h A L d i) (h + i) 1 (-1) (-1) (nI i)) n 0 = _
      rw [gR_ne (by omega), dH_ne (by omega) (by omega)]
      exact ih.1
    · show gR _ i (dH (bL n h A L d i) (h + i) 1 (-1) (-1) (nI i)) n 3 = _
      rw [gR_ne (by omega), dH_c3]
      rfl
theorem ml2_go {A : Nat} {L : List Nat} (hn : n ≤ 10) (hL : L.length ≤ 24) (hh : h + L.length ≤ 40) (e0 : d 0 = nI n) (e3 : d 3 = nI h) (K : Int32 → Int32 → g_M → Option (Int32 × g_M)) : ∀ (k f i : Nat) (N : g_M), i + k = L.length → k < f → (∀ z, z < L.length → N.1 70 z = nI (L.getD z 0)) → N.1 60 = bL n h A L d i → ∃ N' : g_M, g_lp4 (F_X12_build_142 K) f (nI L.length) (nI h) (nI A) (nI i) N = K (nI L.length) (nI h) N' ∧ g_fr [60] [] N N' ∧ N'.2 = N.2 ∧ N'.1 60 = bL n h A L d L.length
  | 0, f, i, N, hi, hf, h70, ed => by
    obtain ⟨f, rfl⟩ : ∃ f', f = f' + 1 := ⟨f - 1, by omega⟩
    have e : L.length = i := by omega
    refine ⟨N, ?_, g_fr.rfl, rfl, by rw [e]; exact ed⟩
    rw [lp4_s, F_X12_build_142, if_pos (nI_le (by omega) (by omega))]
  | k + 1, f, i, N, hi, hf, h70, ed => by
    obtain ⟨f, rfl⟩ : ∃ f', f = f' + 1 := ⟨f - 1, by omega⟩
    have b3 := bL_3 (A := A) (L := L) hn e0 e3 i
    have hg := hangs_eq (M := N) (h := h + i) (by omega) (by rw [ed]; exact b3.2) (K := 1) (a1 := -1) (a2 := -1) (a3 := nI i)
    have fr1 : g_fr [60] [] N (mH2 (h + i) 1 (-1) (-1) (nI i) N) := ((((g_fr.rfl.uS (by decide)).uS (by decide)).uS (by decide)).uS (by decide)).uS (by decide)
    obtain ⟨N2, g1, g2, g3, g4⟩ := mg_go (d := dH (bL n h A L d i) (h + i) 1 (-1) (-1) (nI i)) (i := i) (A := A) (q := L.getD i 0) hn (by omega) (by rw [dH_ne (by omega) (by omega)]; exact b3.1) (fun (x1 : Int32) (x2 : Int32) (x3 : Int32) (x4 : Int32) (M : g_M) => g_lp4 (F_X12_build_142 K) f x1 x2 x3 (x4 + 1) M) (nI L.length) (nI h) n 20000000 0 (mH2 (h + i) 1 (-1) (-1) (nI i) N) (by omega) (by omega) (h70 i (by omega)) (by rw [mH2_60, ed]; rfl)
    obtain ⟨N', m1, m2, m3, m4⟩ := ml2_go hn hL hh e0 e3 K k f (i + 1) N2 (by omega) (by omega) (fun z hz => by
      rw [(g2.row (k := 70) (by decide) (by simp)).1]
      exact h70 z hz) g4
    refine ⟨N', ?_, (fr1.trans g2).trans m2, m3.trans g3, m4⟩
    rw [lp4_s, F_X12_build_142, if_neg (nI_ge (by omega) (by omega)), hg, Option.bind_some]
    refine Eq.trans g1 ?_
    rw [nI_1]
    exact m1
theorem bC_3 {N : Nat} (e3 : d 3 = nI (h + N)) : ∀ j, (bC h N d j) 3 = nI (h + N + j)
  | 0 => e3
  | j + 1 => dH_c3
theorem mc2_go {N : Nat} (h0 : 0 < N) (hN : N ≤ 24) (hh : h + 2 * N ≤ 41) (e3 : d 3 = nI (h + N)) : ∀ (k f j : Nat) (P : g_M), j + 1 + k = N → k < f → P.1 60 = bC h N d j → ∃ P' : g_M, g_lp4 (F_X12_build_223 (fun (x4 : Int32) (M : g_M) => some (x4, M))) f (nI N) (nI h) (nI (lastI h N j)) (nI (j + 1)) P = some (nI (lastI h N (N - 1)), P') ∧ g_fr [60] [] P P' ∧ P'.2 = P.2 ∧ P'.1 60 = bC h N d (N - 1)
  | 0, f, j, P, hj, hf, ed => by
    obtain ⟨f, rfl⟩ : ∃ f', f = f' + 1 := ⟨f - 1, by omega⟩
    have e : N - 1 = j := by omega
    rw [e]
    refine ⟨P, ?_, g_fr.rfl, rfl, ed⟩
    rw [lp4_s, F_X12_build_223, if_pos (nI_le (by omega) (by omega))]
  | k + 1, f, j, P, hj, hf, ed => by
    obtain ⟨f, rfl⟩ : ∃ f', f = f' + 1 := ⟨f - 1, by omega⟩
    have b3 := bC_3 (h := h) e3 j
    have hg := hangs_eq (M := P) (h := h + N + j) (by omega) (by rw [ed]; exact b3) (K := 3) (a1 := nI (lastI h N j)) (a2 := nI (h + (j + 1))) (a3 := -1)
    have fr1 : g_fr [60] [] P (mH2 (h + N + j) 3 (nI (lastI h N j)) (nI (h + (j + 1))) (-1) P) := ((((g_fr.rfl.uS (by decide)).uS (by decide)).uS (by decide)).uS (by decide)).uS (by decide)
    obtain ⟨P', m1, m2, m3, m4⟩ := mc2_go h0 hN hh e3 k f (j + 1) (mH2 (h + N + j) 3 (nI (lastI h N j)) (nI (h + (j + 1))) (-1) P) (by omega) (by omega) (by rw [mH2_60, ed]; rfl)
    refine ⟨P', ?_, fr1.trans m2, m3, m4⟩
    rw [lp4_s, F_X12_build_223, if_neg (nI_ge (by omega) (by omega)), nI_add, hg, Option.bind_some]
    dsimp only
    rw [nI_1]
    exact m1
theorem vr_fr {S : List Nat} {T : List (Nat × Nat)} {M N : g_M} (fr : g_fr (60 :: S) T M N) (e : N.1 60 = d) (e2 : N.2 60 = M.2 60) : g_fr S T (g_uR M 60 d) N := fun k j hk hj => by
  by_cases c : k = 60
  · subst c
    refine ⟨?_, ?_⟩
    · rw [e, vr_60]
    · rw [e2]
      rfl
  · have := fr k j (by simp [c, hk]) hj
    rw [vr_ne c]
    exact this
theorem op_build (ht : t < 64) (H : Rel0 t n l m h c1 c2 c3 M) : Op f_X11_build f_X12_build t M := by
  obtain ⟨h1, h2, h3, h4, h5, h6, h7, h8, h9, h10, h11⟩ := id H
  obtain ⟨b1, b2, b3, b4, e0, e4, e1, e3, eu, wA, wL, wH, wT⟩ := id h1
  have hcl := h9.lt ht
  obtain ⟨-, -, -, hc1, hc2, hc3⟩ := id h9
  rcases eu with ⟨-, eu⟩ | ⟨u, hu, eu⟩
  · refine Op.t4 H ?_ ?_
    · unfold f_X11_build
      rw [h4.2.1, eu, if_neg (by decide)]
    · unfold f_X12_build
      rw [ld_2, Option.bind_some, show (tellM 4 M).1 60 2 = -1 from eu, if_neg (by decide)]
  have p0 : (0 : Int32) ≤ nI u := nI_pos' (by omega)
  have hA := all_1024 (M.1 60) b1
  obtain ⟨M0, o1, o2, o3, o4⟩ := as_eq H ht hu eu
  have e60 : M0.1 60 = M.1 60 := (o3.row (by decide) (by decide)).1
  have ff := ff_eq o4 hA
  have mdl0 : ∀ M', M'.1 60 = M.1 60 → ∃ M2 : g_M, f_X12_findMay M' = some M2 ∧ g_fr [64] T9 M' M2 ∧ FM M2 (s_all (M.1 60) n) (pM (M.1 60) n u) ∧ M2.1 60 = M.1 60 ∧ f_X12_all M2 = some (nI (s_all (M.1 60) n)) ∧ f_X12_firstThatLoses M2 = some (loI (ffn (fal (pM (M.1 60) n u) (s_all (M.1 60) n)) (s_all (M.1 60) n + 1) 0)) := fun M' ed => by
    obtain ⟨M2, f1, f2, f3⟩ := fm_eq h1 hu eu ed
    have ed2 : M2.1 60 = M.1 60 := (f2.row (by decide) (by decide)).1.trans ed
    have al2 : f_X12_all M2 = some (nI (s_all (M.1 60) n)) := by rw [all_eq b1 (by rw [ed2]; exact e0), ed2]
    exact ⟨M2, f1, f2, f3, ed2, al2, fl_eq f3 hA al2⟩
  cases hr : ffn (fal (pM (M.1 60) n u) (s_all (M.1 60) n)) (s_all (M.1 60) n + 1) 0 with
  | some s =>
    rw [hr] at ff
    obtain ⟨i1, i2, i3, i4⟩ := ffn_in hr
    have hz : (lo (pM (M.1 60) n u) (s_all (M.1 60) n) s).getD 0 < 10 := by
      cases q : lo (pM (M.1 60) n u) (s_all (M.1 60) n) s with
      | none => show (0 : Nat) < 10; omega
      | some e => exact lo_lt q
    obtain ⟨M2, g1, g2, g3, g4, g5, g6⟩ := mdl0 (tellM 2 M0) e60
    rw [hr] at g6
    refine Op.t2' o2 ?_ ?_ g2 (by decide) (by decide)
    · unfold f_X11_build
      rw [h4.2.1, eu, if_pos p0, o1, Option.bind_some, ff, Option.bind_some, if_neg (show ¬ mrI (pM (M.1 60) n u) (s_all (M.1 60) n) (some s) < 0 from nI_pos (by omega))]
    · unfold f_X12_build
      rw [ld_2, Option.bind_some, show (tellM 2 M0).1 60 2 = nI u from by rw [show (tellM 2 M0).1 60 = M0.1 60 from rfl, e60]; exact eu, if_pos p0, g1, Option.bind_some, g6, Option.bind_some, if_neg (show ¬ loI (some s) < 0 from nI_pos (by omega))]
  | none =>
    rw [hr] at ff
    obtain ⟨M1, a1, a2, a3⟩ := fm_c hA (by decide) (by decide) o4
    have r1 := o2.keep a2 (by decide) (by decide)
    have r60 : M1.1 60 = M.1 60 := (a2.row (by decide) (by decide)).1.trans e60
    have hl := kl_252 (p := pM (M.1 60) n u) hA 1
    have cls0 : f_X11_build M = (if nI (kl (pM (M.1 60) n u) (s_all (M.1 60) n) 1).length = 0 then ((f_X2_tell (-1000000004) M1).bind fun p7 => some (p7.1, p7.2)) else ((if 24 < nI (kl (pM (M.1 60) n u) (s_all (M.1 60) n) 1).length then (f_X11_build_103 M1) else ((f_X4_hasRoomFor ((2 * nI (kl (pM (M.1 60) n u) (s_all (M.1 60) n) 1).length) - 1) M1).bind fun p5 => (if p5 = 0 then (f_X11_build_103 M1) else ((f_X11_hangSideBySide M1).bind fun p6 => some (p6.1, p6.2))))))) := by
      unfold f_X11_build
      rw [h4.2.1, eu, if_pos p0, o1, Option.bind_some, ff, Option.bind_some, if_pos (show mrI (pM (M.1 60) n u) (s_all (M.1 60) n) none < 0 by show (-1 : Int32) < 0; decide)]
      unfold f_X6_findMost_43_39
      rw [Option.bind_some, Gm39, a1, Option.bind_some, a3.1]
    generalize hLL : kl (pM (M.1 60) n u) (s_all (M.1 60) n) 1 = L at hl a3 cls0
    have mdl1 : ∀ M', M'.1 60 = M.1 60 → ∃ M2 : g_M, g_fr [64] T9 M' M2 ∧ FM M2 (s_all (M.1 60) n) (pM (M.1 60) n u) ∧ M2.1 60 = M.1 60 ∧ f_X12_all M2 = some (nI (s_all (M.1 60) n)) ∧ f_X12_build M' = (if nI L.length = 0 then ((f_X12_finding 3 M2).bind fun p18 => some (p18.1, p18.2)) else ((if 24 < nI L.length then (f_X12_build_72 M2) else ((g_ld M2 60 1208 3).bind fun v6 => (if ((v6 + (2 * nI L.length)) - 1) ≤ 40 then (g_lp2 (F_X12_build_80 (fun (x1 : Int32) (M : g_M) => g_lp2 (F_X12_build_105 (fun (x1 : Int32) (M : g_M) => (g_ld M 60 1208 3).bind fun v10 => (f_X12_all M).bind fun p11 => g_lp4 (F_X12_build_142 (fun (x1 : Int32) (x2 : Int32) (M : g_M) => g_lp4 (F_X12_build_223 (fun (x4 : Int32) (M : g_M) => some (x4, M))) 20000000 x1 x2 x2 1 M)) 20000000 x1 v10 p11 0 M)) 20000000 x1 0 M)) 20000000 (nI L.length) 0 M2) else (f_X12_build_72 M2)))))) := fun M' ed => by
      obtain ⟨M2, g1, g2, g3, g4, g5, g6⟩ := mdl0 M' ed
      rw [hr] at g6
      refine ⟨M2, g2, g3, g4, g5, ?_⟩
      have fd : f_X12_find 1 (-1) M2 = some (nI L.length) := by
        rw [find_kl g3 hA g5 1 (by decide), hLL]
        unfold ans
        rw [if_pos rfl]
      unfold f_X12_build
      rw [ld_2, Option.bind_some, ed, eu, if_pos p0, g1, Option.bind_some, g6, Option.bind_some, if_pos (show loI none < 0 by decide), fd, Option.bind_some]
    by_cases z0 : L.length = 0
    · obtain ⟨M2, g1, g2, g3, g4, g5⟩ := mdl1 (tellM 3 M1) r60
      rw [z0, if_pos (show nI 0 = 0 from rfl)] at cls0 g5
      exact Op.t3' r1 cls0 g5 g1 (by decide) (by decide)
    rw [if_neg (nI_ne0 (by omega) (by omega))] at cls0
    by_cases z24 : 24 < L.length
    · obtain ⟨M2, g1, g2, g3, g4, g5⟩ := mdl1 (tellM 1 M1) r60
      rw [if_pos (show 24 < nI L.length from nI_lt (a := 24) z24 (by omega))] at cls0
      rw [if_neg (nI_ne0 (by omega) (by omega)), if_pos (show 24 < nI L.length from nI_lt (a := 24) z24 (by omega))] at g5
      exact Op.t1' r1 cls0 g5 g1 (by decide) (by decide)
    have n24 : ¬ (24 : Int32) < nI L.length := nI_nlt (a := 24) (by omega) (by omega)
    have e2k : (2 : Int32) * nI L.length - 1 = nI (2 * L.length - 1) := by
      rw [show (2 : Int32) = nI 2 from rfl, pk_mul, show (1 : Int32) = nI 1 from rfl, pk_sub (by omega)]
    have e2m : nI h + (2 : Int32) * nI L.length - 1 = nI (h + 2 * L.length - 1) := by
      rw [show (2 : Int32) = nI 2 from rfl, pk_mul, nI_add, show (1 : Int32) = nI 1 from rfl, pk_sub (by omega)]
    rw [if_neg n24, e2k, room_eq b4 r1.2.2.1.1 (by omega), Option.bind_some] at cls0
    by_cases zr : h + (2 * L.length - 1) ≤ 40
    · rw [if_pos zr, if_neg (by decide)] at cls0
      have rT : Rel0 (t + 1) n l m h c1 c2 c3 M1 := r1.mono (by omega)
      obtain ⟨M2, q1, q2, q3⟩ := er_eq rT (by omega) (by omega)
      rw [r60] at q3
      have s24 : M2.1 24 0 = nI h := by
        rw [(q2.row (k := 24) (by decide) (by decide)).1]
        exact r1.2.2.1.1
      have zs : s_all (zR (M.1 60) 10) n = s_all (M.1 60) n := s_all_cong (fun e he => if_neg (by omega))
      have pr : f_X0_present M2 = some (nI (s_all (M.1 60) n)) := by
        have := present_eq q3.1 q3.2.1
        rw [vr_60, zs] at this
        rw [← this]
        exact (pres_fr (by rw [vr_ne (by decide)]) (by rw [vr_ne (by decide)])).symm
      have lx2 : LX M2 L := a3.keepB (q2.mono (by decide) (by decide))
      obtain ⟨M3, a', k1, k2, k3, k4⟩ := hl_go (d := zR (M.1 60) 10) (A := s_all (M.1 60) n) (a0 := c1 + 1) (c2 := c2) (c3 := c3) (T := t + 1) (n := n) (l := l) (m := m) (h := h) (L := L) (by omega) (by omega) (by omega) (by omega) (by omega) (fun (x2 : Int32) (M : g_M) => g_lp3 (F_X11_hangSideBySide_78 (fun (x3 : Int32) (M : g_M) => some (x3, M))) 20000000 x2 x2 1 M) L.length 20000000 0 M2 (c1 + 1) (by omega) (by omega) lx2 (by omega) q3
      obtain ⟨M4, w1, w2, w3⟩ := hc_go2 (d := bL n h (s_all (M.1 60) n) L (zR (M.1 60) 10) L.length) (a := a') (c2 := c2) (c3 := c3) (T := t + 1) (n := n) (l := l) (m := m) (h := h) (L := L) (by omega) (by omega) (by omega) (by omega) (by omega) (L.length - 1) 20000000 0 M3 (by omega) (by omega) (lx2.keepB k2) k4
      have cls : f_X11_build M = some (nI (lastI h L.length (L.length - 1)), M4) := by
        rw [cls0]
        unfold f_X11_hangSideBySide
        rw [q1, Option.bind_some, pr, Option.bind_some, s24]
        rw [show (0 : Int32) = nI 0 from rfl, k1, show (1 : Int32) = nI (0 + 1) from rfl]
        show (g_lp3 (F_X11_hangSideBySide_78 (fun (x3 : Int32) (M : g_M) => some (x3, M))) 20000000 (nI h) (nI (lastI h L.length 0)) (nI (0 + 1)) M3).bind _ = _
        rw [w1, Option.bind_some]
      have m60 : M4.1 60 = M.1 60 := by
        rw [(w2.row (k := 60) (by decide) (by decide)).1, (k2.row (k := 60) (by decide) (by decide)).1, (q2.row (k := 60) (by decide) (by decide)).1, r60]
      obtain ⟨N1, g1, g2, g3, g4, g5⟩ := mdl1 M4 m60
      have u80 := mf_go (p := pM (M.1 60) n u) hA (fun (x1 : Int32) (M : g_M) => g_lp2 (F_X12_build_105 (fun (x1 : Int32) (M : g_M) => (g_ld M 60 1208 3).bind fun v10 => (f_X12_all M).bind fun p11 => g_lp4 (F_X12_build_142 (fun (x1 : Int32) (x2 : Int32) (M : g_M) => g_lp4 (F_X12_build_223 (fun (x4 : Int32) (M : g_M) => some (x4, M))) 20000000 x1 x2 x2 1 M)) 20000000 x1 v10 p11 0 M)) 20000000 x1 0 M)
      rw [hLL] at u80
      obtain ⟨N2, f1, f2, f3⟩ := u80 L.length 20000000 0 N1 (by omega) (by omega) g2 g4 (fun z hz => absurd hz (by omega))
      have n260 : N2.1 60 = M.1 60 := (f2.row (by decide) (by simp)).1.trans g3
      obtain ⟨N3, v1, v2, v3, v4⟩ := mz_go (d := M.1 60) (fun (x1 : Int32) (M : g_M) => (g_ld M 60 1208 3).bind fun v10 => (f_X12_all M).bind fun p11 => g_lp4 (F_X12_build_142 (fun (x1 : Int32) (x2 : Int32) (M : g_M) => g_lp4 (F_X12_build_223 (fun (x4 : Int32) (M : g_M) => some (x4, M))) 20000000 x1 x2 x2 1 M)) 20000000 x1 v10 p11 0 M) (nI L.length) 10 20000000 0 N2 (by omega) (by omega) (by
        rw [n260]
        funext j
        unfold zR
        rw [if_neg (by omega)])
      have z0' : zR (M.1 60) 10 0 = nI n := (if_neg (by omega)).trans e0
      have z3' : zR (M.1 60) 10 3 = nI h := (if_neg (by omega)).trans e3
      obtain ⟨N4, x1, x2, x3, x4⟩ := ml2_go (d := zR (M.1 60) 10) (A := s_all (M.1 60) n) (L := L) b1 (by omega) (show h + L.length ≤ 40 by omega) z0' z3' (fun (x1 : Int32) (x2 : Int32) (M : g_M) => g_lp4 (F_X12_build_223 (fun (x4 : Int32) (M : g_M) => some (x4, M))) 20000000 x1 x2 x2 1 M) L.length 20000000 0 N3 (by omega) (by omega) (fun z hz => by
        rw [(v2.row (k := 70) (by decide) (by simp)).1]
        exact f3 z hz) v4
      obtain ⟨N5, y1, y2, y3, y4⟩ := mc2_go (d := bL n h (s_all (M.1 60) n) L (zR (M.1 60) 10) L.length) (h := h) (N := L.length) (by omega) (by omega) (by omega) (bL_3 b1 z0' z3' L.length).2 (L.length - 1) 20000000 0 N4 (by omega) (by omega) x4
      have mdl : f_X12_build M4 = some (nI (lastI h L.length (L.length - 1)), N5) := by
        rw [g5, if_neg (nI_ne0 (by omega) (by omega)), if_neg n24, ld_3, Option.bind_some, g3, e3, e2m, if_pos (show nI (h + 2 * L.length - 1) ≤ 40 from nI_le (b := 40) (by omega) (by omega))]
        refine Eq.trans f1 (Eq.trans v1 ?_)
        have al3 : f_X12_all N3 = some (nI (s_all (M.1 60) n)) := by
          rw [all_eq b1 (by rw [v4]; exact z0'), v4, zs]
        rw [ld_3, Option.bind_some, al3, Option.bind_some, v4, z3']
        exact Eq.trans x1 y1
      have frN : g_fr [60, 64, 70] T9 M4 N5 := ((((g1.mono (by decide) (fun _ z => z)).trans (f2.mono (by decide) (by simp))).trans (v2.mono (by decide) (by simp))).trans (x2.mono (by decide) (by simp))).trans (y2.mono (by decide) (by simp))
      have e2' : N5.2 60 = M4.2 60 := by
        rw [y3, x3, v3, (f2.row (k := 60) (by decide) (by simp)).2, (g1.row (k := 60) (by decide) (by decide)).2]
      have fin := w3.keep (vr_fr frN y4 e2') (by decide) (by decide)
      exact ⟨_, _, cls, mdl, rfl, _, _, _, _, _, _, _, fin⟩
    · obtain ⟨M2, g1, g2, g3, g4, g5⟩ := mdl1 (tellM 1 M1) r60
      rw [if_neg zr, if_pos rfl] at cls0
      rw [if_neg (nI_ne0 (by omega) (by omega)), if_neg n24, ld_3, Option.bind_some, g3, e3, e2m, if_neg (show ¬ nI (h + 2 * L.length - 1) ≤ 40 from nI_ge (a := 40) (by omega) (by omega))] at g5
      exact Op.t1' r1 cls0 g5 g1 (by decide) (by decide)
end BUILDM
