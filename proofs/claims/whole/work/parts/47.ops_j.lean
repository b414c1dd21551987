section OPSJ
variable {t n l m h c1 c2 c3 : Nat} {M : g_M}
theorem cpi10 {c c' : Nat} : g_cpi M c 10 c' 10 0 0 10 = some (g_uR M c' (va_cpy (M.1 c) (M.1 c') 0 0 10)) := if_neg (by decide)
def mI1 (M : g_M) : g_M := g_u (g_u (g_u (g_u (g_u (g_uR (g_uR (g_uR (g_uR (g_u (g_u (g_u M 8 0 (M.1 3 0)) 8 1 (M.1 3 1)) 8 2 (M.1 3 2)) 9 (va_cpy (M.1 4) (M.1 9) 0 0 10)) 10 (va_cpy (M.1 5) (M.1 10) 0 0 10)) 11 (va_cpy (M.1 6) (M.1 11) 0 0 10)) 12 (va_cpy (M.1 7) (M.1 12) 0 0 10)) 8 3 (M.1 8 3 + 1)) 0 6 (M.1 13 0)) 0 7 (M.1 13 1)) 0 8 (M.1 24 0)) 0 4 1
theorem img_c : f_X11_image M = some (1, mI1 M) := by
  unfold f_X11_image f_X0_takeFrom_8_3
  simp only [Option.bind_some, cpi10]
  rfl
theorem g_fr.uR {S : List Nat} {T : List (Nat × Nat)} {M0 M : g_M} {c : Nat} {v : Nat → Int32} (h : g_fr S T M0 M) (hS : c ∈ S) : g_fr S T M0 (g_uR M c v) := by
  refine h.trans (fun k j a _ => ⟨?_, Eq.refl _⟩)
  show va_up M.1 c v k j = _
  rw [va_up_ne]
  rintro rfl
  exact a hS
theorem img_go (K : g_M → Option (Int32 × g_M)) : ∀ (k f i : Nat) (M : g_M), i + k = 1208 → k < f → ∃ M' : g_M, g_lp1 (F_X12_image_2 K) f (nI i) M = K M' ∧ g_fr [61] [] M M' ∧ ∀ j, M'.1 61 j = if i ≤ j ∧ j < 1208 then M.1 60 j else M.1 61 j
  | 0, f, i, M, hi, hf => by
    obtain ⟨f, rfl⟩ : ∃ f', f = f' + 1 := ⟨f - 1, by omega⟩
    refine ⟨M, ?_, g_fr.rfl, fun j => by rw [if_neg (by omega)]⟩
    rw [lp1_s, F_X12_image_2, if_pos (show (1208 : Int32) ≤ nI i from nI_le (a := 1208) (by omega) (by omega))]
  | k + 1, f, i, M, hi, hf => by
    obtain ⟨f, rfl⟩ : ∃ f', f = f' + 1 := ⟨f - 1, by omega⟩
    obtain ⟨M', m1, m2, m3⟩ := img_go K k f (i + 1) (g_u M 61 i (M.1 60 i)) (by omega) (by omega)
    refine ⟨M', ?_, (g_fr.rfl.uS (by decide)).trans m2, fun j => ?_⟩
    · rw [lp1_s, F_X12_image_2, if_neg (show ¬ (1208 : Int32) ≤ nI i from nI_ge (b := 1208) (by omega) (by omega)), e_ld (by omega) (by omega), Option.bind_some, e_st (by omega) (by omega), Option.bind_some, nI_1, m1]
    · rw [m3 j, show (g_u M 61 i (M.1 60 i)).1 60 = M.1 60 from rfl, show (g_u M 61 i (M.1 60 i)).1 61 = upd (M.1 61) i (M.1 60 i) from rfl]
      by_cases c : j = i
      · subst c
        rw [if_neg (by omega), if_pos (by omega), upd_eq]
      · rw [upd_ne c]
        by_cases d : i + 1 ≤ j ∧ j < 1208
        · rw [if_pos d, if_pos (by omega)]
        · rw [if_neg d, if_neg (by omega)]
theorem und_go (K : g_M → Option (Int32 × g_M)) : ∀ (k f i : Nat) (M : g_M), i + k = 1208 → k < f → ∃ M' : g_M, g_lp1 (F_X12_undo_15 K) f (nI i) M = K M' ∧ g_fr [60] [] M M' ∧ ∀ j, M'.1 60 j = if i ≤ j ∧ j < 1208 then M.1 61 j else M.1 60 j
  | 0, f, i, M, hi, hf => by
    obtain ⟨f, rfl⟩ : ∃ f', f = f' + 1 := ⟨f - 1, by omega⟩
    refine ⟨M, ?_, g_fr.rfl, fun j => by rw [if_neg (by omega)]⟩
    rw [lp1_s, F_X12_undo_15, if_pos (show (1208 : Int32) ≤ nI i from nI_le (a := 1208) (by omega) (by omega))]
  | k + 1, f, i, M, hi, hf => by
    obtain ⟨f, rfl⟩ : ∃ f', f = f' + 1 := ⟨f - 1, by omega⟩
    obtain ⟨M', m1, m2, m3⟩ := und_go K k f (i + 1) (g_u M 60 i (M.1 61 i)) (by omega) (by omega)
    refine ⟨M', ?_, (g_fr.rfl.uS (by decide)).trans m2, fun j => ?_⟩
    · rw [lp1_s, F_X12_undo_15, if_neg (show ¬ (1208 : Int32) ≤ nI i from nI_ge (b := 1208) (by omega) (by omega)), e_ld (by omega) (by omega), Option.bind_some, e_st (by omega) (by omega), Option.bind_some, nI_1, m1]
    · rw [m3 j, show (g_u M 60 i (M.1 61 i)).1 61 = M.1 61 from rfl, show (g_u M 60 i (M.1 61 i)).1 60 = upd (M.1 60) i (M.1 61 i) from rfl]
      by_cases c : j = i
      · subst c
        rw [if_neg (by omega), if_pos (by omega), upd_eq]
      · rw [upd_ne c]
        by_cases d : i + 1 ≤ j ∧ j < 1208
        · rw [if_pos d, if_pos (by omega)]
        · rw [if_neg d, if_neg (by omega)]
theorem X_E.cong {d : Nat → Int32} {n l : Nat} {o0 o1 o2 : Int32} {w r lt lk w' r' lt' lk' : Nat → Int32} (x : X_E d n l o0 o1 o2 w r lt lk) (hn : n ≤ 10) (e : ∀ e, e < 10 → w' e = w e ∧ r' e = r e ∧ lt' e = lt e ∧ lk' e = lk e) : X_E d n l o0 o1 o2 w' r' lt' lk' := by
  obtain ⟨h1, h2, h3, h4, h5, h6⟩ := x
  refine ⟨h1, h2, h3, h4, fun i hi => ?_, fun i hi h10 => ?_⟩
  · rw [(e i (by omega)).1, (e i (by omega)).2.1, (e i (by omega)).2.2.1, (e i (by omega)).2.2.2]
    exact h5 i hi
  · rw [(e i h10).2.1, (e i h10).2.2.1, (e i h10).2.2.2]
    exact h6 i hi h10
theorem ag_all {d d' : Nat → Int32} (e : ∀ k, k < 1208 → d' k = d k) {n l m h : Nat} (b1 : n ≤ 10) (b2 : l ≤ 20) (b3 : m ≤ 8) (b4 : h ≤ 40) : agA d d' n ∧ agL d d' l ∧ agH d d' h ∧ agT d d' m := ⟨fun i hi => ⟨e _ (by omega), e _ (by omega), e _ (by omega)⟩, fun i hi => ⟨e _ (by omega), e _ (by omega)⟩, fun i hi j hj => e _ (by omega), fun i hi => ⟨e _ (by omega), fun k hk => e _ (by omega)⟩⟩
theorem P_D.all {d d' : Nat → Int32} (e : ∀ k, k < 1208 → d' k = d k) {m h : Nat} (b3 : m ≤ 8) (b4 : h ≤ 40) : P_D d d' m h m h := ⟨Nat.le_refl _, Nat.le_refl _, fun t ht => ⟨(e _ (by omega)).symm, fun k hk => (e _ (by omega)).symm⟩, fun i hi j hj => (e _ (by omega)).symm⟩
theorem cpy10 {f g : Nat → Int32} {e : Nat} (h : e < 10) : va_cpy f g 0 0 10 e = f e := by
  rw [pk_cpy_in (by omega) (by omega)]
  congr 1
  omega
theorem op_image (H : Rel0 t n l m h c1 c2 c3 M) : Op f_X11_image f_X12_image t M := by
  obtain ⟨h1, h2, h3, h4, h5, h6, h7, h8, h9, h10, h11⟩ := id H
  obtain ⟨b1, b2, b3, b4, e0, e4, e1, e3, eu, wA, wL, wH, wT⟩ := id h1
  obtain ⟨M2, s1, s2, s3⟩ := img_go (fun (M : g_M) => (some (g_u M 59 2 1)).bind fun M3 => some (1, M3)) 1208 20000000 0 (mI1 M) (by omega) (by omega)
  have fr0 : g_fr [61, 9, 10, 11, 12] [(8, 0), (8, 1), (8, 2), (8, 3), (0, 6), (0, 7), (0, 8), (0, 4), (59, 2)] M (mI1 M) := (((((((((((g_fr.rfl.uT (by decide)).uT (by decide)).uT (by decide)).uR (by decide)).uR (by decide)).uR (by decide)).uR (by decide)).uT (by decide)).uT (by decide)).uT (by decide)).uT (by decide)).uT (by decide)
  have fr : g_fr [61, 9, 10, 11, 12] [(8, 0), (8, 1), (8, 2), (8, 3), (0, 6), (0, 7), (0, 8), (0, 4), (59, 2)] M (g_u M2 59 2 1) := (fr0.trans (s2.mono (by decide) (by simp))).uT (by decide)
  have d1 : ∀ k, k < 1208 → M2.1 61 k = M.1 60 k := fun k hk => by
    rw [s3, if_pos (by omega)]
    rfl
  have r60 : M2.1 60 = M.1 60 := (s2.row (by decide) (by simp)).1
  obtain ⟨aA, aL, aH, aT⟩ := ag_all (d := M.1 60) (d' := M2.1 61) d1 b1 b2 b3 b4
  have R : ∀ c, c ≠ 61 → M2.1 c = (mI1 M).1 c := fun c hc => (s2.row (by simp; omega) (by simp)).1
  refine ⟨(1, mI1 M), (1, g_u M2 59 2 1), img_c, s1, rfl, n, l, m, h, c1, c2, c3, ?_⟩
  exact ⟨keep1 fr (by decide) h1, keep2 fr (by decide) h2, keep3 fr (by decide) h3, keep4 fr (by decide) h1.2.2.1 h4, by
      show X_K (M2.1 60) (M2.1 61) m h 1 (M2.1 0 4) (M2.1 0 6) (M2.1 0 7) (M2.1 0 8) (M2.1 8 0) (M2.1 8 1) (M2.1 8 2) (M2.1 9) (M2.1 10) (M2.1 11) (M2.1 12)
      rw [R 0 (by omega), R 8 (by omega), R 9 (by omega), R 10 (by omega), R 11 (by omega), R 12 (by omega), r60]
      refine ⟨rfl, Or.inr ⟨rfl, n, l, m, h, ?_, ?_, ?_, ?_, ?_, ?_⟩⟩
      · refine h1.agree (d1 0 (by omega)) (d1 1 (by omega)) (d1 3 (by omega)) (d1 4 (by omega)) ?_ aA aL aH aT
        rw [d1 2 (by omega)]
        exact eu
      · exact (h2.agree aA aL).cong b1 (fun e he => ⟨cpy10 he, cpy10 he, cpy10 he, cpy10 he⟩)
      · exact h4.1
      · exact h4.2.1.trans (d1 2 (by omega)).symm
      · exact h3.1
      · exact P_D.all d1 b3 b4, keep6 fr (by decide) h6, (keep7 fr (by decide) h7).mono (by omega), keep8 fr (by decide) h8, (keep9 fr (by decide) h9).mono (by omega), keep10 fr (by decide) h10, keep11 fr (by decide) h11⟩
def mU1 (M : g_M) : g_M := g_u (g_u (g_u (g_u (g_u (g_u (g_uR (g_uR (g_uR (g_uR (g_u (g_u (g_u M 3 0 (M.1 8 0)) 3 1 (M.1 8 1)) 3 2 (M.1 8 2)) 4 (va_cpy (M.1 9) (M.1 4) 0 0 10)) 5 (va_cpy (M.1 10) (M.1 5) 0 0 10)) 6 (va_cpy (M.1 11) (M.1 6) 0 0 10)) 7 (va_cpy (M.1 12) (M.1 7) 0 0 10)) 3 3 (M.1 3 3 + 1)) 13 0 (M.1 0 6)) 13 1 (M.1 0 7)) 13 2 (M.1 13 2 + 1)) 24 0 (M.1 0 8)) 24 1 (M.1 24 1 + 1)
theorem und_c (hk : M.1 0 4 = 1) : f_X11_undo M = some (M.1 0 8, mU1 M) := by
  unfold f_X11_undo f_X0_takeFrom_3_8
  rw [if_neg (by rw [hk]; decide)]
  unfold f_X10_goBack f_X4_goBack
  simp only [Option.bind_some, cpi10]
  rfl
theorem X_H.sub {d : Nat → Int32} {h h' : Nat} {o o' : Int32} {kd ky op f1 f2 co lo : Nat → Int32} (x : X_H d h o kd ky op f1 f2 co lo) (hh : h' ≤ h) (e : o' = nI h') : X_H d h' o' kd ky op f1 f2 co lo := ⟨e, fun i hi => x.2 i (by omega)⟩
theorem X_T.sub {d : Nat → Int32} {m m' : Nat} {o0 o0' o1 : Int32} {ln : Nat → Int32} {cd : Nat → Nat → Int32} (x : X_T d m o0 o1 ln cd) (hh : m' ≤ m) (e : o0' = nI m') : X_T d m' o0' o1 ln cd := ⟨e, x.2.1, fun t ht => x.2.2 t (by omega)⟩
theorem op_undo (ht : t < 64) (H : Rel0 t n l m h c1 c2 c3 M) : Op f_X11_undo f_X12_undo t M := by
  obtain ⟨h1, h2, h3, h4, h5, h6, h7, h8, h9, h10, h11⟩ := id H
  obtain ⟨b1, b2, b3, b4, e0, e4, e1, e3, eu, wA, wL, wH, wT⟩ := id h1
  have hc := h9.lt ht
  rcases h5.2 with k0 | ⟨k1, n', l', m', h', W, E, q6, q7, q8, P⟩
  · refine Op.t3 H ?_ ?_
    · unfold f_X11_undo
      rw [if_pos k0]
    · unfold f_X12_undo
      rw [if_pos (show (tellM 3 M).1 59 2 = 0 from h5.1.trans k0)]
  obtain ⟨w1, w2, w3, w4, y0, y4, y1, y3, yu, -, -, -, -⟩ := id W
  obtain ⟨M2, s1, s2, s3⟩ := und_go (fun (M : g_M) => (g_ld M 60 1208 3).bind fun v3 => some (v3, M)) 1208 20000000 0 (mU1 M) (by omega) (by omega)
  have fr0 : g_fr [60, 4, 5, 6, 7] [(3, 0), (3, 1), (3, 2), (3, 3), (13, 0), (13, 1), (13, 2), (24, 0), (24, 1)] M (mU1 M) := ((((((((((((g_fr.rfl.uT (by decide)).uT (by decide)).uT (by decide)).uR (by decide)).uR (by decide)).uR (by decide)).uR (by decide)).uT (by decide)).uT (by decide)).uT (by decide)).uT (by decide)).uT (by decide)).uT (by decide)
  have fr : g_fr [60, 4, 5, 6, 7] [(3, 0), (3, 1), (3, 2), (3, 3), (13, 0), (13, 1), (13, 2), (24, 0), (24, 1)] M M2 := fr0.trans (s2.mono (by decide) (by simp))
  have d1 : ∀ k, k < 1208 → M2.1 60 k = M.1 61 k := fun k hk => by
    rw [s3, if_pos (by omega)]
    rfl
  have R : ∀ c, c ≠ 60 → M2.1 c = (mU1 M).1 c := fun c hc => (s2.row (by simp; omega) (by simp)).1
  have r61 : M2.1 61 = M.1 61 := R 61 (by omega)
  obtain ⟨aA, aL, aH, aT⟩ := ag_all (d := M.1 61) (d' := M2.1 60) d1 w1 w2 w3 w4
  have bH : agH (M.1 60) (M2.1 60) h' := fun i hi j hj => (aH i hi j hj).trans (P.2.2.2 i hi j hj).symm
  have bT : agT (M.1 60) (M2.1 60) m' := fun i hi => ⟨(aT i hi).1.trans (P.2.2.1 i hi).1.symm, fun k hk => ((aT i hi).2 k hk).trans ((P.2.2.1 i hi).2 k hk).symm⟩
  have x4 : X_T (M2.1 60) m' (M2.1 13 0) (M2.1 13 1) (M2.1 14) (fun t => M2.1 (16 + t)) := by
    rw [show M2.1 13 0 = M.1 0 6 by rw [R 13 (by omega)]; rfl, show M2.1 14 = M.1 14 by rw [R 14 (by omega)]; rfl]
    refine (((h4.sub P.1 q6).agree bT ?_).cong (fun q hq => ?_))
    · rw [R 13 (by omega), d1 2 (by omega)]
      exact q7
    · have hq8 : q < 8 := by omega
      refine (fr.row (k := 16 + q) ?_ ?_).1
      · simp
        omega
      · simp
        omega
  refine ⟨(M.1 0 8, mU1 M), (M2.1 60 3, M2), und_c k1, ?_, ?_, n', l', m', h', c1 + 1, c2 + 1, c3 + 1, ?_⟩
  · unfold f_X12_undo
    dsimp only
    rw [if_neg (show ¬ (mU1 M).1 59 2 = 0 by rw [show (mU1 M).1 59 2 = 1 from h5.1.trans k1]; decide)]
    refine Eq.trans s1 ?_
    rw [ld_3, Option.bind_some]
  · rw [d1 3 (by omega), y3]
    exact q8
  exact ⟨W.agree (d1 0 (by omega)) (d1 1 (by omega)) (d1 3 (by omega)) (d1 4 (by omega)) (by rw [d1 2 (by omega)]; exact yu) aA aL aH aT, by
      show X_E (M2.1 60) n' l' (M2.1 3 0) (M2.1 3 1) (M2.1 3 2) (M2.1 4) (M2.1 5) (M2.1 6) (M2.1 7)
      rw [R 3 (by omega), R 4 (by omega), R 5 (by omega), R 6 (by omega), R 7 (by omega)]
      exact (E.agree aA aL).cong w1 (fun e he => ⟨cpy10 he, cpy10 he, cpy10 he, cpy10 he⟩), by
      show X_H (M2.1 60) h' (M2.1 24 0) (M2.1 25) (M2.1 26) (M2.1 27) (M2.1 28) (M2.1 29) (M2.1 30) (M2.1 31)
      rw [R 24 (by omega), R 25 (by omega), R 26 (by omega), R 27 (by omega), R 28 (by omega), R 29 (by omega), R 30 (by omega), R 31 (by omega)]
      exact (h3.sub P.2.1 q8).agree bH, x4, by
      show X_K (M2.1 60) (M2.1 61) m' h' (M2.1 59 2) (M2.1 0 4) (M2.1 0 6) (M2.1 0 7) (M2.1 0 8) (M2.1 8 0) (M2.1 8 1) (M2.1 8 2) (M2.1 9) (M2.1 10) (M2.1 11) (M2.1 12)
      rw [R 59 (by omega), R 0 (by omega), R 8 (by omega), R 9 (by omega), R 10 (by omega), R 11 (by omega), R 12 (by omega), r61]
      exact ⟨h5.1, Or.inr ⟨k1, n', l', m', h', W, E, q6, q7, q8, P_D.all (fun k hk => (d1 k hk).symm) w3 w4⟩⟩, keep6 fr (by decide) h6, (keep7 fr (by decide) h7).mono (by omega), keep8 fr (by decide) h8, by
      show X_C (t + 1) (M2.1 3 3) (M2.1 13 2) (M2.1 24 1) (c1 + 1) (c2 + 1) (c3 + 1)
      rw [R 3 (by omega), R 13 (by omega), R 24 (by omega)]
      obtain ⟨x1, x2, x3, a, b, c⟩ := h9
      refine ⟨?_, ?_, ?_, by omega, by omega, by omega⟩
      · show M.1 3 3 + 1 = _
        rw [x1, nI_1]
      · show M.1 13 2 + 1 = _
        rw [x2, nI_1]
      · show M.1 24 1 + 1 = _
        rw [x3, nI_1], by
      show X_O (M2.1 60) n' h' (c1 + 1 + (c3 + 1)) (M2.1 36 2) (M2.1 37) (M2.2 38)
      rw [R 36 (by omega), R 37 (by omega), (s2.row (k := 38) (by decide) (by simp)).2]
      exact h10.bump (by omega) (by omega), by
      show X_A (M2.1 60) n' (c1 + 1 + (c2 + 1)) (M2.1 39 1) (M2.1 39 2) (M2.1 40)
      rw [R 39 (by omega), R 40 (by omega)]
      exact h11.bump (by omega) (by omega)⟩
end OPSJ
