section TEXTOP
variable {t n l m h c1 c2 c3 : Nat} {M : g_M}
theorem mem1623 : ∀ m, m < 8 → 16 + m ∈ [14, 16, 17, 18, 19, 20, 21, 22, 23] := by decide
theorem x1623 : ∀ m, m < 8 → 16 + m ≠ 14 ∧ 16 + m ≠ 13 ∧ 16 + m ≠ 33 := by decide
/-- a text more, in the class -/
theorem text_add (hm : m < 8) {len : Nat} (hl : len ≤ 120) (e0 : M.1 13 0 = nI m) (e2 : M.1 32 2 = nI len) : ∃ N : g_M, ((f_X8_clear M).bind fun p2 => (f_X10_add_13_35 (p2.2.1 32 2) p2.2).bind fun p3 => some (p3.1, p3.2)) = some (nI m, N) ∧ g_fr [14, 16, 17, 18, 19, 20, 21, 22, 23] [(33, 1), (13, 0), (13, 1), (13, 2)] M N ∧ (∀ t, t < 8 → t ≠ m → N.1 (16 + t) = M.1 (16 + t) ∧ N.1 14 t = M.1 14 t) ∧ N.1 14 m = nI len ∧ (∀ i, i < len → N.1 (16 + m) i = M.1 35 i) ∧ N.1 33 1 = 0 ∧ N.1 13 0 = nI (m + 1) ∧ N.1 13 2 = M.1 13 2 + 1 ∧ N.1 13 1 = if 0 ≤ M.1 13 1 then M.1 13 1 else nI m := by
  have ne := x1623 m hm
  have cp : g_cpi (g_u M 33 1 0) 35 120 (16 + m) 120 0 0 (nI len) = some (g_uR (g_u M 33 1 0) (16 + m) (va_cpy (M.1 35) ((g_u M 33 1 0).1 (16 + m)) 0 0 len)) := by
    unfold g_cpi
    rw [nI_clamp (by omega), if_neg]
    · rfl
    · have z : (0 : Int32).toNatClampNeg = 0 := by decide
      rw [z]
      rintro (q | q | q | q | q)
      · exact absurd q (by decide)
      · exact absurd q (by decide)
      · exact absurd q (nI_pos (by omega))
      · omega
      · omega
  have fr3 : g_fr [14, 16, 17, 18, 19, 20, 21, 22, 23] [(33, 1), (13, 0), (13, 1), (13, 2)] M (g_uR (g_u M 33 1 0) (16 + m) (va_cpy (M.1 35) ((g_u M 33 1 0).1 (16 + m)) 0 0 len)) := g_fr.uR (g_fr.rfl.uT (by decide)) (mem1623 m hm)
  have r : ∀ k, k ≠ 16 + m → (g_uR (g_u M 33 1 0) (16 + m) (va_cpy (M.1 35) ((g_u M 33 1 0).1 (16 + m)) 0 0 len)).1 k = (g_u M 33 1 0).1 k := fun k hk => if_neg hk
  have rm : (g_uR (g_u M 33 1 0) (16 + m) (va_cpy (M.1 35) ((g_u M 33 1 0).1 (16 + m)) 0 0 len)).1 (16 + m) = va_cpy (M.1 35) ((g_u M 33 1 0).1 (16 + m)) 0 0 len := if_pos rfl
  generalize hA : g_uR (g_u M 33 1 0) (16 + m) (va_cpy (M.1 35) ((g_u M 33 1 0).1 (16 + m)) 0 0 len) = M3 at cp fr3 r rm
  have r13 : M3.1 13 = M.1 13 := r 13 (by omega)
  have r14 : M3.1 14 = M.1 14 := r 14 (by omega)
  have r33 : M3.1 33 1 = 0 := by
    rw [r 33 (by omega)]
    rfl
  have st : g_st M3 14 8 (M3.1 13 0) (nI len) = some (g_u M3 14 m (nI len)) := by rw [r13, e0, e_st hm (by omega)]
  have fin : ∀ N0 : g_M, N0.1 13 0 = nI m → f_X10_add_13_35_41 N0 = some (nI m, g_u (g_u N0 13 2 (N0.1 13 2 + 1)) 13 0 (nI (m + 1))) := fun N0 q => by
    unfold f_X10_add_13_35_41
    rw [Option.bind_some, Option.bind_some, show (g_u N0 13 2 (N0.1 13 2 + 1)).1 13 0 = nI m from q, nI_1]
  have rowN : ∀ (v : Int32) (t : Nat), t < 8 → t ≠ m → (g_u M3 14 m v).1 (16 + t) = M.1 (16 + t) := fun v t ht hne => by
    have ne2 := x1623 t ht
    show (if 16 + t = 14 then _ else M3.1 (16 + t)) = _
    rw [if_neg ne2.1, r (16 + t) (by omega)]
    exact if_neg ne2.2.2
  have key : ((f_X8_clear M).bind fun p2 => (f_X10_add_13_35 (p2.2.1 32 2) p2.2).bind fun p3 => some (p3.1, p3.2)) = ((if 0 ≤ M.1 13 1 then (f_X10_add_13_35_41 (g_u M3 14 m (nI len))) else (f_X10_add_13_35_41 (g_u (g_u M3 14 m (nI len)) 13 1 (nI m)))).bind fun p3 => some (p3.1, p3.2)) := by
    unfold f_X8_clear
    rw [Option.bind_some, Option.bind_some]
    dsimp only
    rw [show (g_u M 33 1 0).1 32 2 = nI len from e2]
    unfold f_X10_add_13_35
    rw [show (g_u M 33 1 0).1 13 0 = nI m from e0, e_in hm (by omega), Option.bind_some, cp, Option.bind_some, st, Option.bind_some, show (g_u M3 14 m (nI len)).1 13 1 = M.1 13 1 from by show M3.1 13 1 = _; rw [r13], show (g_u M3 14 m (nI len)).1 13 0 = nI m from by show M3.1 13 0 = _; rw [r13]; exact e0, Option.bind_some]
  rw [key]
  by_cases c : 0 ≤ M.1 13 1
  · rw [if_pos c, if_pos c, fin _ (by show M3.1 13 0 = _; rw [r13]; exact e0), Option.bind_some]
    refine ⟨_, rfl, ((fr3.uS (by decide)).uT (by decide)).uT (by decide), fun t ht hne => ⟨?_, ?_⟩, ?_, fun i hi => ?_, r33, rfl, ?_, ?_⟩
    · have ne2 := x1623 t ht
      show (if 16 + t = 13 then _ else (if 16 + t = 13 then _ else (g_u M3 14 m (nI len)).1 (16 + t))) = _
      rw [if_neg ne2.2.1, if_neg ne2.2.1]
      exact rowN _ t ht hne
    · show upd (M3.1 14) m (nI len) t = _
      rw [upd_ne hne, r14]
    · show upd (M3.1 14) m (nI len) m = _
      exact upd_eq
    · show (if 16 + m = 13 then _ else (if 16 + m = 13 then _ else (if 16 + m = 14 then _ else M3.1 (16 + m)))) i = _
      rw [if_neg ne.2.1, if_neg ne.2.1, if_neg ne.1, rm, pk_cpy_in (by omega) (by omega), Nat.sub_zero, Nat.zero_add]
    · show M3.1 13 2 + 1 = _
      rw [r13]
    · show M3.1 13 1 = _
      rw [r13]
  · rw [if_neg c, if_neg c, fin _ (by show M3.1 13 0 = _; rw [r13]; exact e0), Option.bind_some]
    refine ⟨_, rfl, (((fr3.uS (by decide)).uT (by decide)).uT (by decide)).uT (by decide), fun t ht hne => ⟨?_, ?_⟩, ?_, fun i hi => ?_, r33, rfl, ?_, rfl⟩
    · have ne2 := x1623 t ht
      show (if 16 + t = 13 then _ else (if 16 + t = 13 then _ else (if 16 + t = 13 then _ else (g_u M3 14 m (nI len)).1 (16 + t)))) = _
      rw [if_neg ne2.2.1, if_neg ne2.2.1, if_neg ne2.2.1]
      exact rowN _ t ht hne
    · show upd (M3.1 14) m (nI len) t = _
      rw [upd_ne hne, r14]
    · show upd (M3.1 14) m (nI len) m = _
      exact upd_eq
    · show (if 16 + m = 13 then _ else (if 16 + m = 13 then _ else (if 16 + m = 13 then _ else (if 16 + m = 14 then _ else M3.1 (16 + m))))) i = _
      rw [if_neg ne.2.1, if_neg ne.2.1, if_neg ne.2.1, if_neg ne.1, rm, pk_cpy_in (by omega) (by omega), Nat.sub_zero, Nat.zero_add]
    · show M3.1 13 2 + 1 = _
      rw [r13]
theorem tx_go {q : Nat} (hm : m < 8) (hq : q ≤ 120) (K : Int32 → g_M → Option (Int32 × g_M)) : ∀ (k f i : Nat) (N : g_M), i + k = q → k < f → N.1 59 4 = nI q → ∃ N' : g_M, g_lp2 (F_X12_text_65 K) f (nI m) (nI i) N = K (nI m) N' ∧ g_fr [60] [] N N' ∧ (∀ k, i ≤ k → k < q → N'.1 60 (248 + 120 * m + k) = N.1 62 k) ∧ ∀ j, j < 248 + 120 * m + i ∨ 248 + 120 * m + q ≤ j → N'.1 60 j = N.1 60 j
  | 0, f, i, N, hi, hf, e4 => by
    obtain ⟨f, rfl⟩ : ∃ f', f = f' + 1 := ⟨f - 1, by omega⟩
    refine ⟨N, ?_, g_fr.rfl, fun k h1 h2 => absurd h2 (by omega), fun j _ => rfl⟩
    rw [lp2_s, F_X12_text_65, e4, if_pos (nI_le (by omega) (by omega))]
  | k + 1, f, i, N, hi, hf, e4 => by
    obtain ⟨f, rfl⟩ : ∃ f', f = f' + 1 := ⟨f - 1, by omega⟩
    have fr1 : g_fr [60] [] N (g_u N 60 (248 + 120 * m + i) (N.1 62 i)) := g_fr.rfl.uS (by decide)
    obtain ⟨N', m1, m2, m3, m4⟩ := tx_go hm hq K k f (i + 1) (g_u N 60 (248 + 120 * m + i) (N.1 62 i)) (by omega) (by omega) e4
    refine ⟨N', ?_, fr1.trans m2, fun k h1 h2 => ?_, fun j hj => ?_⟩
    · have ei : (248 : Int32) + 120 * nI m + nI i = nI (248 + 120 * m + i) := by
        rw [show (120 : Int32) = nI 120 from rfl, pk_mul, show (248 : Int32) = nI 248 from rfl, nI_add, nI_add]
      rw [lp2_s, F_X12_text_65, e4, if_neg (nI_ge (by omega) (by omega)), e_ld (by omega) (by omega), Option.bind_some, ei, e_st (by omega) (by omega), Option.bind_some, nI_1, m1]
    · by_cases c : k = i
      · subst c
        rw [m4 _ (by omega)]
        exact upd_eq
      · exact m3 k (by omega) h2
    · rw [m4 j (by omega)]
      exact upd_ne (by omega)
/-- the relation holds behind a text more -/
theorem text_core (ht : t < 64) (H : Rel0 t n l m h c1 c2 c3 M) (hm : m < 8) {q : Nat} {c : List Int32} (hq : q ≤ 120) (hc : c.length ≤ 120) {b : Nat → Int32} (hb : ∀ k, k < q → ∃ z, z < 256 ∧ b k = nI z) (hs : s_text b q = .inl c) {N : g_M}
    (fr : g_fr [14, 16, 17, 18, 19, 20, 21, 22, 23, 35, 60, 77, 78, 79] [(13, 0), (13, 1), (13, 2), (32, 2), (32, 3), (32, 4), (32, 5), (32, 6), (32, 7), (33, 1), (59, 4), (59, 6), (59, 7), (59, 8), (59, 9), (59, 10), (59, 11), (59, 12), (59, 13), (59, 14), (59, 15), (59, 16)] M N)
    (d1 : N.1 60 1 = nI (m + 1)) (d2 : N.1 60 2 = if m = 0 then 0 else M.1 60 2) (d3 : N.1 60 (240 + m) = nI q) (d4 : ∀ k, k < q → N.1 60 (248 + 120 * m + k) = b k) (d5 : ∀ j, j ≠ 1 → j ≠ 2 → j ≠ 240 + m → (j < 248 + 120 * m ∨ 248 + 120 * m + 120 ≤ j) → N.1 60 j = M.1 60 j)
    (g1 : ∀ t, t < 8 → t ≠ m → N.1 (16 + t) = M.1 (16 + t) ∧ N.1 14 t = M.1 14 t) (g2 : N.1 14 m = nI c.length) (g3 : ∀ i, i < c.length → N.1 (16 + m) i = c.getD i 0) (g4 : N.1 33 1 = 0) (g5 : N.1 13 0 = nI (m + 1)) (g6 : N.1 13 2 = M.1 13 2 + 1) (g7 : N.1 13 1 = if 0 ≤ M.1 13 1 then M.1 13 1 else nI m) (g8 : N.1 59 4 = 0) : Rel0 (t + 1) n l (m + 1) h c1 (c2 + 1) c3 N := by
  obtain ⟨h1, h2, h3, h4, h5, h6, h7, h8, h9, h10, h11⟩ := id H
  obtain ⟨b1, b2, b3, b4, e0, e4, e1, e3, eu, wA, wL, wH, wT⟩ := id h1
  have hcc := h9.lt ht
  have aA : agA (M.1 60) (N.1 60) n := fun e he => ⟨d5 _ (by omega) (by omega) (by omega) (by omega), d5 _ (by omega) (by omega) (by omega) (by omega), d5 _ (by omega) (by omega) (by omega) (by omega)⟩
  have aL : agL (M.1 60) (N.1 60) l := fun e he => ⟨d5 _ (by omega) (by omega) (by omega) (by omega), d5 _ (by omega) (by omega) (by omega) (by omega)⟩
  have aH : agH (M.1 60) (N.1 60) h := fun i hi j hj => d5 _ (by omega) (by omega) (by omega) (by omega)
  have aT : agT (M.1 60) (N.1 60) m := fun e he => ⟨d5 _ (by omega) (by omega) (by omega) (by omega), fun k hk => d5 _ (by omega) (by omega) (by omega) (by omega)⟩
  have tx : s_text (fun k => N.1 60 (248 + 120 * m + k)) q = .inl c := by
    rw [← hs]
    exact s_text_cong (fun k hk => d4 k hk)
  have used : (m = 0 ∧ M.1 60 2 = -1) ∨ (m ≠ 0 ∧ ∃ u, u < m ∧ M.1 60 2 = nI u) := by
    rcases eu with ⟨z, e⟩ | ⟨u, hu, e⟩
    · exact Or.inl ⟨z, e⟩
    · exact Or.inr ⟨by omega, u, hu, e⟩
  have u2 : (m + 1 = 0 ∧ N.1 60 2 = -1) ∨ ∃ u, u < m + 1 ∧ N.1 60 2 = nI u := by
    right
    rcases used with ⟨z, e⟩ | ⟨z, u, hu, e⟩
    · exact ⟨0, by omega, by rw [d2, if_pos z]; rfl⟩
    · exact ⟨u, by omega, by rw [d2, if_neg z]; exact e⟩
  have u13 : N.1 13 1 = N.1 60 2 := by
    rw [g7, d2, h4.2.1]
    rcases used with ⟨z, e⟩ | ⟨z, u, hu, e⟩
    · rw [e, if_neg (by decide), if_pos z, z]
      rfl
    · rw [e, if_pos (nI_pos' (by omega)), if_neg z]
  have X4 : X_T (N.1 60) (m + 1) (N.1 13 0) (N.1 13 1) (N.1 14) (fun t => N.1 (16 + t)) := by
    refine ⟨g5, u13, fun i hi L c' hL f1 f2 => ?_⟩
    by_cases cm : i = m
    · subst cm
      rw [d3] at f1
      have : q = L := nI_inj (by omega) (by omega) f1
      subst this
      rw [tx] at f2
      have := Sum.inl.inj f2
      subst this
      exact ⟨g2, g3⟩
    · have gi := g1 i (by omega) cm
      dsimp only
      rw [gi.1, gi.2]
      rw [(aT i (by omega)).1] at f1
      rw [s_text_cong (b := fun k => M.1 60 (248 + 120 * i + k)) (fun k hk => (aT i (by omega)).2 k (by omega))] at f2
      exact h4.2.2 i (by omega) L c' hL f1 f2
  have X1 : W_D (N.1 60) n l (m + 1) h := by
    refine ⟨b1, b2, by omega, b4, (d5 0 (by omega) (by omega) (by omega) (by omega)).trans e0, (d5 4 (by omega) (by omega) (by omega) (by omega)).trans e4, d1, (d5 3 (by omega) (by omega) (by omega) (by omega)).trans e3, u2, fun e he => ?_, fun k hk => ?_, fun i hi => (wH i hi).agree aH hi, fun i hi => ?_⟩
    · rw [(aA e he).1, (aA e he).2.1, (aA e he).2.2]
      exact wA e he
    · rw [(aL k hk).1, (aL k hk).2]
      exact wL k hk
    · by_cases cm : i = m
      · subst cm
        exact ⟨q, c, hq, d3, fun k hk => by rw [d4 k hk]; exact hb k hk, tx, hc⟩
      · exact (wT i (by omega)).agree aT (by omega)
  exact ⟨X1, (show X_E (N.1 60) n l (N.1 3 0) (N.1 3 1) (N.1 3 2) (N.1 4) (N.1 5) (N.1 6) (N.1 7) by
      rw [g_ok.at (S := [14, 16, 17, 18, 19, 20, 21, 22, 23, 35, 60, 77, 78, 79]) (rows := [4, 5, 6, 7]) (flds := [(3, 0), (3, 1), (3, 2)]) (by decide) fr (k := 3) (i := 0) (by decide), g_ok.at (rows := [4, 5, 6, 7]) (flds := [(3, 0), (3, 1), (3, 2)]) (by decide) fr (k := 3) (i := 1) (by decide), g_ok.at (rows := [4, 5, 6, 7]) (flds := [(3, 0), (3, 1), (3, 2)]) (by decide) fr (k := 3) (i := 2) (by decide), (fr.row (k := 4) (by decide) (by decide)).1, (fr.row (k := 5) (by decide) (by decide)).1, (fr.row (k := 6) (by decide) (by decide)).1, (fr.row (k := 7) (by decide) (by decide)).1]
      exact h2.agree aA aL), (show X_H (N.1 60) h (N.1 24 0) (N.1 25) (N.1 26) (N.1 27) (N.1 28) (N.1 29) (N.1 30) (N.1 31) by
      rw [(fr.row (k := 24) (by decide) (by decide)).1, (fr.row (k := 25) (by decide) (by decide)).1, (fr.row (k := 26) (by decide) (by decide)).1, (fr.row (k := 27) (by decide) (by decide)).1, (fr.row (k := 28) (by decide) (by decide)).1, (fr.row (k := 29) (by decide) (by decide)).1, (fr.row (k := 30) (by decide) (by decide)).1, (fr.row (k := 31) (by decide) (by decide)).1]
      exact h3.agree aH), X4, (show X_K (N.1 60) (N.1 61) (m + 1) h (N.1 59 2) (N.1 0 4) (N.1 0 6) (N.1 0 7) (N.1 0 8) (N.1 8 0) (N.1 8 1) (N.1 8 2) (N.1 9) (N.1 10) (N.1 11) (N.1 12) by
      rw [(fr.row (k := 61) (by decide) (by decide)).1, fr.at (k := 59) (i := 2) (by decide) (by decide), (fr.row (k := 0) (by decide) (by decide)).1, (fr.row (k := 8) (by decide) (by decide)).1, (fr.row (k := 9) (by decide) (by decide)).1, (fr.row (k := 10) (by decide) (by decide)).1, (fr.row (k := 11) (by decide) (by decide)).1, (fr.row (k := 12) (by decide) (by decide)).1]
      exact h5.agree aT aH (by omega) (Nat.le_refl _)), ⟨0, by omega, g4, g8, fun k hk => absurd hk (by omega)⟩, (keep7 fr (by decide) h7).mono (by omega), keep8 fr (by decide) h8, (show X_C (t + 1) (N.1 3 3) (N.1 13 2) (N.1 24 1) c1 (c2 + 1) c3 by
      rw [(fr.row (k := 3) (by decide) (by decide)).1, (fr.row (k := 24) (by decide) (by decide)).1, g6]
      exact h9.b2), (show X_O (N.1 60) n h (c1 + c3) (N.1 36 2) (N.1 37) (N.2 38) by
      rw [(fr.row (k := 36) (by decide) (by decide)).1, (fr.row (k := 37) (by decide) (by decide)).1, (fr.row (k := 38) (by decide) (by decide)).2]
      exact h10.agree (fun e he => (aA e he).2) aH), (show X_A (N.1 60) n (c1 + (c2 + 1)) (N.1 39 1) (N.1 39 2) (N.1 40) by
      rw [(fr.row (k := 39) (by decide) (by decide)).1, (fr.row (k := 40) (by decide) (by decide)).1]
      exact h11.bump (by omega) (by omega))⟩
theorem op_text (ht : t < 64) (H : Rel0 t n l m h c1 c2 c3 M) : Op f_X11_text f_X12_text t M := by
  obtain ⟨h1, h2, h3, h4, h5, h6, h7, h8, h9, h10, h11⟩ := id H
  obtain ⟨b1, b2, b3, b4, e0, e4, e1, e3, eu, wA, wL, wH, wT⟩ := id h1
  by_cases hm : m < 8
  · obtain ⟨q, q1, q2, q3, q4⟩ := h6
    have tp : TP (M.1 62) q M := ⟨q1, q2, fun k hk => (q4 k hk).1⟩
    obtain ⟨M1, a1, a2, a3, a4⟩ := rt_c tp
    have e13 : M1.1 13 = M.1 13 := (g_fr.row a2 (by decide) (by decide)).1
    have e60 : M1.1 60 = M.1 60 := (g_fr.row a2 (by decide) (by decide)).1
    have e62 : M1.1 62 = M.1 62 := (g_fr.row a2 (by decide) (by decide)).1
    have e59 : M1.1 59 = M.1 59 := (g_fr.row a2 (by decide) (by decide)).1
    have n8 : ¬ nI m = 8 := fun z => by have := nI_inj (b := 8) (by omega) (by omega) z; omega
    have rdm : ∀ N : g_M, N.1 60 = M.1 60 → N.1 62 = M.1 62 → ∃ (M' : g_M) (v : Bool), f_X12_reads 0 (nI q) 0 N = some (bi v, M') ∧ g_fr [] T9 N M' ∧ RM (0 &&& nI (s_all (M.1 60) n)) (nI (s_all (M.1 60) n)) (s_wgt (M.1 60) (0 &&& nI (s_all (M.1 60) n)) n) M' v (s_text (M.1 62) q) := fun N f1 f2 => rd_m b1 e0 f1 ⟨q1, rfl, Or.inl ⟨rfl, fun k hk => by show N.1 62 k = _; rw [f2]⟩, fun k hk => (q4 k hk).2⟩
    cases ht2 : s_text (M.1 62) q with
    | inl c =>
      rw [ht2] at a1 a3
      obtain ⟨cl, cn, cc⟩ := a3 c rfl
      obtain ⟨N, n1, n2, n3, n4, n5, n6, n7, n8', n9⟩ := text_add (M := M1) hm cl (by rw [e13]; exact h4.1) cn
      have cls : f_X11_text M = some (nI m, N) := by
        unfold f_X11_text
        rw [h4.1, if_pos (show nI m < 8 from nI_lt (b := 8) hm (by omega)), a1, Option.bind_some, if_pos (show rtv (.inl c) < 0 by show (-1 : Int32) < 0; decide)]
        exact n1
      have f60 : N.1 60 = M.1 60 := (g_fr.row n2 (by decide) (by decide)).1.trans e60
      have f62 : N.1 62 = M.1 62 := (g_fr.row n2 (by decide) (by decide)).1.trans e62
      have f59 : N.1 59 = M.1 59 := (g_fr.row n2 (by decide) (by decide)).1.trans e59
      obtain ⟨P, v, r1, r2, r3⟩ := rdm N f60 f62
      rw [ht2] at r3
      have bad := (r3.1 c rfl).1
      have p60 : P.1 60 = M.1 60 := (g_fr.row r2 (by decide) (by decide)).1.trans f60
      have p62 : P.1 62 = M.1 62 := (g_fr.row r2 (by decide) (by decide)).1.trans f62
      have p4 : P.1 59 4 = nI q := (g_fr.at r2 (by decide) (by decide)).trans (by rw [f59]; exact q3)
      obtain ⟨Q, t1, t2, t3, t4⟩ := tx_go (q := q) hm q1 (fun (x2 : Int32) (M : g_M) => (some (g_u M 59 4 0)).bind fun M7 => (g_ld M7 60 1208 1).bind fun v8 => (g_st M7 60 1208 1 (v8 + 1)).bind fun M9 => (if x2 = 0 then ((g_st M9 60 1208 2 0).bind fun M12 => some (x2, M12)) else ((g_ld M9 60 1208 2).bind fun v10 => (g_st M9 60 1208 2 v10).bind fun M11 => some (x2, M11)))) q 20000000 0 (g_u P 60 (240 + m) (nI q)) (by omega) (by omega) p4
      have Q1 : Q.1 60 1 = nI m := by
        rw [t4 1 (by omega)]
        show upd (P.1 60) (240 + m) (nI q) 1 = _
        rw [upd_ne (by omega), p60]
        exact e1
      have Q2 : Q.1 60 2 = M.1 60 2 := by
        rw [t4 2 (by omega)]
        show upd (P.1 60) (240 + m) (nI q) 2 = _
        rw [upd_ne (by omega), p60]
      have mdl : f_X12_text N = some (nI m, g_u (g_u (g_u Q 59 4 0) 60 1 (nI (m + 1))) 60 2 (if m = 0 then 0 else M.1 60 2)) := by
        unfold f_X12_text
        rw [ld_1, Option.bind_some, f60, e1, if_neg n8, f59, q3, r1, Option.bind_some, if_pos bad, ld_1, Option.bind_some, p60, e1, show (240 : Int32) + nI m = nI (240 + m) from nI_add 240 m, p4, e_st (by omega) (by omega), Option.bind_some]
        refine Eq.trans t1 ?_
        rw [Option.bind_some, ld_1, Option.bind_some, show (g_u Q 59 4 0).1 60 1 = nI m from Q1, st_1, Option.bind_some, nI_1]
        by_cases cm : m = 0
        · rw [if_pos (show nI m = 0 by rw [cm]; rfl), st_2, Option.bind_some, if_pos cm]
        · rw [if_neg (nI_ne0 (by omega) (by omega)), ld_2, Option.bind_some, show (g_u (g_u Q 59 4 0) 60 1 (nI (m + 1))).1 60 2 = M.1 60 2 from Q2, st_2, Option.bind_some, if_neg cm]
      refine ⟨_, _, cls, mdl, rfl, n, l, m + 1, h, c1, c2 + 1, c3, ?_⟩
      have frA : g_fr [14, 16, 17, 18, 19, 20, 21, 22, 23, 35, 60, 77, 78, 79] [(13, 0), (13, 1), (13, 2), (32, 2), (32, 3), (32, 4), (32, 5), (32, 6), (32, 7), (33, 1), (59, 4), (59, 6), (59, 7), (59, 8), (59, 9), (59, 10), (59, 11), (59, 12), (59, 13), (59, 14), (59, 15), (59, 16)] M N := (g_fr.mono a2 (by decide) (by decide)).trans (g_fr.mono n2 (by decide) (by decide))
      have frB : g_fr [60] [(59, 4), (59, 6), (59, 7), (59, 8), (59, 9), (59, 10), (59, 11), (59, 12), (59, 13), (59, 14), (59, 15), (59, 16)] N (g_u (g_u (g_u Q 59 4 0) 60 1 (nI (m + 1))) 60 2 (if m = 0 then 0 else M.1 60 2)) := (((((g_fr.mono r2 (by simp) (by decide)).uS (by decide)).trans (g_fr.mono t2 (by decide) (by simp))).uT (by decide)).uS (by decide)).uS (by decide)
      have row : ∀ k, k ≠ 60 → k ≠ 59 → (g_u (g_u (g_u Q 59 4 0) 60 1 (nI (m + 1))) 60 2 (if m = 0 then 0 else M.1 60 2)).1 k = N.1 k := fun k hk hk2 => by
        refine (g_fr.row frB ?_ ?_).1
        · simp [hk]
        · intro z hz
          have : z.1 = 59 := by
            revert hz
            revert z
            decide
          omega
      refine text_core ht H hm q1 cl (fun k hk => (q4 k hk).2) ht2 (frA.trans (g_fr.mono frB (by decide) (by decide))) ?_ (show upd (upd (Q.1 60) 1 (nI (m + 1))) 2 (if m = 0 then 0 else M.1 60 2) 2 = _ from upd_eq) ?_ (fun k hk => ?_) (fun j j1 j2 j3 j4 => ?_) (fun i hi hne => ?_) ?_ (fun i hi => ?_) ?_ ?_ ?_ ?_ rfl
      · show upd (upd (Q.1 60) 1 (nI (m + 1))) 2 (if m = 0 then 0 else M.1 60 2) 1 = _
        rw [upd_ne (by omega), upd_eq]
      · show upd (upd (Q.1 60) 1 (nI (m + 1))) 2 (if m = 0 then 0 else M.1 60 2) (240 + m) = _
        rw [upd_ne (by omega), upd_ne (by omega), t4 _ (by omega)]
        exact upd_eq
      · show upd (upd (Q.1 60) 1 (nI (m + 1))) 2 (if m = 0 then 0 else M.1 60 2) (248 + 120 * m + k) = _
        rw [upd_ne (by omega), upd_ne (by omega), t3 k (by omega) hk]
        show P.1 62 k = _
        rw [p62]
      · show upd (upd (Q.1 60) 1 (nI (m + 1))) 2 (if m = 0 then 0 else M.1 60 2) j = _
        rw [upd_ne j2, upd_ne j1, t4 j (by omega)]
        show upd (P.1 60) (240 + m) (nI q) j = _
        rw [upd_ne j3, p60]
      · rw [row (16 + i) (by omega) (by omega), row 14 (by omega) (by omega), (n3 i hi hne).1, (n3 i hi hne).2]
        have z1 : M1.1 14 = M.1 14 := (g_fr.row a2 (by decide) (by decide)).1
        have z2 : M1.1 (16 + i) = M.1 (16 + i) := by
          refine (g_fr.row a2 ?_ ?_).1
          · revert hi
            clear hne
            revert i
            decide
          · revert hi
            clear hne
            revert i
            decide
        exact ⟨z2, by rw [z1]⟩
      · rw [row 14 (by omega) (by omega)]
        exact n4
      · rw [row (16 + m) (by omega) (by omega), n5 i hi]
        exact cc i hi
      · rw [row 33 (by omega) (by omega)]
        exact n6
      · rw [row 13 (by omega) (by omega)]
        exact n7
      · rw [row 13 (by omega) (by omega), n8', e13]
      · rw [row 13 (by omega) (by omega), n9, e13]
    | inr p =>
      rw [ht2] at a1 a4
      have pl := a4 p rfl
      obtain ⟨P, v, r1, r2, r3⟩ := rdm M1 e60 e62
      rw [ht2] at r3
      have mb := r3.2 p rfl
      refine Op.say' (v := -1 - nI p) (H.keep a2 (by decide) (by decide)) ?_ ?_ r2 (by simp) (by decide)
      · unfold f_X11_text
        rw [h4.1, if_pos (show nI m < 8 from nI_lt (b := 8) hm (by omega)), a1, Option.bind_some, if_neg (show ¬ rtv (.inr p) < 0 from nI_pos (by omega))]
        rfl
      · unfold f_X12_text
        rw [ld_1, Option.bind_some, e60, e1, if_neg n8, e59, q3, r1, Option.bind_some, if_neg (by rw [mb.1]; decide), mb.2]
  · have : m = 8 := by omega
    subst this
    refine Op.t1 H ?_ ?_
    · unfold f_X11_text
      rw [h4.1, if_neg (by decide)]
    · unfold f_X12_text
      rw [ld_1, Option.bind_some, show (tellM 1 M).1 60 1 = nI 8 from e1, if_pos (by decide)]
end TEXTOP
