theorem s_lt_0 {d : Nat → Int32} {n e : Nat} (hn : n ≤ e) (he : e < 100) : ∀ {l : Nat}, (∀ k, k < l → ∃ q, q < n ∧ d (200 + 2 * k) = nI q) → s_lt d e l = 0 ∧ s_lk d e l = 0
  | 0, _ => ⟨rfl, rfl⟩
  | l + 1, h => by
    obtain ⟨q, hq, eq⟩ := h l (by omega)
    have ih := s_lt_0 hn he (l := l) (fun k hk => h k (by omega))
    have : ¬ d (200 + 2 * l) = nI e := by
      rw [eq, nI_eq (by omega) (by omega)]
      omega
    unfold s_lt s_lk
    rw [if_neg this, if_neg this, ih.1, ih.2]
    exact ⟨rfl, rfl⟩
def mE1 (n : Nat) (x : Int32) (M : g_M) : g_M := g_u (g_u (g_u M 4 n x) 3 3 (M.1 3 3 + 1)) 3 0 (nI (n + 1))
def mE2 (n : Nat) (x : Int32) (M : g_M) : g_M := g_u (g_u (g_u (g_u M 60 (10 + n) x) 60 (20 + n) 0) 60 (30 + n) 0) 60 0 (nI (n + 1))
theorem n10_le {x : Int32} (h : x < 0 ∨ nI 10 ≤ x) : x < 0 ∨ ¬ x ≤ 9 := by
  rcases h with h | h
  · exact Or.inl h
  · refine Or.inr (fun c => ?_)
    rw [i_le] at c h
    have e1 : (nI 10).toInt = 10 := by decide
    have e2 : (9 : Int32).toInt = 9 := by decide
    omega
section OPSB
variable {t n l m h c1 c2 c3 : Nat} {M : g_M}
theorem op_elder (ht : t < 64) (H : Rel0 t n l m h c1 c2 c3 M) (x : Int32) : Op (f_X11_elder x) (f_X12_elder x) t M := by
  obtain ⟨h1, h2, h3, h4, h5, h6, h7, h8, h9, h10, h11⟩ := id H
  obtain ⟨b1, b2, b3, b4, e0, e4, e1, e3, eu, wA, wL, wH, wT⟩ := id h1
  have hc := h9.lt ht
  rcases ix x (n := 10) (by omega) with ho | ⟨j, hj, rfl⟩
  · refine Op.t0 H ?_ ?_
    · unfold f_X11_elder
      rcases n10_le ho with c | c
      · rw [if_pos c]
        rfl
      · by_cases c0 : x < 0
        · rw [if_pos c0]
          rfl
        · rw [if_neg c0, if_neg c]
          rfl
    · unfold f_X12_elder
      rw [in_out _ (a := 0) (b := 9) (out_m1 (n := 10) (by omega) ho), Option.bind_some, if_pos rfl]
  by_cases hn : n = 10
  · refine Op.t1 H ?_ ?_
    · unfold f_X11_elder
      rw [if_neg (nI_pos (by omega)), if_pos (show nI j ≤ 9 from nI_le (b := 9) (by omega) (by omega)), show M.1 3 0 = nI n from h2.1, hn, if_neg (by decide)]
    · unfold f_X12_elder
      rw [in_in _ (nI_pos (by omega)) (show ¬ (9 : Int32) < nI j from nI_nlt (a := 9) (by omega) (by omega)), Option.bind_some, if_neg (by decide), ld_0, Option.bind_some, show (tellM 1 M).1 60 0 = nI n from e0, hn, if_pos (by decide)]
  have hn2 : n < 10 := by omega
  have fr : g_fr [4, 60] [(3, 3), (3, 0)] M (mE2 n (nI j) (mE1 n (nI j) M)) := ((((((g_fr.rfl.uS (by decide)).uT (by decide)).uT (by decide)).uS (by decide)).uS (by decide)).uS (by decide)).uS (by decide)
  refine ⟨(nI n, mE1 n (nI j) M), (nI n, mE2 n (nI j) (mE1 n (nI j) M)), ?_, ?_, rfl, n + 1, l, m, h, c1 + 1, c2, c3, ?_⟩
  · unfold f_X11_elder f_X0_add
    rw [if_neg (nI_pos (by omega)), if_pos (show nI j ≤ 9 from nI_le (b := 9) (by omega) (by omega)), show M.1 3 0 = nI n from h2.1, if_pos (show nI n < 10 from nI_lt (b := 10) (by omega) (by omega)), e_st hn2 (by omega), Option.bind_some, Option.bind_some, Option.bind_some, Option.bind_some]
    show some (M.1 3 0, g_u (g_u (g_u M 4 n (nI j)) 3 3 (M.1 3 3 + 1)) 3 0 (M.1 3 0 + 1)) = _
    rw [show M.1 3 0 = nI n from h2.1, nI_1]
    rfl
  · unfold f_X12_elder
    dsimp only
    rw [in_in _ (nI_pos (by omega)) (show ¬ (9 : Int32) < nI j from nI_nlt (a := 9) (by omega) (by omega)), Option.bind_some, if_neg (by decide), ld_0, Option.bind_some, show (mE1 n (nI j) M).1 60 0 = nI n from e0, if_neg (show ¬ nI n = 10 from fun q => hn ((nI_eq (b := 10) (by omega) (by omega)).mp q)), Option.bind_some, st_10 (by omega), Option.bind_some, st_20 (by omega), Option.bind_some, st_30 (by omega), Option.bind_some, ld_0, Option.bind_some]
    rw [show (g_u (g_u (g_u (mE1 n (nI j) M) 60 (10 + n) (nI j)) 60 (20 + n) 0) 60 (30 + n) 0).1 60 0 = nI n by
      simp only [g_row_eq]
      rw [upd_ne (by omega), upd_ne (by omega), upd_ne (by omega)]
      exact e0]
    rw [nI_1, st_0, Option.bind_some]
    rfl
  have hd : ∀ k, k ≠ 0 → k ≠ 10 + n → k ≠ 20 + n → k ≠ 30 + n → (mE2 n (nI j) (mE1 n (nI j) M)).1 60 k = M.1 60 k := fun k a b c e => by
    show upd (upd (upd (upd (M.1 60) (10 + n) (nI j)) (20 + n) 0) (30 + n) 0) 0 (nI (n + 1)) k = _
    rw [upd_ne a, upd_ne e, upd_ne c, upd_ne b]
  have d1 : (mE2 n (nI j) (mE1 n (nI j) M)).1 60 (10 + n) = nI j := by
    show upd (upd (upd (upd (M.1 60) (10 + n) (nI j)) (20 + n) 0) (30 + n) 0) 0 (nI (n + 1)) (10 + n) = _
    rw [upd_ne (by omega), upd_ne (by omega), upd_ne (by omega), upd_eq]
  have d2 : (mE2 n (nI j) (mE1 n (nI j) M)).1 60 (20 + n) = 0 := by
    show upd (upd (upd (upd (M.1 60) (10 + n) (nI j)) (20 + n) 0) (30 + n) 0) 0 (nI (n + 1)) (20 + n) = _
    rw [upd_ne (by omega), upd_ne (by omega), upd_eq]
  have d3 : (mE2 n (nI j) (mE1 n (nI j) M)).1 60 (30 + n) = 0 := by
    show upd (upd (upd (upd (M.1 60) (10 + n) (nI j)) (20 + n) 0) (30 + n) 0) 0 (nI (n + 1)) (30 + n) = _
    rw [upd_ne (by omega), upd_eq]
  have aA : agA (M.1 60) ((mE2 n (nI j) (mE1 n (nI j) M)).1 60) n := fun e he => ⟨hd _ (by omega) (by omega) (by omega) (by omega), hd _ (by omega) (by omega) (by omega) (by omega), hd _ (by omega) (by omega) (by omega) (by omega)⟩
  have aL : agL (M.1 60) ((mE2 n (nI j) (mE1 n (nI j) M)).1 60) l := fun e he => ⟨hd _ (by omega) (by omega) (by omega) (by omega), hd _ (by omega) (by omega) (by omega) (by omega)⟩
  have aH : agH (M.1 60) ((mE2 n (nI j) (mE1 n (nI j) M)).1 60) h := fun i hi k hk => hd _ (by omega) (by omega) (by omega) (by omega)
  have aT : agT (M.1 60) ((mE2 n (nI j) (mE1 n (nI j) M)).1 60) m := fun e he => ⟨hd _ (by omega) (by omega) (by omega) (by omega), fun k hk => hd _ (by omega) (by omega) (by omega) (by omega)⟩
  have z := s_lt_0 (d := M.1 60) (e := n) (Nat.le_refl n) (by omega) (fun k hk => (wL k hk).1)
  exact ⟨⟨by omega, b2, b3, b4, rfl, (hd 4 (by omega) (by omega) (by omega) (by omega)).trans e4, (hd 1 (by omega) (by omega) (by omega) (by omega)).trans e1, (hd 3 (by omega) (by omega) (by omega) (by omega)).trans e3, by
      rw [show (nI n, mE2 n (nI j) (mE1 n (nI j) M)).2.1 60 2 = M.1 60 2 from hd 2 (by omega) (by omega) (by omega) (by omega)]
      exact eu, fun e he => by
      by_cases c : e = n
      · subst c
        exact ⟨⟨j, by omega, d1⟩, Or.inl d2, ⟨0, by omega, d3⟩⟩
      · have := aA e (by omega)
        dsimp only
        rw [this.1, this.2.1, this.2.2]
        exact wA e (by omega), fun k hk => by
      dsimp only
      rw [(aL k hk).1, (aL k hk).2]
      obtain ⟨⟨q, q1, q2⟩, q3⟩ := wL k hk
      exact ⟨⟨q, by omega, q2⟩, q3⟩, fun i hi => (wH i hi).agree aH hi, fun k hk => (wT k hk).agree aT hk⟩, ⟨rfl, h2.2.1, fun e he => by
      by_cases c : e = n
      · subst c
        rw [show (nI e, mE2 e (nI j) (mE1 e (nI j) M)).2.1 60 (20 + e) = 0 from d2]
        exact h2.2.2.2.1 e (Nat.le_refl _)
      · rw [show (nI n, mE2 n (nI j) (mE1 n (nI j) M)).2.1 60 (20 + e) = M.1 60 (20 + e) from (aA e (by omega)).2.1]
        exact h2.2.2.1 e (by omega), fun i hi => h2.2.2.2.1 i (by omega), fun e he => by
      dsimp only
      rw [s_lt_cong e aL, s_lk_cong e aL]
      by_cases c : e = n
      · subst c
        rw [d1, d3, z.1, z.2]
        exact ⟨upd_eq, h2.2.2.2.2.2 e (Nat.le_refl _) hn2⟩
      · rw [(aA e (by omega)).1, (aA e (by omega)).2.2]
        have := h2.2.2.2.2.1 e (by omega)
        exact ⟨(upd_ne c).trans this.1, this.2⟩, fun e he h2e => h2.2.2.2.2.2 e (by omega) h2e⟩, h3.agree aH, keep4d fr (by decide) b3 h4 aT (h4.2.1.trans (hd 2 (by omega) (by omega) (by omega) (by omega)).symm), h5.agree aT aH (Nat.le_refl _) (Nat.le_refl _), keep6 fr (by decide) h6, (keep7 fr (by decide) h7).mono (by omega), keep8 fr (by decide) h8, h9.b1, h10.bump (by omega) (by omega), h11.bump (by omega) (by omega)⟩
end OPSB
