section OPSD
variable {t n l m h c1 c2 c3 : Nat} {M : g_M}
def mL1 (j k : Nat) (M : g_M) : g_M := g_u (g_u (g_u M 6 j (M.1 6 j + 1)) 7 j (M.1 7 j ||| ((1 : Int32) <<< (nI k &&& 31)))) 3 2 (M.1 3 2 + 1)
def mL2 (l j k : Nat) (M : g_M) : g_M := g_u (g_u (g_u M 60 (200 + 2 * l) (nI j)) 60 (200 + 2 * l + 1) (nI k)) 60 4 (nI (l + 1))
theorem lend_core (H : Rel0 t n l m h c1 c2 c3 M) {j k : Nat} (hj : j < n) (hk : k < 24) (hl : l < 20) : Rel0 (t + 1) n (l + 1) m h c1 c2 c3 (mL2 l j k (mL1 j k M)) := by
  obtain ⟨h1, h2, h3, h4, h5, h6, h7, h8, h9, h10, h11⟩ := id H
  obtain ⟨b1, b2, b3, b4, e0, e4, e1, e3, eu, wA, wL, wH, wT⟩ := id h1
  have fr : g_fr [60, 6, 7] [(3, 2)] M (mL2 l j k (mL1 j k M)) := (((((g_fr.rfl.uS (by decide)).uS (by decide)).uT (by decide)).uS (by decide)).uS (by decide)).uS (by decide)
  have hd : ∀ i, i ≠ 200 + 2 * l → i ≠ 200 + 2 * l + 1 → i ≠ 4 → (mL2 l j k (mL1 j k M)).1 60 i = M.1 60 i := fun i a b c => by
    show upd (upd (upd (M.1 60) (200 + 2 * l) (nI j)) (200 + 2 * l + 1) (nI k)) 4 (nI (l + 1)) i = _
    rw [upd_ne c, upd_ne b, upd_ne a]
  have d1 : (mL2 l j k (mL1 j k M)).1 60 (200 + 2 * l) = nI j := by
    show upd (upd (upd (M.1 60) (200 + 2 * l) (nI j)) (200 + 2 * l + 1) (nI k)) 4 (nI (l + 1)) (200 + 2 * l) = _
    rw [upd_ne (by omega), upd_ne (by omega), upd_eq]
  have d2 : (mL2 l j k (mL1 j k M)).1 60 (200 + 2 * l + 1) = nI k := by
    show upd (upd (upd (M.1 60) (200 + 2 * l) (nI j)) (200 + 2 * l + 1) (nI k)) 4 (nI (l + 1)) (200 + 2 * l + 1) = _
    rw [upd_ne (by omega), upd_eq]
  have aA : agA (M.1 60) ((mL2 l j k (mL1 j k M)).1 60) n := fun e he => ⟨hd _ (by omega) (by omega) (by omega), hd _ (by omega) (by omega) (by omega), hd _ (by omega) (by omega) (by omega)⟩
  have aL : agL (M.1 60) ((mL2 l j k (mL1 j k M)).1 60) l := fun e he => ⟨hd _ (by omega) (by omega) (by omega), hd _ (by omega) (by omega) (by omega)⟩
  have aH : agH (M.1 60) ((mL2 l j k (mL1 j k M)).1 60) h := fun i hi z hz => hd _ (by omega) (by omega) (by omega)
  have aT : agT (M.1 60) ((mL2 l j k (mL1 j k M)).1 60) m := fun e he => ⟨hd _ (by omega) (by omega) (by omega), fun z hz => hd _ (by omega) (by omega) (by omega)⟩
  have e2 : (mL2 l j k (mL1 j k M)).1 60 2 = M.1 60 2 := hd 2 (by omega) (by omega) (by omega)
  exact ⟨⟨b1, by omega, b3, b4, (hd 0 (by omega) (by omega) (by omega)).trans e0, rfl, (hd 1 (by omega) (by omega) (by omega)).trans e1, (hd 3 (by omega) (by omega) (by omega)).trans e3, by rw [e2]; exact eu, fun e he => by
      rw [(aA e he).1, (aA e he).2.1, (aA e he).2.2]
      exact wA e he, fun z hz => by
      by_cases c : z = l
      · subst c
        exact ⟨⟨j, hj, d1⟩, ⟨k, hk, d2⟩⟩
      · rw [(aL z (by omega)).1, (aL z (by omega)).2]
        exact wL z (by omega), fun i hi => (wH i hi).agree aH hi, fun z hz => (wT z hz).agree aT hz⟩, ⟨h2.1, by
      show M.1 3 2 + 1 = _
      rw [h2.2.1, nI_1], fun e he => by
      rw [(aA e he).2.1]
      exact h2.2.2.1 e he, h2.2.2.2.1, fun e he => by
      have := h2.2.2.2.2.1 e he
      refine ⟨this.1.trans (aA e he).1.symm, this.2.1.trans (aA e he).2.2.symm, ?_, ?_⟩
      · show upd (M.1 6) j (M.1 6 j + 1) e = nI (s_lt _ e l + (if _ = nI e then 1 else 0))
        rw [s_lt_cong e aL, d1]
        by_cases c : e = j
        · subst c
          rw [upd_eq, if_pos rfl, this.2.2.1, nI_1]
        · rw [upd_ne c, if_neg (fun q => c ((nI_eq (by omega) (by omega)).mp q).symm), this.2.2.1, Nat.add_zero]
      · show upd (M.1 7) j (M.1 7 j ||| ((1 : Int32) <<< (nI k &&& 31))) e = (s_lk _ e l ||| (if _ = nI e then (1 : Int32) <<< (_ &&& 31) else 0))
        rw [s_lk_cong e aL, d1, d2]
        by_cases c : e = j
        · subst c
          rw [upd_eq, if_pos rfl, this.2.2.2]
        · rw [upd_ne c, if_neg (fun q => c ((nI_eq (by omega) (by omega)).mp q).symm), this.2.2.2]
          exact (b_ext (fun i hi => by rw [b_or, b_0, Bool.or_false])).symm, fun e he h2e => ⟨(h2.2.2.2.2.2 e he h2e).1, (upd_ne (by omega)).trans (h2.2.2.2.2.2 e he h2e).2.1, (upd_ne (by omega)).trans (h2.2.2.2.2.2 e he h2e).2.2⟩⟩, h3.agree aH, keep4d fr (by decide) b3 h4 aT (h4.2.1.trans e2.symm), h5.agree aT aH (Nat.le_refl _) (Nat.le_refl _), keep6 fr (by decide) h6, (keep7 fr (by decide) h7).mono (by omega), keep8 fr (by decide) h8, (keep9 fr (by decide) h9).mono (by omega), h10.agree (fun e he => (aA e he).2) aH, X_A.agree h11 aA aT e2 eu wT b3⟩
theorem ld_lend {M : g_M} {k : Nat} (h : k < 20) : g_ld M 60 1208 (200 + 2 * nI k) = some (M.1 60 (200 + 2 * k)) := by
  rw [show (200 : Int32) + 2 * nI k = nI (200 + 2 * k) by rw [show (2 : Int32) = nI 2 from rfl, pk_mul]; exact nI_add 200 (2 * k)]
  exact e_ld (by omega) (by omega)
theorem st_lend {M : g_M} {k : Nat} {v : Int32} (h : k < 20) : g_st M 60 1208 (200 + 2 * nI k) v = some (g_u M 60 (200 + 2 * k) v) := by
  rw [show (200 : Int32) + 2 * nI k = nI (200 + 2 * k) by rw [show (2 : Int32) = nI 2 from rfl, pk_mul]; exact nI_add 200 (2 * k)]
  exact e_st (by omega) (by omega)
theorem st_lend1 {M : g_M} {k : Nat} {v : Int32} (h : k < 20) : g_st M 60 1208 (200 + 2 * nI k + 1) v = some (g_u M 60 (200 + 2 * k + 1) v) := by
  rw [show (200 : Int32) + 2 * nI k = nI (200 + 2 * k) by rw [show (2 : Int32) = nI 2 from rfl, pk_mul]; exact nI_add 200 (2 * k), nI_1]
  exact e_st (by omega) (by omega)
theorem op_lend (H : Rel0 t n l m h c1 c2 c3 M) (x y k : Int32) : Op (f_X11_lend x y k) (f_X12_lend x y k) t M := by
  obtain ⟨h1, h2, h3, h4, h5, h6, h7, h8, h9, h10, h11⟩ := id H
  obtain ⟨b1, b2, b3, b4, e0, e4, e1, e3, eu, wA, wL, wH, wT⟩ := id h1
  rcases ix x (n := n) (by omega) with ho | ⟨j, hj, rfl⟩
  · refine Op.t0 H ?_ ?_
    · unfold f_X11_lend
      rw [has_out h2.1 ho, Option.bind_some, if_pos rfl]
      rfl
    · unfold f_X12_lend
      rw [me_out (n := n) (M := tellM 0 M) e0 (by omega) ho, Option.bind_some, if_pos rfl]
      rfl
  rcases ix y (n := n) (by omega) with ho | ⟨i, hi, rfl⟩
  · refine Op.t0 H ?_ ?_
    · unfold f_X11_lend
      rw [has_in h2.1 hj (by omega), Option.bind_some, if_neg (by decide), has_out h2.1 ho, Option.bind_some, if_pos rfl]
      rfl
    · unfold f_X12_lend
      rw [me_in (n := n) (M := tellM 0 M) e0 (by omega) hj, Option.bind_some, if_neg (by decide), me_out (n := n) (M := tellM 0 M) e0 (by omega) ho, Option.bind_some, if_pos rfl]
      rfl
  by_cases hij : nI j = nI i
  · refine Op.t0 H ?_ ?_
    · unfold f_X11_lend
      rw [has_in h2.1 hj (by omega), Option.bind_some, if_neg (by decide), has_in h2.1 hi (by omega), Option.bind_some, if_neg (by decide), if_pos hij]
      rfl
    · unfold f_X12_lend
      rw [me_in (n := n) (M := tellM 0 M) e0 (by omega) hj, Option.bind_some, if_neg (by decide), me_in (n := n) (M := tellM 0 M) e0 (by omega) hi, Option.bind_some, if_neg (by decide), if_pos hij]
      rfl
  rcases ix k (n := 24) (by omega) with ho | ⟨k, hk, rfl⟩
  · refine Op.t0 H ?_ ?_
    · unfold f_X11_lend
      rw [has_in h2.1 hj (by omega), Option.bind_some, if_neg (by decide), has_in h2.1 hi (by omega), Option.bind_some, if_neg (by decide), if_neg hij, ik_out ho, Option.bind_some, if_pos rfl]
      rfl
    · unfold f_X12_lend
      rw [me_in (n := n) (M := tellM 0 M) e0 (by omega) hj, Option.bind_some, if_neg (by decide), me_in (n := n) (M := tellM 0 M) e0 (by omega) hi, Option.bind_some, if_neg (by decide), if_neg hij, mk_out ho, Option.bind_some, if_pos rfl]
      rfl
  have hr : M.1 5 j = M.1 60 (30 + j) := (h2.2.2.2.2.1 j hj).2.1
  have cls : f_X11_lend (nI j) (nI i) (nI k) M = (if bt (M.1 60 (30 + j)) k = true then ((if (M.1 3 2) < 20 then ((f_X0_addLend (nI i) (nI k) M).bind fun p6 => some (p6.1, p6.2)) else ((f_X2_tell (-1000000002) M).bind fun p7 => some (p7.1, p7.2)))) else ((f_X2_tell (-1000000004) M).bind fun p8 => some (p8.1, p8.2))) := by
    unfold f_X11_lend f_X0_hasKey
    rw [has_in h2.1 hj (by omega), Option.bind_some, if_neg (by decide), has_in h2.1 hi (by omega), Option.bind_some, if_neg (by decide), if_neg hij, ik_in hk, Option.bind_some, if_neg (by decide), e_ld (by omega) (by omega), Option.bind_some, hr, b_bit _ (by omega)]
    cases bt (M.1 60 (30 + j)) k
    · rfl
    · rfl
  have mod : ∀ M' : g_M, M'.1 60 = M.1 60 → f_X12_lend (nI j) (nI i) (nI k) M' = (if bt (M.1 60 (30 + j)) k = true then ((if nI l = 20 then ((f_X12_finding 1 M').bind fun p14 => some (p14.1, p14.2)) else (some (nI (l + 1), mL2 l i k M')))) else ((f_X12_finding 3 M').bind fun p15 => some (p15.1, p15.2))) := by
    intro M' e
    unfold f_X12_lend
    rw [me_in (n := n) (M := M') (by rw [e]; exact e0) (by omega) hj, Option.bind_some, if_neg (by decide), me_in (n := n) (M := M') (by rw [e]; exact e0) (by omega) hi, Option.bind_some, if_neg (by decide), if_neg hij, mk_in hk, Option.bind_some, if_neg (by decide), ld_30 (by omega), Option.bind_some, b_bit _ (by omega), e]
    cases bt (M.1 60 (30 + j)) k
    · rfl
    · rw [if_neg (by decide), if_pos rfl, ld_4, Option.bind_some, e, e4]
      by_cases c : nI l = 20
      · rw [if_pos c, if_pos c]
      · have : l ≠ 20 := fun q => c (by rw [q]; rfl)
        rw [if_neg c, if_neg c, Option.bind_some, st_lend (by omega), Option.bind_some, ld_4, Option.bind_some, show (g_u M' 60 (200 + 2 * l) (nI i)).1 60 4 = nI l from (upd_ne (by omega)).trans (by rw [e]; exact e4), st_lend1 (by omega), Option.bind_some, ld_4, Option.bind_some]
        rw [show (g_u (g_u M' 60 (200 + 2 * l) (nI i)) 60 (200 + 2 * l + 1) (nI k)).1 60 4 = nI l from (upd_ne (by omega)).trans ((upd_ne (by omega)).trans (by rw [e]; exact e4)), nI_1, st_4, Option.bind_some, ld_4, Option.bind_some]
        rfl
  by_cases cb : bt (M.1 60 (30 + j)) k = true
  · rw [if_pos cb] at cls
    simp only [if_pos cb] at mod
    by_cases cl : l = 20
    · refine Op.t1 H ?_ ?_
      · rw [cls, h2.2.1, cl, if_neg (by decide)]
      · rw [mod (tellM 1 M) rfl, cl, if_pos (by decide)]
    · have hl : l < 20 := by omega
      refine ⟨(nI (l + 1), mL1 i k M), (nI (l + 1), mL2 l i k (mL1 i k M)), ?_, ?_, rfl, n, l + 1, m, h, c1, c2, c3, lend_core H hi hk hl⟩
      · rw [cls, h2.2.1, if_pos (show nI l < 20 from nI_lt (b := 20) hl (by omega))]
        unfold f_X0_addLend
        rw [e_ld (by omega) (by omega), Option.bind_some, e_st (by omega) (by omega), Option.bind_some, e_ld (by omega) (by omega), Option.bind_some, e_st (by omega) (by omega), Option.bind_some, Option.bind_some, Option.bind_some]
        show some (M.1 3 2 + 1, mL1 i k M) = _
        rw [h2.2.1, nI_1]
      · rw [mod (mL1 i k M) rfl, if_neg (show ¬ nI l = 20 from fun q => cl ((nI_eq (b := 20) (by omega) (by omega)).mp q))]
  · rw [if_neg cb] at cls
    simp only [if_neg cb] at mod
    exact Op.t3 H cls (mod (tellM 3 M) rfl)
/-! of an elder -/
theorem lent_go (M : g_M) (j l : Nat) (hl : l ≤ 20) (e4 : M.1 60 4 = nI l) : ∀ (k f i : Nat), i + k = l → k < f → g_lq3 (F_X12_lentTo_4 M (fun (x2 : Int32) => some x2)) f (nI j) (nI (s_lt (M.1 60) j i)) (nI i) = some (nI (s_lt (M.1 60) j l))
  | 0, f, i, hi, hf => by
    obtain ⟨f, rfl⟩ : ∃ f', f = f' + 1 := ⟨f - 1, by omega⟩
    rw [lq3_s, F_X12_lentTo_4]
    have : i = l := by omega
    subst this
    rw [ld_4, Option.bind_some, e4, if_pos (nI_le (Nat.le_refl _) (by omega))]
  | k + 1, f, i, hi, hf => by
    obtain ⟨f, rfl⟩ : ∃ f', f = f' + 1 := ⟨f - 1, by omega⟩
    rw [lq3_s, F_X12_lentTo_4]
    rw [ld_4, Option.bind_some, e4, if_neg (nI_ge (by omega) (by omega)), ld_lend (by omega), Option.bind_some, nI_1, nI_1]
    have := lent_go M j l hl e4 k f (i + 1) (by omega) (by omega)
    have z : s_lt (M.1 60) j (i + 1) = s_lt (M.1 60) j i + (if M.1 60 (200 + 2 * i) = nI j then 1 else 0) := rfl
    rw [z] at this
    by_cases c : M.1 60 (200 + 2 * i) = nI j
    · rw [if_pos c] at this ⊢
      exact this
    · rw [if_neg c] at this ⊢
      rw [show nI (s_lt (M.1 60) j i) + 0 = nI (s_lt (M.1 60) j i) from Int32.add_zero _]
      exact this
theorem lent_eq {M : g_M} {j l : Nat} (hl : l ≤ 20) (e4 : M.1 60 4 = nI l) : f_X12_lentTo (nI j) M = some (nI (s_lt (M.1 60) j l)) := lent_go M j l hl e4 l 20000000 0 (by omega) (by omega)
theorem n5_ne {x : Int32} (h : x < 0 ∨ nI 5 ≤ x) : x ≠ 0 ∧ x ≠ 1 ∧ x ≠ 2 ∧ x ≠ 3 ∧ x ≠ 4 := by
  refine ⟨?_, ?_, ?_, ?_, ?_⟩ <;> rintro rfl <;> revert h <;> decide
theorem op_of (H : Rel0 t n l m h c1 c2 c3 M) (x y : Int32) : Op (f_X11_of x y) (f_X12_of x y) t M := by
  obtain ⟨h1, h2, h3, h4, h5, h6, h7, h8, h9, h10, h11⟩ := id H
  obtain ⟨b1, b2, b3, b4, e0, e4, e1, e3, eu, wA, wL, wH, wT⟩ := id h1
  rcases ix x (n := n) (by omega) with ho | ⟨j, hj, rfl⟩
  · refine Op.t0 H ?_ ?_
    · unfold f_X11_of
      rw [has_out h2.1 ho, Option.bind_some, if_pos rfl]
    · unfold f_X12_of
      rw [me_out (n := n) (M := tellM 0 M) e0 (by omega) ho, Option.bind_some, if_pos rfl]
      rfl
  rcases ix y (n := 5) (by omega) with ho | ⟨i, hi, rfl⟩
  · have ne := n5_ne ho
    refine Op.t0 H ?_ ?_
    · unfold f_X11_of
      rw [has_in h2.1 hj (by omega), Option.bind_some, if_neg (by decide), if_neg ne.1, if_neg ne.2.1, if_neg ne.2.2.1, if_neg ne.2.2.2.1, if_neg ne.2.2.2.2]
    · unfold f_X12_of
      rw [me_in (n := n) (M := tellM 0 M) e0 (by omega) hj, Option.bind_some, if_neg (by decide), in_out _ (a := 0) (b := 4) (out_m1 (n := 5) (by omega) ho), Option.bind_some, if_pos rfl]
      rfl
  have r := h2.2.2.2.2.1 j hj
  obtain ⟨q, hq, eq⟩ := (wA j hj).2.2
  have bg := h2.2.2.1 j hj
  have cls : f_X11_of (nI j) (nI i) M = (if nI i = 0 then ((g_ld M 4 10 (nI j)).bind fun v2 => some (v2, M)) else (if nI i = 1 then (some (((M.1 3 1) >>> (nI j &&& 31)) &&& 1, M)) else (if nI i = 2 then ((g_ld M 5 10 (nI j)).bind fun v3 => some (v3, M)) else (if nI i = 3 then ((g_ld M 5 10 (nI j)).bind fun v4 => (f_J6_bitCount_0f7a4 v4 M).bind fun p5 => some (p5, M)) else (if nI i = 4 then ((g_ld M 6 10 (nI j)).bind fun v6 => some (v6, M)) else (f_X2_tell (-1000000001) M).bind fun p7 => some (p7.1, p7.2)))))) := by
    unfold f_X11_of
    rw [has_in h2.1 hj (by omega), Option.bind_some, if_neg (by decide)]
  have mod : f_X12_of (nI j) (nI i) M = (if nI i = 0 then ((g_ld M 60 1208 (10 + nI j)).bind fun v4 => some (v4, M)) else (if nI i = 1 then ((g_ld M 60 1208 (20 + nI j)).bind fun v5 => some (v5, M)) else (if nI i = 2 then ((g_ld M 60 1208 (30 + nI j)).bind fun v6 => some (v6, M)) else (if nI i = 3 then ((g_ld M 60 1208 (30 + nI j)).bind fun v7 => (f_X12_many v7 M).bind fun p8 => some (p8, M)) else (f_X12_lentTo (nI j) M).bind fun p9 => some (p9, M))))) := by
    unfold f_X12_of
    rw [me_in (n := n) e0 (by omega) hj, Option.bind_some, if_neg (by decide), in_in _ (nI_pos (by omega)) (show ¬ (4 : Int32) < nI i from nI_nlt (a := 4) (by omega) (by omega)), Option.bind_some, if_neg (by decide)]
  rcases (show i = 0 ∨ i = 1 ∨ i = 2 ∨ i = 3 ∨ i = 4 by omega) with rfl | rfl | rfl | rfl | rfl
  · refine Op.say (v := M.1 60 (10 + j)) H ?_ ?_
    · rw [cls, if_pos (by decide), e_ld (by omega) (by omega), Option.bind_some, r.1]
    · rw [mod, if_pos (by decide), ld_10 (by omega), Option.bind_some]
  · refine Op.say (v := M.1 60 (20 + j)) H ?_ ?_
    · rw [cls, if_neg (by decide), if_pos (by decide), b_bit _ (by omega), bg]
      rcases (wA j hj).2.1 with w | w
      · rw [w]
        rfl
      · rw [w]
        rfl
    · rw [mod, if_neg (by decide), if_pos (by decide), ld_20 (by omega), Option.bind_some]
  · refine Op.say (v := M.1 60 (30 + j)) H ?_ ?_
    · rw [cls, if_neg (by decide), if_neg (by decide), if_pos (by decide), e_ld (by omega) (by omega), Option.bind_some, r.2.1]
    · rw [mod, if_neg (by decide), if_neg (by decide), if_pos (by decide), ld_30 (by omega), Option.bind_some]
  · refine Op.say (v := nI (s_pop (M.1 60 (30 + j)) 24)) H ?_ ?_
    · rw [cls, if_neg (by decide), if_neg (by decide), if_neg (by decide), if_pos (by decide), e_ld (by omega) (by omega), Option.bind_some, r.2.1, eq, bitc hq, Option.bind_some]
    · rw [mod, if_neg (by decide), if_neg (by decide), if_neg (by decide), if_pos (by decide), ld_30 (by omega), Option.bind_some, many_eq, Option.bind_some]
  · refine Op.say (v := nI (s_lt (M.1 60) j l)) H ?_ ?_
    · rw [cls, if_neg (by decide), if_neg (by decide), if_neg (by decide), if_neg (by decide), if_pos (by decide), e_ld (by omega) (by omega), Option.bind_some, r.2.2.1]
    · rw [mod, if_neg (by decide), if_neg (by decide), if_neg (by decide), if_neg (by decide), lent_eq b2 e4, Option.bind_some]
end OPSD
