section COULD
variable {t n l m h c1 c2 c3 : Nat} {M : g_M}
/-- who of the first e could by himself open a hanging -/
def s_cw (d : Nat → Int32) (l h i : Nat) : Nat → Int32
  | 0 => 0
  | e + 1 => s_cw d l h i e ||| (if d (20 + e) = 0 ∧ s_opens d h (d (30 + e) ||| s_lk d e l) i = true then (1 : Int32) <<< (nI e &&& 31) else 0)
theorem s_cw_1 {d : Nat → Int32} {i e : Nat} (h1 : d (20 + e) = 0) (h2 : s_opens d h (d (30 + e) ||| s_lk d e l) i = true) : s_cw d l h i (e + 1) = s_cw d l h i e ||| ((1 : Int32) <<< (nI e &&& 31)) := by
  show s_cw d l h i e ||| (if _ then _ else _) = _
  rw [if_pos ⟨h1, h2⟩]
theorem s_cw_0 {d : Nat → Int32} {i e : Nat} (h1 : ¬ (d (20 + e) = 0 ∧ s_opens d h (d (30 + e) ||| s_lk d e l) i = true)) : s_cw d l h i (e + 1) = s_cw d l h i e := by
  show s_cw d l h i e ||| (if _ then _ else _) = _
  rw [if_neg h1, Int32.or_zero]
theorem cc_go (h1 : W_D (M.1 60) n l m h) (h2 : X_E (M.1 60) n l (M.1 3 0) (M.1 3 1) (M.1 3 2) (M.1 4) (M.1 5) (M.1 6) (M.1 7)) (x : XH M (M.1 60) h) {i : Nat} (hi : i < h) (K : Int32 → g_M → Option (Int32 × g_M)) : ∀ (k f e : Nat), e + k = n → k < f → g_lp4 (F_X11_could_34 K) f (nI i) (nI (s_all (M.1 60) n)) (s_cw (M.1 60) l h i e) (nI e) M = K (s_cw (M.1 60) l h i n) M
  | 0, f, e, he, hf => by
    obtain ⟨f, rfl⟩ : ∃ f', f = f' + 1 := ⟨f - 1, by omega⟩
    have b1 := h1.1
    have : e = n := by omega
    subst this
    rw [lp4_s, F_X11_could_34, h2.1, if_pos (nI_le (Nat.le_refl _) (by omega))]
  | k + 1, f, e, he, hf => by
    obtain ⟨f, rfl⟩ : ∃ f', f = f' + 1 := ⟨f - 1, by omega⟩
    have b1 := h1.1
    have hA := all_1024 (M.1 60) b1
    have ih := cc_go h1 h2 x hi K k f (e + 1) (by omega) (by omega)
    have q := h2.2.2.2.2.1 e (by omega)
    rw [lp4_s, F_X11_could_34, h2.1, if_neg (nI_ge (by omega) (by omega)), e_ld (by omega) (by omega), Option.bind_some, e_ld (by omega) (by omega), Option.bind_some, q.2.1, q.2.2.2, b_bit _ (by omega), bt_nI (by omega), s_all_bit, decide_eq_true (show e < n by omega), Bool.true_and, isO_eq x h1.2.2.2.2.2.2.2.2.2.2.2.1 h1.2.2.2.1 _ hi, Option.bind_some, Option.bind_some, nI_1, ← ih]
    by_cases g : (M.1 60) (20 + e) = 0
    · rw [decide_eq_true g, if_neg (show ¬ (if true = true then (1 : Int32) else 0) = 0 by decide)]
      cases c : s_opens (M.1 60) h ((M.1 60) (30 + e) ||| s_lk (M.1 60) e l) i
      · rw [if_pos (show (if false = true then (1 : Int32) else 0) = 0 by decide), s_cw_0 (fun z => by rw [c] at z; exact absurd z.2 (by decide))]
      · rw [if_neg (show ¬ (if true = true then (1 : Int32) else 0) = 0 by decide), s_cw_1 g c]
    · rw [decide_eq_false g, if_pos (show (if false = true then (1 : Int32) else 0) = 0 by decide), s_cw_0 (fun z => g z.1)]
theorem ck_go {d : Nat → Int32} (W : W_D d n l m h) (ed : M.1 60 = d) {e : Nat} (he : e < 10) (K : Int32 → Int32 → Int32 → Int32 → g_M → Option (Int32 × g_M)) (x1 x2 R : Int32) : ∀ (k f i : Nat), i + k = l → k < f → g_lp5 (F_X12_could_42 K) f x1 x2 (nI e) (R ||| s_lk d e i) (nI i) M = K x1 x2 (nI e) (R ||| s_lk d e l) M
  | 0, f, i, hi, hf => by
    obtain ⟨f, rfl⟩ : ∃ f', f = f' + 1 := ⟨f - 1, by omega⟩
    have b2 := W.2.1
    have : i = l := by omega
    subst this
    rw [lp5_s, F_X12_could_42, ld_4, Option.bind_some, ed, W.2.2.2.2.2.1, if_pos (nI_le (Nat.le_refl _) (by omega))]
  | k + 1, f, i, hi, hf => by
    obtain ⟨f, rfl⟩ : ∃ f', f = f' + 1 := ⟨f - 1, by omega⟩
    have b2 := W.2.1
    have ih := ck_go W ed he K x1 x2 R k f (i + 1) (by omega) (by omega)
    have e1 : (200 : Int32) + 2 * nI i + 1 = nI (200 + 2 * i + 1) := by
      rw [show (2 : Int32) = nI 2 from rfl, pk_mul, show (200 : Int32) = nI 200 from rfl, nI_add, nI_1]
    rw [lp5_s, F_X12_could_42, ld_4, Option.bind_some, ed, W.2.2.2.2.2.1, if_neg (nI_ge (by omega) (by omega)), ld_lend (by omega), Option.bind_some, e1, e_ld (by omega) (by omega), Option.bind_some, Option.bind_some, ed, nI_1, ← ih]
    show _ = g_lp5 (F_X12_could_42 K) f x1 x2 (nI e) (R ||| (s_lk d e i ||| (if d (200 + 2 * i) = nI e then (1 : Int32) <<< (d (200 + 2 * i + 1) &&& 31) else 0))) (nI (i + 1)) M
    by_cases c : d (200 + 2 * i) = nI e
    · rw [if_pos c, if_pos c, Int32.or_assoc]
    · rw [if_neg c, if_neg c, Int32.or_assoc]
theorem cm2_go {d : Nat → Int32} (W : W_D d n l m h) {i : Nat} (hi : i < h) : ∀ (k f e : Nat) (M : g_M), e + k = n → k < f → M.1 60 = d → ∃ M' : g_M, g_lp3 (F_X12_could_18 (fun (x2 : Int32) (M : g_M) => some (x2, M))) f (nI i) (s_cw d l h i e) (nI e) M = some (s_cw d l h i n, M') ∧ g_fr [68, 69] [] M M'
  | 0, f, e, M, he, hf, ed => by
    obtain ⟨f, rfl⟩ : ∃ f', f = f' + 1 := ⟨f - 1, by omega⟩
    have b1 := W.1
    have : e = n := by omega
    subst this
    refine ⟨M, ?_, g_fr.rfl⟩
    rw [lp3_s, F_X12_could_18, ld_0, Option.bind_some, ed, W.2.2.2.2.1, if_pos (nI_le (Nat.le_refl _) (by omega))]
  | k + 1, f, e, M, he, hf, ed => by
    obtain ⟨f, rfl⟩ : ∃ f', f = f' + 1 := ⟨f - 1, by omega⟩
    obtain ⟨b1, b2, b3, b4, e0, e4, e1, e3, eu, wA, wL, wH, wT⟩ := id W
    have fin := ck_go W ed (e := e) (by omega) (fun (x1 : Int32) (x2 : Int32) (x3 : Int32) (x4 : Int32) (M : g_M) => (g_ld M 60 1208 (20 + x3)).bind fun v8 => (if v8 = 0 then ((f_X12_opensBy x1 x4 M).bind fun p9 => (if p9.1 = 0 then (g_lp3 (F_X12_could_18 (fun (x2 : Int32) (M : g_M) => some (x2, M))) f x1 (x2 ||| 0) (x3 + 1) p9.2) else ((some (x2 ||| ((1 : Int32) <<< (x3 &&& 31)))).bind fun y10 => g_lp3 (F_X12_could_18 (fun (x2 : Int32) (M : g_M) => some (x2, M))) f x1 y10 (x3 + 1) p9.2))) else (g_lp3 (F_X12_could_18 (fun (x2 : Int32) (M : g_M) => some (x2, M))) f x1 (x2 ||| 0) (x3 + 1) M))) (nI i) (s_cw d l h i e) (d (30 + e)) l 20000000 0 (by omega) (by omega)
    rw [show s_lk d e 0 = 0 from rfl, Int32.or_zero] at fin
    rw [lp3_s, F_X12_could_18, ld_0, Option.bind_some, ed, e0, if_neg (nI_ge (by omega) (by omega)), ld_30 (by omega), Option.bind_some, ed]
    have fin' := fin
    rw [show nI 0 = (0 : Int32) from rfl] at fin'
    rw [fin', ld_20 (by omega), Option.bind_some, ed, Int32.or_zero, nI_1]
    by_cases g : d (20 + e) = 0
    · obtain ⟨M2, a1, a2⟩ := ob_eq b4 e3 wH (d (30 + e) ||| s_lk d e l) (M := M) ed hi
      have ed2 : M2.1 60 = d := (a2.row (by decide) (by simp)).1.trans ed
      obtain ⟨M', m1, m2⟩ := cm2_go W hi k f (e + 1) M2 (by omega) (by omega) ed2
      rw [if_pos g, a1, Option.bind_some, Option.bind_some]
      refine ⟨M', ?_, a2.trans m2⟩
      dsimp only
      cases c : s_opens d h (d (30 + e) ||| s_lk d e l) i
      · rw [s_cw_0 (fun z => by rw [c] at z; exact absurd z.2 (by decide))] at m1
        rw [if_pos ((bi_0 false).mpr rfl)]
        exact m1
      · rw [s_cw_1 g c] at m1
        rw [if_neg (fun q => absurd ((bi_0 true).mp q) (by decide))]
        exact m1
    · obtain ⟨M', m1, m2⟩ := cm2_go W hi k f (e + 1) M (by omega) (by omega) ed
      rw [s_cw_0 (fun z => g z.1)] at m1
      rw [if_neg g]
      exact ⟨M', m1, m2⟩
theorem op_could (H : Rel0 t n l m h c1 c2 c3 M) (x : Int32) : Op (f_X11_could x) (f_X12_could x) t M := by
  obtain ⟨h1, h2, h3, h4, h5, h6, h7, h8, h9, h10, h11⟩ := id H
  obtain ⟨b1, b2, b3, b4, e0, e4, e1, e3, eu, wA, wL, wH, wT⟩ := id h1
  rcases ix x (n := h) (by omega) with ho | ⟨i, hi, rfl⟩
  · refine Op.t0 H ?_ ?_
    · unfold f_X11_could
      rw [hh_out h3.1 ho, Option.bind_some, if_pos rfl]
    · unfold f_X12_could
      rw [mh_out (n := h) (M := tellM 0 M) e3 (by omega) ho, Option.bind_some, if_pos rfl]
  obtain ⟨M', m1, m2⟩ := cm2_go h1 hi n 20000000 0 M (by omega) (by omega) rfl
  refine Op.say' (v := s_cw (M.1 60) l h i n) H ?_ ?_ m2 (by decide) (by simp)
  · unfold f_X11_could
    rw [hh_in h3.1 hi (by omega), Option.bind_some, if_neg (by decide), present_eq h1 h2, Option.bind_some]
    exact cc_go h1 h2 h3 hi (fun (x3 : Int32) (M : g_M) => some (x3, M)) n 20000000 0 (by omega) (by omega)
  · unfold f_X12_could
    rw [mh_in (n := h) (M := M) e3 (by omega) hi, Option.bind_some, if_neg (by decide)]
    exact m1
/-! judge -/
def rg (P : Nat → Bool) : Nat → Nat → Nat
  | 0, r => r
  | k + 1, r => if P r = true then rg P k (r + 1) else r
theorem rg_s {P : Nat → Bool} {k r : Nat} : rg P (k + 1) r = if P r = true then rg P k (r + 1) else r := rfl
theorem rg_b {P : Nat → Bool} : ∀ k r, r ≤ rg P k r ∧ rg P k r ≤ r + k
  | 0, r => ⟨Nat.le_refl _, Nat.le_refl _⟩
  | k + 1, r => by
    have := rg_b (P := P) k (r + 1)
    unfold rg
    split <;> omega
def rP (v : Nat → Int64) (L : List Nat) (r : Nat) : Bool := decide (lg_cmp (v r) (Int32.toInt64 (nI (L.getD r 0))) = 0)
theorem rc_go {o z : Nat} {L : List Nat} (ho : o < 4) (hz : z ≤ 40) (e1 : M.1 (51 + o) 1 = nI z) (hL : LX M L) (hl : L.length ≤ 252) : ∀ (k f r : Nat), r + k = min z L.length → k < f → g_lq1 (F_X7_rightOnes_43_2 M o (fun (x2 : Int32) => some x2)) f (nI r) = some (nI (rg (rP (M.2 (55 + o)) L) k r))
  | 0, f, r, hr, hf => by
    obtain ⟨f, rfl⟩ : ∃ f', f = f' + 1 := ⟨f - 1, by omega⟩
    rw [lq1_s, F_X7_rightOnes_43_2, e1, hL.1]
    by_cases c : z ≤ r
    · rw [if_pos (nI_le c (by omega))]
      rfl
    · rw [if_neg (nI_ge (by omega) (by omega)), if_pos (nI_le (by omega) (by omega))]
      rfl
  | k + 1, f, r, hr, hf => by
    obtain ⟨f, rfl⟩ : ∃ f', f = f' + 1 := ⟨f - 1, by omega⟩
    have ih := rc_go ho hz e1 hL hl k f (r + 1) (by omega) (by omega)
    rw [lq1_s, F_X7_rightOnes_43_2, e1, hL.1, if_neg (nI_ge (by omega) (by omega)), if_neg (nI_ge (by omega) (by omega)), e_ldl (by omega) (by omega), Option.bind_some, e_ld (by omega) (by omega), Option.bind_some, hL.2 r (by omega), nI_1, ih]
    rw [rg_s]
    by_cases c : lg_cmp (M.2 (55 + o) r) (Int32.toInt64 (nI (L.getD r 0))) = 0
    · rw [if_pos c, if_pos (show rP (M.2 (55 + o)) L r = true from decide_eq_true c)]
    · rw [if_neg c, if_neg (show ¬ rP (M.2 (55 + o)) L r = true from fun q => c (of_decide_eq_true q))]
theorem rm_go {o z A : Nat} {p : Nat → Bool} (ho : o < 4) (hz : z ≤ 40) (e1 : M.1 74 o = nI z) (hF : FM M A p) (hA : A < 1024) (ha : f_X12_all M = some (nI A)) (K : Int32 → Int32 → Int32 → g_M → Option (Int32 × g_M)) {v : Nat → Int64} (hv : ∀ k, k < 40 → v k = M.2 75 (40 * o + k)) : ∀ (k f r : Nat), r + k = min z (kl p A 0).length → k < f → g_lp3 (F_X12_judge_57 K) f (nI o) (nI (kl p A 0).length) (nI r) M = K (nI o) (nI (kl p A 0).length) (nI (rg (rP v (kl p A 0)) k r)) M
  | 0, f, r, hr, hf => by
    obtain ⟨f, rfl⟩ : ∃ f', f = f' + 1 := ⟨f - 1, by omega⟩
    have hl := kl_252 (p := p) hA 0
    rw [lp3_s, F_X12_judge_57, e_ld ho (by omega), Option.bind_some, e1]
    by_cases c : z ≤ r
    · rw [if_pos (nI_le c (by omega))]
      rfl
    · rw [if_neg (nI_ge (by omega) (by omega)), if_pos (nI_le (by omega) (by omega))]
      rfl
  | k + 1, f, r, hr, hf => by
    obtain ⟨f, rfl⟩ : ∃ f', f = f' + 1 := ⟨f - 1, by omega⟩
    have hl := kl_252 (p := p) hA 0
    have ih := rm_go ho hz e1 hF hA ha K hv k f (r + 1) (by omega) (by omega)
    have ei : (40 : Int32) * nI o + nI r = nI (40 * o + r) := by
      rw [show (40 : Int32) = nI 40 from rfl, pk_mul, nI_add]
    have fd : f_X12_find 0 (nI r) M = some (nI ((kl p A 0).getD r 0)) := by
      rw [find_kl hF hA ha 0 (by
        rw [i_le, nI_toInt (by omega)]
        have : (-1 : Int32).toInt = -1 := by decide
        omega)]
      unfold ans
      rw [if_neg (fun q => m1_ne (by omega) q.symm), nI_clamp (by omega), if_pos (by omega)]
    rw [lp3_s, F_X12_judge_57, e_ld ho (by omega), Option.bind_some, e1, if_neg (nI_ge (by omega) (by omega)), if_neg (nI_ge (by omega) (by omega)), ei, e_ldl (by omega) (by omega), Option.bind_some, fd, Option.bind_some, ← hv r (by omega), nI_1, ih]
    rw [rg_s]
    by_cases c : lg_cmp (v r) (Int32.toInt64 (nI ((kl p A 0).getD r 0))) = 0
    · rw [if_pos c, if_pos (show rP v (kl p A 0) r = true from decide_eq_true c)]
    · rw [if_neg c, if_neg (show ¬ rP v (kl p A 0) r = true from fun q => c (of_decide_eq_true q))]
theorem op_judge (ht : t < 64) (H : Rel0 t n l m h c1 c2 c3 M) (x y : Int32) : Op (f_X11_judge x y) (f_X12_judge x y) t M := by
  obtain ⟨h1, h2, h3, h4, h5, h6, h7, h8, h9, h10, h11⟩ := id H
  obtain ⟨b1, b2, b3, b4, e0, e4, e1, e3, eu, wA, wL, wH, wT⟩ := id h1
  rcases ix x (n := 4) (by omega) with ho | ⟨s, hs, rfl⟩
  · refine Op.t0 H ?_ ?_
    · unfold f_X11_judge
      rw [is_out ho, Option.bind_some, if_pos rfl]
    · unfold f_X12_judge
      rw [ms_out ho, Option.bind_some, if_pos rfl]
  obtain ⟨z, z1, z2, z3, z4, z5, z6, z7⟩ := h8 s hs
  by_cases cm : M.1 73 s = 0
  · refine Op.t5 H ?_ ?_
    · unfold f_X11_judge
      rw [is_in hs, Option.bind_some, if_neg (by decide), e_in hs (by omega), Option.bind_some]
      unfold f_X7_isMissing
      rw [z4, if_pos cm, Option.bind_some, if_neg (by decide)]
    · unfold f_X12_judge
      rw [ms_in hs, Option.bind_some, if_neg (by decide), e_ld hs (by omega), Option.bind_some, if_pos (show (tellM 5 M).1 73 s = 0 from cm)]
  rcases ix y (n := h) (by omega) with ho | ⟨i, hi, rfl⟩
  · refine Op.t0 H ?_ ?_
    · unfold f_X11_judge
      rw [is_in hs, Option.bind_some, if_neg (by decide), e_in hs (by omega), Option.bind_some]
      unfold f_X7_isMissing
      rw [z4, if_neg cm, Option.bind_some, if_pos rfl, hh_out h3.1 ho, Option.bind_some, if_pos rfl]
    · unfold f_X12_judge
      rw [ms_in hs, Option.bind_some, if_neg (by decide), e_ld hs (by omega), Option.bind_some, if_neg (show ¬ (tellM 0 M).1 73 s = 0 from cm), mh_out (n := h) (M := tellM 0 M) e3 (by omega) ho, Option.bind_some, if_pos rfl]
  have hA := all_1024 (M.1 60) b1
  obtain ⟨M0, o1, o2, o3, o4⟩ := os_eq H ht hi
  obtain ⟨M1, a1, a2, a3⟩ := fl_c hA (by decide) (by decide) o4
  have r1 := o2.keep a2 (by decide) (by decide)
  have r60 : M1.1 60 = M.1 60 := (a2.row (by decide) (by decide)).1.trans o3
  obtain ⟨N, f1, f2, f3⟩ := fo_eq hi h1 r60
  have ed2 : N.1 60 = M.1 60 := (f2.row (by decide) (by simp)).1.trans r60
  have al2 : f_X12_all N = some (nI (s_all (M.1 60) n)) := by rw [all_eq b1 (by rw [ed2]; exact e0), ed2]
  have hl := kl_252 (p := pO (M.1 60) n h i) hA 0
  obtain ⟨w, w1', w2, w3, w4, w5, w6, w7⟩ := r1.2.2.2.2.2.2.2.1 s hs
  have k73 : M1.1 73 s = 0 → False := fun q => by
    rw [(a2.row (k := 73) (by decide) (by decide)).1, ((r_X11_openingSets o1).row (k := 73) (by decide) (by decide)).1] at q
    exact cm q
  have rb := rg_b (P := rP (M1.2 (55 + s)) (kl (pO (M.1 60) n h i) (s_all (M.1 60) n) 0)) (min w (kl (pO (M.1 60) n h i) (s_all (M.1 60) n) 0).length) 0
  have rc := rc_go (M := M1) hs w1' w2 a3 hl (min w (kl (pO (M.1 60) n h i) (s_all (M.1 60) n) 0).length) 20000000 0 (by omega) (by omega)
  have n74 : N.1 74 s = nI w := by
    rw [(f2.row (k := 74) (by decide) (by simp)).1]
    exact w3
  have rm := rm_go (M := N) hs w1' n74 f3 hA al2 f_X12_judge_104 (v := M1.2 (55 + s)) (fun k hk => by
    rw [(f2.row (k := 75) (by decide) (by simp)).2]
    exact w7 k hk) (min w (kl (pO (M.1 60) n h i) (s_all (M.1 60) n) 0).length) 20000000 0 (by omega) (by omega)
  generalize rg (rP (M1.2 (55 + s)) (kl (pO (M.1 60) n h i) (s_all (M.1 60) n) 0)) (min w (kl (pO (M.1 60) n h i) (s_all (M.1 60) n) 0).length) 0 = r at rb rc rm
  refine Op.say' (v := if r = (kl (pO (M.1 60) n h i) (s_all (M.1 60) n) 0).length ∧ r = w then 0 else nI (r + 1)) r1 ?_ ?_ f2 (by decide) (by simp)
  · unfold f_X11_judge
    rw [is_in hs, Option.bind_some, if_neg (by decide), e_in hs (by omega), Option.bind_some]
    unfold f_X7_isMissing
    rw [z4, if_neg cm, Option.bind_some, if_pos rfl, hh_in h3.1 hi (by omega), Option.bind_some, if_neg (by decide), o1, Option.bind_some]
    unfold f_X6_findLeast_43_41
    rw [Option.bind_some, Gl41, a1, Option.bind_some, Option.bind_some, show f_X7_rightOnes_43 s M1 = some (nI r) from rc, Option.bind_some, a3.1, Option.bind_some, w2, nI_1]
    by_cases q1 : r = (kl (pO (M.1 60) n h i) (s_all (M.1 60) n) 0).length
    · rw [if_pos (by rw [q1])]
      by_cases q2 : r = w
      · rw [if_pos (by rw [q2]), if_pos ⟨q1, q2⟩]
      · rw [if_neg (fun q => q2 ((nI_eq (by omega) (by omega)).mp q)), if_neg (fun q => q2 q.2)]
    · rw [if_neg (fun q => q1 ((nI_eq (by omega) (by omega)).mp q)), if_neg (fun q => q1 q.1)]
  · unfold f_X12_judge
    rw [ms_in hs, Option.bind_some, if_neg (by decide), e_ld hs (by omega), Option.bind_some, if_neg k73, mh_in (n := h) (M := M1) (by rw [r60]; exact e3) (by omega) hi, Option.bind_some, if_neg (by decide), f1, Option.bind_some, find_kl f3 hA al2 0 (by decide)]
    unfold ans
    rw [if_pos rfl, Option.bind_some]
    refine Eq.trans rm ?_
    unfold f_X12_judge_104
    rw [e_ld hs (by omega), Option.bind_some, n74, show (1 : Int32) + nI r = nI (r + 1) from by rw [Int32.add_comm, nI_1]]
    by_cases q1 : r = (kl (pO (M.1 60) n h i) (s_all (M.1 60) n) 0).length
    · rw [if_pos (by rw [q1])]
      by_cases q2 : r = w
      · rw [if_pos (by rw [q2]), if_pos ⟨q1, q2⟩]
      · rw [if_neg (fun q => q2 ((nI_eq (by omega) (by omega)).mp q)), if_neg (fun q => q2 q.2)]
    · rw [if_neg (fun q => q1 ((nI_eq (by omega) (by omega)).mp q)), if_neg (fun q => q1 q.1)]
end COULD
