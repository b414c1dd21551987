section ALLOW
variable {t n l m h c1 c2 c3 : Nat} {M : g_M} {d : Nat → Int32}
theorem wgt_go (h1 : W_D (M.1 60) n l m h) (h2 : X_E (M.1 60) n l (M.1 3 0) (M.1 3 1) (M.1 3 2) (M.1 4) (M.1 5) (M.1 6) (M.1 7)) (S : Int32) : ∀ (k f i : Nat), i + k = n → k < f → g_lq3 (F_X0_weightOf_4 M (fun (x2 : Int32) => some x2)) f S (s_wgt (M.1 60) S i) (nI i) = some (s_wgt (M.1 60) S n)
  | 0, f, i, hi, hf => by
    obtain ⟨f, rfl⟩ : ∃ f', f = f' + 1 := ⟨f - 1, by omega⟩
    have b1 := h1.1
    have : i = n := by omega
    subst this
    rw [lq3_s, F_X0_weightOf_4, h2.1, if_pos (nI_le (Nat.le_refl _) (by omega))]
  | k + 1, f, i, hi, hf => by
    obtain ⟨f, rfl⟩ : ∃ f', f = f' + 1 := ⟨f - 1, by omega⟩
    have b1 := h1.1
    have ih := wgt_go h1 h2 S k f (i + 1) (by omega) (by omega)
    have q := h2.2.2.2.2.1 i (by omega)
    rw [lq3_s, F_X0_weightOf_4, h2.1, if_neg (nI_ge (by omega) (by omega)), e_ld (by omega) (by omega), Option.bind_some, Option.bind_some, q.1, b_bit _ (by omega), nI_1, ← ih]
    show _ = g_lq3 (F_X0_weightOf_4 M (fun (x2 : Int32) => some x2)) f S (s_wgt (M.1 60) S i + (if bt S i = true then (M.1 60) (10 + i) else 0)) (nI (i + 1))
    cases bt S i
    · rw [if_neg (show ¬ false = true by decide), if_neg (show ¬ false = true by decide), Int32.zero_mul]
    · rw [if_pos rfl, if_pos rfl, Int32.one_mul]
theorem wgt_eq (h1 : W_D (M.1 60) n l m h) (h2 : X_E (M.1 60) n l (M.1 3 0) (M.1 3 1) (M.1 3 2) (M.1 4) (M.1 5) (M.1 6) (M.1 7)) (S : Int32) : f_X0_weightOf S M = some (s_wgt (M.1 60) S n) := wgt_go h1 h2 S n 20000000 0 (by omega) (by have := h1.1; omega)
theorem al_st {A al w : Int32} (hal : hAl A al) (hw : f_X0_weightOf A M = some w) (k : Int32 → Int32 → Int32 → Int32 → Int32 → Option Int32) (x1 x x6 st : Int32) : (if (st &&& 7) = 4 then (k x1 A al (x ^^^ 1) (x6 + 1)) else ((if (st &&& 7) = 5 then ((some (((Int32.toUInt32 x >>> (Int32.toUInt32 1 &&& Int32.toUInt32 31)).toInt32) &&& ((x &&& 1) ||| (-2)))).bind fun y8 => k x1 A al y8 (x6 + 1)) else ((if (st &&& 7) = 6 then ((some (((Int32.toUInt32 x >>> (Int32.toUInt32 1 &&& Int32.toUInt32 31)).toInt32) ||| (x &&& 1))).bind fun y7 => k x1 A al y7 (x6 + 1)) else ((if (st &&& 7) = 3 then ((f_X0_weightOf A M).bind fun p6 => (if p6 < ((st >>> (3 &&& 31)) &&& 127) then (f_X10_allow_13_3_152 k x1 A al x x6 0 M) else (f_X10_allow_13_3_152 k x1 A al x x6 1 M))) else ((f_X10_partHolds (st &&& 7) ((st >>> (3 &&& 31)) &&& 127) A ((st >>> (10 &&& 31)) &&& al) M).bind fun p5 => f_X10_allow_13_3_152 k x1 A al x x6 p5 M)))))))) = k x1 A al (w1 A al w st x) (x6 + 1) := by
  have e152 : ∀ v : Bool, f_X10_allow_13_3_152 k x1 A al x x6 (bi v) M = k x1 A al ((x <<< (1 &&& 31)) ||| bi v) (x6 + 1) := fun v => by cases v <;> rfl
  unfold w1
  by_cases c4 : st &&& 7 = 4
  · rw [if_pos c4, if_pos c4]
  rw [if_neg c4, if_neg c4]
  by_cases c5 : st &&& 7 = 5
  · rw [if_pos c5, if_pos c5, Option.bind_some]
  rw [if_neg c5, if_neg c5]
  by_cases c6 : st &&& 7 = 6
  · rw [if_pos c6, if_pos c6, Option.bind_some]
  rw [if_neg c6, if_neg c6, ← e152]
  unfold s_pv
  by_cases c3 : st &&& 7 = 3
  · rw [if_pos c3, if_pos c3, hw, Option.bind_some]
    by_cases q : w < ((st >>> (3 &&& 31)) &&& 127)
    · rw [if_pos q, decide_eq_false (fun z => z q)]
      rfl
    · rw [if_neg q, decide_eq_true q]
      rfl
  rw [if_neg c3, if_neg c3]
  unfold f_X10_partHolds
  by_cases c0 : st &&& 7 = 0
  · rw [if_pos c0, if_pos c0]
    have hi : ∀ i, 24 ≤ i → bt (A &&& ((st >>> (10 &&& 31)) &&& al)) i = false := fun i hi => hal.hi _ hi
    rw [pop_32 hi]
    obtain ⟨z, hz, ez⟩ := b_small (m := 24) hi
    rw [ez, bitc hz, Option.bind_some]
    by_cases q : nI (s_pop (nI z) 24) < ((st >>> (3 &&& 31)) &&& 127)
    · rw [if_pos q, Option.bind_some, decide_eq_false (fun z => z q)]
      rfl
    · rw [if_neg q, Option.bind_some, decide_eq_true q]
      rfl
  rw [if_neg c0, if_neg c0]
  by_cases c1 : st &&& 7 = 1
  · rw [if_pos c1, if_pos c1]
    by_cases q : (((st >>> (10 &&& 31)) &&& al) &&& (A ^^^ (-1))) = 0
    · rw [if_pos q, Option.bind_some, decide_eq_true q]
      rfl
    · rw [if_neg q, Option.bind_some, decide_eq_false q]
      rfl
  rw [if_neg c1, if_neg c1]
  by_cases q : (A &&& ((st >>> (10 &&& 31)) &&& al)) = 0
  · rw [if_pos q, Option.bind_some, decide_eq_false (fun z => z q)]
    rfl
  · rw [if_neg q, Option.bind_some, decide_eq_true q]
    rfl
theorem al_go {A al w : Int32} (hal : hAl A al) (hw : f_X0_weightOf A M = some w) {u : Nat} (hu : u < 8) {c : List Int32} (hl : c.length ≤ 120) (h14 : M.1 14 u = nI c.length) (hc : ∀ i, i < c.length → M.1 (16 + u) i = c.getD i 0) (K : Int32 → Option Int32) : ∀ (k f i : Nat) (x : Int32), i + k = c.length → k < f → g_lq5 (F_X10_allow_13_3_12 M K) f (nI u) A al x (nI i) = K (w_ev A al w (c.drop i) x)
  | 0, f, i, x, hi, hf => by
    obtain ⟨f, rfl⟩ : ∃ f', f = f' + 1 := ⟨f - 1, by omega⟩
    rw [lq5_s, F_X10_allow_13_3_12, e_ld hu (by omega), Option.bind_some, h14, if_pos (nI_le (by omega) (by omega)), List.drop_eq_nil_of_le (by omega)]
    rfl
  | k + 1, f, i, x, hi, hf => by
    obtain ⟨f, rfl⟩ : ∃ f', f = f' + 1 := ⟨f - 1, by omega⟩
    have ih := al_go hal hw hu hl h14 hc K k f (i + 1) (w1 A al w (c.getD i 0) x) (by omega) (by omega)
    have ed : c.drop i = c.getD i 0 :: c.drop (i + 1) := by
      rw [List.drop_eq_getElem_cons (show i < c.length by omega)]
      congr 1
      rw [List.getD_eq_getElem?_getD, List.getElem?_eq_getElem (show i < c.length by omega)]
      rfl
    rw [ed]
    show _ = K (w_ev A al w (c.drop (i + 1)) (w1 A al w (c.getD i 0) x))
    rw [← ih, lq5_s, F_X10_allow_13_3_12, e_ld hu (by omega), Option.bind_some, h14, if_neg (nI_ge (by omega) (by omega)), e_in hu (by omega), Option.bind_some, e_ld (by omega) (by omega), Option.bind_some, hc i (by omega), al_st hal hw, nI_1]
/-- a text's value for a set -/
theorem may_val (W : W_D d n l m h) {u : Nat} (hu : u < m) (S : Int32) : ∃ (L : Nat) (c : List Int32), L ≤ 120 ∧ c.length ≤ 120 ∧ d (240 + u) = nI L ∧ (∀ k, k < L → ∃ q, q < 256 ∧ d (248 + 120 * u + k) = nI q) ∧ s_text (fun k => d (248 + 120 * u + k)) L = .inl c ∧ VAL 17 (S &&& nI (s_all d n)) (nI (s_all d n)) (s_wgt d (S &&& nI (s_all d n)) n) c (s_may d n u S) := by
  obtain ⟨b1, b2, b3, b4, e0, e4, e1, e3, eu, wA, wL, wH, wT⟩ := id W
  obtain ⟨L, c, t1, t2, t3, t4, t5⟩ := wT u hu
  obtain ⟨M', v, -, -, r3⟩ := rd_m (b := fun k => d (248 + 120 * u + k)) (L := L) (M := (fun c k => if c = 60 then d k else 0, fun _ _ => 0)) (d := d) b1 e0 (show (fun k => if 60 = 60 then d k else 0) = d from funext fun k => if_pos rfl) (x1 := nI (248 + 120 * u)) (x2 := nI L) (x3 := S) ⟨t1, rfl, Or.inr ⟨u, by omega, rfl, fun k hk => rfl⟩, t3⟩
  have rv := (r3.1 c t4).2
  refine ⟨L, c, t1, t5, t2, t3, t4, ?_⟩
  have e : s_may d n u S = v := by
    unfold s_may
    rw [t2, nI_clamp (by omega), t4]
    show (s_ev _ _ _ c []).headD false = v
    rw [rv.1 []]
    rfl
  rw [e]
  exact rv
theorem allow_eq (h1 : W_D (M.1 60) n l m h) (h2 : X_E (M.1 60) n l (M.1 3 0) (M.1 3 1) (M.1 3 2) (M.1 4) (M.1 5) (M.1 6) (M.1 7)) (h4 : X_T (M.1 60) m (M.1 13 0) (M.1 13 1) (M.1 14) (fun t => M.1 (16 + t))) {u : Nat} (hu : u < m) {S : Int32} (hS : S &&& nI (s_all (M.1 60) n) = S) : f_X10_allow_13_3 (nI u) S M = some (bi (s_may (M.1 60) n u S)) := by
  have b3 := h1.2.2.1
  obtain ⟨L, c, m1, m2, m3, m4, m5, m6⟩ := may_val h1 hu S
  rw [hS] at m6
  have hal : hAl S (nI (s_all (M.1 60) n)) := ⟨⟨_, all_1024 _ h1.1, rfl⟩, hS⟩
  obtain ⟨x1, x2⟩ := h4.2.2 u hu L c m1 m3 m5
  unfold f_X10_allow_13_3
  rw [present_eq h1 h2, Option.bind_some]
  refine (al_go hal (wgt_eq h1 h2 S) (by omega) m2 x1 x2 _ c.length 20000000 0 0 (by omega) (by omega)).trans ?_
  rw [List.drop_zero]
  have e := m6.2 0 (by decide)
  rw [show w_ev S (nI (s_all (M.1 60) n)) (s_wgt (M.1 60) S n) c 0 = nI (2 * 0 + bN (s_may (M.1 60) n u S)) from e]
  cases s_may (M.1 60) n u S <;> rfl
abbrev T9 : List (Nat × Nat) := [(59, 6), (59, 7), (59, 8), (59, 9), (59, 10), (59, 11), (59, 12), (59, 13), (59, 14), (59, 15), (59, 16)]
theorem mb_eq (W : W_D d n l m h) (ed : M.1 60 = d) {u : Nat} (hu : u < m) (S : Int32) : ∃ M' : g_M, f_X12_mayBy (nI u) S M = some (bi (s_may d n u S), M') ∧ g_fr [] T9 M M' := by
  obtain ⟨b1, b2, b3, b4, e0, e4, e1, e3, eu, wA, wL, wH, wT⟩ := id W
  obtain ⟨L, c, m1, m2, m3, m4, m5, m6⟩ := may_val W hu S
  obtain ⟨M', v, r1, r2, r3⟩ := rd_m (b := fun k => d (248 + 120 * u + k)) (L := L) (M := M) (d := d) b1 e0 ed (x1 := nI (248 + 120 * u)) (x2 := nI L) (x3 := S) ⟨m1, rfl, Or.inr ⟨u, by omega, rfl, fun k hk => by
    show M.1 60 (248 + 120 * u + k) = _
    rw [ed]⟩, m4⟩
  have rv := (r3.1 c m5).2
  have e : v = s_may d n u S := by
    have a1 := rv.1 []
    rw [m6.1 []] at a1
    exact (List.cons.inj a1).1.symm
  refine ⟨M', ?_, r2⟩
  have l240 : g_ld M 60 1208 (240 + nI u) = some (nI L) := by
    rw [show (240 : Int32) = nI 240 from rfl, nI_add, e_ld (by omega) (by omega), ed, m3]
  have e248 : (248 : Int32) + 120 * nI u = nI (248 + 120 * u) := by
    rw [show (120 : Int32) = nI 120 from rfl, pk_mul, show (248 : Int32) = nI 248 from rfl, nI_add]
  unfold f_X12_mayBy
  rw [l240, Option.bind_some, e248, r1, Option.bind_some]
  dsimp only
  rw [bi_bz, Option.bind_some, e]
theorem op_may (H : Rel0 t n l m h c1 c2 c3 M) (x y : Int32) : Op (f_X11_may x y) (f_X12_may x y) t M := by
  obtain ⟨h1, h2, h3, h4, h5, h6, h7, h8, h9, h10, h11⟩ := id H
  obtain ⟨b1, b2, b3, b4, e0, e4, e1, e3, eu, wA, wL, wH, wT⟩ := id h1
  rcases ix x (n := m) (by omega) with ho | ⟨u, hu, rfl⟩
  · refine Op.t0 H ?_ ?_
    · unfold f_X11_may
      rw [ht_out h4.1 ho, Option.bind_some, if_pos rfl]
      rfl
    · unfold f_X12_may
      rw [ld_1, Option.bind_some, show (tellM 0 M).1 60 1 = nI m from e1, in_out _ (out_m1 (by omega) ho), Option.bind_some, if_pos rfl]
      rfl
  rcases set_ix b1 y with ho | ⟨s, hs, rfl⟩
  · refine Op.t0 H ?_ ?_
    · unfold f_X11_may
      rw [ht_in h4.1 hu (by omega), Option.bind_some, if_neg (by decide), sc_out b1 h2.1 ho, Option.bind_some, if_pos rfl]
      rfl
    · unfold f_X12_may
      rw [ld_1, Option.bind_some, show (tellM 0 M).1 60 1 = nI m from e1, in_in _ (nI_pos (by omega)) (in_m1 (by omega) hu), Option.bind_some, if_neg (by decide), sm_out (M := tellM 0 M) b1 e0 ho, Option.bind_some, if_pos rfl]
      rfl
  obtain ⟨M', r1, r2⟩ := mb_eq h1 rfl hu (nI s)
  have hS : (nI s &&& nI (s_all (M.1 60) n)) &&& nI (s_all (M.1 60) n) = nI s &&& nI (s_all (M.1 60) n) := by rw [Int32.and_assoc, Int32.and_self]
  have es : s_may (M.1 60) n u (nI s &&& nI (s_all (M.1 60) n)) = s_may (M.1 60) n u (nI s) := by
    unfold s_may
    rw [hS]
  refine Op.say' (v := bi (s_may (M.1 60) n u (nI s))) H ?_ ?_ r2 (by simp) (by decide)
  · unfold f_X11_may
    rw [ht_in h4.1 hu (by omega), Option.bind_some, if_neg (by decide), sc_in b1 h2.1 hs, Option.bind_some, if_neg (by decide), present_eq h1 h2, Option.bind_some, allow_eq h1 h2 h4 hu hS, Option.bind_some, es]
    cases s_may (M.1 60) n u (nI s) <;> rfl
  · unfold f_X12_may
    rw [ld_1, Option.bind_some, e1, in_in _ (nI_pos (by omega)) (in_m1 (by omega) hu), Option.bind_some, if_neg (by decide), sm_in b1 e0 hs, Option.bind_some, if_neg (by decide), r1, Option.bind_some]
    cases s_may (M.1 60) n u (nI s) <;> rfl
end ALLOW
