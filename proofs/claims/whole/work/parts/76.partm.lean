section PARTM
variable {b : Nat → Int32} {L : Nat} {M : g_M} {t : s_T} {A al w : Int32} {o : Nat}
/-- the model reads on: nothing is wrong yet -/
def MS (b : Nat → Int32) (L : Nat) (A al w : Int32) (o : Nat) (M : g_M) (t : s_T) : Prop := BA b L M ∧ MT b L M t ∧ OT L t ∧ M.1 59 16 = 0 ∧ M.1 59 15 = nI o ∧ M.1 59 8 = A ∧ M.1 59 10 = al ∧ M.1 59 9 = w
/-- something was wrong at the place p -/
def MB (M : g_M) (p : Nat) : Prop := M.1 59 16 = 1 ∧ M.1 59 12 = nI p
abbrev F6 (M M' : g_M) : Prop := g_fr [] [(59, 11), (59, 12), (59, 13), (59, 14), (59, 15), (59, 16)] M M'
theorem MS.bad (ms : MS b L A al w o M t) : MB (g_u M 59 16 1) t.1 := ⟨rfl, ms.2.1.1⟩
theorem MB.bad {p : Nat} (mb : MB M p) : MB (g_u M 59 16 1) p := ⟨rfl, mb.2⟩
theorem F4.six {M M' : g_M} (h : F4 M M') : F6 M M' := g_fr.mono h (by decide) (by decide)
def wp (b : Nat → Int32) (s j i : Nat) : Bool := (List.range i).all (fun k => b (s + k) == (g_sbyt.getD j []).getD k 0)
theorem wp_s {s j i : Nat} : wp b s j (i + 1) = (wp b s j i && (b (s + i) == (g_sbyt.getD j []).getD i 0)) := by
  unfold wp
  rw [List.range_succ, List.all_append, List.all_cons, List.all_nil, Bool.and_true]
theorem iw_go {s j : Nat} (hj : j < 11) (tp : BA b L M) (e12 : M.1 59 12 = nI s) (hs : s + g_slen.getD j 0 ≤ L) : ∀ (k f i : Nat), i + k = g_slen.getD j 0 → k < f → g_lq2 (F_X12_isWord_59_37 M j (fun (x2 : Int32) => (g_bz x2).bind fun z5 => some z5)) f (bi (wp b s j i)) (nI i) = some (bi (wp b s j (g_slen.getD j 0)))
  | 0, f, i, hi, hf => by
    obtain ⟨f, rfl⟩ : ∃ f', f = f' + 1 := ⟨f - 1, by omega⟩
    have h8 := slen_8 j hj
    have : i = g_slen.getD j 0 := by omega
    rw [lq2_s, F_X12_isWord_59_37, f_J0_length_8abf5, Option.bind_some, if_pos (nI_le (by omega) (by omega)), bi_bz, Option.bind_some, this]
  | k + 1, f, i, hi, hf => by
    obtain ⟨f, rfl⟩ : ∃ f', f = f' + 1 := ⟨f - 1, by omega⟩
    have h8 := slen_8 j hj
    have hL := tp.1
    have ih := iw_go hj tp e12 hs k f (i + 1) (by omega) (by omega)
    rw [wp_s] at ih
    rw [lq2_s, F_X12_isWord_59_37, f_J0_length_8abf5, Option.bind_some, if_neg (nI_ge (by omega) (by omega)), nI_1, ← ih]
    cases wp b s j i
    · rw [if_pos ((bi_0 false).mpr rfl), Bool.false_and]
      rfl
    · rw [if_neg (fun q => absurd ((bi_0 true).mp q) (by decide)), Bool.true_and, e12, nI_add, tp.at (by omega), Option.bind_some, bat_in (by omega), f_J0_charAt_5068e, if_neg (nI_in (by omega) (by omega)), Option.bind_some, nI_clamp (by omega)]
      by_cases c : b (s + i) = (g_sbyt.getD j []).getD i 0
      · rw [if_pos c, beq_iff_eq.mpr c]
        rfl
      · rw [if_neg c, beq_eq_false_iff_ne.mpr c]
        rfl
theorem dec_iff {P : Prop} [Decidable P] {c : Bool} (h : c = true ↔ P) : c = decide P := by
  cases c
  · rw [eq_comm, decide_eq_false_iff_not]
    intro p
    exact absurd (h.mpr p) (by decide)
  · rw [eq_comm, decide_eq_true_iff]
    exact h.mp rfl
theorem isW (ms : MS b L A al w o M t) {j : Nat} (hj : j < 11) : f_X12_isWord_59 j M = some (bi (decide (t.2.2.1 = nI (7 + j)))) := by
  obtain ⟨tp, mt, ot, h16, -⟩ := ms
  have hL := tp.1
  have h8 := slen_8 j hj
  have o1 := ot.1
  have o2 := ot.2.1
  have mk := mt.2.2.2.1 j hj
  unfold f_X12_isWord_59
  rw [if_pos h16]
  by_cases m1 : M.1 59 11 = 1
  · rw [if_pos m1, f_J0_length_8abf5, Option.bind_some, mt.1, mt.2.1, pk_sub o1]
    by_cases c : t.2.1 - t.1 = g_slen.getD j 0
    · rw [if_pos (by rw [c])]
      refine (iw_go hj tp mt.1 (by omega) (g_slen.getD j 0) 20000000 0 (by omega) (by omega)).trans ?_
      have e : s_is b t.1 t.2.1 j = wp b t.1 j (g_slen.getD j 0) := by
        unfold s_is wp
        rw [decide_eq_true c, Bool.true_and]
      rw [← e]
      congr 2
      exact dec_iff ⟨fun q => mk.mp ⟨m1, q⟩, fun q => (mk.mpr q).2⟩
    · rw [if_neg (fun q => c ((nI_eq (by omega) (by omega)).mp q)), decide_eq_false (fun q => c (s_is_1.mp (mk.mpr q).2).1)]
      rfl
  · rw [if_neg m1, decide_eq_false (fun q => m1 (mk.mpr q).1)]
    rfl
theorem isW_t (ms : MS b L A al w o M t) {j : Nat} (hj : j < 11) (h : t.2.2.1 = nI (7 + j)) : f_X12_isWord_59 j M = some 1 := by
  rw [isW ms hj, decide_eq_true h]
  rfl
theorem isW_f (ms : MS b L A al w o M t) {j : Nat} (hj : j < 11) (h : ¬ t.2.2.1 = nI (7 + j)) : f_X12_isWord_59 j M = some 0 := by
  rw [isW ms hj, decide_eq_false h]
  rfl
theorem isW_b (mb : M.1 59 16 = 1) (j : Nat) : f_X12_isWord_59 j M = some 0 := by
  unfold f_X12_isWord_59
  rw [mb, if_neg (by decide)]
theorem isS_b (mb : M.1 59 16 = 1) (c : Int32) : f_X12_isSign c M = some 0 := by
  unfold f_X12_isSign
  rw [mb, if_neg (by decide)]
theorem isS_t (h16 : M.1 59 16 = 0) {c : Int32} (h : M.1 59 11 = 3 ∧ M.1 59 14 = c) : f_X12_isSign c M = some 1 := by
  unfold f_X12_isSign
  rw [if_pos h16, if_pos h.1, if_pos h.2]
theorem isS_f (h16 : M.1 59 16 = 0) {c : Int32} (h : ¬ (M.1 59 11 = 3 ∧ M.1 59 14 = c)) : f_X12_isSign c M = some 0 := by
  unfold f_X12_isSign
  rw [if_pos h16]
  by_cases k : M.1 59 11 = 3
  · rw [if_pos k, if_neg (fun q => h ⟨k, q⟩)]
  · rw [if_neg k]
/-- the model goes by a token -/
theorem mnext (ms : MS b L A al w o M t) : ∃ M' : g_M, f_X12_next M = some M' ∧ F4 M M' ∧ MS b L A al w o M' (s_adv b L t) := by
  obtain ⟨tp, mt, ot, h16, h15, h8, h10, h9⟩ := ms
  obtain ⟨M', m1, m2, m3⟩ := next_m tp ot.2.1 mt.2.1
  exact ⟨M', m1, m2, tp.fr m2 (by decide), m3, ot.adv.1, (m2.at (by decide) (by decide)).trans h16, (m2.at (by decide) (by decide)).trans h15, (m2.at (by decide) (by decide)).trans h8, (m2.at (by decide) (by decide)).trans h10, (m2.at (by decide) (by decide)).trans h9⟩
theorem MS.u16 (ms : MS b L A al w o M t) : MS b L A al w o (g_u M 59 16 0) t := by
  obtain ⟨tp, mt, ot, h16, h15, h8, h10, h9⟩ := ms
  have fr : g_fr [] [(59, 16)] M (g_u M 59 16 0) := g_fr.rfl.uT (by decide)
  exact ⟨tp.fr fr (by decide), mt, ot, rfl, h15, h8, h10, h9⟩
theorem MS.u15 (ms : MS b L A al w o M t) (o' : Nat) {x : Int32} (hx : x = nI o') : MS b L A al w o' (g_u M 59 15 x) t := by
  obtain ⟨tp, mt, ot, h16, h15, h8, h10, h9⟩ := ms
  have fr : g_fr [] [(59, 15)] M (g_u M 59 15 x) := g_fr.rfl.uT (by decide)
  exact ⟨tp.fr fr (by decide), mt, ot, h16, hx, h8, h10, h9⟩
theorem need_1 (ms : MS b L A al w o M t) : ∃ M' : g_M, f_X12_need 1 M = some (1, M') ∧ F6 M M' ∧ MS b L A al w o M' (s_adv b L t) := by
  obtain ⟨M', m1, m2, m3⟩ := mnext ms.u16
  have h16 := ms.2.2.2.1
  refine ⟨M', ?_, (g_fr.rfl.uT (by decide)).trans m2.six, m3⟩
  unfold f_X12_need
  rw [if_pos h16, if_neg (show ¬ (1 : Int32) = 0 by decide)]
  unfold f_X12_need_17
  rw [g_bz0, Option.bind_some, Option.bind_some, if_pos (show (g_u M 59 16 0).1 59 16 = 0 from rfl), m1, Option.bind_some]
  unfold f_X12_need_31
  rw [if_pos m3.2.2.2.1]
theorem need_17 : f_X12_need_17 1 M = some (0, g_u M 59 16 1) := by
  unfold f_X12_need_17
  rw [g_bz1, Option.bind_some, Option.bind_some, if_neg (show ¬ (g_u M 59 16 1).1 59 16 = 0 from show ¬ (1 : Int32) = 0 by decide)]
  unfold f_X12_need_31
  rw [if_neg (show ¬ (g_u M 59 16 1).1 59 16 = 0 from show ¬ (1 : Int32) = 0 by decide)]
theorem need_0 (M : g_M) : f_X12_need 0 M = some (0, g_u M 59 16 1) := by
  unfold f_X12_need
  rw [need_17]
  split
  · rw [if_pos rfl]
  · rfl
theorem need_b (mb : M.1 59 16 = 1) (x : Int32) : f_X12_need x M = some (0, g_u M 59 16 1) := by
  unfold f_X12_need
  rw [mb, if_neg (by decide), need_17]
theorem num31_0 (x : Int32) : f_X12_number_31 x 0 M = some (0, g_u M 59 16 1) := by
  unfold f_X12_number_31
  rw [need_0, Option.bind_some, if_pos rfl]
theorem num_b (mb : M.1 59 16 = 1) (mo : Int32) : f_X12_number mo M = some (0, g_u M 59 16 1) := by
  unfold f_X12_number
  rw [mb, if_neg (by decide)]
  exact num31_0 _
theorem num_1 (ms : MS b L A al w o M t) (k2 : t.2.2.1 = 2) {mo : Int32} (hmo : ¬ mo < t.2.2.2) : ∃ M' : g_M, f_X12_number mo M = some (t.2.2.2, M') ∧ F6 M M' ∧ MS b L A al w o M' (s_adv b L t) := by
  obtain ⟨M', m1, m2, m3⟩ := need_1 ms
  have h16 := ms.2.2.2.1
  have mk := ms.2.1.2.2.2.2.2.2.2.2.1 k2
  refine ⟨M', ?_, m2, m3⟩
  unfold f_X12_number
  rw [if_pos h16, if_pos mk.1, mk.2.1, if_neg hmo]
  unfold f_X12_number_31
  rw [m1, Option.bind_some, if_neg (show ¬ (1 : Int32) = 0 by decide)]
theorem num_0 (ms : MS b L A al w o M t) {mo : Int32} (h9 : mo = 9 ∨ mo = 99) (h : ¬ (t.2.2.1 = 2 ∧ ¬ mo < t.2.2.2)) : f_X12_number mo M = some (0, g_u M 59 16 1) := by
  have h16 := ms.2.2.2.1
  have mk := ms.2.1.2.2.2.2.2.2.2.2
  unfold f_X12_number
  rw [if_pos h16]
  by_cases m2 : M.1 59 11 = 2
  · rw [if_pos m2]
    by_cases k2 : t.2.2.1 = 2
    · rw [(mk.1 k2).2.1, if_pos (Classical.not_not.mp (fun q => h ⟨k2, q⟩))]
      exact num31_0 _
    · have := mk.2 k2 m2
      rw [if_pos]
      · exact num31_0 _
      · rcases h9 with rfl | rfl
        · exact Int32.lt_trans (by decide) this
        · exact this
  · rw [if_neg m2]
    exact num31_0 _
theorem p71_b (mb : M.1 59 16 = 1) (x : Int32) : f_X12_part_71 x M = some (x, g_u M 59 16 1) := by
  unfold f_X12_part_71
  rw [isS_b mb, Option.bind_some, need_0, Option.bind_some]
theorem p71_1 (ms : MS b L A al w o M t) (k6 : t.2.2.1 = 6) (x : Int32) : ∃ M' : g_M, f_X12_part_71 x M = some (x, M') ∧ F6 M M' ∧ MS b L A al w o M' (s_adv b L t) := by
  obtain ⟨M', m1, m2, m3⟩ := need_1 ms
  refine ⟨M', ?_, m2, m3⟩
  unfold f_X12_part_71
  rw [isS_t ms.2.2.2.1 (ms.2.1.2.2.2.2.2.2.2.1.mpr k6), Option.bind_some, m1, Option.bind_some]
theorem p71_0 (ms : MS b L A al w o M t) (k6 : ¬ t.2.2.1 = 6) (x : Int32) : f_X12_part_71 x M = some (x, g_u M 59 16 1) := by
  unfold f_X12_part_71
  rw [isS_f ms.2.2.2.1 (fun q => k6 (ms.2.1.2.2.2.2.2.2.2.1.mp q)), Option.bind_some, need_0, Option.bind_some]
/-- behind the text there is no token -/
theorem OT.past (ot : OT L t) (h : L ≤ t.1) : t.2.2.1 = 0 := by
  have o1 := ot.1
  have o2 := ot.2.1
  refine Classical.byContradiction fun q => ?_
  have := ot.2.2 q
  omega
abbrev PL : Int32 → g_M → Option (Int32 × g_M) := fun (x1 : Int32) (M : g_M) => f_X12_part_71 x1 M
theorem pl_b (mb : M.1 59 16 = 1) {f : Nat} (x : Int32) : g_lp1 (F_X12_part_42 PL) (f + 1) x M = some (x, g_u M 59 16 1) := by
  rw [lp1_s, F_X12_part_42, mb, if_neg (by decide)]
  exact p71_b mb x
theorem pset {q z : Nat} (hq : q < 1024) (hz : z ≤ 9) : ∃ q', q' < 1024 ∧ q' ≠ 0 ∧ nI q ||| ((1 : Int32) <<< (nI z &&& 31)) = nI q' := by
  rw [pw_shl z (by omega), nx_or]
  refine ⟨q ||| 2 ^ z, Nat.or_lt_two_pow (n := 10) hq (Nat.pow_lt_pow_right (by omega) (by omega)), ?_, rfl⟩
  intro h
  have : (q ||| 2 ^ z).testBit z = true := by
    rw [Nat.testBit_or, Nat.testBit_two_pow_self, Bool.or_true]
  rw [h, Nat.zero_testBit] at this
  exact absurd this (by decide)
theorem pm_go : ∀ (n f : Nat) (M : g_M) (t : s_T) (p : Int32), MS b L A al w o M t → L ≤ t.1 + n → n + 1 < f → (∃ q, q < 1024 ∧ q ≠ 0 ∧ p = nI q) → ∃ (M' : g_M) (r : Int32), g_lp1 (F_X12_part_42 PL) f p M = some (r, M') ∧ F6 M M' ∧ (∃ q, q < 1024 ∧ q ≠ 0 ∧ (s_nums b L n p t).1 = nI q) ∧ t.1 ≤ (s_nums b L n p t).2.1 ∧ OT L (s_nums b L n p t).2 ∧ ((s_nums b L n p t).2.2.2.1 = 6 → r = (s_nums b L n p t).1 ∧ MS b L A al w o M' (s_adv b L (s_nums b L n p t).2)) ∧ (¬ (s_nums b L n p t).2.2.2.1 = 6 → MB M' (s_nums b L n p t).2.1)
  | 0, f, M, t, p, ms, hn, hf, hp => by
    obtain ⟨f, rfl⟩ : ∃ f', f = f' + 1 := ⟨f - 1, by omega⟩
    have k0 := ms.2.2.1.past (by omega)
    have m0 := ms.2.1.2.2.1.mpr k0
    have k6 : ¬ t.2.2.1 = 6 := by rw [k0]; decide
    refine ⟨g_u M 59 16 1, p, ?_, g_fr.rfl.uT (by decide), hp, Nat.le_refl _, ms.2.2.1, fun q => absurd q k6, fun _ => ms.bad⟩
    rw [lp1_s, F_X12_part_42, if_pos ms.2.2.2.1, m0, if_neg (by decide)]
    exact p71_0 ms k6 p
  | n + 1, f, M, t, p, ms, hn, hf, hp => by
    obtain ⟨f, rfl⟩ : ∃ f', f = f' + 1 := ⟨f - 1, by omega⟩
    obtain ⟨q, hq, hq0, rfl⟩ := hp
    have ot := ms.2.2.1
    rw [s_nums_s, lp1_s, F_X12_part_42, if_pos ms.2.2.2.1]
    by_cases c : t.2.2.1 = 2 ∧ ¬ 10 ≤ t.2.2.2
    · have mk := ms.2.1.2.2.2.2.2.2.2.2.1 c.1
      obtain ⟨z, hz, ez⟩ := mk.2.2
      have hz9 : z ≤ 9 := by
        refine Classical.byContradiction fun q => c.2 ?_
        rw [ez]
        exact nI_le (a := 10) (by omega) (by omega)
      have h9 : ¬ (9 : Int32) < t.2.2.2 := by
        rw [ez]
        exact nI_nlt (a := 9) (by omega) (by omega)
      obtain ⟨M2, m1, m2, m3⟩ := num_1 ms c.1 h9
      rw [if_pos mk.1, m1, Option.bind_some, Option.bind_some, if_pos c]
      obtain ⟨q', h1, h2, h3⟩ := pset hq hz9
      have lt := OT.adv1 (b := b) ot (by rw [c.1]; decide)
      obtain ⟨M', r, n1, n2, n3, n4, n5, n6, n7⟩ := pm_go n f M2 (s_adv b L t) (nI q ||| ((1 : Int32) <<< (t.2.2.2 &&& 31))) m3 (by omega) (by omega) ⟨q', h1, h2, by rw [ez]; exact h3⟩
      exact ⟨M', r, n1, m2.trans n2, n3, by omega, n5, n6, n7⟩
    · rw [if_neg c]
      by_cases m2 : M.1 59 11 = 2
      · have k6 : ¬ t.2.2.1 = 6 := fun q => by
          have := (ms.2.1.2.2.2.2.2.2.2.1.mpr q).1
          rw [m2] at this
          exact absurd this (by decide)
        rw [if_pos m2, num_0 ms (Or.inl rfl) (fun q => c ⟨q.1, fun h => ?_⟩), Option.bind_some, Option.bind_some]
        · obtain ⟨f, rfl⟩ : ∃ f', f = f' + 1 := ⟨f - 1, by omega⟩
          exact ⟨_, _, pl_b rfl _, (g_fr.rfl.uT (by decide)).uT (by decide), ⟨q, hq, hq0, rfl⟩, Nat.le_refl _, ot, fun q => absurd q k6, fun _ => ms.bad.bad⟩
        · exact q.2 (Int32.lt_of_lt_of_le (by decide) h)
      · rw [if_neg m2]
        by_cases k6 : t.2.2.1 = 6
        · obtain ⟨M', m1, m3, m4⟩ := p71_1 ms k6 (nI q)
          exact ⟨M', nI q, m1, m3, ⟨q, hq, hq0, rfl⟩, Nat.le_refl _, ot, fun _ => ⟨rfl, m4⟩, fun h => absurd k6 h⟩
        · exact ⟨_, _, p71_0 ms k6 _, g_fr.rfl.uT (by decide), ⟨q, hq, hq0, rfl⟩, Nat.le_refl _, ot, fun q => absurd q k6, fun _ => ms.bad⟩
theorem part_b {p : Nat} (mb : MB M p) : ∃ (M' : g_M) (r : Int32), f_X12_part M = some (r, M') ∧ F6 M M' ∧ MB M' p := by
  unfold f_X12_part
  rw [isW_b mb.1, Option.bind_some, if_pos rfl, isS_b mb.1, Option.bind_some, need_0, Option.bind_some, num_b rfl, Option.bind_some, Option.bind_some]
  exact ⟨_, _, pl_b (f := 19999999) rfl _, ((g_fr.rfl.uT (by decide)).uT (by decide)).uT (by decide), mb.bad.bad.bad⟩
theorem part_m (ms : MS b L A al w o M t) (hal : ∃ a, a < 1024 ∧ al = nI a) : ∃ (M' : g_M) (r : Int32), f_X12_part M = some (r, M') ∧ F6 M M' ∧ ((s_part b L t).1 = true → MS b L A al w o M' (s_part b L t).2.2 ∧ r &&& al = (s_part b L t).2.1 &&& al ∧ (∃ q, q < 1024 ∧ (s_part b L t).2.1 = nI q) ∧ t.1 ≤ (s_part b L t).2.2.1) ∧ ((s_part b L t).1 = false → MB M' (s_part b L t).2.2.1) := by
  have ot := ms.2.2.1
  have o1 := ot.1
  have hL := ms.1.1
  unfold f_X12_part s_part
  by_cases c17 : t.2.2.1 = 17
  · rw [if_pos c17, isW_t ms (j := 10) (by omega) c17, Option.bind_some, if_neg (show ¬ (1 : Int32) = 0 by decide)]
    obtain ⟨M', m1, m2, m3⟩ := mnext ms
    have lt := (OT.adv (b := b) ot).2
    rw [m1, Option.bind_some, m3.2.2.2.2.2.2.1]
    refine ⟨M', al, rfl, m2.six, fun _ => ⟨m3, ?_, ⟨1023, by omega, rfl⟩, by show t.1 ≤ (s_adv b L t).1; omega⟩, fun q => Bool.noConfusion q⟩
    obtain ⟨a, ha, rfl⟩ := hal
    show nI a &&& nI a = nI 1023 &&& nI a
    rw [nx_and, nx_and, Nat.and_self, Nat.and_comm, Nat.and_two_pow_sub_one_eq_mod a 10, Nat.mod_eq_of_lt ha]
  · rw [if_neg c17, isW_f ms (j := 10) (by omega) c17, Option.bind_some, if_pos rfl]
    by_cases c5 : t.2.2.1 = 5
    · rw [if_pos c5, isS_t ms.2.2.2.1 (ms.2.1.2.2.2.2.2.2.1.mpr c5), Option.bind_some]
      obtain ⟨M1, a1, a2, a3⟩ := need_1 ms
      rw [a1, Option.bind_some]
      have lt1 := OT.adv1 (b := b) ot (by rw [c5]; decide)
      have ot1 := a3.2.2.1
      generalize s_adv b L t = t1 at a3 lt1 ot1
      rw [show (120 : Nat) = 119 + 1 from rfl, s_nums_s]
      dsimp only
      by_cases c : t1.2.2.1 = 2 ∧ ¬ 10 ≤ t1.2.2.2
      · have mk := a3.2.1.2.2.2.2.2.2.2.2.1 c.1
        obtain ⟨z, hz, ez⟩ := mk.2.2
        have hz9 : z ≤ 9 := by
          refine Classical.byContradiction fun q => c.2 ?_
          rw [ez]
          exact nI_le (a := 10) (by omega) (by omega)
        have h9 : ¬ (9 : Int32) < t1.2.2.2 := by
          rw [ez]
          exact nI_nlt (a := 9) (by omega) (by omega)
        obtain ⟨M2, m1, m2, m3⟩ := num_1 a3 c.1 h9
        rw [m1, Option.bind_some, Option.bind_some, if_pos c]
        obtain ⟨q', h1, h2, h3⟩ := pset (q := 0) (by omega) hz9
        have lt := OT.adv1 (b := b) ot1 (by rw [c.1]; decide)
        obtain ⟨M', r, n1, n2, n3, n4, n5, n6, n7⟩ := pm_go 119 20000000 M2 (s_adv b L t1) (0 ||| ((1 : Int32) <<< (t1.2.2.2 &&& 31))) m3 (by omega) (by omega) ⟨q', h1, h2, by rw [ez]; exact h3⟩
        dsimp only
        generalize s_nums b L 119 (0 ||| ((1 : Int32) <<< (t1.2.2.2 &&& 31))) (s_adv b L t1) = rr at n3 n4 n5 n6 n7
        obtain ⟨q, hq, hq0, eq⟩ := n3
        refine ⟨M', r, n1, (a2.trans m2).trans n2, ?_⟩
        rw [if_neg (show ¬ rr.1 = 0 by rw [eq]; exact nI_ne0 (by omega) (by omega))]
        by_cases k6 : rr.2.2.2.1 = 6
        · rw [if_pos k6]
          have ltz := (OT.adv (b := b) n5).2
          have oz := n5.1
          refine ⟨fun _ => ⟨(n6 k6).2, by rw [(n6 k6).1], ⟨q, hq, eq⟩, ?_⟩, fun q => Bool.noConfusion q⟩
          show t.1 ≤ (s_adv b L rr.2).1
          omega
        · rw [if_neg k6]
          exact ⟨fun q => Bool.noConfusion q, fun _ => n7 k6⟩
      · rw [if_neg c, if_pos rfl, num_0 a3 (Or.inl rfl) (fun q => c ⟨q.1, fun h => q.2 (Int32.lt_of_lt_of_le (by decide) h)⟩), Option.bind_some, Option.bind_some]
        exact ⟨_, _, pl_b (f := 19999999) rfl _, (a2.uT (by decide)).uT (by decide), fun q => Bool.noConfusion q, fun _ => a3.bad.bad⟩
    · rw [if_neg c5, isS_f ms.2.2.2.1 (fun q => c5 (ms.2.1.2.2.2.2.2.2.1.mp q)), Option.bind_some, need_0, Option.bind_some, num_b rfl, Option.bind_some, Option.bind_some]
      exact ⟨_, _, pl_b (f := 19999999) rfl _, ((g_fr.rfl.uT (by decide)).uT (by decide)).uT (by decide), fun q => Bool.noConfusion q, fun _ => ms.bad.bad.bad⟩
end PARTM
