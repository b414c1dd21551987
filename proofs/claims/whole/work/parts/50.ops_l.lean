section OPSL
variable {t n l m h c1 c2 c3 : Nat} {M : g_M}
theorem cnt_go (hh : h ≤ 40) {d : Nat → Int32} (e3 : d 3 = nI h) (wH : ∀ i, i < h → W_H d i) : ∀ (k f i : Nat) (M : g_M), i + k = h → k < f → M.1 60 = d → (∀ j, j < i → M.1 66 j = s_cost d h j ∧ M.1 67 j = s_lock d h j) → ∃ M' : g_M, g_lp1 (F_X12_counts_2 (fun (M : g_M) => some M)) f (nI i) M = some M' ∧ g_fr [66, 67] [] M M' ∧ ∀ j, j < h → M'.1 66 j = s_cost d h j ∧ M'.1 67 j = s_lock d h j
  | 0, f, i, M, hi, hf, ed, hj => by
    obtain ⟨f, rfl⟩ : ∃ f', f = f' + 1 := ⟨f - 1, by omega⟩
    have : i = h := by omega
    subst this
    refine ⟨M, ?_, g_fr.rfl, hj⟩
    rw [lp1_s, F_X12_counts_2, ld_3, Option.bind_some, ed, e3, if_pos (nI_le (Nat.le_refl _) (by omega))]
  | k + 1, f, i, M, hi, hf, ed, hj => by
    obtain ⟨f, rfl⟩ : ∃ f', f = f' + 1 := ⟨f - 1, by omega⟩
    have step : ∀ (co lo : Int32), co = s_cost d h i → lo = s_lock d h i → g_lp1 (F_X12_counts_2 (fun (M : g_M) => some M)) (f + 1) (nI i) M = g_lp1 (F_X12_counts_2 (fun (M : g_M) => some M)) f (nI i + 1) (g_u (g_u M 66 i co) 67 i lo) → ∃ M' : g_M, g_lp1 (F_X12_counts_2 (fun (M : g_M) => some M)) (f + 1) (nI i) M = some M' ∧ g_fr [66, 67] [] M M' ∧ ∀ j, j < h → M'.1 66 j = s_cost d h j ∧ M'.1 67 j = s_lock d h j := by
      intro co lo hco hlo he
      obtain ⟨M', m1, m2, m3⟩ := cnt_go hh e3 wH k f (i + 1) (g_u (g_u M 66 i co) 67 i lo) (by omega) (by omega) ed (fun j hj2 => by
        by_cases c : j = i
        · subst c
          exact ⟨(show upd (M.1 66) j co j = _ from upd_eq).trans hco, (show upd (M.1 67) j lo j = _ from upd_eq).trans hlo⟩
        · exact ⟨(show upd (M.1 66) i co j = _ from upd_ne c).trans (hj j (by omega)).1, (show upd (M.1 67) i lo j = _ from upd_ne c).trans (hj j (by omega)).2⟩)
      exact ⟨M', by rw [he, nI_1]; exact m1, ((g_fr.rfl.uS (by decide)).uS (by decide)).trans m2, m3⟩
    have hd : ∀ j, M.1 60 j = d j := fun j => by rw [ed]
    have go : g_lp1 (F_X12_counts_2 (fun (M : g_M) => some M)) (f + 1) (nI i) M = (if d (40 + 4 * i) = 1 then (if d (40 + 4 * i) = 1 then (f_X12_counts_88 (g_lp1 (F_X12_counts_2 (fun (M : g_M) => some M)) f) (nI i) 3 (nI i) M) else (f_X12_counts_88 (g_lp1 (F_X12_counts_2 (fun (M : g_M) => some M)) f) (nI i) 2 (nI i) M)) else (if d (40 + 4 * i) = 4 then ((g_ld M 66 40 (d (40 + 4 * i + 1))).bind fun v8 => (g_st M 66 40 (nI i) (4 + v8)).bind fun M9 => (g_ld M9 67 40 (d (40 + 4 * i + 1))).bind fun v10 => (g_st M9 67 40 (nI i) v10).bind fun M11 => (g_lp1 (F_X12_counts_2 (fun (M : g_M) => some M)) f) (nI i + 1) M11) else (if d (40 + 4 * i) = 5 then (if d (40 + 4 * i) = 1 then (f_X12_counts_88 (g_lp1 (F_X12_counts_2 (fun (M : g_M) => some M)) f) (nI i) 3 (nI i) M) else (f_X12_counts_88 (g_lp1 (F_X12_counts_2 (fun (M : g_M) => some M)) f) (nI i) 2 (nI i) M)) else (if d (40 + 4 * i) = 3 then (f_X12_counts_148 (g_lp1 (F_X12_counts_2 (fun (M : g_M) => some M)) f) (nI i) (d (40 + 4 * i + 1)) (d (40 + 4 * i + 2)) 2 (nI i) M) else (f_X12_counts_148 (g_lp1 (F_X12_counts_2 (fun (M : g_M) => some M)) f) (nI i) (d (40 + 4 * i + 1)) (d (40 + 4 * i + 2)) 1 (nI i) M))))) := by
      rw [lp1_s, F_X12_counts_2, ld_3, Option.bind_some, hd, e3, if_neg (nI_ge (by omega) (by omega)), ld_h (by omega) (j := 1) (x := 1) (by omega) rfl, Option.bind_some, ld_h (by omega) (j := 2) (x := 2) (by omega) rfl, Option.bind_some, ld_h (by omega) (j := 0) (x := 0) (by omega) rfl, Option.bind_some, hd, hd, hd, Nat.add_zero]
      simp only [Option.bind_some]
    have c88 : ∀ co, f_X12_counts_88 (g_lp1 (F_X12_counts_2 (fun (M : g_M) => some M)) f) (nI i) co (nI i) M = g_lp1 (F_X12_counts_2 (fun (M : g_M) => some M)) f (nI i + 1) (g_u (g_u M 66 i co) 67 i 1) := fun co => by
      unfold f_X12_counts_88
      rw [e_st (by omega) (by omega), Option.bind_some, e_st (by omega) (by omega), Option.bind_some]
    have c148 : ∀ (w : Int32) (a b : Nat), a < i → b < i → f_X12_counts_148 (g_lp1 (F_X12_counts_2 (fun (M : g_M) => some M)) f) (nI i) (nI a) (nI b) w (nI i) M = g_lp1 (F_X12_counts_2 (fun (M : g_M) => some M)) f (nI i + 1) (g_u (g_u M 66 i (w + s_cost d h a + s_cost d h b)) 67 i (s_lock d h a + s_lock d h b)) := fun w a b ha hb => by
      unfold f_X12_counts_148
      rw [e_ld (by omega) (by omega), Option.bind_some, e_ld (by omega) (by omega), Option.bind_some, e_st (by omega) (by omega), Option.bind_some, e_ld (by omega) (by omega), Option.bind_some, e_ld (by omega) (by omega), Option.bind_some, e_st (by omega) (by omega), Option.bind_some, (hj a ha).1, (hj b hb).1, show ∀ z, (g_u M 66 i z).1 67 = M.1 67 from fun z => rfl, (hj a ha).2, (hj b hb).2]
    have uc : s_cost d h i = (if d (40 + 4 * i) = 1 then 3 else if d (40 + 4 * i) = 5 then 2 else if d (40 + 4 * i) = 4 then 4 + s_cost d i (d (40 + 4 * i + 1)).toNatClampNeg else (if d (40 + 4 * i) = 3 then 2 else 1) + s_cost d i (d (40 + 4 * i + 1)).toNatClampNeg + s_cost d i (d (40 + 4 * i + 2)).toNatClampNeg) := by
      rw [s_cost_in (by omega)]
      exact if_pos rfl
    have ul : s_lock d h i = (if d (40 + 4 * i) = 1 then 1 else if d (40 + 4 * i) = 5 then 1 else if d (40 + 4 * i) = 4 then s_lock d i (d (40 + 4 * i + 1)).toNatClampNeg else s_lock d i (d (40 + 4 * i + 1)).toNatClampNeg + s_lock d i (d (40 + 4 * i + 2)).toNatClampNeg) := by
      rw [s_lock_in (by omega)]
      exact if_pos rfl
    have lo : ∀ a, a < i → s_cost d i a = s_cost d h a ∧ s_lock d i a = s_lock d h a := fun a ha => by
      rw [s_cost_in ha, s_lock_in ha, s_cost_in (h := h) (by omega), s_lock_in (h := h) (by omega)]
      exact ⟨rfl, rfl⟩
    rcases wH i (by omega) with ⟨k1 | k5, -, -, -⟩ | ⟨k23, ⟨a, ha, ea⟩, ⟨b, hb, eb⟩, -⟩ | ⟨k4, ⟨a, ha, ea⟩, -, -⟩
    · refine step 3 1 ?_ ?_ ?_
      · rw [uc, if_pos k1]
      · rw [ul, if_pos k1]
      · rw [go, if_pos k1, if_pos k1, c88]
    · have n1 : ¬ d (40 + 4 * i) = 1 := by rw [k5]; decide
      refine step 2 1 ?_ ?_ ?_
      · rw [uc, if_neg n1, if_pos k5]
      · rw [ul, if_neg n1, if_pos k5]
      · rw [go, if_neg n1, if_neg (by rw [k5]; decide), if_pos k5, if_neg n1, c88]
    · have n1 : ¬ d (40 + 4 * i) = 1 := by rcases k23 with e | e <;> rw [e] <;> decide
      have n5 : ¬ d (40 + 4 * i) = 5 := by rcases k23 with e | e <;> rw [e] <;> decide
      have n4 : ¬ d (40 + 4 * i) = 4 := by rcases k23 with e | e <;> rw [e] <;> decide
      refine step ((if d (40 + 4 * i) = 3 then 2 else 1) + s_cost d h a + s_cost d h b) (s_lock d h a + s_lock d h b) ?_ ?_ ?_
      · rw [uc, if_neg n1, if_neg n5, if_neg n4, ea, eb, nI_clamp (by omega), nI_clamp (by omega), (lo a ha).1, (lo b hb).1]
      · rw [ul, if_neg n1, if_neg n5, if_neg n4, ea, eb, nI_clamp (by omega), nI_clamp (by omega), (lo a ha).2, (lo b hb).2]
      · rw [go, if_neg n1, if_neg n4, if_neg n5, ea, eb, c148 _ a b ha hb, c148 _ a b ha hb]
        split <;> rfl
    · have n1 : ¬ d (40 + 4 * i) = 1 := by rw [k4]; decide
      have n5 : ¬ d (40 + 4 * i) = 5 := by rw [k4]; decide
      refine step (4 + s_cost d h a) (s_lock d h a) ?_ ?_ ?_
      · rw [uc, if_neg n1, if_neg n5, if_pos k4, ea, nI_clamp (by omega), (lo a ha).1]
      · rw [ul, if_neg n1, if_neg n5, if_pos k4, ea, nI_clamp (by omega), (lo a ha).2]
      · rw [go, if_neg n1, if_pos k4, ea, e_ld (by omega) (by omega), Option.bind_some, e_st (by omega) (by omega), Option.bind_some, e_ld (by omega) (by omega), Option.bind_some, e_st (by omega) (by omega), Option.bind_some, (hj a ha).1, show ∀ z, (g_u M 66 i z).1 67 = M.1 67 from fun z => rfl, (hj a ha).2]
theorem counts_eq (hh : h ≤ 40) {d : Nat → Int32} (e3 : d 3 = nI h) (wH : ∀ i, i < h → W_H d i) (ed : M.1 60 = d) : ∃ M' : g_M, f_X12_counts M = some M' ∧ g_fr [66, 67] [] M M' ∧ ∀ j, j < h → M'.1 66 j = s_cost d h j ∧ M'.1 67 j = s_lock d h j := cnt_go hh e3 wH h 20000000 0 M (by omega) (by omega) ed (fun j hj => absurd hj (by omega))
def isOf (k x : Int32) : Bool := decide (x = 0) || decide (k = x) || (decide (k = 5) && decide (x = 1)) || (decide (k = 3) && decide (x = 2))
theorem isOf_c {i : Nat} (hi : i < 40) {k : Int32} (e : M.1 25 i = k) (x : Int32) : f_X4_isOf (nI i) x M = some (if isOf k x = true then 1 else 0) := by
  unfold f_X4_isOf f_X4_isOf_26 isOf
  rw [e_ld hi (by omega), Option.bind_some, e]
  by_cases c0 : x = 0
  · simp [c0]
  by_cases c1 : k = x
  · simp [c0, c1]
  by_cases c5 : k = 5
  · subst c5
    by_cases d : x = 1
    · simp [d]
    · simp [c0, c1, d]
  · by_cases c3 : k = 3
    · subst c3
      by_cases d : x = 2
      · simp [d]
      · simp [c0, c1, d]
    · simp [c0, c1, c5, c3]
theorem n6_ne {x : Int32} (h : x < 0 ∨ nI 6 ≤ x) : x ≠ 0 ∧ x ≠ 1 ∧ x ≠ 2 ∧ x ≠ 3 ∧ x ≠ 4 ∧ x ≠ 5 := by
  refine ⟨?_, ?_, ?_, ?_, ?_, ?_⟩ <;> rintro rfl <;> revert h <;> decide
theorem as_m {x : Int32} (k y : Int32) : (if y = 0 then (f_X12_as_64 x 1 M) else ((if k = y then (f_X12_as_64 x 1 M) else ((if k = 3 then ((if y = 2 then (f_X12_as_64 x 1 M) else (f_X12_as_49 x y k M))) else (f_X12_as_49 x y k M)))))) = (if isOf k y = true then some (x, M) else ((f_X12_finding 2 M).bind fun p4 => some (p4.1, p4.2))) := by
  have t1 : f_X12_as_64 x 1 M = some (x, M) := if_neg (by decide)
  have t0 : f_X12_as_63 x M = (f_X12_finding 2 M).bind fun p4 => some (p4.1, p4.2) := by
    unfold f_X12_as_63 f_X12_as_64
    rw [if_pos rfl]
  unfold f_X12_as_49
  rw [t1, t0]
  generalize ((f_X12_finding 2 M).bind fun p4 => some (p4.1, p4.2)) = z
  unfold isOf
  by_cases c0 : y = 0
  · simp [c0]
  by_cases c1 : k = y
  · simp [c0, c1]
  by_cases c5 : k = 5
  · subst c5
    by_cases d : y = 1
    · simp [d]
    · simp [c0, c1, d]
  · by_cases c3 : k = 3
    · subst c3
      by_cases d : y = 2
      · simp [d]
      · simp [c0, c1, d]
    · simp [c0, c1, c5, c3]
theorem op_as (H : Rel0 t n l m h c1 c2 c3 M) (x y : Int32) : Op (f_X11_as x y) (f_X12_as x y) t M := by
  obtain ⟨h1, h2, h3, h4, h5, h6, h7, h8, h9, h10, h11⟩ := id H
  obtain ⟨b1, b2, b3, b4, e0, e4, e1, e3, eu, wA, wL, wH, wT⟩ := id h1
  rcases ix x (n := h) (by omega) with ho | ⟨i, hi, rfl⟩
  · refine Op.t0 H ?_ ?_
    · unfold f_X11_as
      rw [hh_out h3.1 ho, Option.bind_some, if_pos rfl]
      rfl
    · unfold f_X12_as
      rw [mh_out (n := h) (M := tellM 0 M) e3 (by omega) ho, Option.bind_some, if_pos rfl]
      rfl
  rcases ix y (n := 6) (by omega) with ho | ⟨j, hj, rfl⟩
  · refine Op.t0 H ?_ ?_
    · unfold f_X11_as
      rw [hh_in h3.1 hi (by omega), Option.bind_some, if_neg (by decide)]
      by_cases c : y < 0
      · rw [if_pos c]
        rfl
      · have : ¬ y ≤ 5 := by
          have := ho.resolve_left c
          rw [i_le] at this ⊢
          have e1 : (nI 6).toInt = 6 := by decide
          have e2 : (5 : Int32).toInt = 5 := by decide
          omega
        rw [if_neg c, if_neg this]
        rfl
    · unfold f_X12_as
      rw [mh_in (n := h) (M := tellM 0 M) e3 (by omega) hi, Option.bind_some, if_neg (by decide), in_out _ (a := 0) (b := 5) (out_m1 (n := 6) (by omega) ho), Option.bind_some, if_pos rfl]
      rfl
  have ek := (h3.2 i hi).1
  have cls : f_X11_as (nI i) (nI j) M = (if isOf (M.1 60 (40 + 4 * i)) (nI j) = true then some (nI i, M) else ((f_X2_tell (-1000000003) M).bind fun p4 => some (p4.1, p4.2))) := by
    unfold f_X11_as
    rw [hh_in h3.1 hi (by omega), Option.bind_some, if_neg (by decide), if_neg (nI_pos (by omega)), if_pos (show nI j ≤ 5 from nI_le (b := 5) (by omega) (by omega)), isOf_c (by omega) ek, Option.bind_some]
    by_cases c : isOf (M.1 60 (40 + 4 * i)) (nI j) = true
    · rw [if_pos c, if_pos c, if_neg (by decide)]
    · rw [if_neg c, if_neg c, if_pos rfl]
  have mod : ∀ M' : g_M, M'.1 60 = M.1 60 → f_X12_as (nI i) (nI j) M' = (if isOf (M.1 60 (40 + 4 * i)) (nI j) = true then some (nI i, M') else ((f_X12_finding 2 M').bind fun p4 => some (p4.1, p4.2))) := by
    intro M' e
    unfold f_X12_as
    rw [mh_in (n := h) (M := M') (by rw [e]; exact e3) (by omega) hi, Option.bind_some, if_neg (by decide), in_in _ (nI_pos (by omega)) (show ¬ (5 : Int32) < nI j from nI_nlt (a := 5) (by omega) (by omega)), Option.bind_some, if_neg (by decide), ld_h (by omega) (j := 0) (x := 0) (by omega) rfl, Option.bind_some, e, Nat.add_zero]
    exact as_m _ _
  by_cases c : isOf (M.1 60 (40 + 4 * i)) (nI j) = true
  · refine Op.say (v := nI i) H ?_ ?_
    · rw [cls, if_pos c]
    · rw [mod M rfl, if_pos c]
  · refine Op.t2 H ?_ ?_
    · rw [cls, if_neg c]
    · rw [mod (tellM 2 M) rfl, if_neg c]
end OPSL
