section NEEDO
variable {t n l m h c1 c2 c3 : Nat} {M : g_M} {d : Nat → Int32}
theorem cb_mem {F : Nat → List Nat} {a y : Nat} (ha : a < 24) (h : y ∈ F a) : y ∈ cb F := List.mem_flatMap.mpr ⟨a, List.mem_range.mpr ha, h⟩
theorem cb_of {F : Nat → List Nat} {y : Nat} (h : y ∈ cb F) : ∃ a, a < 24 ∧ y ∈ F a := by
  obtain ⟨a, ha, h⟩ := List.mem_flatMap.mp h
  exact ⟨a, List.mem_range.mp ha, h⟩
/-- one key less -/
theorem agk_n {x y k : Nat} (hx : x < 2 ^ 24) (hy : y < 2 ^ 24) (h : ∀ j, j ≠ k → x.testBit j = y.testBit j) : agk k (nI x) (nI y) := fun j hj => by
  rw [bt_nI (by omega), bt_nI (by omega)]
  exact h j hj
section EQ
variable (w : ∀ i, i < h → W_H d i) {K : Int32} {i : Nat}
/-- where a number that opens has a bit that is no use, a smaller one opens too -/
theorem use_all (w : ∀ i, i < h → W_H d i) {K : Int32} {i y : Nat} (hy : y < 2 ^ 24) (low : ∀ k, y.testBit k = true → ∃ z, z < 2 ^ 24 ∧ nP d h i K z = false ∧ ∀ j, j ≠ k → y.testBit j = z.testBit j) : nQ d h i (s_end d h K) (s_kol d h &&& (s_end d h K ^^^ (-1))) y = nP d h i K y := by
  unfold nQ
  have e : s_opens d h (s_end d h K ||| nI y) i = nP d h i K y := s_opens_end (W_H.KB w) K (nI y) i
  rw [e]
  cases c : nP d h i K y
  · rw [Bool.and_false]
  · rw [Bool.and_true, decide_eq_true_iff, b_eq0]
    intro k hk
    rw [b_and, bt_not _ hk]
    cases u : bt (s_kol d h &&& (s_end d h K ^^^ (-1))) k
    · cases z : bt (nI y) k
      · rfl
      · rw [bt_nI (by omega)] at z
        obtain ⟨q, q1, q2, q3⟩ := low k z
        have := no_use w (i := i) u hk (agk_n hy q1 q3)
        unfold nP at c q2
        rw [← this, c] at q2
        exact absurd q2 (by decide)
    · rw [Bool.not_true, Bool.and_false]
theorem tpb {a j : Nat} : (2 ^ a : Nat).testBit j = decide (a = j) := by rw [Nat.testBit_two_pow]
theorem eq1 (w : ∀ i, i < h → W_H d i) {K : Int32} {i : Nat} (h0 : s_opens d h K i = false) : sr (nQ d h i (s_end d h K) (s_kol d h &&& (s_end d h K ^^^ (-1)))) (cb in1) = sr (nP d h i K) (cb in1) := sr_cong (fun y hy => by
  obtain ⟨a, ha, hm⟩ := cb_of hy
  have e : y = 2 ^ a := List.mem_singleton.mp hm
  subst e
  refine use_all w (p24 ha) (fun k hk => ⟨0, by omega, ?_, fun j hj => ?_⟩)
  · unfold nP
    rw [show nI 0 = 0 from rfl, Int32.or_zero]
    exact h0
  · rw [tpb, decide_eq_true_iff] at hk
    rw [tpb, Nat.zero_testBit, decide_eq_false (fun z => hj (z.symm.trans hk))])
theorem eq2 (w : ∀ i, i < h → W_H d i) {K : Int32} {i : Nat} (h1 : sr (nP d h i K) (cb in1) = 0) : sr (nQ d h i (s_end d h K) (s_kol d h &&& (s_end d h K ^^^ (-1)))) (cb in2) = sr (nP d h i K) (cb in2) := sr_cong (fun y hy => by
  have no := sr_no (cb_z (fun a y q => in1_z q)) h1
  obtain ⟨a, ha, hm⟩ := cb_of hy
  obtain ⟨b, hb, rfl⟩ := List.mem_map.mp hm
  have hb := List.mem_range.mp hb
  refine use_all w (bd2 ha (by omega)) (fun k hk => ?_)
  rw [Nat.testBit_or, tpb, tpb, Bool.or_eq_true, decide_eq_true_iff, decide_eq_true_iff] at hk
  by_cases c : a = k
  · refine ⟨2 ^ b, p24 (by omega), no _ (cb_mem (show b < 24 by omega) (List.mem_singleton.mpr rfl)), fun j hj => ?_⟩
    rw [Nat.testBit_or, tpb, tpb, decide_eq_false (show ¬ a = j by omega), Bool.false_or]
  · refine ⟨2 ^ a, p24 ha, no _ (cb_mem ha (List.mem_singleton.mpr rfl)), fun j hj => ?_⟩
    rw [Nat.testBit_or, tpb, tpb, decide_eq_false (show ¬ b = j by omega), Bool.or_false])
theorem eq3 (w : ∀ i, i < h → W_H d i) {K : Int32} {i : Nat} (h2 : sr (nP d h i K) (cb in2) = 0) : sr (nQ d h i (s_end d h K) (s_kol d h &&& (s_end d h K ^^^ (-1)))) (cb in3) = sr (nP d h i K) (cb in3) := sr_cong (fun y hy => by
  have no := sr_no (cb_z (fun a y q => in2_z q)) h2
  have two : ∀ a b, a < 24 → b < a → nP d h i K (2 ^ a ||| 2 ^ b) = false := fun a b ha hb => no _ (cb_mem ha (List.mem_map.mpr ⟨b, List.mem_range.mpr hb, rfl⟩))
  obtain ⟨a, ha, hm⟩ := cb_of hy
  obtain ⟨b, hb, hm⟩ := List.mem_flatMap.mp hm
  obtain ⟨c, hc, rfl⟩ := List.mem_map.mp hm
  have hb := List.mem_range.mp hb
  have hc := List.mem_range.mp hc
  refine use_all w (bd3 ha (by omega) (by omega)) (fun k hk => ?_)
  rw [Nat.testBit_or, Nat.testBit_or, tpb, tpb, tpb, Bool.or_eq_true, Bool.or_eq_true, decide_eq_true_iff, decide_eq_true_iff, decide_eq_true_iff] at hk
  by_cases q1 : a = k
  · refine ⟨2 ^ b ||| 2 ^ c, bd2 (by omega) (by omega), two b c (by omega) hc, fun j hj => ?_⟩
    rw [Nat.testBit_or, Nat.testBit_or, Nat.testBit_or, tpb, tpb, tpb, decide_eq_false (show ¬ a = j by omega), Bool.false_or]
  · by_cases q2 : b = k
    · refine ⟨2 ^ a ||| 2 ^ c, bd2 ha (by omega), two a c ha (by omega), fun j hj => ?_⟩
      rw [Nat.testBit_or, Nat.testBit_or, Nat.testBit_or, tpb, tpb, tpb, decide_eq_false (show ¬ b = j by omega), Bool.or_false]
    · refine ⟨2 ^ a ||| 2 ^ b, bd2 ha (by omega), two a b ha hb, fun j hj => ?_⟩
      rw [Nat.testBit_or, Nat.testBit_or, tpb, tpb, tpb, decide_eq_false (show ¬ c = j by omega), Bool.or_false])
end EQ
/-- the fewest keys besides -/
def s_nd (d : Nat → Int32) (h i : Nat) (K : Int32) : Nat := if sr (nP d h i K) (cb in1) = 0 then (if sr (nP d h i K) (cb in2) = 0 then sr (nP d h i K) (cb in3) else sr (nP d h i K) (cb in2)) else sr (nP d h i K) (cb in1)
theorem sr_bd {F : Nat → List Nat} (hF : ∀ a, a < 24 → ∀ y, y ∈ F a → y ≠ 0 ∧ y < 2 ^ 31) (P : Nat → Bool) : sr P (cb F) < 2 ^ 31 := by
  by_cases c : sr P (cb F) = 0
  · omega
  · obtain ⟨a, ha, hm⟩ := cb_of (sr_mem c).1
    exact (hF a ha _ hm).2
theorem nd51 (x : XH M d h) (w : ∀ i, i < h → W_H d i) (hh : h ≤ 40) {i : Nat} (hi : i < h) {K : Int32} (K74 : Int32 → g_M → Option (Int32 × g_M)) (K83 : g_M → Option (Int32 × g_M)) : g_lp3 (F_X11_need_51 K74 K83) 20000000 (nI i) (s_end d h K) 0 M = if s_opens d h K i = true then K74 0 M else (if s_nd d h i K = 0 then K83 M else K74 (nI (s_nd d h i K)) M) := by
  have oe : s_opens d h (s_end d h K) i = s_opens d h K i := by
    have := s_opens_end (W_H.KB w) K 0 i
    rw [Int32.or_zero, Int32.or_zero] at this
    exact this
  have LB : ∀ m j, m + 1 + j = 4 → m ≤ 3 → f_X11_leastBesides 4 (nI i) (s_end d h K) (nI m) 24 M = some (oI (fd (QE d h i (s_end d h K)) (cL m 24)), M) := fun m j e hm => by
    have := lbR x w hh hi m j (s_end d h K) 24 (by omega) hm
    rw [e] at this
    exact this
  have st : ∀ (f m : Nat), m ≤ 3 → g_lp3 (F_X11_need_51 K74 K83) (f + 1) (nI i) (s_end d h K) (nI m) M = (if oI (fd (QE d h i (s_end d h K)) (cL m 24)) < 0 then g_lp3 (F_X11_need_51 K74 K83) f (nI i) (s_end d h K) (nI (m + 1)) M else K74 (oI (fd (QE d h i (s_end d h K)) (cL m 24))) M) := fun f m hm => by
    rw [lp3_s, F_X11_need_51, if_neg (show ¬ (3 : Int32) < nI m from nI_nlt (a := 3) (by omega) (by omega)), LB m (3 - m) (by omega) hm, Option.bind_some, nI_1] <;> rfl
  have s0 := st 19999999 0 (by omega)
  have s1 := st 19999998 1 (by omega)
  have s2 := st 19999997 2 (by omega)
  have s3 := st 19999996 3 (by omega)
  have s4 : g_lp3 (F_X11_need_51 K74 K83) 19999996 (nI i) (s_end d h K) (nI 4) M = K83 M := by
    show g_lp3 (F_X11_need_51 K74 K83) (19999995 + 1) (nI i) (s_end d h K) (nI 4) M = _
    rw [lp3_s, F_X11_need_51, if_pos (by decide)]
  have z1 := sr_bd (fun a ha y q => in1_b ha q) (nP d h i K)
  have z2 := sr_bd (fun a ha y q => in2_b ha q) (nP d h i K)
  have z3 := sr_bd (fun a ha y q => in3_b ha q) (nP d h i K)
  cases o : s_opens d h K i
  · rw [show fd (QE d h i (s_end d h K)) (cL 0 24) = none from fd_f (QE_0.trans (oe.trans o)), if_pos (show oI none < 0 by decide)] at s0
    rw [if_neg Bool.false_ne_true]
    refine Eq.trans s0 ?_
    have q1 : sr (QE d h i (s_end d h K)) (cb in1) = sr (nP d h i K) (cb in1) := eq1 w o
    rw [cL1, fd_sr (cb_z (fun a y q => in1_z q)), q1] at s1
    unfold s_nd
    by_cases e1 : sr (nP d h i K) (cb in1) = 0
    · rw [if_pos e1, if_pos (show (-1 : Int32) < 0 by decide)] at s1
      rw [if_pos e1]
      refine Eq.trans s1 ?_
      have q2 : sr (QE d h i (s_end d h K)) (cb in2) = sr (nP d h i K) (cb in2) := eq2 w e1
      rw [cL2, fd_sr (cb_z (fun a y q => in2_z q)), q2] at s2
      by_cases e2 : sr (nP d h i K) (cb in2) = 0
      · rw [if_pos e2, if_pos (show (-1 : Int32) < 0 by decide)] at s2
        rw [if_pos e2]
        refine Eq.trans s2 ?_
        have q3 : sr (QE d h i (s_end d h K)) (cb in3) = sr (nP d h i K) (cb in3) := eq3 w e2
        rw [cL3, fd_sr (cb_z (fun a y q => in3_z q)), q3] at s3
        by_cases e3 : sr (nP d h i K) (cb in3) = 0
        · rw [if_pos e3, if_pos (show (-1 : Int32) < 0 by decide)] at s3
          rw [if_pos e3]
          exact s3.trans s4
        · rw [if_neg e3, if_neg (nI_pos z3)] at s3
          rw [if_neg e3]
          exact s3
      · rw [if_neg e2, if_neg (nI_pos z2)] at s2
        rw [if_neg e2, if_neg e2]
        exact s2
    · rw [if_neg e1, if_neg (nI_pos z1)] at s1
      rw [if_neg e1, if_neg e1]
      exact s1
  · rw [show fd (QE d h i (s_end d h K)) (cL 0 24) = some 0 from fd_t (QE_0.trans (oe.trans o)), if_neg (show ¬ oI (some 0) < 0 by decide)] at s0
    rw [if_pos rfl]
    exact s0
theorem nmm (hh : h ≤ 40) (e3 : d 3 = nI h) (w : ∀ i, i < h → W_H d i) {i : Nat} (hi : i < h) (K : Int32) (K213 : Int32 → g_M → Option (Int32 × g_M)) (K222 : g_M → Option (Int32 × g_M)) {M : g_M} (ed : M.1 60 = d) : ∃ M' : g_M, g_fr [68, 69] [] M M' ∧ g_lp3 (F_X12_need__42 K213 K222) 20000000 (nI i) K 1 M = (if s_nd d h i K = 0 then K222 M' else K213 (nI (s_nd d h i K)) M') := by
  obtain ⟨M1, a1, a2⟩ := a_all (d := d) (h := h) (i := i) K (fun (x1 : Int32) (x3 : Int32) (x4 : Int32) (x5 : Int32) (M : g_M) => f_X12_need__208 (g_lp3 (F_X12_need__42 K213 K222) 19999999) K213 x1 x3 x4 x5 M) (x4 := 1) (x7 := -1) (by decide) in1 (fun a ha y q => in1_b ha q) (fun K202 a M ha ed => b1_all hh e3 w hi K K202 ha ed) ed
  have ed1 : M1.1 60 = d := (a1.row (by decide) (by simp)).1.trans ed
  obtain ⟨M2, b1, b2⟩ := a_all (d := d) (h := h) (i := i) K (fun (x1 : Int32) (x3 : Int32) (x4 : Int32) (x5 : Int32) (M : g_M) => f_X12_need__208 (g_lp3 (F_X12_need__42 K213 K222) 19999998) K213 x1 x3 x4 x5 M) (x4 := 2) (x7 := 0) (by decide) in2 (fun a ha y q => in2_b ha q) (fun K202 a M ha ed => b2_all hh e3 w hi K K202 ha ed) ed1
  have ed2 : M2.1 60 = d := (b1.row (by decide) (by simp)).1.trans ed1
  obtain ⟨M3, c1, c2⟩ := a_all (d := d) (h := h) (i := i) K (fun (x1 : Int32) (x3 : Int32) (x4 : Int32) (x5 : Int32) (M : g_M) => f_X12_need__208 (g_lp3 (F_X12_need__42 K213 K222) 19999997) K213 x1 x3 x4 x5 M) (x4 := 3) (x7 := 0) (by decide) in3 (fun a ha y q => in3_b ha q) (fun K202 a M ha ed => b3_all hh e3 w hi K K202 ha ed) ed2
  have z1 := sr_bd (fun a ha y q => in1_b ha q) (nP d h i K)
  have z2 := sr_bd (fun a ha y q => in2_b ha q) (nP d h i K)
  have z3 := sr_bd (fun a ha y q => in3_b ha q) (nP d h i K)
  have key : g_lp3 (F_X12_need__42 K213 K222) 20000000 (nI i) K 1 M = f_X12_need__208 (g_lp3 (F_X12_need__42 K213 K222) 19999999) K213 (nI i) K 1 (nI (sr (nP d h i K) (cb in1))) M1 := by
    show g_lp3 (F_X12_need__42 K213 K222) (19999999 + 1) (nI i) K 1 M = _
    rw [lp3_s, F_X12_need__42, if_neg (by decide)]
    exact a2
  have key2 : g_lp3 (F_X12_need__42 K213 K222) 19999999 (nI i) K 2 M1 = f_X12_need__208 (g_lp3 (F_X12_need__42 K213 K222) 19999998) K213 (nI i) K 2 (nI (sr (nP d h i K) (cb in2))) M2 := by
    show g_lp3 (F_X12_need__42 K213 K222) (19999998 + 1) (nI i) K 2 M1 = _
    rw [lp3_s, F_X12_need__42, if_neg (by decide)]
    exact b2
  have key3 : g_lp3 (F_X12_need__42 K213 K222) 19999998 (nI i) K 3 M2 = f_X12_need__208 (g_lp3 (F_X12_need__42 K213 K222) 19999997) K213 (nI i) K 3 (nI (sr (nP d h i K) (cb in3))) M3 := by
    show g_lp3 (F_X12_need__42 K213 K222) (19999997 + 1) (nI i) K 3 M2 = _
    rw [lp3_s, F_X12_need__42, if_neg (by decide)]
    exact c2
  have key4 : g_lp3 (F_X12_need__42 K213 K222) 19999997 (nI i) K 4 M3 = K222 M3 := by
    show g_lp3 (F_X12_need__42 K213 K222) (19999996 + 1) (nI i) K 4 M3 = _
    rw [lp3_s, F_X12_need__42, if_pos (by decide)]
  unfold f_X12_need__208 at key key2 key3
  unfold s_nd
  by_cases e1 : sr (nP d h i K) (cb in1) = 0
  · rw [e1, if_pos (show nI 0 = 0 from rfl)] at key
    rw [if_pos e1]
    by_cases e2 : sr (nP d h i K) (cb in2) = 0
    · rw [e2, if_pos (show nI 0 = 0 from rfl)] at key2
      rw [if_pos e2]
      refine ⟨M3, (a1.trans b1).trans c1, ?_⟩
      by_cases e3 : sr (nP d h i K) (cb in3) = 0
      · rw [e3, if_pos (show nI 0 = 0 from rfl)] at key3
        rw [if_pos e3]
        exact key.trans (key2.trans (key3.trans key4))
      · rw [if_neg (nI_ne0 (by omega) z3)] at key3
        rw [if_neg e3]
        exact key.trans (key2.trans key3)
    · rw [if_neg (nI_ne0 (by omega) z2)] at key2
      rw [if_neg e2]
      exact ⟨M2, a1.trans b1, by rw [if_neg e2]; exact key.trans key2⟩
  · rw [if_neg (nI_ne0 (by omega) z1)] at key
    rw [if_neg e1]
    exact ⟨M1, a1, by rw [if_neg e1]; exact key⟩
theorem op_need (H : Rel0 t n l m h c1 c2 c3 M) (x y : Int32) : Op (f_X11_need x y) (f_X12_need_ x y) t M := by
  obtain ⟨h1, h2, h3, h4, h5, h6, h7, h8, h9, h10, h11⟩ := id H
  obtain ⟨b1, b2, b3, b4, e0, e4, e1, e3, eu, wA, wL, wH, wT⟩ := id h1
  rcases ix x (n := h) (by omega) with ho | ⟨i, hi, rfl⟩
  · refine Op.t0 H ?_ ?_
    · unfold f_X11_need
      rw [hh_out h3.1 ho, Option.bind_some, if_pos rfl]
      rfl
    · unfold f_X12_need_
      rw [mh_out (n := h) (M := tellM 0 M) e3 (by omega) ho, Option.bind_some, if_pos rfl]
      rfl
  rcases set_ix b1 y with ho | ⟨s, hs, rfl⟩
  · refine Op.t0 H ?_ ?_
    · unfold f_X11_need
      rw [hh_in h3.1 hi (by omega), Option.bind_some, if_neg (by decide), sc_out b1 h2.1 ho, Option.bind_some, if_pos rfl]
      rfl
    · unfold f_X12_need_
      rw [mh_in (n := h) (M := tellM 0 M) e3 (by omega) hi, Option.bind_some, if_neg (by decide), sm_out (M := tellM 0 M) b1 e0 ho, Option.bind_some, if_pos rfl]
      rfl
  have wk := W_H.KB wH
  have cls0 : f_X11_need (nI i) (nI s) M = (if s_opens (M.1 60) h (s_keys (M.1 60) (nI s) n) i = true then some ((0 : Int32), M) else (if s_nd (M.1 60) h i (s_keys (M.1 60) (nI s) n) = 0 then ((f_X2_tell (-1000000004) M).bind fun p7 => some (p7.1, p7.2)) else some (nI (s_nd (M.1 60) h i (s_keys (M.1 60) (nI s) n)), M))) := by
    unfold f_X11_need
    rw [hh_in h3.1 hi (by omega), Option.bind_some, if_neg (by decide), sc_in b1 h2.1 hs, Option.bind_some, if_neg (by decide), kc_eq h1 h2, Option.bind_some, ke_eq h3 wH b4, Option.bind_some]
    exact nd51 h3 wH b4 hi (fun (x5 : Int32) (M : g_M) => some (x5, M)) (fun (M : g_M) => (f_X2_tell (-1000000004) M).bind fun p7 => some (p7.1, p7.2))
  have mdl0 : ∀ M', M'.1 60 = M.1 60 → ∃ M2 : g_M, g_fr [68, 69] [] M' M2 ∧ f_X12_need_ (nI i) (nI s) M' = (if bi (s_opens (M.1 60) h (s_keys (M.1 60) (nI s) n) i) = 0 then (g_lp3 (F_X12_need__42 (fun (x5 : Int32) (M : g_M) => some (x5, M)) (fun (M : g_M) => (f_X12_finding 3 M).bind fun p7 => some (p7.1, p7.2))) 20000000 (nI i) (s_keys (M.1 60) (nI s) n) 1 M2) else (some (0, M2))) := fun M' ed => by
    obtain ⟨M2, a1, a2⟩ := ob_eq b4 e3 wH (s_keys (M.1 60) (nI s) n) (M := M') ed hi
    refine ⟨M2, a2, ?_⟩
    have km := km_eq (M := M') (n := n) (l := l) (m := m) (h := h) (by rw [ed]; exact h1) (nI s)
    rw [ed] at km
    unfold f_X12_need_
    rw [mh_in (n := h) (M := M') (by rw [ed]; exact e3) (by omega) hi, Option.bind_some, if_neg (by decide), sm_in (M := M') b1 (by rw [ed]; exact e0) hs, Option.bind_some, if_neg (by decide), km, Option.bind_some, a1, Option.bind_some]
  cases op : s_opens (M.1 60) h (s_keys (M.1 60) (nI s) n) i
  · rw [op, if_neg Bool.false_ne_true] at cls0
    by_cases e : s_nd (M.1 60) h i (s_keys (M.1 60) (nI s) n) = 0
    · obtain ⟨M2, g1, g2⟩ := mdl0 (tellM 3 M) rfl
      have ed2 : M2.1 60 = M.1 60 := (g1.row (by decide) (by simp)).1.trans rfl
      obtain ⟨M3, k1, k2⟩ := nmm b4 e3 wH hi (s_keys (M.1 60) (nI s) n) (fun (x5 : Int32) (M : g_M) => some (x5, M)) (fun (M : g_M) => (f_X12_finding 3 M).bind fun p7 => some (p7.1, p7.2)) ed2
      rw [op, if_pos ((bi_0 false).mpr rfl), k2, if_pos e] at g2
      rw [if_pos e] at cls0
      exact Op.t3' H cls0 g2 (g1.trans k1) (by decide) (by simp)
    · obtain ⟨M2, g1, g2⟩ := mdl0 M rfl
      have ed2 : M2.1 60 = M.1 60 := (g1.row (by decide) (by simp)).1
      obtain ⟨M3, k1, k2⟩ := nmm b4 e3 wH hi (s_keys (M.1 60) (nI s) n) (fun (x5 : Int32) (M : g_M) => some (x5, M)) (fun (M : g_M) => (f_X12_finding 3 M).bind fun p7 => some (p7.1, p7.2)) ed2
      rw [op, if_pos ((bi_0 false).mpr rfl), k2, if_neg e] at g2
      rw [if_neg e] at cls0
      exact Op.say' H cls0 g2 (g1.trans k1) (by decide) (by simp)
  · obtain ⟨M2, g1, g2⟩ := mdl0 M rfl
    rw [op, if_pos rfl] at cls0
    rw [op, if_neg (fun q => absurd ((bi_0 true).mp q) (by decide))] at g2
    exact Op.say' H cls0 g2 g1 (by decide) (by simp)
end NEEDO
