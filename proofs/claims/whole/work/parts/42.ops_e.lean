section OPSE
variable {t n l m h c1 c2 c3 : Nat} {M : g_M}
theorem pw_m1 : ∀ n, n < 11 → ((1 : Int32) <<< (nI n &&& 31)) - 1 = nI (2 ^ n - 1) := by decide +kernel
theorem present_eq (h1 : W_D (M.1 60) n l m h) (h2 : X_E (M.1 60) n l (M.1 3 0) (M.1 3 1) (M.1 3 2) (M.1 4) (M.1 5) (M.1 6) (M.1 7)) : f_X0_present M = some (nI (s_all (M.1 60) n)) := by
  have b1 := h1.1
  have hl := s_all_lt (M.1 60) n
  have h10 : 2 ^ n ≤ 2 ^ 10 := Nat.pow_le_pow_right (by omega) b1
  unfold f_X0_present
  rw [h2.1, pw_m1 n (by omega)]
  congr 1
  refine b_ext (fun i hi => ?_)
  rw [b_and, bt_nI (by omega), bt_not _ hi, bt_nI (by omega), Nat.testBit_two_pow_sub_one, s_all_bit]
  by_cases c : i < n
  · rw [h2.2.2.1 i c, decide_eq_true c]
    rcases (h1.2.2.2.2.2.2.2.2.2.1 i c).2.1 with w | w
    · rw [w]
      rfl
    · rw [w]
      rfl
  · rw [decide_eq_false c]
    rfl
theorem all_go (hn : n ≤ 10) (e0 : M.1 60 0 = nI n) : ∀ (k f i : Nat), i + k = n → k < f → g_lq2 (F_X12_all_4 M (fun (x1 : Int32) => some x1)) f (nI (s_all (M.1 60) i)) (nI i) = some (nI (s_all (M.1 60) n))
  | 0, f, i, hi, hf => by
    obtain ⟨f, rfl⟩ : ∃ f', f = f' + 1 := ⟨f - 1, by omega⟩
    have : i = n := by omega
    subst this
    rw [lq2_s, F_X12_all_4, ld_0, Option.bind_some, e0, if_pos (nI_le (Nat.le_refl _) (by omega))]
  | k + 1, f, i, hi, hf => by
    obtain ⟨f, rfl⟩ : ∃ f', f = f' + 1 := ⟨f - 1, by omega⟩
    have := all_go hn e0 k f (i + 1) (by omega) (by omega)
    have hs := s_all_lt (M.1 60) i
    rw [lq2_s, F_X12_all_4, ld_0, Option.bind_some, e0, if_neg (nI_ge (by omega) (by omega)), ld_20 (by omega), Option.bind_some, nI_1, ← this]
    by_cases c : M.1 60 (20 + i) = 0
    · rw [if_pos c, Option.bind_some, pw_shl i (by omega), nx_or]
      congr 2
      show _ = s_all (M.1 60) i + (if _ = 0 then 2 ^ i else 0)
      rw [if_pos c, Nat.or_comm, Nat.add_comm]
      have := Nat.two_pow_add_eq_or_of_lt hs 1
      rw [Nat.mul_one] at this
      exact this.symm
    · rw [if_neg c]
      congr 1
      show nI _ ||| nI 0 = nI (s_all (M.1 60) i + (if _ = 0 then 2 ^ i else 0))
      rw [if_neg c, nx_or, Nat.or_zero, Nat.add_zero]
theorem all_eq (hn : n ≤ 10) (e0 : M.1 60 0 = nI n) : f_X12_all M = some (nI (s_all (M.1 60) n)) := all_go hn e0 n 20000000 0 (by omega) (by omega)
theorem all_1024 (d : Nat → Int32) {n : Nat} (hn : n ≤ 10) : s_all d n < 1024 := by
  have hl := s_all_lt d n
  have h10 : 2 ^ n ≤ 2 ^ 10 := Nat.pow_le_pow_right (by omega) hn
  omega
theorem op_look (H : Rel0 t n l m h c1 c2 c3 M) (x : Int32) : Op (f_X11_look x) (f_X12_look x) t M := by
  obtain ⟨h1, h2, h3, h4, h5, h6, h7, h8, h9, h10, h11⟩ := id H
  obtain ⟨b1, b2, b3, b4, e0, e4, e1, e3, eu, wA, wL, wH, wT⟩ := id h1
  have hs := all_1024 (M.1 60) b1
  by_cases c : x = 0
  · refine Op.say (v := nI n) H ?_ ?_
    · unfold f_X11_look
      rw [if_pos c, h2.1]
    · unfold f_X12_look
      rw [if_pos c, ld_0, e0, Option.bind_some]
  by_cases c1 : x = 1
  · refine Op.say (v := nI (s_pop (nI (s_all (M.1 60) n)) 24)) H ?_ ?_
    · unfold f_X11_look
      rw [if_neg c, if_pos c1, present_eq h1 h2, Option.bind_some, bitc (by omega), Option.bind_some]
    · unfold f_X12_look
      rw [if_neg c, if_pos c1, all_eq b1 e0, Option.bind_some, many_eq, Option.bind_some]
  by_cases c2 : x = 2
  · refine Op.say (v := nI m) H ?_ ?_
    · unfold f_X11_look
      rw [if_neg c, if_neg c1, if_pos c2, h4.1]
    · unfold f_X12_look
      rw [if_neg c, if_neg c1, if_pos c2, ld_1, e1, Option.bind_some]
  by_cases c3 : x = 3
  · refine Op.say (v := M.1 60 2) H ?_ ?_
    · unfold f_X11_look
      rw [if_neg c, if_neg c1, if_neg c2, if_pos c3, h4.2.1]
    · unfold f_X12_look
      rw [if_neg c, if_neg c1, if_neg c2, if_pos c3, ld_2, Option.bind_some]
  by_cases c4 : x = 4
  · refine Op.say (v := nI h) H ?_ ?_
    · unfold f_X11_look
      rw [if_neg c, if_neg c1, if_neg c2, if_neg c3, if_pos c4, h3.1]
    · unfold f_X12_look
      rw [if_neg c, if_neg c1, if_neg c2, if_neg c3, if_pos c4, ld_3, e3, Option.bind_some]
  by_cases c5 : x = 5
  · refine Op.say (v := nI l) H ?_ ?_
    · unfold f_X11_look
      rw [if_neg c, if_neg c1, if_neg c2, if_neg c3, if_neg c4, if_pos c5, h2.2.1]
    · unfold f_X12_look
      rw [if_neg c, if_neg c1, if_neg c2, if_neg c3, if_neg c4, if_pos c5, ld_4, e4, Option.bind_some]
  by_cases c6 : x = 6
  · obtain ⟨q, hq, q1, q2, -⟩ := h6
    refine Op.say (v := nI q) H ?_ ?_
    · unfold f_X11_look
      rw [if_neg c, if_neg c1, if_neg c2, if_neg c3, if_neg c4, if_neg c5, if_pos c6, q1]
    · unfold f_X12_look
      rw [if_neg c, if_neg c1, if_neg c2, if_neg c3, if_neg c4, if_neg c5, if_pos c6, q2]
  · refine Op.t0 H ?_ ?_
    · unfold f_X11_look
      rw [if_neg c, if_neg c1, if_neg c2, if_neg c3, if_neg c4, if_neg c5, if_neg c6]
    · unfold f_X12_look
      rw [if_neg c, if_neg c1, if_neg c2, if_neg c3, if_neg c4, if_neg c5, if_neg c6]
/-! status -/
def st_sum (f : Nat → Nat) : Nat → Nat
  | 0 => 0
  | k + 1 => st_sum f k + f k
theorem stat_a {f : Nat → Nat} (hf : ∀ k, k < 7 → M.1 63 k = nI (f k)) : ∀ (k n i : Nat), i + k = 7 → k < n → g_lp3 (F_X12_status_20 (fun (x2 : Int32) (M : g_M) => some (x2, M))) n (-1) (nI (st_sum f i)) (nI i) M = some (nI (st_sum f 7), M)
  | 0, n, i, hi, hn => by
    obtain ⟨n, rfl⟩ : ∃ f', n = f' + 1 := ⟨n - 1, by omega⟩
    have : i = 7 := by omega
    subst this
    rw [lp3_s, F_X12_status_20, if_pos (by decide)]
  | k + 1, n, i, hi, hn => by
    obtain ⟨n, rfl⟩ : ∃ f', n = f' + 1 := ⟨n - 1, by omega⟩
    rw [lp3_s, F_X12_status_20, if_neg (show ¬ (7 : Int32) ≤ nI i from nI_ge (b := 7) (by omega) (by omega)), if_pos rfl, e_ld (by omega) (by omega), Option.bind_some, hf i (by omega), nI_add, nI_1]
    exact stat_a hf k n (i + 1) (by omega) (by omega)
theorem stat_b {f : Nat → Nat} (hf : ∀ k, k < 7 → M.1 63 k = nI (f k)) {j : Nat} (hj : j < 7) : ∀ (k n i : Nat), i + k = 7 → k < n → g_lp3 (F_X12_status_20 (fun (x2 : Int32) (M : g_M) => some (x2, M))) n (nI j) (nI (if j < i then f j else 0)) (nI i) M = some (nI (f j), M)
  | 0, n, i, hi, hn => by
    obtain ⟨n, rfl⟩ : ∃ f', n = f' + 1 := ⟨n - 1, by omega⟩
    have : i = 7 := by omega
    subst this
    rw [lp3_s, F_X12_status_20, if_pos (by decide), if_pos hj]
  | k + 1, n, i, hi, hn => by
    obtain ⟨n, rfl⟩ : ∃ f', n = f' + 1 := ⟨n - 1, by omega⟩
    have := stat_b hf hj k n (i + 1) (by omega) (by omega)
    rw [lp3_s, F_X12_status_20, if_neg (show ¬ (7 : Int32) ≤ nI i from nI_ge (b := 7) (by omega) (by omega)), if_neg (fun q => m1_ne (a := j) (by omega) q.symm), nI_1, ← this]
    by_cases c : j = i
    · subst c
      rw [if_pos rfl, e_ld (by omega) (by omega), Option.bind_some, hf j (by omega), nI_add, if_neg (by omega), if_pos (by omega), Nat.zero_add]
    · rw [if_neg (fun q => c ((nI_eq (by omega) (by omega)).mp q))]
      congr 1
      rw [show nI (if j < i then f j else 0) + 0 = nI (if j < i then f j else 0) from Int32.add_zero _]
      by_cases d : j < i
      · rw [if_pos d, if_pos (by omega)]
      · rw [if_neg d, if_neg (by omega)]
theorem op_status (H : Rel0 t n l m h c1 c2 c3 M) (x : Int32) : Op (f_X11_status x) (f_X12_status x) t M := by
  obtain ⟨h1, h2, h3, h4, h5, h6, h7, h8, h9, h10, h11⟩ := id H
  obtain ⟨f, f1, f2, f3⟩ := h7
  rcases ix x (n := 7) (by omega) with ho | ⟨j, hj, rfl⟩
  · by_cases c : x = -1
    · subst c
      refine Op.say (v := nI (st_sum f 7)) H ?_ ?_
      · unfold f_X11_status
        rw [if_neg (by decide), if_pos (by decide), if_neg (by decide), f2]
        simp [st_sum]
      · unfold f_X12_status
        rw [in_in _ (by decide) (by decide), Option.bind_some, if_neg (by decide)]
        exact stat_a (fun k hk => (f1 k hk).2) 7 20000000 0 (by omega) (by omega)
    · have ho2 : x < -1 ∨ 6 < x := by
        rcases ho with ho | ho
        · left
          rw [i_lt] at ho ⊢
          have : x.toInt ≠ -1 := fun q => c (Int32.toInt_inj.mp (q.trans (by decide)))
          have e1 : (0 : Int32).toInt = 0 := by decide
          have e2 : (-1 : Int32).toInt = -1 := by decide
          omega
        · right
          rw [i_le] at ho
          rw [i_lt]
          have e1 : (nI 7).toInt = 7 := by decide
          have e2 : (6 : Int32).toInt = 6 := by decide
          omega
      refine Op.t0 H ?_ ?_
      · unfold f_X11_status
        by_cases d : x < -1
        · rw [if_pos d]
          rfl
        · have : ¬ x < 7 := by
            have := ho2.resolve_left d
            rw [i_lt] at this ⊢
            have e1 : (7 : Int32).toInt = 7 := by decide
            have e2 : (6 : Int32).toInt = 6 := by decide
            omega
          rw [if_neg d, if_neg this]
          rfl
      · unfold f_X12_status
        rw [in_out _ ho2, Option.bind_some, if_pos rfl]
  · have p0 : ¬ nI j < -1 := by
      rw [i_lt, nI_toInt (by omega)]
      have e2 : (-1 : Int32).toInt = -1 := by decide
      omega
    refine Op.say (v := nI (f j)) H ?_ ?_
    · unfold f_X11_status
      rw [if_neg p0, if_pos (show nI j < 7 from nI_lt (b := 7) hj (by omega)), if_pos (nI_pos' (by omega)), e_ld hj (by omega), Option.bind_some, (f1 j hj).1]
    · unfold f_X12_status
      rw [in_in _ p0 (show ¬ (6 : Int32) < nI j from nI_nlt (a := 6) (by omega) (by omega)), Option.bind_some, if_neg (by decide)]
      exact stat_b (fun k hk => (f1 k hk).2) hj 7 20000000 0 (by omega) (by omega)
end OPSE
