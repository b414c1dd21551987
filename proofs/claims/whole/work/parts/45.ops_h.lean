def OpL (a b : g_M → Option (Int64 × g_M)) (t : Nat) (M : g_M) : Prop := ∃ p1 p2, a M = some p1 ∧ b p1.2 = some p2 ∧ p1.1 = p2.1 ∧ RE (t + 1) p2.2
section OPSH
variable {t n l m h c1 c2 c3 : Nat} {M : g_M}
theorem OpL.t0 {a b : g_M → Option (Int64 × g_M)} (H : Rel0 t n l m h c1 c2 c3 M) (ha : a M = (f_X2_tell (-1000000001) M).bind fun p => some (Int32.toInt64 p.1, p.2)) (hb : b (tellM 0 M) = (f_X12_finding 0 (tellM 0 M)).bind fun p => some (Int32.toInt64 p.1, p.2)) : OpL a b t M := ⟨(Int32.toInt64 (-1000000001), tellM 0 M), (Int32.toInt64 (-1000000001), findM 0 (tellM 0 M)), ha.trans (by rw [tell0, Option.bind_some]), hb.trans (by rw [find0, Option.bind_some]), rfl, _, _, _, _, _, _, _, H.tell (c := 0) (by omega)⟩
theorem OpL.t5 {a b : g_M → Option (Int64 × g_M)} (H : Rel0 t n l m h c1 c2 c3 M) (ha : a M = (f_X2_tell (-1000000006) M).bind fun p => some (Int32.toInt64 p.1, p.2)) (hb : b (tellM 5 M) = (f_X12_finding 5 (tellM 5 M)).bind fun p => some (Int32.toInt64 p.1, p.2)) : OpL a b t M := ⟨(Int32.toInt64 (-1000000006), tellM 5 M), (Int32.toInt64 (-1000000006), findM 5 (tellM 5 M)), ha.trans (by rw [tell5, Option.bind_some]), hb.trans (by rw [find5, Option.bind_some]), rfl, _, _, _, _, _, _, _, H.tell (c := 5) (by omega)⟩
theorem fr_sh {o : Nat} (ho : o < 4) {k k' : Nat} {v v' : Int64} : g_fr [55, 56, 57, 58, 73, 74, 75, 76] [(51, 0), (51, 1), (52, 0), (52, 1), (53, 0), (53, 1), (54, 0), (54, 1)] M (g_ul (g_ul M (55 + o) k v) 75 k' v') := (g_fr.rfl.ulS (mem55 o ho)).ulS (by decide)
theorem write_core (H : Rel0 t n l m h c1 c2 c3 M) {o k : Nat} (ho : o < 4) (hk : k < 40) (v : Int64) : Rel0 (t + 1) n l m h c1 c2 c3 (g_ul (g_ul M (55 + o) k v) 75 (40 * o + k) v) := by
  refine sheet_core H (fr_sh ho) (fun s hs => ?_)
  obtain ⟨q, q1, q2, q3, q4, q5, q6, q7⟩ := H.2.2.2.2.2.2.2.1 s hs
  refine ⟨q, q1, q2, q3, q4, q5, q6, fun j hj => ?_⟩
  show (va_up (va_up M.2 (55 + o) (vp_updL (M.2 (55 + o)) k v)) 75 _) (55 + s) j = vp_updL (va_up M.2 (55 + o) _ 75) (40 * o + k) v (40 * s + j)
  rw [va_up_ne _ _ (show 55 + s ≠ 75 by omega), va_up_ne _ _ (show 75 ≠ 55 + o by omega)]
  by_cases c : s = o
  · subst c
    rw [va_up_self]
    by_cases d : j = k
    · subst d
      rw [pk_uLs, pk_uLs]
    · rw [pk_uLn d, pk_uLn (by omega)]
      exact q7 j hj
  · rw [va_up_ne _ _ (by omega), pk_uLn (by omega)]
    exact q7 j hj
theorem op_write (H : Rel0 t n l m h c1 c2 c3 M) (x y : Int32) (v : Int64) : OpL (f_X11_write x y v) (f_X12_write x y v) t M := by
  rcases ix x (n := 4) (by omega) with ho | ⟨o, ho, rfl⟩
  · refine OpL.t0 H ?_ ?_
    · unfold f_X11_write
      rw [is_out ho, Option.bind_some, if_pos rfl]
    · unfold f_X12_write
      rw [ms_out ho, Option.bind_some, if_pos rfl]
  obtain ⟨q, q1, q2, q3, q4, q5, q6, q7⟩ := H.2.2.2.2.2.2.2.1 o ho
  have mis : f_X7_isMissing o M = some (if M.1 73 o = 0 then 1 else 0) := by
    unfold f_X7_isMissing
    rw [q4]
    split <;> rfl
  by_cases b0 : M.1 73 o = 0
  · rw [if_pos b0] at mis
    refine OpL.t5 H ?_ ?_
    · unfold f_X11_write
      rw [is_in ho, Option.bind_some, if_neg (by decide), e_in ho (by omega), Option.bind_some, mis, Option.bind_some, if_neg (by decide)]
    · unfold f_X12_write
      rw [ms_in ho, Option.bind_some, if_neg (by decide), e_ld ho (by omega), Option.bind_some, show (tellM 5 M).1 73 o = 0 from b0, if_pos rfl]
  rw [if_neg b0] at mis
  rcases ix y (n := q) (by omega) with hy | ⟨k, hk, rfl⟩
  · refine OpL.t0 H ?_ ?_
    · unfold f_X11_write
      rw [is_in ho, Option.bind_some, if_neg (by decide), e_in ho (by omega), Option.bind_some, mis, Option.bind_some, if_pos rfl]
      by_cases c : y < 0
      · rw [if_pos c]
        rfl
      · have : ¬ y < nI q := by
          have := hy.resolve_left c
          rw [i_le] at this
          rw [i_lt]
          omega
        rw [if_neg c, Option.bind_some, q2, if_neg this]
        rfl
    · unfold f_X12_write
      rw [ms_in ho, Option.bind_some, if_neg (by decide), e_ld ho (by omega), Option.bind_some, show (tellM 0 M).1 73 o = M.1 73 o from rfl, if_neg b0, e_ld ho (by omega), Option.bind_some, show (tellM 0 M).1 74 o = nI q from q3, in_out _ (out_m1 (by omega) hy), Option.bind_some, if_pos rfl]
  have w0 : ∀ w : Int64, (g_ul M (55 + o) k w).1 = M.1 := fun w => rfl
  have fin : ∀ w : Int64, (if M.1 73 o = 8 then Int32.toInt64 ((Int32.toInt8 (Int64.toInt32 v)).toInt32) else if M.1 73 o = 16 then Int32.toInt64 ((Int32.toInt16 (Int64.toInt32 v)).toInt32) else v) = w → OpL (f_X11_write (nI o) (nI k) v) (f_X12_write (nI o) (nI k) v) t M := by
    intro w hw
    refine ⟨(M.2 (55 + o) k, g_ul M (55 + o) k w), (M.2 75 (40 * o + k), g_ul (g_ul M (55 + o) k w) 75 (40 * o + k) w), ?_, ?_, q7 k (by omega), n, l, m, h, c1, c2, c3, write_core H ho (by omega) w⟩
    · unfold f_X11_write
      rw [is_in ho, Option.bind_some, if_neg (by decide), e_in ho (by omega), Option.bind_some, mis, Option.bind_some, if_pos rfl, if_neg (nI_pos (by omega)), Option.bind_some, q2, if_pos (nI_lt hk (by omega)), Option.bind_some]
      unfold f_X7_change
      rw [e_ldl (by omega) (by omega), Option.bind_some, q4, e_stl (by omega) (by omega), e_stl (by omega) (by omega), e_stl (by omega) (by omega)]
      by_cases d8 : M.1 73 o = 8
      · rw [if_pos d8] at hw ⊢
        rw [hw]
        rfl
      · rw [if_neg d8] at hw ⊢
        by_cases d16 : M.1 73 o = 16
        · rw [if_pos d16] at hw ⊢
          rw [hw]
          rfl
        · rw [if_neg d16] at hw ⊢
          rw [hw]
          rfl
    · unfold f_X12_write
      dsimp only
      rw [ms_in ho, Option.bind_some, if_neg (by decide), e_ld ho (by omega), Option.bind_some, w0, if_neg b0, e_ld ho (by omega), Option.bind_some, w0, q3, in_in _ (nI_pos (by omega)) (in_m1 (by omega) hk), Option.bind_some, if_neg (by decide)]
      rw [show (40 : Int32) * nI o + nI k = nI (40 * o + k) by rw [show (40 : Int32) * nI o = nI (40 * o) from pk_mul 40 o, nI_add], e_ldl (by omega) (by omega), Option.bind_some, Option.bind_some, Option.bind_some, e_stl (by omega) (by omega), e_stl (by omega) (by omega), e_stl (by omega) (by omega)]
      rw [show (g_ul M (55 + o) k w).2 75 = M.2 75 from va_up_ne _ _ (by omega)]
      by_cases d8 : M.1 73 o = 8
      · rw [if_pos d8] at hw ⊢
        rw [hw]
        rfl
      · rw [if_neg d8] at hw ⊢
        by_cases d16 : M.1 73 o = 16
        · rw [if_pos d16] at hw ⊢
          rw [hw]
          rfl
        · rw [if_neg d16] at hw ⊢
          rw [hw]
          rfl
  exact fin _ rfl
end OPSH
