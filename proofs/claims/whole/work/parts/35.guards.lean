/-! ===== the guards of both sides ===== -/
theorem i_lt {x y : Int32} : x < y ↔ x.toInt < y.toInt := Int32.lt_iff_toInt_lt
theorem i_le {x y : Int32} : x ≤ y ↔ x.toInt ≤ y.toInt := Int32.le_iff_toInt_le
theorem nI_m1 {n : Nat} (h : n < 2 ^ 30) : (nI n - 1).toInt = (n : Int) - 1 := pk_sub_toInt (a := n) (b := 1) h (by omega)
theorem out_m1 {x : Int32} {n : Nat} (hn : n < 2 ^ 30) (h : x < 0 ∨ nI n ≤ x) : x < 0 ∨ nI n - 1 < x := by
  rcases h with h | h
  · exact Or.inl h
  · right
    rw [i_le, nI_toInt (by omega)] at h
    rw [i_lt, nI_m1 hn]
    omega
theorem in_m1 {j n : Nat} (hn : n < 2 ^ 30) (h : j < n) : ¬ nI n - 1 < nI j := by
  rw [i_lt, nI_m1 hn, nI_toInt (by omega)]
  omega
theorem in_out {x a b : Int32} (M : g_M) (h : x < a ∨ b < x) : f_X12_in x a b M = some 0 := by
  unfold f_X12_in
  by_cases c : x < a
  · rw [if_pos c]
  · rw [if_neg c, if_pos (h.resolve_left c)]
theorem in_in {x a b : Int32} (M : g_M) (h : ¬ x < a) (h2 : ¬ b < x) : f_X12_in x a b M = some 1 := by
  unfold f_X12_in
  rw [if_neg h, if_neg h2]
theorem g_bz0 : g_bz 0 = some 0 := rfl
theorem g_bz1 : g_bz 1 = some 1 := rfl
theorem ld_0 (M : g_M) : g_ld M 60 1208 0 = some (M.1 60 0) := e_ld (k := 0) (by omega) (by omega)
theorem ld_1 (M : g_M) : g_ld M 60 1208 1 = some (M.1 60 1) := e_ld (k := 1) (by omega) (by omega)
theorem ld_2 (M : g_M) : g_ld M 60 1208 2 = some (M.1 60 2) := e_ld (k := 2) (by omega) (by omega)
theorem ld_3 (M : g_M) : g_ld M 60 1208 3 = some (M.1 60 3) := e_ld (k := 3) (by omega) (by omega)
theorem ld_4 (M : g_M) : g_ld M 60 1208 4 = some (M.1 60 4) := e_ld (k := 4) (by omega) (by omega)
/-- the model's row at a place that is a number and a known one -/
theorem ld_a {M : g_M} {a j : Nat} {x : Int32} (h : x = nI (a + j)) (hj : a + j < 1208) : g_ld M 60 1208 x = some (M.1 60 (a + j)) := by rw [h, e_ld hj (by omega)]
theorem st_a {M : g_M} {k : Nat} {x v : Int32} (h : x = nI k) (hj : k < 1208) : g_st M 60 1208 x v = some (g_u M 60 k v) := by rw [h, e_st hj (by omega)]
theorem has_out {x : Int32} {n : Nat} {M : g_M} (e : M.1 3 0 = nI n) (h : x < 0 ∨ nI n ≤ x) : f_X0_has x M = some 0 := by
  unfold f_X0_has
  by_cases c : x < 0
  · rw [if_pos c]
  · rw [if_neg c, e, if_pos (h.resolve_left c)]
theorem has_in {j n : Nat} {M : g_M} (e : M.1 3 0 = nI n) (hj : j < n) (hn : n < 2 ^ 30) : f_X0_has (nI j) M = some 1 := by
  unfold f_X0_has
  rw [if_neg (nI_pos (by omega)), e, if_neg (nI_ge hj (by omega))]
theorem hh_out {x : Int32} {n : Nat} {M : g_M} (e : M.1 24 0 = nI n) (h : x < 0 ∨ nI n ≤ x) : f_X4_has x M = some 0 := by
  unfold f_X4_has
  by_cases c : x < 0
  · rw [if_pos c]
  · rw [if_neg c, e, if_pos (h.resolve_left c)]
theorem hh_in {j n : Nat} {M : g_M} (e : M.1 24 0 = nI n) (hj : j < n) (hn : n < 2 ^ 30) : f_X4_has (nI j) M = some 1 := by
  unfold f_X4_has
  rw [if_neg (nI_pos (by omega)), e, if_neg (nI_ge hj (by omega))]
theorem ht_out {x : Int32} {n : Nat} {M : g_M} (e : M.1 13 0 = nI n) (h : x < 0 ∨ nI n ≤ x) : f_X10_has x M = some 0 := by
  unfold f_X10_has
  by_cases c : x < 0
  · rw [if_pos c]
  · rw [if_neg c, e, if_pos (h.resolve_left c)]
theorem ht_in {j n : Nat} {M : g_M} (e : M.1 13 0 = nI n) (hj : j < n) (hn : n < 2 ^ 30) : f_X10_has (nI j) M = some 1 := by
  unfold f_X10_has
  rw [if_neg (nI_pos (by omega)), e, if_neg (nI_ge hj (by omega))]
theorem ik_out {x : Int32} {M : g_M} (h : x < 0 ∨ nI 24 ≤ x) : f_X11_isKey x M = some 0 := by
  unfold f_X11_isKey
  by_cases c : x < 0
  · rw [if_pos c]
  · rw [if_neg c, if_pos (show (24 : Int32) ≤ x from h.resolve_left c)]
theorem ik_in {j : Nat} {M : g_M} (hj : j < 24) : f_X11_isKey (nI j) M = some 1 := by
  unfold f_X11_isKey
  rw [if_neg (nI_pos (by omega)), if_neg (show ¬ (24 : Int32) ≤ nI j from nI_ge (b := 24) hj (by omega))]
theorem mk_out {x : Int32} {M : g_M} (h : x < 0 ∨ nI 24 ≤ x) : f_X12_isKey x M = some 0 := by
  unfold f_X12_isKey
  rw [in_out M (a := 0) (b := 23) (out_m1 (n := 24) (by omega) h)]
  rfl
theorem mk_in {j : Nat} {M : g_M} (hj : j < 24) : f_X12_isKey (nI j) M = some 1 := by
  unfold f_X12_isKey
  rw [in_in M (nI_pos (by omega)) (show ¬ (23 : Int32) < nI j from in_m1 (n := 24) (by omega) hj)]
  rfl
theorem me_out {x : Int32} {n : Nat} {M : g_M} (e : M.1 60 0 = nI n) (hn : n < 2 ^ 30) (h : x < 0 ∨ nI n ≤ x) : f_X12_isElder x M = some 0 := by
  unfold f_X12_isElder
  rw [ld_0, Option.bind_some, e, in_out M (out_m1 hn h)]
  rfl
theorem me_in {j n : Nat} {M : g_M} (e : M.1 60 0 = nI n) (hn : n < 2 ^ 30) (hj : j < n) : f_X12_isElder (nI j) M = some 1 := by
  unfold f_X12_isElder
  rw [ld_0, Option.bind_some, e, in_in M (nI_pos (by omega)) (in_m1 hn hj)]
  rfl
theorem mh_out {x : Int32} {n : Nat} {M : g_M} (e : M.1 60 3 = nI n) (hn : n < 2 ^ 30) (h : x < 0 ∨ nI n ≤ x) : f_X12_isHanging x M = some 0 := by
  unfold f_X12_isHanging
  rw [ld_3, Option.bind_some, e, in_out M (out_m1 hn h)]
  rfl
theorem mh_in {j n : Nat} {M : g_M} (e : M.1 60 3 = nI n) (hn : n < 2 ^ 30) (hj : j < n) : f_X12_isHanging (nI j) M = some 1 := by
  unfold f_X12_isHanging
  rw [ld_3, Option.bind_some, e, in_in M (nI_pos (by omega)) (in_m1 hn hj)]
  rfl
theorem tell0 (M : g_M) : f_X2_tell (-1000000001) M = some (-1000000001, tellM 0 M) := tell_eq (c := 0) (by omega) (by decide) M
theorem tell1 (M : g_M) : f_X2_tell (-1000000002) M = some (-1000000002, tellM 1 M) := tell_eq (c := 1) (by omega) (by decide) M
theorem tell2 (M : g_M) : f_X2_tell (-1000000003) M = some (-1000000003, tellM 2 M) := tell_eq (c := 2) (by omega) (by decide) M
theorem tell3 (M : g_M) : f_X2_tell (-1000000004) M = some (-1000000004, tellM 3 M) := tell_eq (c := 3) (by omega) (by decide) M
theorem tell4 (M : g_M) : f_X2_tell (-1000000005) M = some (-1000000005, tellM 4 M) := tell_eq (c := 4) (by omega) (by decide) M
theorem tell5 (M : g_M) : f_X2_tell (-1000000006) M = some (-1000000006, tellM 5 M) := tell_eq (c := 5) (by omega) (by decide) M
theorem tell6 (M : g_M) : f_X2_tell (-1000000007) M = some (-1000000007, tellM 6 M) := tell_eq (c := 6) (by omega) (by decide) M
theorem find0 (M : g_M) : f_X12_finding 0 M = some (-1000000001, findM 0 M) := find_eq (c := 0) (by omega) M
theorem find1 (M : g_M) : f_X12_finding 1 M = some (-1000000002, findM 1 M) := find_eq (c := 1) (by omega) M
theorem find2 (M : g_M) : f_X12_finding 2 M = some (-1000000003, findM 2 M) := find_eq (c := 2) (by omega) M
theorem find3 (M : g_M) : f_X12_finding 3 M = some (-1000000004, findM 3 M) := find_eq (c := 3) (by omega) M
theorem find4 (M : g_M) : f_X12_finding 4 M = some (-1000000005, findM 4 M) := find_eq (c := 4) (by omega) M
theorem find5 (M : g_M) : f_X12_finding 5 M = some (-1000000006, findM 5 M) := find_eq (c := 5) (by omega) M
theorem find6 (M : g_M) : f_X12_finding 6 M = some (-1000000007, findM 6 M) := find_eq (c := 6) (by omega) M
/-- the model's row stays when the class tells a finding -/
theorem tellM_60 {c : Nat} {M : g_M} : (tellM c M).1 60 = M.1 60 := rfl
theorem tellM_59 {c : Nat} {M : g_M} : (tellM c M).1 59 = M.1 59 := rfl
