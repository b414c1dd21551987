/-! ===== the plain operations ===== -/
theorem agA_u {d : Nat → Int32} {n k : Nat} {v : Int32} (hn : n ≤ 10) (hk : k < 10 ∨ 40 ≤ k) : agA d (upd d k v) n := fun e he => ⟨upd_ne (by omega), upd_ne (by omega), upd_ne (by omega)⟩
theorem agL_u {d : Nat → Int32} {l k : Nat} {v : Int32} (hl : l ≤ 20) (hk : k < 200 ∨ 240 ≤ k) : agL d (upd d k v) l := fun e he => ⟨upd_ne (by omega), upd_ne (by omega)⟩
theorem agH_u {d : Nat → Int32} {h k : Nat} {v : Int32} (hh : h ≤ 40) (hk : k < 40 ∨ 200 ≤ k) : agH d (upd d k v) h := fun i hi j hj => upd_ne (by omega)
theorem agT_u {d : Nat → Int32} {m k : Nat} {v : Int32} (hk : k < 240) : agT d (upd d k v) m := fun e he => ⟨upd_ne (by omega), fun j hj => upd_ne (by omega)⟩
theorem agA.trans {d d1 d2 : Nat → Int32} {n : Nat} (a : agA d d1 n) (b : agA d1 d2 n) : agA d d2 n := fun e he => ⟨(b e he).1.trans (a e he).1, (b e he).2.1.trans (a e he).2.1, (b e he).2.2.trans (a e he).2.2⟩
theorem agL.trans {d d1 d2 : Nat → Int32} {n : Nat} (a : agL d d1 n) (b : agL d1 d2 n) : agL d d2 n := fun e he => ⟨(b e he).1.trans (a e he).1, (b e he).2.trans (a e he).2⟩
theorem agH.trans {d d1 d2 : Nat → Int32} {n : Nat} (a : agH d d1 n) (b : agH d1 d2 n) : agH d d2 n := fun i hi j hj => (b i hi j hj).trans (a i hi j hj)
theorem agT.trans {d d1 d2 : Nat → Int32} {n : Nat} (a : agT d d1 n) (b : agT d1 d2 n) : agT d d2 n := fun e he => ⟨(b e he).1.trans (a e he).1, fun k hk => ((b e he).2 k hk).trans ((a e he).2 k hk)⟩
theorem X_C.b1 {t : Nat} {x1 x2 x3 : Int32} {c1 c2 c3 : Nat} (h : X_C t x1 x2 x3 c1 c2 c3) : X_C (t + 1) (x1 + 1) x2 x3 (c1 + 1) c2 c3 := by
  obtain ⟨rfl, rfl, rfl, a, b, c⟩ := h
  exact ⟨nI_1 _, rfl, rfl, by omega, by omega, by omega⟩
theorem X_C.b2 {t : Nat} {x1 x2 x3 : Int32} {c1 c2 c3 : Nat} (h : X_C t x1 x2 x3 c1 c2 c3) : X_C (t + 1) x1 (x2 + 1) x3 c1 (c2 + 1) c3 := by
  obtain ⟨rfl, rfl, rfl, a, b, c⟩ := h
  exact ⟨rfl, nI_1 _, rfl, by omega, by omega, by omega⟩
theorem X_C.b3 {t : Nat} {x1 x2 x3 : Int32} {c1 c2 c3 : Nat} (h : X_C t x1 x2 x3 c1 c2 c3) : X_C (t + 1) x1 x2 (x3 + 1) c1 c2 (c3 + 1) := by
  obtain ⟨rfl, rfl, rfl, a, b, c⟩ := h
  exact ⟨rfl, rfl, nI_1 _, by omega, by omega, by omega⟩
theorem X_C.lt {t : Nat} {x1 x2 x3 : Int32} {c1 c2 c3 : Nat} (h : X_C t x1 x2 x3 c1 c2 c3) (ht : t < 64) : c1 ≤ 64000 ∧ c2 ≤ 64000 ∧ c3 ≤ 64000 := by
  obtain ⟨-, -, -, a, b, c⟩ := h
  omega
theorem keep4d {m : Nat} {M M' : g_M} {S : List Nat} {T : List (Nat × Nat)} (fr : g_fr S T M M') (hk : g_ok S T [14, 16, 17, 18, 19, 20, 21, 22, 23] [(13, 0)] = true) (hm : m ≤ 8) (H : X_T (M.1 60) m (M.1 13 0) (M.1 13 1) (M.1 14) (fun t => M.1 (16 + t))) (aT : agT (M.1 60) (M'.1 60) m) (e : M'.1 13 1 = M'.1 60 2) : X_T (M'.1 60) m (M'.1 13 0) (M'.1 13 1) (M'.1 14) (fun t => M'.1 (16 + t)) := by
  rw [g_ok.at hk fr (k := 13) (i := 0) (by decide), (g_ok.row hk fr (k := 14) (by decide)).1]
  refine (H.agree aT e).cong (fun q hq => (g_ok.row hk fr (k := 16 + q) ?_).1)
  have hq8 : q < 8 := by omega
  revert hq8
  clear hq
  revert q
  decide
theorem st_0 {M : g_M} {v : Int32} : g_st M 60 1208 0 v = some (g_u M 60 0 v) := e_st (k := 0) (by omega) (by omega)
theorem st_1 {M : g_M} {v : Int32} : g_st M 60 1208 1 v = some (g_u M 60 1 v) := e_st (k := 1) (by omega) (by omega)
theorem st_2 {M : g_M} {v : Int32} : g_st M 60 1208 2 v = some (g_u M 60 2 v) := e_st (k := 2) (by omega) (by omega)
theorem st_3 {M : g_M} {v : Int32} : g_st M 60 1208 3 v = some (g_u M 60 3 v) := e_st (k := 3) (by omega) (by omega)
theorem st_4 {M : g_M} {v : Int32} : g_st M 60 1208 4 v = some (g_u M 60 4 v) := e_st (k := 4) (by omega) (by omega)
theorem st_10 {M : g_M} {v : Int32} {n : Nat} (h : n < 1000) : g_st M 60 1208 (10 + nI n) v = some (g_u M 60 (10 + n) v) := st_a (nI_add 10 n) (by omega)
theorem ld_10 {M : g_M} {n : Nat} (h : n < 1000) : g_ld M 60 1208 (10 + nI n) = some (M.1 60 (10 + n)) := ld_a (nI_add 10 n) (by omega)
theorem st_20 {M : g_M} {v : Int32} {n : Nat} (h : n < 1000) : g_st M 60 1208 (20 + nI n) v = some (g_u M 60 (20 + n) v) := st_a (nI_add 20 n) (by omega)
theorem ld_20 {M : g_M} {n : Nat} (h : n < 1000) : g_ld M 60 1208 (20 + nI n) = some (M.1 60 (20 + n)) := ld_a (nI_add 20 n) (by omega)
theorem st_30 {M : g_M} {v : Int32} {n : Nat} (h : n < 1000) : g_st M 60 1208 (30 + nI n) v = some (g_u M 60 (30 + n) v) := st_a (nI_add 30 n) (by omega)
theorem ld_30 {M : g_M} {n : Nat} (h : n < 1000) : g_ld M 60 1208 (30 + nI n) = some (M.1 60 (30 + n)) := ld_a (nI_add 30 n) (by omega)
theorem lq0_s {R : Type} {F : (Option R) → Option R} {n : Nat} : g_lq0 F (n + 1) = F (g_lq0 F n) := rfl
theorem lq1_s {A0 : Type} {R : Type} {F : (A0 → Option R) → A0 → Option R} {n : Nat} {a0 : A0} : g_lq1 F (n + 1) a0 = F (g_lq1 F n) a0 := rfl
theorem lq2_s {A0 : Type} {A1 : Type} {R : Type} {F : (A0 → A1 → Option R) → A0 → A1 → Option R} {n : Nat} {a0 : A0} {a1 : A1} : g_lq2 F (n + 1) a0 a1 = F (g_lq2 F n) a0 a1 := rfl
theorem lq3_s {A0 : Type} {A1 : Type} {A2 : Type} {R : Type} {F : (A0 → A1 → A2 → Option R) → A0 → A1 → A2 → Option R} {n : Nat} {a0 : A0} {a1 : A1} {a2 : A2} : g_lq3 F (n + 1) a0 a1 a2 = F (g_lq3 F n) a0 a1 a2 := rfl
theorem lq4_s {A0 : Type} {A1 : Type} {A2 : Type} {A3 : Type} {R : Type} {F : (A0 → A1 → A2 → A3 → Option R) → A0 → A1 → A2 → A3 → Option R} {n : Nat} {a0 : A0} {a1 : A1} {a2 : A2} {a3 : A3} : g_lq4 F (n + 1) a0 a1 a2 a3 = F (g_lq4 F n) a0 a1 a2 a3 := rfl
theorem lq5_s {A0 : Type} {A1 : Type} {A2 : Type} {A3 : Type} {A4 : Type} {R : Type} {F : (A0 → A1 → A2 → A3 → A4 → Option R) → A0 → A1 → A2 → A3 → A4 → Option R} {n : Nat} {a0 : A0} {a1 : A1} {a2 : A2} {a3 : A3} {a4 : A4} : g_lq5 F (n + 1) a0 a1 a2 a3 a4 = F (g_lq5 F n) a0 a1 a2 a3 a4 := rfl
theorem lq6_s {A0 : Type} {A1 : Type} {A2 : Type} {A3 : Type} {A4 : Type} {A5 : Type} {R : Type} {F : (A0 → A1 → A2 → A3 → A4 → A5 → Option R) → A0 → A1 → A2 → A3 → A4 → A5 → Option R} {n : Nat} {a0 : A0} {a1 : A1} {a2 : A2} {a3 : A3} {a4 : A4} {a5 : A5} : g_lq6 F (n + 1) a0 a1 a2 a3 a4 a5 = F (g_lq6 F n) a0 a1 a2 a3 a4 a5 := rfl
theorem lq7_s {A0 : Type} {A1 : Type} {A2 : Type} {A3 : Type} {A4 : Type} {A5 : Type} {A6 : Type} {R : Type} {F : (A0 → A1 → A2 → A3 → A4 → A5 → A6 → Option R) → A0 → A1 → A2 → A3 → A4 → A5 → A6 → Option R} {n : Nat} {a0 : A0} {a1 : A1} {a2 : A2} {a3 : A3} {a4 : A4} {a5 : A5} {a6 : A6} : g_lq7 F (n + 1) a0 a1 a2 a3 a4 a5 a6 = F (g_lq7 F n) a0 a1 a2 a3 a4 a5 a6 := rfl
theorem lq8_s {A0 : Type} {A1 : Type} {A2 : Type} {A3 : Type} {A4 : Type} {A5 : Type} {A6 : Type} {A7 : Type} {R : Type} {F : (A0 → A1 → A2 → A3 → A4 → A5 → A6 → A7 → Option R) → A0 → A1 → A2 → A3 → A4 → A5 → A6 → A7 → Option R} {n : Nat} {a0 : A0} {a1 : A1} {a2 : A2} {a3 : A3} {a4 : A4} {a5 : A5} {a6 : A6} {a7 : A7} : g_lq8 F (n + 1) a0 a1 a2 a3 a4 a5 a6 a7 = F (g_lq8 F n) a0 a1 a2 a3 a4 a5 a6 a7 := rfl
theorem lq9_s {A0 : Type} {A1 : Type} {A2 : Type} {A3 : Type} {A4 : Type} {A5 : Type} {A6 : Type} {A7 : Type} {A8 : Type} {R : Type} {F : (A0 → A1 → A2 → A3 → A4 → A5 → A6 → A7 → A8 → Option R) → A0 → A1 → A2 → A3 → A4 → A5 → A6 → A7 → A8 → Option R} {n : Nat} {a0 : A0} {a1 : A1} {a2 : A2} {a3 : A3} {a4 : A4} {a5 : A5} {a6 : A6} {a7 : A7} {a8 : A8} : g_lq9 F (n + 1) a0 a1 a2 a3 a4 a5 a6 a7 a8 = F (g_lq9 F n) a0 a1 a2 a3 a4 a5 a6 a7 a8 := rfl
theorem lq10_s {A0 : Type} {A1 : Type} {A2 : Type} {A3 : Type} {A4 : Type} {A5 : Type} {A6 : Type} {A7 : Type} {A8 : Type} {A9 : Type} {R : Type} {F : (A0 → A1 → A2 → A3 → A4 → A5 → A6 → A7 → A8 → A9 → Option R) → A0 → A1 → A2 → A3 → A4 → A5 → A6 → A7 → A8 → A9 → Option R} {n : Nat} {a0 : A0} {a1 : A1} {a2 : A2} {a3 : A3} {a4 : A4} {a5 : A5} {a6 : A6} {a7 : A7} {a8 : A8} {a9 : A9} : g_lq10 F (n + 1) a0 a1 a2 a3 a4 a5 a6 a7 a8 a9 = F (g_lq10 F n) a0 a1 a2 a3 a4 a5 a6 a7 a8 a9 := rfl
theorem lp0_s {R : Type} {F : (g_M → Option R) → g_M → Option R} {n : Nat} {M : g_M} : g_lp0 F (n + 1) M = F (g_lp0 F n) M := rfl
theorem lp1_s {A0 : Type} {R : Type} {F : (A0 → g_M → Option R) → A0 → g_M → Option R} {n : Nat} {a0 : A0} {M : g_M} : g_lp1 F (n + 1) a0 M = F (g_lp1 F n) a0 M := rfl
theorem lp2_s {A0 : Type} {A1 : Type} {R : Type} {F : (A0 → A1 → g_M → Option R) → A0 → A1 → g_M → Option R} {n : Nat} {a0 : A0} {a1 : A1} {M : g_M} : g_lp2 F (n + 1) a0 a1 M = F (g_lp2 F n) a0 a1 M := rfl
theorem lp3_s {A0 : Type} {A1 : Type} {A2 : Type} {R : Type} {F : (A0 → A1 → A2 → g_M → Option R) → A0 → A1 → A2 → g_M → Option R} {n : Nat} {a0 : A0} {a1 : A1} {a2 : A2} {M : g_M} : g_lp3 F (n + 1) a0 a1 a2 M = F (g_lp3 F n) a0 a1 a2 M := rfl
theorem lp4_s {A0 : Type} {A1 : Type} {A2 : Type} {A3 : Type} {R : Type} {F : (A0 → A1 → A2 → A3 → g_M → Option R) → A0 → A1 → A2 → A3 → g_M → Option R} {n : Nat} {a0 : A0} {a1 : A1} {a2 : A2} {a3 : A3} {M : g_M} : g_lp4 F (n + 1) a0 a1 a2 a3 M = F (g_lp4 F n) a0 a1 a2 a3 M := rfl
theorem lp5_s {A0 : Type} {A1 : Type} {A2 : Type} {A3 : Type} {A4 : Type} {R : Type} {F : (A0 → A1 → A2 → A3 → A4 → g_M → Option R) → A0 → A1 → A2 → A3 → A4 → g_M → Option R} {n : Nat} {a0 : A0} {a1 : A1} {a2 : A2} {a3 : A3} {a4 : A4} {M : g_M} : g_lp5 F (n + 1) a0 a1 a2 a3 a4 M = F (g_lp5 F n) a0 a1 a2 a3 a4 M := rfl
theorem lp6_s {A0 : Type} {A1 : Type} {A2 : Type} {A3 : Type} {A4 : Type} {A5 : Type} {R : Type} {F : (A0 → A1 → A2 → A3 → A4 → A5 → g_M → Option R) → A0 → A1 → A2 → A3 → A4 → A5 → g_M → Option R} {n : Nat} {a0 : A0} {a1 : A1} {a2 : A2} {a3 : A3} {a4 : A4} {a5 : A5} {M : g_M} : g_lp6 F (n + 1) a0 a1 a2 a3 a4 a5 M = F (g_lp6 F n) a0 a1 a2 a3 a4 a5 M := rfl
theorem lp7_s {A0 : Type} {A1 : Type} {A2 : Type} {A3 : Type} {A4 : Type} {A5 : Type} {A6 : Type} {R : Type} {F : (A0 → A1 → A2 → A3 → A4 → A5 → A6 → g_M → Option R) → A0 → A1 → A2 → A3 → A4 → A5 → A6 → g_M → Option R} {n : Nat} {a0 : A0} {a1 : A1} {a2 : A2} {a3 : A3} {a4 : A4} {a5 : A5} {a6 : A6} {M : g_M} : g_lp7 F (n + 1) a0 a1 a2 a3 a4 a5 a6 M = F (g_lp7 F n) a0 a1 a2 a3 a4 a5 a6 M := rfl
theorem lp8_s {A0 : Type} {A1 : Type} {A2 : Type} {A3 : Type} {A4 : Type} {A5 : Type} {A6 : Type} {A7 : Type} {R : Type} {F : (A0 → A1 → A2 → A3 → A4 → A5 → A6 → A7 → g_M → Option R) → A0 → A1 → A2 → A3 → A4 → A5 → A6 → A7 → g_M → Option R} {n : Nat} {a0 : A0} {a1 : A1} {a2 : A2} {a3 : A3} {a4 : A4} {a5 : A5} {a6 : A6} {a7 : A7} {M : g_M} : g_lp8 F (n + 1) a0 a1 a2 a3 a4 a5 a6 a7 M = F (g_lp8 F n) a0 a1 a2 a3 a4 a5 a6 a7 M := rfl
theorem lp9_s {A0 : Type} {A1 : Type} {A2 : Type} {A3 : Type} {A4 : Type} {A5 : Type} {A6 : Type} {A7 : Type} {A8 : Type} {R : Type} {F : (A0 → A1 → A2 → A3 → A4 → A5 → A6 → A7 → A8 → g_M → Option R) → A0 → A1 → A2 → A3 → A4 → A5 → A6 → A7 → A8 → g_M → Option R} {n : Nat} {a0 : A0} {a1 : A1} {a2 : A2} {a3 : A3} {a4 : A4} {a5 : A5} {a6 : A6} {a7 : A7} {a8 : A8} {M : g_M} : g_lp9 F (n + 1) a0 a1 a2 a3 a4 a5 a6 a7 a8 M = F (g_lp9 F n) a0 a1 a2 a3 a4 a5 a6 a7 a8 M := rfl
theorem lp10_s {A0 : Type} {A1 : Type} {A2 : Type} {A3 : Type} {A4 : Type} {A5 : Type} {A6 : Type} {A7 : Type} {A8 : Type} {A9 : Type} {R : Type} {F : (A0 → A1 → A2 → A3 → A4 → A5 → A6 → A7 → A8 → A9 → g_M → Option R) → A0 → A1 → A2 → A3 → A4 → A5 → A6 → A7 → A8 → A9 → g_M → Option R} {n : Nat} {a0 : A0} {a1 : A1} {a2 : A2} {a3 : A3} {a4 : A4} {a5 : A5} {a6 : A6} {a7 : A7} {a8 : A8} {a9 : A9} {M : g_M} : g_lp10 F (n + 1) a0 a1 a2 a3 a4 a5 a6 a7 a8 a9 M = F (g_lp10 F n) a0 a1 a2 a3 a4 a5 a6 a7 a8 a9 M := rfl
section TELLS
variable {a b : g_M → Option (Int32 × g_M)} {t n l m h c1 c2 c3 : Nat} {M M1 : g_M}
theorem Op.t0 (H : Rel0 t n l m h c1 c2 c3 M1) (ha : a M = (f_X2_tell (-1000000001) M1).bind fun p => some (p.1, p.2)) (hb : b (tellM 0 M1) = (f_X12_finding 0 (tellM 0 M1)).bind fun p => some (p.1, p.2)) : Op a b t M := ⟨(-1000000001, tellM 0 M1), (-1000000001, findM 0 (tellM 0 M1)), ha.trans (by rw [tell0, Option.bind_some]), hb.trans (by rw [find0, Option.bind_some]), rfl, _, _, _, _, _, _, _, H.tell (c := 0) (by omega)⟩
theorem Op.t1 (H : Rel0 t n l m h c1 c2 c3 M1) (ha : a M = (f_X2_tell (-1000000002) M1).bind fun p => some (p.1, p.2)) (hb : b (tellM 1 M1) = (f_X12_finding 1 (tellM 1 M1)).bind fun p => some (p.1, p.2)) : Op a b t M := ⟨(-1000000002, tellM 1 M1), (-1000000002, findM 1 (tellM 1 M1)), ha.trans (by rw [tell1, Option.bind_some]), hb.trans (by rw [find1, Option.bind_some]), rfl, _, _, _, _, _, _, _, H.tell (c := 1) (by omega)⟩
theorem Op.t2 (H : Rel0 t n l m h c1 c2 c3 M1) (ha : a M = (f_X2_tell (-1000000003) M1).bind fun p => some (p.1, p.2)) (hb : b (tellM 2 M1) = (f_X12_finding 2 (tellM 2 M1)).bind fun p => some (p.1, p.2)) : Op a b t M := ⟨(-1000000003, tellM 2 M1), (-1000000003, findM 2 (tellM 2 M1)), ha.trans (by rw [tell2, Option.bind_some]), hb.trans (by rw [find2, Option.bind_some]), rfl, _, _, _, _, _, _, _, H.tell (c := 2) (by omega)⟩
theorem Op.t3 (H : Rel0 t n l m h c1 c2 c3 M1) (ha : a M = (f_X2_tell (-1000000004) M1).bind fun p => some (p.1, p.2)) (hb : b (tellM 3 M1) = (f_X12_finding 3 (tellM 3 M1)).bind fun p => some (p.1, p.2)) : Op a b t M := ⟨(-1000000004, tellM 3 M1), (-1000000004, findM 3 (tellM 3 M1)), ha.trans (by rw [tell3, Option.bind_some]), hb.trans (by rw [find3, Option.bind_some]), rfl, _, _, _, _, _, _, _, H.tell (c := 3) (by omega)⟩
theorem Op.t4 (H : Rel0 t n l m h c1 c2 c3 M1) (ha : a M = (f_X2_tell (-1000000005) M1).bind fun p => some (p.1, p.2)) (hb : b (tellM 4 M1) = (f_X12_finding 4 (tellM 4 M1)).bind fun p => some (p.1, p.2)) : Op a b t M := ⟨(-1000000005, tellM 4 M1), (-1000000005, findM 4 (tellM 4 M1)), ha.trans (by rw [tell4, Option.bind_some]), hb.trans (by rw [find4, Option.bind_some]), rfl, _, _, _, _, _, _, _, H.tell (c := 4) (by omega)⟩
theorem Op.t5 (H : Rel0 t n l m h c1 c2 c3 M1) (ha : a M = (f_X2_tell (-1000000006) M1).bind fun p => some (p.1, p.2)) (hb : b (tellM 5 M1) = (f_X12_finding 5 (tellM 5 M1)).bind fun p => some (p.1, p.2)) : Op a b t M := ⟨(-1000000006, tellM 5 M1), (-1000000006, findM 5 (tellM 5 M1)), ha.trans (by rw [tell5, Option.bind_some]), hb.trans (by rw [find5, Option.bind_some]), rfl, _, _, _, _, _, _, _, H.tell (c := 5) (by omega)⟩
theorem Op.t6 (H : Rel0 t n l m h c1 c2 c3 M1) (ha : a M = (f_X2_tell (-1000000007) M1).bind fun p => some (p.1, p.2)) (hb : b (tellM 6 M1) = (f_X12_finding 6 (tellM 6 M1)).bind fun p => some (p.1, p.2)) : Op a b t M := ⟨(-1000000007, tellM 6 M1), (-1000000007, findM 6 (tellM 6 M1)), ha.trans (by rw [tell6, Option.bind_some]), hb.trans (by rw [find6, Option.bind_some]), rfl, _, _, _, _, _, _, _, H.tell (c := 6) (by omega)⟩
/-- both only answer -/
theorem Op.say {v : Int32} (H : Rel0 t n l m h c1 c2 c3 M) (ha : a M = some (v, M)) (hb : b M = some (v, M)) : Op a b t M := ⟨_, _, ha, hb, rfl, _, _, _, _, _, _, _, H.mono (by omega)⟩
end TELLS
section OPSA
variable {t n l m h c1 c2 c3 : Nat} {M : g_M}
theorem op_wipe (H : Rel0 t n l m h c1 c2 c3 M) : Op f_X11_wipe f_X12_wipe t M := by
  obtain ⟨h1, h2, h3, h4, h5, h6, h7, h8, h9, h10, h11⟩ := id H
  have fr : g_fr [] [(33, 1), (59, 4)] M (g_u (g_u M 33 1 0) 59 4 0) := (g_fr.rfl.uT (by decide)).uT (by decide)
  obtain ⟨q, a1, a2, a3, a4⟩ := h6
  refine ⟨_, _, rfl, rfl, a2.trans a3.symm, n, l, m, h, c1, c2, c3, ?_⟩
  exact ⟨keep1 fr (by decide) h1, keep2 fr (by decide) h2, keep3 fr (by decide) h3, keep4 fr (by decide) h1.2.2.1 h4, keep5 fr (by decide) h5, ⟨0, by omega, rfl, rfl, fun k hk => absurd hk (by omega)⟩, (keep7 fr (by decide) h7).mono (by omega), keep8 fr (by decide) h8, (keep9 fr (by decide) h9).mono (by omega), keep10 fr (by decide) h10, keep11 fr (by decide) h11⟩
theorem X_K.tear {d dk : Nat → Int32} {m h : Nat} {has kept k6 k7 k8 o0 o1 o2 : Int32} {w r lt lk : Nat → Int32} : X_K d dk m h 0 0 k6 k7 k8 o0 o1 o2 w r lt lk := ⟨rfl, Or.inl rfl⟩
theorem op_tear (H : Rel0 t n l m h c1 c2 c3 M) : Op f_X11_tear f_X12_tear t M := by
  obtain ⟨h1, h2, h3, h4, h5, h6, h7, h8, h9, h10, h11⟩ := id H
  have fr : g_fr [] [(0, 4), (59, 2)] M (g_u (g_u M 0 4 0) 59 2 0) := (g_fr.rfl.uT (by decide)).uT (by decide)
  have e : (g_u M 0 4 0).1 59 2 = M.1 0 4 := h5.1
  refine ⟨(if M.1 0 4 = 0 then 0 else 1, g_u M 0 4 0), (if M.1 0 4 = 0 then 0 else 1, g_u (g_u M 0 4 0) 59 2 0), ?_, ?_, rfl, n, l, m, h, c1, c2, c3, ?_⟩
  · unfold f_X11_tear
    rw [Option.bind_some]
    split <;> rfl
  · unfold f_X12_tear
    dsimp only
    rw [e]
    split <;> rfl
  exact ⟨keep1 fr (by decide) h1, keep2 fr (by decide) h2, keep3 fr (by decide) h3, keep4 fr (by decide) h1.2.2.1 h4, ⟨rfl, Or.inl rfl⟩, keep6 fr (by decide) h6, (keep7 fr (by decide) h7).mono (by omega), keep8 fr (by decide) h8, (keep9 fr (by decide) h9).mono (by omega), keep10 fr (by decide) h10, keep11 fr (by decide) h11⟩
theorem op_use (ht : t < 64) (H : Rel0 t n l m h c1 c2 c3 M) (x : Int32) : Op (f_X11_use x) (f_X12_use x) t M := by
  obtain ⟨h1, h2, h3, h4, h5, h6, h7, h8, h9, h10, h11⟩ := id H
  obtain ⟨b1, b2, b3, b4, e0, e4, e1, e3, eu, -, -, -, hw⟩ := id h1
  have hc := h9.lt ht
  rcases ix x (n := m) (by omega) with ho | ⟨j, hj, rfl⟩
  · refine Op.t0 H ?_ ?_
    · unfold f_X11_use
      rw [ht_out h4.1 ho, Option.bind_some, if_pos rfl]
    · unfold f_X12_use
      rw [ld_1, Option.bind_some, show (tellM 0 M).1 60 1 = nI m from e1, in_out _ (out_m1 (by omega) ho), Option.bind_some, if_pos rfl]
  · have fr : g_fr [] [(13, 1), (13, 2), (60, 2)] M (g_u (g_u (g_u M 13 1 (nI j)) 13 2 ((g_u M 13 1 (nI j)).1 13 2 + 1)) 60 2 (nI j)) := ((g_fr.rfl.uT (by decide)).uT (by decide)).uT (by decide)
    refine ⟨(M.1 13 1, g_u (g_u M 13 1 (nI j)) 13 2 ((g_u M 13 1 (nI j)).1 13 2 + 1)), (M.1 60 2, g_u (g_u (g_u M 13 1 (nI j)) 13 2 ((g_u M 13 1 (nI j)).1 13 2 + 1)) 60 2 (nI j)), ?_, ?_, ?_, n, l, m, h, c1, c2 + 1, c3, ?_⟩
    · unfold f_X11_use
      rw [ht_in h4.1 hj (by omega), Option.bind_some, if_neg (by decide)]
      rfl
    · unfold f_X12_use
      dsimp only
      rw [ld_1, Option.bind_some, show (g_u (g_u M 13 1 (nI j)) 13 2 ((g_u M 13 1 (nI j)).1 13 2 + 1)).1 60 1 = nI m from e1, in_in _ (nI_pos (by omega)) (in_m1 (by omega) hj), Option.bind_some, if_neg (by decide), ld_2, Option.bind_some, st_2, Option.bind_some]
      rfl
    · exact h4.2.1
    have aA : agA (M.1 60) (upd (M.1 60) 2 (nI j)) n := agA_u b1 (by omega)
    have aL : agL (M.1 60) (upd (M.1 60) 2 (nI j)) l := agL_u b2 (by omega)
    have aH : agH (M.1 60) (upd (M.1 60) 2 (nI j)) h := agH_u b4 (by omega)
    have aT : agT (M.1 60) (upd (M.1 60) 2 (nI j)) m := agT_u (by omega)
    exact ⟨h1.agree rfl rfl rfl rfl (Or.inr ⟨j, hj, rfl⟩) aA aL aH aT, h2.agree aA aL, h3.agree aH, keep4d fr (by decide) b3 h4 aT rfl, h5.agree aT aH (Nat.le_refl _) (Nat.le_refl _), keep6 fr (by decide) h6, (keep7 fr (by decide) h7).mono (by omega), keep8 fr (by decide) h8, h9.b2, h10.agree (fun e he => (aA e he).2) aH, h11.bump (by omega) (by omega)⟩
end OPSA
