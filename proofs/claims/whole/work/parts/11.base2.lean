def g_lq0 {R : Type} (F : Option R → Option R) : Nat → Option R
  | 0 => none
  | n + 1 => F (g_lq0 F n)
def g_lq1 {A0 : Type} {R : Type} (F : (A0 → Option R) → A0 → Option R) : Nat → A0 → Option R
  | 0, _ => none
  | n + 1, a0 => F (g_lq1 F n) a0
def g_lq2 {A0 A1 : Type} {R : Type} (F : (A0 → A1 → Option R) → A0 → A1 → Option R) : Nat → A0 → A1 → Option R
  | 0, _, _ => none
  | n + 1, a0, a1 => F (g_lq2 F n) a0 a1
def g_lq3 {A0 A1 A2 : Type} {R : Type} (F : (A0 → A1 → A2 → Option R) → A0 → A1 → A2 → Option R) : Nat → A0 → A1 → A2 → Option R
  | 0, _, _, _ => none
  | n + 1, a0, a1, a2 => F (g_lq3 F n) a0 a1 a2
def g_lq4 {A0 A1 A2 A3 : Type} {R : Type} (F : (A0 → A1 → A2 → A3 → Option R) → A0 → A1 → A2 → A3 → Option R) : Nat → A0 → A1 → A2 → A3 → Option R
  | 0, _, _, _, _ => none
  | n + 1, a0, a1, a2, a3 => F (g_lq4 F n) a0 a1 a2 a3
def g_lq5 {A0 A1 A2 A3 A4 : Type} {R : Type} (F : (A0 → A1 → A2 → A3 → A4 → Option R) → A0 → A1 → A2 → A3 → A4 → Option R) : Nat → A0 → A1 → A2 → A3 → A4 → Option R
  | 0, _, _, _, _, _ => none
  | n + 1, a0, a1, a2, a3, a4 => F (g_lq5 F n) a0 a1 a2 a3 a4
def g_lq6 {A0 A1 A2 A3 A4 A5 : Type} {R : Type} (F : (A0 → A1 → A2 → A3 → A4 → A5 → Option R) → A0 → A1 → A2 → A3 → A4 → A5 → Option R) : Nat → A0 → A1 → A2 → A3 → A4 → A5 → Option R
  | 0, _, _, _, _, _, _ => none
  | n + 1, a0, a1, a2, a3, a4, a5 => F (g_lq6 F n) a0 a1 a2 a3 a4 a5
def g_lq7 {A0 A1 A2 A3 A4 A5 A6 : Type} {R : Type} (F : (A0 → A1 → A2 → A3 → A4 → A5 → A6 → Option R) → A0 → A1 → A2 → A3 → A4 → A5 → A6 → Option R) : Nat → A0 → A1 → A2 → A3 → A4 → A5 → A6 → Option R
  | 0, _, _, _, _, _, _, _ => none
  | n + 1, a0, a1, a2, a3, a4, a5, a6 => F (g_lq7 F n) a0 a1 a2 a3 a4 a5 a6
def g_lq8 {A0 A1 A2 A3 A4 A5 A6 A7 : Type} {R : Type} (F : (A0 → A1 → A2 → A3 → A4 → A5 → A6 → A7 → Option R) → A0 → A1 → A2 → A3 → A4 → A5 → A6 → A7 → Option R) : Nat → A0 → A1 → A2 → A3 → A4 → A5 → A6 → A7 → Option R
  | 0, _, _, _, _, _, _, _, _ => none
  | n + 1, a0, a1, a2, a3, a4, a5, a6, a7 => F (g_lq8 F n) a0 a1 a2 a3 a4 a5 a6 a7
def g_lq9 {A0 A1 A2 A3 A4 A5 A6 A7 A8 : Type} {R : Type} (F : (A0 → A1 → A2 → A3 → A4 → A5 → A6 → A7 → A8 → Option R) → A0 → A1 → A2 → A3 → A4 → A5 → A6 → A7 → A8 → Option R) : Nat → A0 → A1 → A2 → A3 → A4 → A5 → A6 → A7 → A8 → Option R
  | 0, _, _, _, _, _, _, _, _, _ => none
  | n + 1, a0, a1, a2, a3, a4, a5, a6, a7, a8 => F (g_lq9 F n) a0 a1 a2 a3 a4 a5 a6 a7 a8
def g_lq10 {A0 A1 A2 A3 A4 A5 A6 A7 A8 A9 : Type} {R : Type} (F : (A0 → A1 → A2 → A3 → A4 → A5 → A6 → A7 → A8 → A9 → Option R) → A0 → A1 → A2 → A3 → A4 → A5 → A6 → A7 → A8 → A9 → Option R) : Nat → A0 → A1 → A2 → A3 → A4 → A5 → A6 → A7 → A8 → A9 → Option R
  | 0, _, _, _, _, _, _, _, _, _, _ => none
  | n + 1, a0, a1, a2, a3, a4, a5, a6, a7, a8, a9 => F (g_lq10 F n) a0 a1 a2 a3 a4 a5 a6 a7 a8 a9
def g_lp0 {R : Type} (F : (g_M → Option R) → g_M → Option R) : Nat → g_M → Option R
  | 0, _ => none
  | n + 1, M => F (g_lp0 F n) M
def g_lp1 {A0 : Type} {R : Type} (F : (A0 → g_M → Option R) → A0 → g_M → Option R) : Nat → A0 → g_M → Option R
  | 0, _, _ => none
  | n + 1, a0, M => F (g_lp1 F n) a0 M
def g_lp2 {A0 A1 : Type} {R : Type} (F : (A0 → A1 → g_M → Option R) → A0 → A1 → g_M → Option R) : Nat → A0 → A1 → g_M → Option R
  | 0, _, _, _ => none
  | n + 1, a0, a1, M => F (g_lp2 F n) a0 a1 M
def g_lp3 {A0 A1 A2 : Type} {R : Type} (F : (A0 → A1 → A2 → g_M → Option R) → A0 → A1 → A2 → g_M → Option R) : Nat → A0 → A1 → A2 → g_M → Option R
  | 0, _, _, _, _ => none
  | n + 1, a0, a1, a2, M => F (g_lp3 F n) a0 a1 a2 M
def g_lp4 {A0 A1 A2 A3 : Type} {R : Type} (F : (A0 → A1 → A2 → A3 → g_M → Option R) → A0 → A1 → A2 → A3 → g_M → Option R) : Nat → A0 → A1 → A2 → A3 → g_M → Option R
  | 0, _, _, _, _, _ => none
  | n + 1, a0, a1, a2, a3, M => F (g_lp4 F n) a0 a1 a2 a3 M
def g_lp5 {A0 A1 A2 A3 A4 : Type} {R : Type} (F : (A0 → A1 → A2 → A3 → A4 → g_M → Option R) → A0 → A1 → A2 → A3 → A4 → g_M → Option R) : Nat → A0 → A1 → A2 → A3 → A4 → g_M → Option R
  | 0, _, _, _, _, _, _ => none
  | n + 1, a0, a1, a2, a3, a4, M => F (g_lp5 F n) a0 a1 a2 a3 a4 M
def g_lp6 {A0 A1 A2 A3 A4 A5 : Type} {R : Type} (F : (A0 → A1 → A2 → A3 → A4 → A5 → g_M → Option R) → A0 → A1 → A2 → A3 → A4 → A5 → g_M → Option R) : Nat → A0 → A1 → A2 → A3 → A4 → A5 → g_M → Option R
  | 0, _, _, _, _, _, _, _ => none
  | n + 1, a0, a1, a2, a3, a4, a5, M => F (g_lp6 F n) a0 a1 a2 a3 a4 a5 M
def g_lp7 {A0 A1 A2 A3 A4 A5 A6 : Type} {R : Type} (F : (A0 → A1 → A2 → A3 → A4 → A5 → A6 → g_M → Option R) → A0 → A1 → A2 → A3 → A4 → A5 → A6 → g_M → Option R) : Nat → A0 → A1 → A2 → A3 → A4 → A5 → A6 → g_M → Option R
  | 0, _, _, _, _, _, _, _, _ => none
  | n + 1, a0, a1, a2, a3, a4, a5, a6, M => F (g_lp7 F n) a0 a1 a2 a3 a4 a5 a6 M
def g_lp8 {A0 A1 A2 A3 A4 A5 A6 A7 : Type} {R : Type} (F : (A0 → A1 → A2 → A3 → A4 → A5 → A6 → A7 → g_M → Option R) → A0 → A1 → A2 → A3 → A4 → A5 → A6 → A7 → g_M → Option R) : Nat → A0 → A1 → A2 → A3 → A4 → A5 → A6 → A7 → g_M → Option R
  | 0, _, _, _, _, _, _, _, _, _ => none
  | n + 1, a0, a1, a2, a3, a4, a5, a6, a7, M => F (g_lp8 F n) a0 a1 a2 a3 a4 a5 a6 a7 M
def g_lp9 {A0 A1 A2 A3 A4 A5 A6 A7 A8 : Type} {R : Type} (F : (A0 → A1 → A2 → A3 → A4 → A5 → A6 → A7 → A8 → g_M → Option R) → A0 → A1 → A2 → A3 → A4 → A5 → A6 → A7 → A8 → g_M → Option R) : Nat → A0 → A1 → A2 → A3 → A4 → A5 → A6 → A7 → A8 → g_M → Option R
  | 0, _, _, _, _, _, _, _, _, _, _ => none
  | n + 1, a0, a1, a2, a3, a4, a5, a6, a7, a8, M => F (g_lp9 F n) a0 a1 a2 a3 a4 a5 a6 a7 a8 M
def g_lp10 {A0 A1 A2 A3 A4 A5 A6 A7 A8 A9 : Type} {R : Type} (F : (A0 → A1 → A2 → A3 → A4 → A5 → A6 → A7 → A8 → A9 → g_M → Option R) → A0 → A1 → A2 → A3 → A4 → A5 → A6 → A7 → A8 → A9 → g_M → Option R) : Nat → A0 → A1 → A2 → A3 → A4 → A5 → A6 → A7 → A8 → A9 → g_M → Option R
  | 0, _, _, _, _, _, _, _, _, _, _, _ => none
  | n + 1, a0, a1, a2, a3, a4, a5, a6, a7, a8, a9, M => F (g_lp10 F n) a0 a1 a2 a3 a4 a5 a6 a7 a8 a9 M
theorem g_nn {α : Type} {p : α} (h : (none : Option α) = some p) : False := by cases h
theorem g_mem {nL : Nat} {X : g_X} {Y : g_Y} {pc : Nat} {lv : List (Nat × Value)} {st : List Value} {M M' : g_M} (h : some M = some M') (k : g_G nL X Y pc lv st M') : g_G nL X Y pc lv st M := by cases h; exact k
theorem g_toI {x : Int32} {n : Int} {v : Int32} (hv : Int32.ofInt n = v) (e : ¬ x = v) : ¬ x.toInt = n := fun h => e (by rw [← hv, ← h, Int32.ofInt_toInt])
theorem g_hR {h H : Nat} (hh : h < H) : h + 1 ≤ (g_rm H).frames ∧ 64 * h + 64 ≤ (g_rm H).locals := ⟨hh, by show 64 * h + 64 ≤ 64 * H; omega⟩
theorem g_bz_lit {v : Int32} (h : v = 0 ∨ v = 1) : g_bz v = some v := if_pos h
section GROWS2
variable {l : Launch} {R : Room} {own : String} {cc : ByteArray} {nL : Nat} {X : g_X} {Y : g_Y} {pc q tgt : Nat} {lv lv' : List (Nat × Value)} {st : List Value} {M : g_M}
theorem g_cpyi (C : g_C l R own cc nL X Y) {k n k2 n2 idx : Nat} {sp dp m : Int32} {M1 : g_M} (hk : k < 80) (hc : g_cell Y k (M.1 k) (M.2 k) = .inl (Y.2.1 0, n, .inl (M.1 k))) (hk2 : k2 < 80) (hc2 : ∀ a : Nat → Int32, g_cell Y k2 a (M.2 k2) = .inl (Y.2.1 0, n2, .inl a)) (h : g_cpi M k n k2 n2 sp dp m = some M1) (w : Cond.methodLink own idx arraycopyName ∈ g_ws) (hfr : 1 ≤ R.frames) (hlo : 64 ≤ R.locals) (hd : decode cc pc = .ok (.invokestatic idx, 3)) (hq : pc + 3 = q) (kk : g_G nL X Y q lv [] M1) : g_G nL X Y pc lv [.int m, .int dp, g_r Y k2, .int sp, g_r Y k] M := by
  subst hq
  intro H locs ls hP hS hl
  obtain ⟨c1, c2, c3, c4, c5, c6, c7, c8, c9, c10, c11, c12, c13⟩ := id C
  unfold g_cpi at h
  by_cases d : sp < 0 ∨ dp < 0 ∨ m < 0 ∨ n < sp.toNatClampNeg + m.toNatClampNeg ∨ n2 < dp.toNatClampNeg + m.toNatClampNeg
  · rw [if_pos d] at h; cases h
  rw [if_neg d] at h
  cases h
  refine va_copyi c1 c2 (by rw [c3]; exact hl.1.symm) c4 (c5 _ w) (c5 _ kX_nat) (c5 _ kX_stat) (c5 _ kX_ini) c6 hP (g_D M c7 c8) hS k k2 0 0 (by rw [g_w_at hk, hc]) (by rw [g_w_at hk2, hc2]) rfl rfl rfl (fun z => d (Or.inl z)) (fun z => d (Or.inr (Or.inl z))) (fun z => d (Or.inr (Or.inr (Or.inl z)))) (Nat.not_lt.mp (fun z => d (Or.inr (Or.inr (Or.inr (Or.inl z)))))) (Nat.not_lt.mp (fun z => d (Or.inr (Or.inr (Or.inr (Or.inr z)))))) (fun _ _ => rfl) (by rw [c11]; exact hfr) (by rw [c11]; exact Nat.le_trans (by decide +kernel) hlo) hd (fun H1 locs1 hP1 _ hS1 => ?_)
  rw [g_set_R hk2 (hc2 _)] at hP1
  exact kk H1 locs1 ls hP1 hS1 hl
theorem g_cpyl (C : g_C l R own cc nL X Y) {k n k2 n2 idx : Nat} {sp dp m : Int32} {M1 : g_M} (hk : k < 80) (hc : g_cell Y k (M.1 k) (M.2 k) = .inl (Y.2.1 1, n, .inr (.inl (M.2 k)))) (hk2 : k2 < 80) (hc2 : ∀ b : Nat → Int64, g_cell Y k2 (M.1 k2) b = .inl (Y.2.1 1, n2, .inr (.inl b))) (h : g_cpl M k n k2 n2 sp dp m = some M1) (w : Cond.methodLink own idx arraycopyName ∈ g_ws) (hfr : 1 ≤ R.frames) (hlo : 64 ≤ R.locals) (hd : decode cc pc = .ok (.invokestatic idx, 3)) (hq : pc + 3 = q) (kk : g_G nL X Y q lv [] M1) : g_G nL X Y pc lv [.int m, .int dp, g_r Y k2, .int sp, g_r Y k] M := by
  subst hq
  intro H locs ls hP hS hl
  obtain ⟨c1, c2, c3, c4, c5, c6, c7, c8, c9, c10, c11, c12, c13⟩ := id C
  unfold g_cpl at h
  by_cases d : sp < 0 ∨ dp < 0 ∨ m < 0 ∨ n < sp.toNatClampNeg + m.toNatClampNeg ∨ n2 < dp.toNatClampNeg + m.toNatClampNeg
  · rw [if_pos d] at h; cases h
  rw [if_neg d] at h
  cases h
  refine va_copyl c1 c2 (by rw [c3]; exact hl.1.symm) c4 (c5 _ w) (c5 _ kX_nat) (c5 _ kX_stat) (c5 _ kX_ini) c6 hP (g_D M c7 c8) hS k k2 1 1 (by rw [g_w_at hk, hc]) (by rw [g_w_at hk2, hc2]) rfl rfl rfl (fun z => d (Or.inl z)) (fun z => d (Or.inr (Or.inl z))) (fun z => d (Or.inr (Or.inr (Or.inl z)))) (Nat.not_lt.mp (fun z => d (Or.inr (Or.inr (Or.inr (Or.inl z)))))) (Nat.not_lt.mp (fun z => d (Or.inr (Or.inr (Or.inr (Or.inr z)))))) (fun _ _ => rfl) (by rw [c11]; exact hfr) (by rw [c11]; exact Nat.le_trans (by decide +kernel) hlo) hd (fun H1 locs1 hP1 _ hS1 => ?_)
  rw [g_set_Rl hk2 (hc2 _)] at hP1
  exact kk H1 locs1 ls hP1 hS1 hl
/-! texts -/
theorem g_nret (C : g_C l R own cc nL X Y) {v : Int32} {ty : FieldType} (hn : narrow ty (.int v) = .int v) (E : g_E (some ty) X Y (some (.int v)) M) (hd : decode cc pc = .ok (.ireturn, 1)) : g_G nL X Y pc lv [.int v] M := by
  intro H locs ls hP hS hl
  obtain ⟨e1, e2, e3, e4⟩ := E
  rw [e1]
  rw [e4] at hS
  exact W.zret C.1 C.2.1 e2 hn (fun t ht hW => ⟨rfl, by rw [ht]; exact hP, hS.F ht⟩) hS.2.2 hd e3
theorem g_sgetV (C : g_C l R own cc nL X Y) {index j : Nat} (hj : j < 11) (w : Cond.fieldLink own index "java/lang/String" "value" "[B" ∈ g_ws) (hd : decode cc pc = .ok (.getfield index, 3)) (hq : pc + 3 = q) (kk : g_G nL X Y q lv (.ref (Y.2.2.2.2 j) :: st) M) : g_G nL X Y pc lv (.ref (Y.2.2.2.1 j) :: st) M := by
  subst hq
  intro H locs ls hP hS hl
  exact vk_getf C.1 C.2.1 (C.2.2.2.2.2.2.2.2.1.2.1.1 j hj).2.2.1 hS C.2.2.2.1 (C.2.2.2.2.1 _ w) (fun _ h => h) hd (kk H locs ls hP hS hl)
theorem g_sgetC (C : g_C l R own cc nL X Y) {index j : Nat} (hj : j < 11) (w : Cond.fieldLink own index "java/lang/String" "coder" "B" ∈ g_ws) (hd : decode cc pc = .ok (.getfield index, 3)) (hq : pc + 3 = q) (kk : g_G nL X Y q lv (.int 0 :: st) M) : g_G nL X Y pc lv (.ref (Y.2.2.2.1 j) :: st) M := by
  subst hq
  intro H locs ls hP hS hl
  exact vk_getf C.1 C.2.1 (C.2.2.2.2.2.2.2.2.1.2.1.1 j hj).2.1 hS C.2.2.2.1 (C.2.2.2.2.1 _ w) (fun _ h => h) hd (kk H locs ls hP hS hl)
theorem g_salen (C : g_C l R own cc nL X Y) {j : Nat} {v : Int32} (hj : j < 11) (hv : Int32.ofNat (g_slen.getD j 0) = v) (hd : decode cc pc = .ok (.arraylength, 1)) (hq : pc + 1 = q) (kk : g_G nL X Y q lv (.int v :: st) M) : g_G nL X Y pc lv (.ref (Y.2.2.2.2 j) :: st) M := by
  subst hq
  intro H locs ls hP hS hl
  exact va_tlen C.1 C.2.1 (C.2.2.2.2.2.2.2.2.1.2.1.1 j hj).2.2.2 hS hv hd (kk H locs ls hP hS hl)
theorem g_sbald (C : g_C l R own cc nL X Y) {j : Nat} {i : Int32} (hj : j < 11) (hin : vp_in i (g_slen.getD j 0)) (hd : decode cc pc = .ok (.baload, 1)) (hq : pc + 1 = q) (kk : g_G nL X Y q lv (.int ((g_sbyt.getD j []).getD i.toNatClampNeg 0) :: st) M) : g_G nL X Y pc lv (.int i :: .ref (Y.2.2.2.2 j) :: st) M := by
  subst hq
  intro H locs ls hP hS hl
  exact va_tb C.1 C.2.1 (C.2.2.2.2.2.2.2.2.1.2.1.1 j hj).2.2.2 hS hin rfl hd (kk H locs ls hP hS hl)
theorem g_gstC (C : g_C l R own cc nL X Y) {index : Nat} (w : Cond.fieldLink own index "java/lang/String" "COMPACT_STRINGS" "Z" ∈ g_ws) (hd : decode cc pc = .ok (.getstatic index, 3)) (hq : pc + 3 = q) (kk : g_G nL X Y q lv (.int 1 :: st) M) : g_G nL X Y pc lv st M := by
  subst hq
  intro H locs ls hP hS hl
  exact va_gets C.1 C.2.1 C.2.2.2.2.2.2.2.2.1.2.2.1 hS C.2.2.2.1 (C.2.2.2.2.1 _ w) (fun _ h => h) hd (kk H locs ls hP hS hl)
theorem g_gstF (C : g_C l R own cc nL X Y) {index : Nat} (w : Cond.fieldLink own index "jdk/internal/util/Preconditions" "SIOOBE_FORMATTER" "Ljava/util/function/BiFunction;" ∈ g_ws) (hd : decode cc pc = .ok (.getstatic index, 3)) (hq : pc + 3 = q) (k0 : g_G nL X Y q lv (.null :: st) M) (k1 : ∀ t : Nat, g_G nL X Y q lv (.ref t :: st) M) : g_G nL X Y pc lv st M := by
  subst hq
  intro H locs ls hP hS hl
  rcases C.2.2.2.2.2.2.2.2.1.2.2.2 with h | ⟨t, h⟩
  · exact va_gets C.1 C.2.1 h hS C.2.2.2.1 (C.2.2.2.2.1 _ w) (fun _ h => h) hd (k0 H locs ls hP hS hl)
  · exact va_gets C.1 C.2.1 h hS C.2.2.2.1 (C.2.2.2.2.1 _ w) (fun _ h => h) hd (k1 t H locs ls hP hS hl)
theorem g_i2c (C : g_C l R own cc nL X Y) {x v : Int32} (hd : decode cc pc = .ok (.i2c, 1)) (hq : pc + 1 = q) (hv : (x.toUInt32 % 65536).toInt32 = v) (kk : g_G nL X Y q lv (.int v :: st) M) : g_G nL X Y pc lv (.int x :: st) M := by
  subst hq
  intro H locs ls hP hS hl
  exact lv_i2c C.1 C.2.1 hd hv (kk H locs ls hP hS hl)
theorem g_callT (C : g_C l R own cc nL X Y) {h j idx nL2 : Nat} {y : MethodName} {cc2 : ByteArray} {ret2 : Option FieldType} {as : List Value} {st0 : List Value} {r : Option Value} {M2 : g_M} (hm : g_R l Y h y cc2 nL2 ret2 (.ref (Y.2.2.2.1 j) :: as) M r M2) (hR : h + 1 ≤ R.frames ∧ 64 * h + 64 ≤ R.locals) (hn : nL2 ≤ 45) (hj : j < 11)
    (w1 : Cond.methodLink own idx y ∈ g_ws) (w2 : Cond.instanceMethod y ∈ g_ws) (w3 : Cond.selects RJ0 y y ∈ g_ws) (w4 : Cond.initialized y.cls ∈ g_ws) (w5 : Cond.code y cc2 nL2 ret2 ∈ g_ws) (hD : y.cls ≠ "java/lang/invoke/MethodHandle" ∧ y.cls ≠ "java/lang/invoke/VarHandle" ∧ (parseMethodDescriptor y.desc).map (fun d => d.parameters.length) = some as.length) (hst : st0 = as.reverse ++ .ref (Y.2.2.2.1 j) :: st) (hsum : (st.map fun v => v.category).sum ≤ 8) (hd : decode cc pc = .ok (.invokevirtual idx, 3)) (hq : pc + 3 = q) (kk : g_G nL X Y q lv (r.toList ++ st) M2) : g_G nL X Y pc lv st0 M := by
  subst hq
  intro H locs ls hP hS hl
  obtain ⟨c1, c2, c3, c4, c5, c6, c7, c8, c9, c10, c11, c12, c13⟩ := id C
  have hm : Met X.l y (Cond.code y cc2 nL2 ret2 :: g_ws) (g_rm h) (g_Pc Y (.ref (Y.2.2.2.1 j) :: as) M) (g_Qc Y r M2) 0 0 (g_A Y) := by rw [c10]; exact hm
  refine g_behind C hS (va_runV (S := ⟨c1, c2, c3, c4, c5⟩) (Ts := g_ws) (C := RJ0) (b := Y.2.2.2.1 j) (As := as) hm
    ⟨callB_of as.length c5 (g_good2 w5) rfl rfl rfl (c5 _ w4) (c5 _ w1) hD ⟨by rw [c11]; exact hR.1, by rw [c11]; show 8 + (nL2 + 11) + 64 * h ≤ R.locals; omega⟩, c5 _ w2, c5 _ w3⟩
    ⟨g_blind, vk_recv c9.2.1 hj hS, g_pre C hP hS⟩ rfl rfl hl.1 hst (lv_room hsum) hd ⟨by rw [c11]; exact c12, by rw [c11]; exact c13⟩) (fun H1 locs1 hP1 hS1 => kk H1 locs1 ls hP1 hS1 hl)
theorem g_putz (C : g_C l R own cc nL X Y) {k ci i index N : Nat} {Cn : String} {T : u_T} {ty0 : Nat → FieldType} {fs : List Value} {v z : Int32} (hz : g_bz v = some z) (hk : k < 80) (hc : g_cell Y k (M.1 k) (M.2 k) = .inr (ci, fs)) (hp : g_cell Y k (upd (M.1 k) i v) (M.2 k) = .inr (ci, fs.set i (.int v))) (hcl : vwCl[ci]? = some (Cn, T, N)) (hin : ∀ w ∈ u_ws Cn T N, w ∈ g_ws) (hty : ∀ k, k < N → parseFieldDescriptor (T k).2.2.1 = some (ty0 k)) (hnm : ∀ a, a < N → ∀ b, b < N → a ≠ b → (T a).2.1 ≠ (T b).2.1) (hi : i < N) (hw : Cond.fieldLink own index (T i).1 (T i).2.1 (T i).2.2.1 ∈ g_ws) (hf : (T i).2.2.2 = false) (ht : ty0 i = .boolean) (hlen : i < fs.length) (hd : decode cc pc = .ok (.putfield index, 3)) (hq : pc + 3 = q) (kk : g_G nL X Y q lv st (g_u M k i z)) : g_G nL X Y pc lv (.int v :: g_r Y k :: st) M := by
  obtain ⟨rfl, h⟩ := g_bz_s hz
  exact g_put C hk hc hp hcl hin hty hnm hi hw hf ht (g_zn h).1 (g_zn h).2.1 hlen hd hq kk
theorem g_mmin (C : g_C l R own cc nL X Y) {index : Nat} {x y : Int32} (w : Cond.methodLink own index yJ9_min_7cf53 ∈ g_ws) (hfr : 1 ≤ R.frames) (hlo : 64 ≤ R.locals) (hsum : (st.map fun v => v.category).sum ≤ 8) (hd : decode cc pc = .ok (.invokestatic index, 3)) (hq : pc + 3 = q) (kk : g_G nL X Y q lv (.int (if y < x then y else x) :: st) M) : g_G nL X Y pc lv (.int y :: .int x :: st) M := by
  subst hq
  intro H locs ls hP hS hl
  obtain ⟨c1, c2, c3, c4, c5, c6, c7, c8, c9, c10, c11, c12, c13⟩ := id C
  exact va_mmin c1 c2 (by rw [c3]; exact hl.1.symm) c4 (c5 _ w) (c5 _ kT_J9_min_7cf53) (c5 _ kN_J9) (c5 _ kC_J9_min_7cf53) (by rw [c11]; exact hfr) (by rw [c11]; omega) (by rw [c11]; exact c12) (by rw [c11]; exact c13) hd (kk H locs ls hP hS hl)
end GROWS2
def f_J0_length_8abf5 (j : Nat) (_ : g_M) : Option Int32 := some (nI (g_slen.getD j 0))
def f_J0_charAt_5068e (j : Nat) (i : Int32) (_ : g_M) : Option Int32 := if i < 0 ∨ g_slen.getD j 0 ≤ i.toNatClampNeg then none else some ((g_sbyt.getD j []).getD i.toNatClampNeg 0)
theorem m_J0_coder {l : Launch} {Y : g_Y} {j : Nat} (hj : j < 11) {M : g_M} : g_R l Y 0 yJ0_coder_7d493 cJ0_coder_7d493 1 (some .byte) [.ref (Y.2.2.2.1 j)] M (some (.int 0)) M := by
  refine g_R_of kP_J0 rfl (Nat.le_of_ble_eq_true rfl) (fun X C E => ?_)
  show g_G 1 X Y 0 [(0, .ref (Y.2.2.2.1 j))] [] M
  refine g_gstC C kF_J0_38 dJ0_coder_7d493_0 (q := 3) rfl ?_
  refine g_if_eq C dJ0_coder_7d493_3 (q := 6) (tgt := 13) rfl (by decide) (fun c => absurd c (by decide)) (fun c => ?_)
  refine g_aload_n C 0 dJ0_coder_7d493_6 (q := 7) rfl rfl rfl ?_
  refine g_sgetC C hj kF_J0_15 dJ0_coder_7d493_7 (q := 10) rfl ?_
  refine g_goto C dJ0_coder_7d493_10 (tgt := 14) (by decide) ?_
  exact g_nret C rfl E dJ0_coder_7d493_14
theorem m_J0_isLatin1 {l : Launch} {Y : g_Y} {j : Nat} (hj : j < 11) {M : g_M} : g_R l Y 0 yJ0_isLatin1_aae02 cJ0_isLatin1_aae02 1 (some .boolean) [.ref (Y.2.2.2.1 j)] M (some (.int 1)) M := by
  refine g_R_of kP_J0 rfl (Nat.le_of_ble_eq_true rfl) (fun X C E => ?_)
  show g_G 1 X Y 0 [(0, .ref (Y.2.2.2.1 j))] [] M
  refine g_gstC C kF_J0_38 dJ0_isLatin1_aae02_0 (q := 3) rfl ?_
  refine g_if_eq C dJ0_isLatin1_aae02_3 (q := 6) (tgt := 17) rfl (by decide) (fun c => absurd c (by decide)) (fun c => ?_)
  refine g_aload_n C 0 dJ0_isLatin1_aae02_6 (q := 7) rfl rfl rfl ?_
  refine g_sgetC C hj kF_J0_15 dJ0_isLatin1_aae02_7 (q := 10) rfl ?_
  refine g_if_ne C dJ0_isLatin1_aae02_10 (q := 13) (tgt := 17) rfl (by decide) (fun c => absurd rfl c) (fun c => ?_)
  refine g_iconst C (v := 1) dJ0_isLatin1_aae02_13 (q := 14) rfl (by decide) ?_
  refine g_goto C dJ0_isLatin1_aae02_14 (tgt := 18) (by decide) ?_
  exact g_nret C rfl E dJ0_isLatin1_aae02_18
theorem m_J0_length_8abf5 {l : Launch} {Y : g_Y} {j : Nat} (hj : j < 11) {M : g_M} {p : Int32} (h : f_J0_length_8abf5 j M = some p) : g_R l Y 2 yJ0_length_8abf5 cJ0_length_8abf5 1 (some .int) [.ref (Y.2.2.2.1 j)] M (some (.int p)) M := by
  cases h
  refine g_R_of kP_J0 rfl (Nat.le_of_ble_eq_true rfl) (fun X C E => ?_)
  show g_G 1 X Y 0 [(0, .ref (Y.2.2.2.1 j))] [] M
  refine g_aload_n C 0 dJ0_length_8abf5_0 (q := 1) rfl rfl rfl ?_
  refine g_sgetV C hj kF_J0_9 dJ0_length_8abf5_1 (q := 4) rfl ?_
  refine g_salen C hj rfl dJ0_length_8abf5_4 (q := 5) rfl ?_
  refine g_aload_n C 0 dJ0_length_8abf5_5 (q := 6) rfl rfl rfl ?_
  refine g_callT C (j := j) (as := []) (st := [.int (Int32.ofNat (g_slen.getD j 0))]) (m_J0_coder hj) (g_hR (by decide)) (by decide) hj kM_J0_335 kI_J0_coder_7d493 kS_J0_coder_7d493 kN_J0 kC_J0_coder_7d493 kD_J0_coder_7d493 rfl (by simp [Value.category]) dJ0_length_8abf5_6 (q := 9) rfl ?_
  show g_G 1 X Y 9 [(0, .ref (Y.2.2.2.1 j))] [.int 0, .int (Int32.ofNat (g_slen.getD j 0))] M
  refine g_ishr C dJ0_length_8abf5_9 (q := 10) rfl ?_
  rw [sb_shr0]
  exact g_iret C E dJ0_length_8abf5_10
theorem m_J3_checkIndex {l : Launch} {Y : g_Y} {i n : Int32} {v : Value} (h0 : ¬ i < 0) (h1 : i < n) (hv : v = .null ∨ ∃ t, v = .ref t) {M : g_M} : g_R l Y 0 yJ3_checkIndex_8e157 cJ3_checkIndex_8e157 3 (some .int) [.int i, .int n, v] M (some (.int i)) M := by
  refine g_R_of kP_J3 rfl (by rcases hv with rfl | ⟨t, rfl⟩ <;> exact Nat.le_of_ble_eq_true rfl) (fun X C E => ?_)
  have hl : lv_args 0 [.int i, .int n, v] = [(0, .int i), (1, .int n), (2, v)] := rfl
  rw [hl]
  refine g_iload_n C 0 dJ3_checkIndex_8e157_0 (q := 1) rfl rfl rfl ?_
  refine g_if_lt C dJ3_checkIndex_8e157_1 (q := 4) (tgt := 9) rfl (by decide) (fun c => absurd c h0) (fun c => ?_)
  refine g_iload_n C 0 dJ3_checkIndex_8e157_4 (q := 5) rfl rfl rfl ?_
  refine g_iload_n C 1 dJ3_checkIndex_8e157_5 (q := 6) rfl rfl rfl ?_
  refine g_icmp_lt C dJ3_checkIndex_8e157_6 (q := 9) (tgt := 16) rfl (by decide) (fun c => ?_) (fun c => absurd h1 c)
  refine g_iload_n C 0 dJ3_checkIndex_8e157_16 (q := 17) rfl rfl rfl ?_
  exact g_iret C E dJ3_checkIndex_8e157_17
theorem m_J0_checkIndex {l : Launch} {Y : g_Y} {i n : Int32} (h0 : ¬ i < 0) (h1 : i < n) {M : g_M} : g_R l Y 1 yJ0_checkIndex_df160 cJ0_checkIndex_df160 2 none [.int i, .int n] M none M := by
  refine g_R_of kP_J0 rfl (Nat.le_of_ble_eq_true rfl) (fun X C E => ?_)
  show g_G 2 X Y 0 [(0, .int i), (1, .int n)] [] M
  refine g_iload_n C 0 dJ0_checkIndex_df160_0 (q := 1) rfl rfl rfl ?_
  refine g_iload_n C 1 dJ0_checkIndex_df160_1 (q := 2) rfl rfl rfl ?_
  refine g_gstF C kF_J0_1053 dJ0_checkIndex_df160_2 (q := 5) rfl ?_ (fun t => ?_)
  · refine g_callS C (as := [.int i, .int n, .null]) (st := []) (m_J3_checkIndex h0 h1 (Or.inl rfl)) (g_hR (by decide)) (by decide) kM_J0_1059 kT_J3_checkIndex_8e157 kN_J3 kC_J3_checkIndex_8e157 kD_J3_checkIndex_8e157 rfl (by decide) dJ0_checkIndex_df160_5 (q := 8) rfl ?_
    show g_G 2 X Y 8 [(0, .int i), (1, .int n)] [.int i] M
    refine g_pop C dJ0_checkIndex_df160_8 (q := 9) rfl rfl ?_
    exact g_vret C E dJ0_checkIndex_df160_9
  · refine g_callS C (as := [.int i, .int n, .ref t]) (st := []) (m_J3_checkIndex h0 h1 (Or.inr ⟨t, rfl⟩)) (g_hR (by decide)) (by decide) kM_J0_1059 kT_J3_checkIndex_8e157 kN_J3 kC_J3_checkIndex_8e157 kD_J3_checkIndex_8e157 rfl (by decide) dJ0_checkIndex_df160_5 (q := 8) rfl ?_
    show g_G 2 X Y 8 [(0, .int i), (1, .int n)] [.int i] M
    refine g_pop C dJ0_checkIndex_df160_8 (q := 9) rfl rfl ?_
    exact g_vret C E dJ0_checkIndex_df160_9
theorem g_sch_ok : ∀ j, j < 11 → ∀ k, k < g_slen.getD j 0 → (((((g_sbyt.getD j []).getD k 0) &&& 255).toUInt32 % 65536).toInt32 = (g_sbyt.getD j []).getD k 0 ∧ narrow .char (.int ((g_sbyt.getD j []).getD k 0)) = .int ((g_sbyt.getD j []).getD k 0)) := by decide +kernel
theorem g_slen_b : ∀ j, j < 11 → g_slen.getD j 0 ≤ 8 := by decide +kernel
theorem m_J1_charAt {l : Launch} {Y : g_Y} {j : Nat} (hj : j < 11) {i : Int32} (hi : vp_in i (g_slen.getD j 0)) {M : g_M} : g_R l Y 2 yJ1_charAt_3b067 cJ1_charAt_3b067 2 (some .char) [.ref (Y.2.2.2.2 j), .int i] M (some (.int ((g_sbyt.getD j []).getD i.toNatClampNeg 0))) M := by
  have hb := g_slen_b j hj
  obtain ⟨k, hk, rfl⟩ := vp_in_of hi (by omega)
  have hcl : (nI k).toNatClampNeg = k := nI_clamp (by omega)
  have hs := g_sch_ok j hj k hk
  refine g_R_of kP_J1 rfl (Nat.le_of_ble_eq_true rfl) (fun X C E => ?_)
  show g_G 2 X Y 0 [(0, .ref (Y.2.2.2.2 j)), (1, .int (nI k))] [] M
  refine g_iload_n C 1 dJ1_charAt_3b067_0 (q := 1) rfl rfl rfl ?_
  refine g_aload_n C 0 dJ1_charAt_3b067_1 (q := 2) rfl rfl rfl ?_
  refine g_salen C hj (v := nI (g_slen.getD j 0)) rfl dJ1_charAt_3b067_2 (q := 3) rfl ?_
  refine g_callS C (as := [.int (nI k), .int (nI (g_slen.getD j 0))]) (st := []) (m_J0_checkIndex (nI_pos (by omega)) (nI_lt hk (by omega))) (g_hR (by decide)) (by decide) kM_J1_9 kT_J0_checkIndex_df160 kN_J0 kC_J0_checkIndex_df160 kD_J0_checkIndex_df160 rfl (by decide) dJ1_charAt_3b067_3 (q := 6) rfl ?_
  show g_G 2 X Y 6 [(0, .ref (Y.2.2.2.2 j)), (1, .int (nI k))] [] M
  refine g_aload_n C 0 dJ1_charAt_3b067_6 (q := 7) rfl rfl rfl ?_
  refine g_iload_n C 1 dJ1_charAt_3b067_7 (q := 8) rfl rfl rfl ?_
  refine g_sbald C hj hi dJ1_charAt_3b067_8 (q := 9) rfl ?_
  refine g_sipush C (v := 255) dJ1_charAt_3b067_9 (q := 12) rfl (by decide) ?_
  refine g_iand C dJ1_charAt_3b067_12 (q := 13) rfl ?_
  refine g_i2c C (v := (g_sbyt.getD j []).getD (nI k).toNatClampNeg 0) dJ1_charAt_3b067_13 (q := 14) rfl (by rw [hcl]; exact hs.1) ?_
  exact g_nret C (by rw [hcl]; exact hs.2) E dJ1_charAt_3b067_14
theorem m_J0_charAt_5068e {l : Launch} {Y : g_Y} {j : Nat} (hj : j < 11) {i : Int32} {M : g_M} {p : Int32} (h : f_J0_charAt_5068e j i M = some p) : g_R l Y 4 yJ0_charAt_5068e cJ0_charAt_5068e 2 (some .char) [.ref (Y.2.2.2.1 j), .int i] M (some (.int p)) M := by
  unfold f_J0_charAt_5068e at h
  by_cases d : i < 0 ∨ g_slen.getD j 0 ≤ i.toNatClampNeg
  · rw [if_pos d] at h; cases h
  rw [if_neg d] at h
  cases h
  have hi : vp_in i (g_slen.getD j 0) := d
  have hb := g_slen_b j hj
  obtain ⟨k, hk, rfl⟩ := vp_in_of hi (by omega)
  have hcl : (nI k).toNatClampNeg = k := nI_clamp (by omega)
  have hs := g_sch_ok j hj k hk
  refine g_R_of kP_J0 rfl (Nat.le_of_ble_eq_true rfl) (fun X C E => ?_)
  show g_G 2 X Y 0 [(0, .ref (Y.2.2.2.1 j)), (1, .int (nI k))] [] M
  refine g_aload_n C 0 dJ0_charAt_5068e_0 (q := 1) rfl rfl rfl ?_
  refine g_callT C (j := j) (as := []) (st := []) (m_J0_isLatin1 hj) (g_hR (by decide)) (by decide) hj kM_J0_492 kI_J0_isLatin1_aae02 kS_J0_isLatin1_aae02 kN_J0 kC_J0_isLatin1_aae02 kD_J0_isLatin1_aae02 rfl (by decide) dJ0_charAt_5068e_1 (q := 4) rfl ?_
  show g_G 2 X Y 4 [(0, .ref (Y.2.2.2.1 j)), (1, .int (nI k))] [.int 1] M
  refine g_if_eq C dJ0_charAt_5068e_4 (q := 7) (tgt := 16) rfl (by decide) (fun c => absurd c (by decide)) (fun c => ?_)
  refine g_aload_n C 0 dJ0_charAt_5068e_7 (q := 8) rfl rfl rfl ?_
  refine g_sgetV C hj kF_J0_9 dJ0_charAt_5068e_8 (q := 11) rfl ?_
  refine g_iload_n C 1 dJ0_charAt_5068e_11 (q := 12) rfl rfl rfl ?_
  refine g_callS C (as := [.ref (Y.2.2.2.2 j), .int (nI k)]) (st := []) (m_J1_charAt hj hi) (g_hR (by decide)) (by decide) kM_J0_495 kT_J1_charAt_3b067 kN_J1 kC_J1_charAt_3b067 kD_J1_charAt_3b067 rfl (by decide) dJ0_charAt_5068e_12 (q := 15) rfl ?_
  show g_G 2 X Y 15 [(0, .ref (Y.2.2.2.1 j)), (1, .int (nI k))] [.int ((g_sbyt.getD j []).getD (nI k).toNatClampNeg 0)] M
  exact g_nret C (by rw [hcl]; exact hs.2) E dJ0_charAt_5068e_15
/-! frames: which cells, and which fields of objects, may change -/
def g_fr (S : List Nat) (T : List (Nat × Nat)) (M M' : g_M) : Prop := ∀ k i : Nat, k ∉ S → (k, i) ∉ T → M'.1 k i = M.1 k i ∧ M'.2 k i = M.2 k i
theorem g_fr.rfl {S : List Nat} {T : List (Nat × Nat)} {M : g_M} : g_fr S T M M := fun _ _ _ _ => ⟨Eq.refl _, Eq.refl _⟩
theorem g_fr.trans {S : List Nat} {T : List (Nat × Nat)} {M M1 M2 : g_M} (h : g_fr S T M M1) (h2 : g_fr S T M1 M2) : g_fr S T M M2 := fun k i a b => ⟨(h2 k i a b).1.trans (h k i a b).1, (h2 k i a b).2.trans (h k i a b).2⟩
theorem g_fr.mono {S S' : List Nat} {T T' : List (Nat × Nat)} {M M1 : g_M} (h : g_fr S T M M1) (hS : ∀ k ∈ S, k ∈ S') (hT : ∀ k ∈ T, k ∈ T') : g_fr S' T' M M1 := fun k i a b => h k i (fun z => a (hS k z)) (fun z => b (hT _ z))
theorem g_u_at {M : g_M} {c i : Nat} {v : Int32} (k j : Nat) : (g_u M c i v).1 k j = if k = c ∧ j = i then v else M.1 k j := by
  show va_up M.1 c (upd (M.1 c) i v) k j = _
  unfold va_up upd
  by_cases h : k = c
  · subst h
    by_cases h2 : j = i <;> simp [h2]
  · simp [h]
theorem g_ul_at {M : g_M} {c i : Nat} {v : Int64} (k j : Nat) : (g_ul M c i v).2 k j = if k = c ∧ j = i then v else M.2 k j := by
  show va_up M.2 c (vp_updL (M.2 c) i v) k j = _
  unfold va_up vp_updL
  by_cases h : k = c
  · subst h
    by_cases h2 : j = i <;> simp [h2]
  · simp [h]
theorem g_fr.pu {S : List Nat} {T : List (Nat × Nat)} {M0 M M1 : g_M} {c i : Nat} {v : Int32} (h : g_fr S T M0 M) (e : some (g_u M c i v) = some M1) (hT : (c, i) ∈ T) : g_fr S T M0 M1 := by
  obtain rfl := Option.some.inj e
  refine h.trans (fun k j _ b => ⟨?_, Eq.refl _⟩)
  rw [g_u_at, if_neg]
  rintro ⟨rfl, rfl⟩
  exact b hT
theorem g_fr.st {S : List Nat} {T : List (Nat × Nat)} {M0 M M1 : g_M} {c n : Nat} {i v : Int32} (h : g_fr S T M0 M) (e : g_st M c n i v = some M1) (hS : c ∈ S) : g_fr S T M0 M1 := by
  obtain ⟨-, rfl⟩ := g_st_s e
  refine h.trans (fun k j a _ => ⟨?_, Eq.refl _⟩)
  rw [g_u_at, if_neg]
  rintro ⟨rfl, -⟩
  exact a hS
theorem g_fr.stl {S : List Nat} {T : List (Nat × Nat)} {M0 M M1 : g_M} {c n : Nat} {i : Int32} {v : Int64} (h : g_fr S T M0 M) (e : g_stl M c n i v = some M1) (hS : c ∈ S) : g_fr S T M0 M1 := by
  obtain ⟨-, rfl⟩ := g_stl_s e
  refine h.trans (fun k j a _ => ⟨Eq.refl _, ?_⟩)
  rw [g_ul_at, if_neg]
  rintro ⟨rfl, -⟩
  exact a hS
theorem g_fr.cpi {S : List Nat} {T : List (Nat × Nat)} {M0 M M1 : g_M} {c n c' n' : Nat} {sp dp m : Int32} (h : g_fr S T M0 M) (e : g_cpi M c n c' n' sp dp m = some M1) (hS : c' ∈ S) : g_fr S T M0 M1 := by
  unfold g_cpi at e
  split at e
  · cases e
  obtain rfl := Option.some.inj e
  refine h.trans (fun k j a _ => ⟨?_, Eq.refl _⟩)
  show va_up M.1 c' _ k j = _
  unfold va_up
  rw [if_neg]
  rintro rfl
  exact a hS
theorem g_fr.cpl {S : List Nat} {T : List (Nat × Nat)} {M0 M M1 : g_M} {c n c' n' : Nat} {sp dp m : Int32} (h : g_fr S T M0 M) (e : g_cpl M c n c' n' sp dp m = some M1) (hS : c' ∈ S) : g_fr S T M0 M1 := by
  unfold g_cpl at e
  split at e
  · cases e
  obtain rfl := Option.some.inj e
  refine h.trans (fun k j a _ => ⟨Eq.refl _, ?_⟩)
  show va_up M.2 c' _ k j = _
  unfold va_up
  rw [if_neg]
  rintro rfl
  exact a hS
theorem g_ifs {α : Type} {c : Prop} [Decidable c] {a b : Option α} {r : α} (h : (if c then a else b) = some r) : a = some r ∨ b = some r := by
  by_cases d : c
  · rw [if_pos d] at h; exact Or.inl h
  · rw [if_neg d] at h; exact Or.inr h
