/-! ===== how many bits ===== -/
theorem and_split (z p m s : Nat) (hp : p < 2 ^ s) : z &&& (p + 2 ^ s * m) = ((z % 2 ^ s) &&& p) + 2 ^ s * ((z / 2 ^ s) &&& m) := by
  have h := Nat.div_add_mod (z &&& (p + 2 ^ s * m)) (2 ^ s)
  rw [Nat.and_div_two_pow, Nat.and_mod_two_pow] at h
  rw [Nat.add_mul_div_left _ _ (Nat.two_pow_pos s), Nat.div_eq_of_lt hp, Nat.zero_add, Nat.add_mul_mod_self_left, Nat.mod_eq_of_lt hp] at h
  omega
def pt (x : Nat) : Nat → Nat
  | 0 => 0
  | i + 1 => pt x i + (if x.testBit i = true then 1 else 0)
theorem pt_split (x j : Nat) : ∀ k, pt x (j + k) = pt x j + pt (x / 2 ^ j) k
  | 0 => rfl
  | k + 1 => by
    show pt x (j + k) + _ = pt x j + (pt (x / 2 ^ j) k + _)
    rw [pt_split x j k, Nat.testBit_div_two_pow, show j.add k = k + j from Nat.add_comm j k]
    omega
theorem pt_low (x j : Nat) : ∀ k, k ≤ j → pt x k = pt (x % 2 ^ j) k
  | 0, _ => rfl
  | k + 1, h => by
    show pt x k + _ = pt (x % 2 ^ j) k + _
    rw [pt_low x j k (by omega), Nat.testBit_mod_two_pow]
    rw [show decide (k < j) = true from decide_eq_true (by omega), Bool.true_and]
theorem pt_byte (a b k : Nat) (ha : a < 256) : pt (a + 256 * b) (8 + k) = pt a 8 + pt b k := by
  rw [pt_split, pt_low _ 8 8 (Nat.le_refl _)]
  have h1 : (a + 256 * b) % 2 ^ 8 = a := by omega
  have h2 : (a + 256 * b) / 2 ^ 8 = b := by omega
  rw [h1, h2]
theorem s_pop_pt {x : Nat} (hx : x < 2 ^ 32) : ∀ k, s_pop (nI x) k = pt x k
  | 0 => rfl
  | k + 1 => by
    show s_pop (nI x) k + _ = pt x k + _
    rw [s_pop_pt hx k, bt_nI hx]
def q1 (a : Nat) : Nat := a / 2 &&& 85
def A1 (a : Nat) : Nat := a - q1 a
def A2 (a : Nat) : Nat := (A1 a &&& 51) + (A1 a / 4 &&& 51)
theorem q1_row : ∀ a, a < 256 → ∀ e, e < 2 → ((a / 2 + 128 * e) &&& 85) = q1 a := by decide +kernel
theorem q1_le : ∀ a, a < 256 → q1 a ≤ a ∧ A1 a < 256 := by decide +kernel
theorem a1_row : ∀ a, a < 256 → ∀ e, e < 4 → ((a / 4 + 64 * e) &&& 51) = (a / 4 &&& 51) := by decide +kernel
theorem a2_row : ∀ a, a < 256 → A2 a ≤ 68 ∧ A2 a % 16 ≤ 4 ∧ A2 a % 16 + A2 a / 16 = pt a 8 ∧ pt a 8 ≤ 8 := by decide +kernel
theorem and15 (z : Nat) : z &&& 15 = z % 16 := Nat.and_two_pow_sub_one_eq_mod z 4
theorem pop_1 {a b c : Nat} (ha : a < 256) (hb : b < 256) (hc : c < 256) : (a + 256 * (b + 256 * c)) / 2 &&& 1431655765 = q1 a + 256 * (q1 b + 256 * q1 c) := by
  rw [show (1431655765 : Nat) = 85 + 2 ^ 8 * (85 + 2 ^ 8 * (85 + 2 ^ 8 * 85)) from rfl, and_split _ _ _ 8 (by omega), and_split _ _ _ 8 (by omega), and_split _ _ _ 8 (by omega)]
  rw [show (a + 256 * (b + 256 * c)) / 2 % 2 ^ 8 = a / 2 + 128 * (b % 2) by omega, show (a + 256 * (b + 256 * c)) / 2 / 2 ^ 8 % 2 ^ 8 = b / 2 + 128 * (c % 2) by omega, show (a + 256 * (b + 256 * c)) / 2 / 2 ^ 8 / 2 ^ 8 % 2 ^ 8 = c / 2 + 128 * 0 by omega, show (a + 256 * (b + 256 * c)) / 2 / 2 ^ 8 / 2 ^ 8 / 2 ^ 8 = 0 by omega]
  rw [q1_row a ha _ (by omega), q1_row b hb _ (by omega), q1_row c hc _ (by omega)]
  simp
theorem pop_2 {a b c : Nat} (ha : a < 256) (hb : b < 256) (hc : c < 256) : (a + 256 * (b + 256 * c)) &&& 858993459 = (a &&& 51) + 256 * ((b &&& 51) + 256 * (c &&& 51)) := by
  rw [show (858993459 : Nat) = 51 + 2 ^ 8 * (51 + 2 ^ 8 * (51 + 2 ^ 8 * 51)) from rfl, and_split _ _ _ 8 (by omega), and_split _ _ _ 8 (by omega), and_split _ _ _ 8 (by omega)]
  rw [show (a + 256 * (b + 256 * c)) % 2 ^ 8 = a by omega, show (a + 256 * (b + 256 * c)) / 2 ^ 8 % 2 ^ 8 = b by omega, show (a + 256 * (b + 256 * c)) / 2 ^ 8 / 2 ^ 8 % 2 ^ 8 = c by omega, show (a + 256 * (b + 256 * c)) / 2 ^ 8 / 2 ^ 8 / 2 ^ 8 = 0 by omega]
  simp
theorem pop_3 {a b c : Nat} (ha : a < 256) (hb : b < 256) (hc : c < 256) : (a + 256 * (b + 256 * c)) / 4 &&& 858993459 = (a / 4 &&& 51) + 256 * ((b / 4 &&& 51) + 256 * (c / 4 &&& 51)) := by
  rw [show (858993459 : Nat) = 51 + 2 ^ 8 * (51 + 2 ^ 8 * (51 + 2 ^ 8 * 51)) from rfl, and_split _ _ _ 8 (by omega), and_split _ _ _ 8 (by omega), and_split _ _ _ 8 (by omega)]
  rw [show (a + 256 * (b + 256 * c)) / 4 % 2 ^ 8 = a / 4 + 64 * (b % 4) by omega, show (a + 256 * (b + 256 * c)) / 4 / 2 ^ 8 % 2 ^ 8 = b / 4 + 64 * (c % 4) by omega, show (a + 256 * (b + 256 * c)) / 4 / 2 ^ 8 / 2 ^ 8 % 2 ^ 8 = c / 4 + 64 * 0 by omega, show (a + 256 * (b + 256 * c)) / 4 / 2 ^ 8 / 2 ^ 8 / 2 ^ 8 = 0 by omega]
  rw [a1_row a ha _ (by omega), a1_row b hb _ (by omega), a1_row c hc _ (by omega)]
  simp
theorem pop_4 {a b c : Nat} (ha : a ≤ 68) (hb : b ≤ 68) (hc : c ≤ 68) (la : a % 16 ≤ 4) (lb : b % 16 ≤ 4) (lc : c % 16 ≤ 4) : (a + 256 * (b + 256 * c)) + (a + 256 * (b + 256 * c)) / 16 &&& 252645135 = (a % 16 + a / 16) + 256 * ((b % 16 + b / 16) + 256 * (c % 16 + c / 16)) := by
  obtain ⟨u, v, hu, hv, rfl⟩ : ∃ u v : Nat, u ≤ 4 ∧ v ≤ 4 ∧ a = u + 16 * v := ⟨a % 16, a / 16, la, by omega, by omega⟩
  obtain ⟨u2, v2, hu2, hv2, rfl⟩ : ∃ u v : Nat, u ≤ 4 ∧ v ≤ 4 ∧ b = u + 16 * v := ⟨b % 16, b / 16, lb, by omega, by omega⟩
  obtain ⟨u3, v3, hu3, hv3, rfl⟩ : ∃ u v : Nat, u ≤ 4 ∧ v ≤ 4 ∧ c = u + 16 * v := ⟨c % 16, c / 16, lc, by omega, by omega⟩
  rw [show (u + 16 * v + 256 * (u2 + 16 * v2 + 256 * (u3 + 16 * v3))) / 16 = v + 16 * (u2 + 16 * v2 + 256 * (u3 + 16 * v3)) by omega]
  generalize hz : u + 16 * v + 256 * (u2 + 16 * v2 + 256 * (u3 + 16 * v3)) + (v + 16 * (u2 + 16 * v2 + 256 * (u3 + 16 * v3))) = z
  rw [show (252645135 : Nat) = 15 + 2 ^ 8 * (15 + 2 ^ 8 * (15 + 2 ^ 8 * 15)) from rfl, and_split _ _ _ 8 (by omega), and_split _ _ _ 8 (by omega), and_split _ _ _ 8 (by omega), and15, and15, and15, and15]
  have e1 : z / 2 ^ 8 = u2 + 16 * v2 + v2 + 16 * (u3 + 16 * v3) + 256 * (u3 + 16 * v3) := by omega
  have e2 : z / 2 ^ 8 / 2 ^ 8 = u3 + 16 * v3 + v3 := by omega
  have e3 : z / 2 ^ 8 / 2 ^ 8 / 2 ^ 8 = 0 := by omega
  have f1 : z % 2 ^ 8 % 16 = u + v := by omega
  have f2 : z / 2 ^ 8 % 2 ^ 8 % 16 = u2 + v2 := by rw [e1]; omega
  have f3 : z / 2 ^ 8 / 2 ^ 8 % 2 ^ 8 % 16 = u3 + v3 := by rw [e2]; omega
  rw [f1, f2, f3, e3]
  omega
theorem bitc {x : Nat} (hx : x < 2 ^ 24) (M : g_M) : f_J6_bitCount_0f7a4 (nI x) M = some (nI (s_pop (nI x) 24)) := by
  obtain ⟨a, b, c, ha, hb, hc, rfl⟩ : ∃ a b c : Nat, a < 256 ∧ b < 256 ∧ c < 256 ∧ x = a + 256 * (b + 256 * c) := ⟨x % 256, x / 256 % 256, x / 65536, by omega, by omega, by omega, by omega⟩
  have qa := q1_le a ha
  have qb := q1_le b hb
  have qc := q1_le c hc
  have ea := a2_row a ha
  have eb := a2_row b hb
  have ec := a2_row c hc
  unfold f_J6_bitCount_0f7a4
  simp only [Option.bind_some]
  rw [pk_ushrN (by omega) 1 1 (by decide +kernel), show (1431655765 : Int32) = nI 1431655765 from rfl, nx_and, Nat.pow_one, pop_1 ha hb hc, pk_sub (by omega)]
  rw [show a + 256 * (b + 256 * c) - (q1 a + 256 * (q1 b + 256 * q1 c)) = A1 a + 256 * (A1 b + 256 * A1 c) by unfold A1; omega]
  rw [pk_ushrN (by omega) 2 2 (by decide +kernel), show (858993459 : Int32) = nI 858993459 from rfl, nx_and, nx_and, nI_add, show (2 : Nat) ^ 2 = 4 from rfl, pop_2 qa.2 qb.2 qc.2, pop_3 qa.2 qb.2 qc.2]
  rw [show (A1 a &&& 51) + 256 * ((A1 b &&& 51) + 256 * (A1 c &&& 51)) + ((A1 a / 4 &&& 51) + 256 * ((A1 b / 4 &&& 51) + 256 * (A1 c / 4 &&& 51))) = A2 a + 256 * (A2 b + 256 * A2 c) by unfold A2; omega]
  rw [pk_ushrN (by omega) 4 4 (by decide +kernel), nI_add, show (252645135 : Int32) = nI 252645135 from rfl, nx_and, show (2 : Nat) ^ 4 = 16 from rfl, pop_4 ea.1 eb.1 ec.1 ea.2.1 eb.2.1 ec.2.1, ea.2.2.1, eb.2.2.1, ec.2.2.1]
  rw [pk_ushrN (by omega) 8 8 (by decide +kernel), nI_add, pk_ushrN (by omega) 16 16 (by decide +kernel), nI_add, pk_andN (by omega) 6 (by decide +kernel)]
  congr 2
  rw [s_pop_pt (by omega), show (24 : Nat) = 8 + (8 + 8) from rfl, pt_byte _ _ _ ha, pt_byte _ _ _ hb]
  have e1 := ea.2.2.2
  have e2 := eb.2.2.2
  have e3 := ec.2.2.2
  generalize pt a 8 = x at *
  generalize pt b 8 = y at *
  generalize pt c 8 = z at *
  have g1 : (x + 256 * (y + 256 * z)) / 2 ^ 8 = y + 256 * z := by omega
  rw [g1]
  have g2 : (x + 256 * (y + 256 * z) + (y + 256 * z)) / 2 ^ 16 = z := by omega
  rw [g2]
  omega
/-! ===== loops without memory: a turn at a time ===== -/
theorem many_go (M : g_M) (x : Int32) : ∀ (k n : Nat) (i : Nat), i + k = 24 → k < n → g_lq3 (F_X12_many_4 M (fun (x1 : Int32) => some x1)) n x (nI (s_pop x i)) (nI i) = some (nI (s_pop x 24))
  | 0, n, i, hi, hn => by
    obtain ⟨n, rfl⟩ : ∃ n', n = n' + 1 := ⟨n - 1, by omega⟩
    unfold g_lq3 F_X12_many_4
    have : i = 24 := by omega
    subst this
    rw [if_pos (by decide)]
  | k + 1, n, i, hi, hn => by
    obtain ⟨n, rfl⟩ : ∃ n', n = n' + 1 := ⟨n - 1, by omega⟩
    unfold g_lq3 F_X12_many_4
    rw [if_neg (show ¬ (24 : Int32) ≤ nI i from nI_ge (b := 24) (by omega) (by omega)), Option.bind_some, b_bit x (by omega), nI_1]
    have := many_go M x k n (i + 1) (by omega) (by omega)
    rw [← this]
    congr 1
    show _ = nI (s_pop x i + _)
    cases bt x i
    · exact Int32.add_zero _
    · exact nI_1 _
theorem many_eq (x : Int32) (M : g_M) : f_X12_many x M = some (nI (s_pop x 24)) := many_go M x 24 20000000 0 (by omega) (by omega)
theorem s_all_lt (d : Nat → Int32) : ∀ n, s_all d n < 2 ^ n
  | 0 => Nat.zero_lt_one
  | n + 1 => by
    have := s_all_lt d n
    unfold s_all
    rw [Nat.pow_succ]
    split <;> omega
theorem s_all_bit (d : Nat → Int32) (i : Nat) : ∀ n, (s_all d n).testBit i = (decide (i < n) && decide (d (20 + i) = 0))
  | 0 => by simp [s_all]
  | n + 1 => by
    have h := s_all_bit d i n
    have hl := s_all_lt d n
    unfold s_all
    by_cases c : d (20 + n) = 0
    · rw [if_pos c, Nat.add_comm]
      rcases Nat.lt_trichotomy i n with e | e | e
      · rw [Nat.testBit_two_pow_add_gt e, h, decide_eq_true e, decide_eq_true (show i < n + 1 by omega)]
      · subst e
        rw [Nat.testBit_two_pow_add_eq, h]
        simp [c]
      · rw [Nat.testBit_lt_two_pow, decide_eq_false (by omega), Bool.false_and]
        have := Nat.pow_le_pow_right (n := 2) (by omega) (show n + 1 ≤ i by omega)
        rw [Nat.pow_succ] at this
        omega
    · rw [if_neg c, Nat.add_zero, h]
      by_cases e : i = n
      · subst e
        simp [c]
      · rw [show decide (i < n + 1) = decide (i < n) from decide_eq_decide.mpr (by omega)]
