section VAL
variable {A al w : Int32}
theorem stp_I {a n p : Nat} (ha : a < 8) (hn : n < 128) (hp : p < 1024) : s_stp (nI a) (nI n) (nI p) = nI (1024 * p + (8 * n + a)) := by
  unfold s_stp
  rw [pk_shlN (n := n) (3 &&& 31) 3 (by decide) (by omega), pk_shlN (n := p) (10 &&& 31) 10 (by decide) (by omega), nx_or, nx_or]
  congr 1
  have e1 : 2 ^ 3 * n + a = 2 ^ 3 * n ||| a := Nat.two_pow_add_eq_or_of_lt (i := 3) ha n
  have e2 : 2 ^ 10 * p + (2 ^ 3 * n + a) = 2 ^ 10 * p ||| (2 ^ 3 * n + a) := Nat.two_pow_add_eq_or_of_lt (i := 10) (by omega) p
  rw [Nat.or_comm a, Nat.mul_comm n, ← e1, Nat.or_comm, Nat.mul_comm p, ← e2]
theorem stp_7 {a n p : Nat} (ha : a < 8) (hn : n < 128) (hp : p < 1024) : s_stp (nI a) (nI n) (nI p) &&& 7 = nI a := by
  rw [stp_I ha hn hp, pk_andN (by omega) 3 (by decide)]
  congr 1
  omega
theorem stp_n {a n p : Nat} (ha : a < 8) (hn : n < 128) (hp : p < 1024) : (s_stp (nI a) (nI n) (nI p) >>> (3 &&& 31)) &&& 127 = nI n := by
  rw [stp_I ha hn hp, pk_shrN (by omega) (3 &&& 31) 3 (by decide), pk_andN (by omega) 7 (by decide)]
  congr 1
  omega
theorem stp_p {a n p : Nat} (ha : a < 8) (hn : n < 128) (hp : p < 1024) : s_stp (nI a) (nI n) (nI p) >>> (10 &&& 31) = nI p := by
  rw [stp_I ha hn hp, pk_shrN (by omega) (10 &&& 31) 10 (by decide)]
  congr 1
  omega
/-- a code's value, whatever waits -/
def VAL (A al w : Int32) (c : List Int32) (v : Bool) : Prop := ∀ st, s_ev A al w c st = v :: st
theorem s_ev_app : ∀ (c d : List Int32) (st : List Bool), s_ev A al w (c ++ d) st = s_ev A al w d (s_ev A al w c st)
  | [], _, _ => rfl
  | s :: c, d, st => s_ev_app c d (s_ev1 A al w s st)
theorem VAL.not {c : List Int32} {v : Bool} (h : VAL A al w c v) : VAL A al w (c ++ [s_stp 4 0 0]) (!v) := fun st => by
  rw [s_ev_app, h st]
  show s_ev1 A al w (s_stp 4 0 0) (v :: st) = _
  unfold s_ev1
  rw [if_pos (by decide)]
theorem VAL.and {c c2 : List Int32} {v v2 : Bool} (h : VAL A al w c v) (h2 : VAL A al w c2 v2) : VAL A al w (c ++ c2 ++ [s_stp 5 0 0]) (v && v2) := fun st => by
  rw [s_ev_app, s_ev_app, h st, h2]
  show s_ev1 A al w (s_stp 5 0 0) (v2 :: v :: st) = _
  unfold s_ev1
  rw [if_neg (by decide), if_pos (by decide)]
theorem VAL.or {c c2 : List Int32} {v v2 : Bool} (h : VAL A al w c v) (h2 : VAL A al w c2 v2) : VAL A al w (c ++ c2 ++ [s_stp 6 0 0]) (v || v2) := fun st => by
  rw [s_ev_app, s_ev_app, h st, h2]
  show s_ev1 A al w (s_stp 6 0 0) (v2 :: v :: st) = _
  unfold s_ev1
  rw [if_neg (by decide), if_neg (by decide), if_pos (by decide)]
theorem VAL.least {n p : Nat} (hn : n < 128) (hp : p < 1024) : VAL A al w [s_stp 0 (nI n) (nI p)] (decide (¬ nI (s_pop (A &&& (nI p &&& al)) 32) < nI n)) := fun st => by
  show s_ev1 A al w (s_stp (nI 0) (nI n) (nI p)) st = _
  unfold s_ev1
  rw [stp_7 (by omega) hn hp, stp_n (by omega) hn hp, stp_p (by omega) hn hp, if_neg (by decide), if_neg (by decide), if_neg (by decide), if_neg (by decide), if_pos (by decide)]
theorem VAL.all {p : Nat} (hp : p < 1024) : VAL A al w [s_stp 1 0 (nI p)] (decide (((nI p &&& al) &&& (A ^^^ (-1))) = 0)) := fun st => by
  show s_ev1 A al w (s_stp (nI 1) (nI 0) (nI p)) st = _
  unfold s_ev1
  rw [stp_7 (by omega) (by omega) hp, stp_n (by omega) (by omega) hp, stp_p (by omega) (by omega) hp, if_neg (by decide), if_neg (by decide), if_neg (by decide), if_neg (by decide), if_neg (by decide), if_pos (by decide)]
theorem VAL.any {p : Nat} (hp : p < 1024) : VAL A al w [s_stp 2 0 (nI p)] (decide (¬ (A &&& (nI p &&& al)) = 0)) := fun st => by
  show s_ev1 A al w (s_stp (nI 2) (nI 0) (nI p)) st = _
  unfold s_ev1
  rw [stp_7 (by omega) (by omega) hp, stp_n (by omega) (by omega) hp, stp_p (by omega) (by omega) hp, if_neg (by decide), if_neg (by decide), if_neg (by decide), if_neg (by decide), if_neg (by decide), if_neg (by decide)]
theorem VAL.weigh {n : Nat} (hn : n < 128) : VAL A al w [s_stp 3 (nI n) 0] (decide (¬ w < nI n)) := fun st => by
  show s_ev1 A al w (s_stp (nI 3) (nI n) (nI 0)) st = _
  unfold s_ev1
  rw [stp_7 (by omega) hn (by omega), stp_n (by omega) hn (by omega), stp_p (by omega) hn (by omega), if_neg (by decide), if_neg (by decide), if_neg (by decide), if_pos (by decide)]
theorem pop_hi {x : Int32} {k : Nat} (h : ∀ i, k ≤ i → bt x i = false) : ∀ n, s_pop x (k + n) = s_pop x k
  | 0 => rfl
  | n + 1 => by
    show s_pop x (k + n) + (if bt x (k + n) = true then 1 else 0) = _
    rw [pop_hi h n, h (k + n) (by omega), if_neg (by decide)]
    rfl
theorem pop_32 {x : Int32} (h : ∀ i, 24 ≤ i → bt x i = false) : s_pop x 32 = s_pop x 24 := pop_hi h 8
theorem bi_n {P : Prop} [Decidable P] {M' : g_M} : (if P then some ((0 : Int32), M') else some (1, M')) = some (bi (decide (¬ P)), M') := by
  by_cases c : P
  · rw [if_pos c, decide_eq_false (fun q => q c)]
    rfl
  · rw [if_neg c, decide_eq_true c]
    rfl
theorem bi_p {P : Prop} [Decidable P] {M' : g_M} : (if P then some ((1 : Int32), M') else some (0, M')) = some (bi (decide P), M') := by
  by_cases c : P
  · rw [if_pos c, decide_eq_true c]
    rfl
  · rw [if_neg c, decide_eq_false c]
    rfl
end VAL
