section VAL
variable {A al w : Int32}
theorem stp_I {a n p : Nat} (ha : a < 8) (hn : n < 128) (hp : p < 1024) : s_stp (nI a) (nI n) (nI p) = nI (1024 * p + (8 * n + a)) := by
  unfold s_stp
  rw [pk_shlN (n := n) (3 &&& 31) 3 (by decide) (by omega), pk_shlN (n := p) (10 &&& 31) 10 (by decide) (by omega), nx_or, nx_or]
  congr 1
  have e1 : 2 ^ 3 * n + a = 2 ^ 3 * n ||| a := Nat.two_pow_add_eq_or_of_lt (i := 3) ha n
  have e2 : 2 ^ 10 * p + (2 ^ 3 * n + a) = 2 ^ 10 * p ||| (2 ^ 3 * n + a) := Nat.two_pow_add_eq_or_of_lt (i := 10) (by omega) p
  rw [Nat.or_comm a, Nat.mul_comm n, ← e1, Nat.or_comm, Nat.mul_comm p, ← e2]
theorem stp_7 {a n p : Nat} (ha : a < 8) (hn : n < 128) (hp : p < 1024) : s_stp (nI a) (nI n) (nI p) &&& 7 = nI a := by
  rw [stp_I ha hn hp, pk_andN (by omega) 3 (by decide)]
  congr 1
  omega
theorem stp_n {a n p : Nat} (ha : a < 8) (hn : n < 128) (hp : p < 1024) : (s_stp (nI a) (nI n) (nI p) >>> (3 &&& 31)) &&& 127 = nI n := by
  rw [stp_I ha hn hp, pk_shrN (by omega) (3 &&& 31) 3 (by decide), pk_andN (by omega) 7 (by decide)]
  congr 1
  omega
theorem stp_p {a n p : Nat} (ha : a < 8) (hn : n < 128) (hp : p < 1024) : s_stp (nI a) (nI n) (nI p) >>> (10 &&& 31) = nI p := by
  rw [stp_I ha hn hp, pk_shrN (by omega) (10 &&& 31) 10 (by decide)]
  congr 1
  omega
/-- what a step puts on top, and what it does to the bits that wait -/
def s_pv (A al w st : Int32) : Bool :=
  if st &&& 7 = 3 then decide (¬ w < ((st >>> (3 &&& 31)) &&& 127))
  else if st &&& 7 = 0 then decide (¬ nI (s_pop (A &&& ((st >>> (10 &&& 31)) &&& al)) 32) < ((st >>> (3 &&& 31)) &&& 127))
  else if st &&& 7 = 1 then decide ((((st >>> (10 &&& 31)) &&& al) &&& (A ^^^ (-1))) = 0)
  else decide (¬ (A &&& ((st >>> (10 &&& 31)) &&& al)) = 0)
def w1 (A al w st x : Int32) : Int32 :=
  if st &&& 7 = 4 then x ^^^ 1
  else if st &&& 7 = 5 then ((Int32.toUInt32 x >>> (Int32.toUInt32 1 &&& Int32.toUInt32 31)).toInt32) &&& ((x &&& 1) ||| (-2))
  else if st &&& 7 = 6 then ((Int32.toUInt32 x >>> (Int32.toUInt32 1 &&& Int32.toUInt32 31)).toInt32) ||| (x &&& 1)
  else (x <<< (1 &&& 31)) ||| bi (s_pv A al w st)
def w_ev (A al w : Int32) : List Int32 → Int32 → Int32
  | [], x => x
  | st :: c, x => w_ev A al w c (w1 A al w st x)
def bN (v : Bool) : Nat := if v = true then 1 else 0
theorem bN_le (v : Bool) : bN v ≤ 1 := by cases v <;> decide
/-- a code's value, whatever waits; K: how deep it goes -/
def VAL (K : Nat) (A al w : Int32) (c : List Int32) (v : Bool) : Prop := (∀ st, s_ev A al w c st = v :: st) ∧ ∀ q, q < 2 ^ (30 - K) → w_ev A al w c (nI q) = nI (2 * q + bN v)
theorem VAL.mono {K K' : Nat} {c : List Int32} {v : Bool} (h : VAL K A al w c v) (hK : K ≤ K') : VAL K' A al w c v := ⟨h.1, fun q hq => h.2 q (Nat.lt_of_lt_of_le hq (Nat.pow_le_pow_right (by omega) (by omega)))⟩
theorem s_ev_app : ∀ (c d : List Int32) (st : List Bool), s_ev A al w (c ++ d) st = s_ev A al w d (s_ev A al w c st)
  | [], _, _ => rfl
  | s :: c, d, st => s_ev_app c d (s_ev1 A al w s st)
theorem w_ev_app : ∀ (c d : List Int32) (x : Int32), w_ev A al w (c ++ d) x = w_ev A al w d (w_ev A al w c x)
  | [], _, _ => rfl
  | s :: c, d, x => w_ev_app c d (w1 A al w s x)
theorem lt30 {q K : Nat} (h : q < 2 ^ (30 - K)) : q < 2 ^ 30 := Nat.lt_of_lt_of_le h (Nat.pow_le_pow_right (by omega) (by omega))
theorem wd_push {q : Nat} (hq : q < 2 ^ 30) (v : Bool) : (nI q <<< (1 &&& 31)) ||| bi v = nI (2 * q + bN v) := by
  rw [pk_shlN (n := q) (1 &&& 31) 1 (by decide) (by omega)]
  have e : 2 ^ 1 * q + bN v = 2 ^ 1 * q ||| bN v := Nat.two_pow_add_eq_or_of_lt (i := 1) (by have := bN_le v; omega) q
  have eb : bi v = nI (bN v) := by cases v <;> rfl
  rw [eb, nx_or, Nat.mul_comm q, ← e]
theorem wd_not {q : Nat} (v : Bool) : nI (2 * q + bN v) ^^^ 1 = nI (2 * q + bN (!v)) := by
  rw [show (1 : Int32) = nI 1 from rfl, nx_xor]
  congr 1
  apply Nat.eq_of_testBit_eq
  intro i
  rw [Nat.testBit_xor]
  cases i with
  | zero =>
    rw [Nat.testBit_zero, Nat.testBit_zero, Nat.testBit_zero]
    cases v
    · simp [bN]
    · simp [bN, Nat.add_mod]
  | succ i =>
    rw [Nat.testBit_succ, Nat.testBit_succ, Nat.testBit_succ]
    have a1 : (2 * q + bN v) / 2 = q := by have := bN_le v; omega
    have a2 : (2 * q + bN (!v)) / 2 = q := by have := bN_le (!v); omega
    rw [a1, a2]
    simp
theorem wd_shr {q : Nat} (hq : q < 2 ^ 30) (v : Bool) : ((Int32.toUInt32 (nI (2 * q + bN v)) >>> (Int32.toUInt32 1 &&& Int32.toUInt32 31)).toInt32) = nI q := by
  have hb := bN_le v
  rw [pk_ushrN (by omega) 1 1 (by decide)]
  congr 1
  omega
theorem wd_low {q : Nat} (hq : q < 2 ^ 30) (v : Bool) : nI (2 * q + bN v) &&& 1 = nI (bN v) := by
  have hb := bN_le v
  rw [pk_andN (by omega) 1 (by decide)]
  congr 1
  omega
theorem VAL.not {K : Nat} {c : List Int32} {v : Bool} (h : VAL K A al w c v) : VAL K A al w (c ++ [s_stp 4 0 0]) (!v) := by
  refine ⟨fun st => ?_, fun q hq => ?_⟩
  · rw [s_ev_app, h.1 st]
    show s_ev1 A al w (s_stp 4 0 0) (v :: st) = _
    unfold s_ev1
    rw [if_pos (by decide)]
  · rw [w_ev_app, h.2 q hq]
    show w1 A al w (s_stp 4 0 0) _ = _
    unfold w1
    rw [if_pos (by decide), wd_not]
theorem lt_dn {q K : Nat} (hK : K + 1 ≤ 29) (h : q < 2 ^ (30 - (K + 1))) (v : Bool) : 2 * q + bN v < 2 ^ (30 - K) := by
  have hb := bN_le v
  have e : 2 ^ (30 - K) = 2 * 2 ^ (30 - (K + 1)) := by
    rw [show 30 - K = 30 - (K + 1) + 1 by omega, Nat.pow_succ, Nat.mul_comm]
  omega
theorem VAL.and {K : Nat} (hK : K + 1 ≤ 29) {c c2 : List Int32} {v v2 : Bool} (h : VAL (K + 1) A al w c v) (h2 : VAL K A al w c2 v2) : VAL (K + 1) A al w (c ++ c2 ++ [s_stp 5 0 0]) (v && v2) := by
  refine ⟨fun st => ?_, fun q hq => ?_⟩
  · rw [s_ev_app, s_ev_app, h.1 st, h2.1]
    show s_ev1 A al w (s_stp 5 0 0) (v2 :: v :: st) = _
    unfold s_ev1
    rw [if_neg (by decide), if_pos (by decide)]
  · have l1 := lt_dn hK hq v
    have l30 : 2 * q + bN v < 2 ^ 30 := lt30 l1
    have q30 : q < 2 ^ 30 := lt30 hq
    rw [w_ev_app, w_ev_app, h.2 q hq, h2.2 _ l1]
    show w1 A al w (s_stp 5 0 0) _ = _
    unfold w1
    rw [if_neg (by decide), if_pos (by decide), wd_shr l30, wd_low l30]
    cases v2
    · rw [Bool.and_false]
      refine b_ext (fun i hi => ?_)
      have hm2 : ∀ i, i < 32 → bt (nI (bN false) ||| (-2)) i = decide (1 ≤ i) := by decide +kernel
      have hb := bN_le v
      rw [b_and, hm2 i hi, bt_nI (by omega), bt_nI (by rw [show bN false = 0 from rfl]; omega), show bN false = 0 from rfl, Nat.add_zero]
      cases i with
      | zero =>
        rw [decide_eq_false (by omega), Bool.and_false, Nat.testBit_zero]
        simp
      | succ i =>
        rw [decide_eq_true (by omega), Bool.and_true, Nat.testBit_succ, Nat.testBit_succ]
        congr 1
        omega
    · rw [Bool.and_true, show nI (bN true) ||| (-2 : Int32) = -1 from by decide]
      refine b_ext (fun i hi => ?_)
      rw [b_and, b_m1 i hi, Bool.and_true]
theorem VAL.or {K : Nat} (hK : K + 1 ≤ 29) {c c2 : List Int32} {v v2 : Bool} (h : VAL (K + 1) A al w c v) (h2 : VAL K A al w c2 v2) : VAL (K + 1) A al w (c ++ c2 ++ [s_stp 6 0 0]) (v || v2) := by
  refine ⟨fun st => ?_, fun q hq => ?_⟩
  · rw [s_ev_app, s_ev_app, h.1 st, h2.1]
    show s_ev1 A al w (s_stp 6 0 0) (v2 :: v :: st) = _
    unfold s_ev1
    rw [if_neg (by decide), if_neg (by decide), if_pos (by decide)]
  · have l1 := lt_dn hK hq v
    have l30 : 2 * q + bN v < 2 ^ 30 := lt30 l1
    rw [w_ev_app, w_ev_app, h.2 q hq, h2.2 _ l1]
    show w1 A al w (s_stp 6 0 0) _ = _
    unfold w1
    rw [if_neg (by decide), if_neg (by decide), if_pos (by decide), wd_shr l30, wd_low l30, nx_or]
    congr 1
    have e : ∀ u : Bool, 2 ^ 1 * q + bN u = 2 ^ 1 * q ||| bN u := fun u => Nat.two_pow_add_eq_or_of_lt (i := 1) (by have := bN_le u; omega) q
    have e1 := e v
    have e2 := e (v || v2)
    rw [Nat.pow_one] at e1 e2
    rw [e1, e2, Nat.or_assoc]
    cases v <;> cases v2 <;> rfl
theorem VAL.put {K : Nat} {st : Int32} {v : Bool} (h4 : ¬ st &&& 7 = 4) (h5 : ¬ st &&& 7 = 5) (h6 : ¬ st &&& 7 = 6) (hv : s_pv A al w st = v) : VAL K A al w [st] v := by
  refine ⟨fun s => ?_, fun q hq => ?_⟩
  · show s_ev1 A al w st s = _
    unfold s_ev1
    rw [if_neg h4, if_neg h5, if_neg h6, ← hv]
    unfold s_pv
    split
    · rfl
    · split
      · rfl
      · split <;> rfl
  · show w1 A al w st (nI q) = _
    unfold w1
    rw [if_neg h4, if_neg h5, if_neg h6, hv, wd_push (lt30 hq)]
theorem VAL.least {K n p : Nat} (hn : n < 128) (hp : p < 1024) : VAL K A al w [s_stp 0 (nI n) (nI p)] (decide (¬ nI (s_pop (A &&& (nI p &&& al)) 32) < nI n)) := by
  have h7 : s_stp 0 (nI n) (nI p) &&& 7 = 0 := stp_7 (a := 0) (by omega) hn hp
  refine VAL.put (by rw [h7]; decide) (by rw [h7]; decide) (by rw [h7]; decide) ?_
  unfold s_pv
  rw [h7, if_neg (by decide), if_pos rfl, show (s_stp 0 (nI n) (nI p) >>> (3 &&& 31)) &&& 127 = nI n from stp_n (a := 0) (by omega) hn hp, show s_stp 0 (nI n) (nI p) >>> (10 &&& 31) = nI p from stp_p (a := 0) (by omega) hn hp]
theorem VAL.all {K p : Nat} (hp : p < 1024) : VAL K A al w [s_stp 1 0 (nI p)] (decide (((nI p &&& al) &&& (A ^^^ (-1))) = 0)) := by
  have h7 : s_stp 1 0 (nI p) &&& 7 = 1 := stp_7 (a := 1) (n := 0) (by omega) (by omega) hp
  refine VAL.put (by rw [h7]; decide) (by rw [h7]; decide) (by rw [h7]; decide) ?_
  unfold s_pv
  rw [h7, if_neg (by decide), if_neg (by decide), if_pos rfl, show s_stp 1 0 (nI p) >>> (10 &&& 31) = nI p from stp_p (a := 1) (n := 0) (by omega) (by omega) hp]
theorem VAL.any {K p : Nat} (hp : p < 1024) : VAL K A al w [s_stp 2 0 (nI p)] (decide (¬ (A &&& (nI p &&& al)) = 0)) := by
  have h7 : s_stp 2 0 (nI p) &&& 7 = 2 := stp_7 (a := 2) (n := 0) (by omega) (by omega) hp
  refine VAL.put (by rw [h7]; decide) (by rw [h7]; decide) (by rw [h7]; decide) ?_
  unfold s_pv
  rw [h7, if_neg (by decide), if_neg (by decide), if_neg (by decide), show s_stp 2 0 (nI p) >>> (10 &&& 31) = nI p from stp_p (a := 2) (n := 0) (by omega) (by omega) hp]
theorem VAL.weigh {K n : Nat} (hn : n < 128) : VAL K A al w [s_stp 3 (nI n) 0] (decide (¬ w < nI n)) := by
  have h7 : s_stp 3 (nI n) 0 &&& 7 = 3 := stp_7 (a := 3) (p := 0) (by omega) hn (by omega)
  refine VAL.put (by rw [h7]; decide) (by rw [h7]; decide) (by rw [h7]; decide) ?_
  unfold s_pv
  rw [h7, if_pos rfl, show (s_stp 3 (nI n) 0 >>> (3 &&& 31)) &&& 127 = nI n from stp_n (a := 3) (p := 0) (by omega) hn (by omega)]
theorem pop_hi {x : Int32} {k : Nat} (h : ∀ i, k ≤ i → bt x i = false) : ∀ n, s_pop x (k + n) = s_pop x k
  | 0 => rfl
  | n + 1 => by
    show s_pop x (k + n) + (if bt x (k + n) = true then 1 else 0) = _
    rw [pop_hi h n, h (k + n) (by omega), if_neg (by decide)]
    rfl
theorem pop_32 {x : Int32} (h : ∀ i, 24 ≤ i → bt x i = false) : s_pop x 32 = s_pop x 24 := pop_hi h 8
theorem bi_n {P : Prop} [Decidable P] {M' : g_M} : (if P then some ((0 : Int32), M') else some (1, M')) = some (bi (decide (¬ P)), M') := by
  by_cases c : P
  · rw [if_pos c, decide_eq_false (fun q => q c)]
    rfl
  · rw [if_neg c, decide_eq_true c]
    rfl
theorem bi_p {P : Prop} [Decidable P] {M' : g_M} : (if P then some ((1 : Int32), M') else some (0, M')) = some (bi (decide P), M') := by
  by_cases c : P
  · rw [if_pos c, decide_eq_true c]
    rfl
  · rw [if_neg c, decide_eq_false c]
    rfl
end VAL
