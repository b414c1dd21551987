/-! ===== texts: tokens and the reading of a text, as plain functions of its bytes b and their number L ===== -/
def s_skip (b : Nat → Int32) (L : Nat) : Nat → Nat → Nat
  | 0, a => a
  | n + 1, a => if a < L ∧ b a = 32 then s_skip b L n (a + 1) else a
def s_run (p : Int32 → Bool) (b : Nat → Int32) (L : Nat) : Nat → Nat → Nat
  | 0, a => a
  | n + 1, a => if a < L ∧ p (b a) = true then s_run p b L n (a + 1) else a
def s_let (c : Int32) : Bool := decide (97 ≤ c) && decide (c ≤ 122)
def s_dig (c : Int32) : Bool := decide (48 ≤ c) && decide (c ≤ 57)
def s_num (b : Nat → Int32) : Nat → Nat → Int32 → Int32
  | 0, _, v => v
  | n + 1, a, v => s_num b n (a + 1) (if 100 < v * 10 + b a - 48 then 100 else v * 10 + b a - 48)
def s_is (b : Nat → Int32) (s e j : Nat) : Bool := decide (e - s = g_slen.getD j 0) && (List.range (g_slen.getD j 0)).all (fun k => b (s + k) == (g_sbyt.getD j []).getD k 0)
def s_wrdF (b : Nat → Int32) (s e : Nat) : List Nat → Int32
  | [] => 1
  | j :: l => if s_is b s e j then nI (7 + j) else s_wrdF b s e l
def s_wrd (b : Nat → Int32) (s e : Nat) : Int32 := s_wrdF b s e [0, 1, 2, 3, 4, 5, 6, 7, 8, 9, 10]
def s_sgn (c : Int32) : Int32 := if c = 40 then 3 else if c = 41 then 4 else if c = 91 then 5 else if c = 93 then 6 else 1
/-- a token: where it begins, where it ends, what it is (as ElderChest numbers them), a number's value -/
abbrev s_T : Type := Nat × Nat × Int32 × Int32
def s_tk0 (b : Nat → Int32) (L s : Nat) : s_T :=
  if s < L then
    if s_let (b s) then (s, s_run s_let b L L s, s_wrd b s (s_run s_let b L L s), 0)
    else if s_dig (b s) then (s, s_run s_dig b L L s, (if s_num b (s_run s_dig b L L s - s) s 0 ≤ 99 then 2 else 1), s_num b (s_run s_dig b L L s - s) s 0)
    else (s, s + 1, s_sgn (b s), 0)
  else (s, s, 0, 0)
def s_tk (b : Nat → Int32) (L a : Nat) : s_T := s_tk0 b L (s_skip b L L a)
section SPECTEXT
variable (b : Nat → Int32) (L : Nat)
def s_adv (t : s_T) : s_T := s_tk b L t.2.1
def s_pass (w : Int32) (t : s_T) : Bool × s_T := if t.2.2.1 = w then (true, s_adv b L t) else (false, t)
def s_nums : Nat → Int32 → s_T → Int32 × s_T
  | 0, p, t => (p, t)
  | n + 1, p, t => if t.2.2.1 = 2 ∧ ¬ 10 ≤ t.2.2.2 then s_nums n (p ||| ((1 : Int32) <<< (t.2.2.2 &&& 31))) (s_adv b L t) else (p, t)
/-- a PART: right or not, its elders, the token behind -/
def s_part (t : s_T) : Bool × Int32 × s_T :=
  if t.2.2.1 = 17 then (true, 1023, s_adv b L t)
  else if t.2.2.1 = 5 then
    (if (s_nums b L 120 0 (s_adv b L t)).1 = 0 then (false, 0, (s_nums b L 120 0 (s_adv b L t)).2)
     else if (s_nums b L 120 0 (s_adv b L t)).2.2.2.1 = 6 then (true, (s_nums b L 120 0 (s_adv b L t)).1, s_adv b L (s_nums b L 120 0 (s_adv b L t)).2) else (false, 0, (s_nums b L 120 0 (s_adv b L t)).2))
  else (false, 0, t)
def s_stp (act number part : Int32) : Int32 := (act ||| (number <<< (3 &&& 31))) ||| (part <<< (10 &&& 31))
/-- what reading gives: right or not, the steps, the token behind -/
abbrev s_R : Type := Bool × List Int32 × s_T
def s_one (kE : Nat → s_T → s_R) (o : Nat) (t : s_T) : s_R :=
  if t.2.2.1 = 3 then
    (if o < 6 then
      (match kE (o + 1) (s_adv b L t) with
       | (true, c, t1) => if t1.2.2.1 = 4 then (true, c, s_adv b L t1) else (false, [], t1)
       | (false, _, t1) => (false, [], t1))
     else (false, [], t))
  else if t.2.2.1 = 12 then
    (if (s_adv b L t).2.2.1 = 2 then
      (if (s_adv b L (s_adv b L t)).2.2.1 = 13 then
        (match s_part b L (s_adv b L (s_adv b L (s_adv b L t))) with
         | (true, p, t1) => (true, [s_stp 0 (s_adv b L t).2.2.2 p], t1)
         | (false, _, t1) => (false, [], t1))
       else (false, [], s_adv b L (s_adv b L t)))
     else (false, [], s_adv b L t))
  else if t.2.2.1 = 14 then
    (match s_part b L (s_adv b L t) with
     | (true, p, t1) => (true, [s_stp 1 0 p], t1)
     | (false, _, t1) => (false, [], t1))
  else if t.2.2.1 = 15 then
    (match s_part b L (s_adv b L t) with
     | (true, p, t1) => (true, [s_stp 2 0 p], t1)
     | (false, _, t1) => (false, [], t1))
  else if t.2.2.1 = 16 then
    (if (s_adv b L t).2.2.1 = 2 then (true, [s_stp 3 (s_adv b L t).2.2.2 0], s_adv b L (s_adv b L t)) else (false, [], s_adv b L t))
  else (false, [], t)
def s_not (kE : Nat → s_T → s_R) : Nat → Nat → s_T → s_R
  | 0, _, t => (false, [], t)
  | n + 1, o, t =>
    if t.2.2.1 = 11 then
      (if o < 6 then
        (match s_not kE n (o + 1) (s_adv b L t) with
         | (true, c, t1) => (true, c ++ [s_stp 4 0 0], t1)
         | (false, _, t1) => (false, [], t1))
       else (false, [], t))
    else s_one b L kE o t
/-- a chain of parts with a sign between: what was read so far comes in -/
def s_chain (w act : Int32) (f : s_T → s_R) : Nat → List Int32 → s_T → s_R
  | 0, c, t => (true, c, t)
  | n + 1, c, t =>
    if t.2.2.1 = w then
      (match f (s_adv b L t) with
       | (true, c2, t1) => s_chain w act f n (c ++ c2 ++ [s_stp act 0 0]) t1
       | (false, _, t1) => (false, [], t1))
    else (true, c, t)
def s_seq (w act : Int32) (f : s_T → s_R) (t : s_T) : s_R :=
  match f t with
  | (true, c, t1) => s_chain b L w act f 120 c t1
  | (false, _, t1) => (false, [], t1)
def s_both (kE : Nat → s_T → s_R) (o : Nat) (t : s_T) : s_R := s_seq b L 10 5 (s_not b L kE 8 o) t
def s_either : Nat → Nat → s_T → s_R
  | 0, _, t => (false, [], t)
  | n + 1, o, t => s_seq b L 9 6 (s_both b L (s_either n) o) t
/-- a text: its steps, or where its fault is -/
def s_text : List Int32 ⊕ Nat :=
  if (s_tk b L 0).2.2.1 = 7 then
    (match s_either b L 8 0 (s_adv b L (s_tk b L 0)) with
     | (true, c, t) =>
       if t.2.2.1 = 8 then
         (match s_either b L 8 0 (s_adv b L t) with
          | (true, c2, t1) => if t1.2.2.1 = 0 then .inl (c ++ c2 ++ [s_stp 4 0 0, s_stp 5 0 0]) else .inr t1.1
          | (false, _, t1) => .inr t1.1)
       else if t.2.2.1 = 0 then .inl c else .inr t.1
     | (false, _, t) => .inr t.1)
  else .inr (s_tk b L 0).1
end SPECTEXT
/-! ===== hangings, as functions of the model's row d ===== -/
def s_op1 (d : Nat → Int32) (K : Int32) (f : Nat → Bool) (h : Nat) : Bool :=
  if d (40 + 4 * h) = 1 then bt K (d (40 + 4 * h + 3)).toNatClampNeg
  else if d (40 + 4 * h) = 5 then (bt K (d (40 + 4 * h + 3)).toNatClampNeg || bt K (if (d (40 + 4 * h + 3)).toNatClampNeg = 23 then 0 else (d (40 + 4 * h + 3)).toNatClampNeg + 1))
  else if d (40 + 4 * h) = 2 then (f (d (40 + 4 * h + 1)).toNatClampNeg || f (d (40 + 4 * h + 2)).toNatClampNeg)
  else if d (40 + 4 * h) = 3 then (f (d (40 + 4 * h + 1)).toNatClampNeg && f (d (40 + 4 * h + 2)).toNatClampNeg)
  else f (d (40 + 4 * h + 1)).toNatClampNeg
/-- which of the first n hangings open with the keys K -/
def s_opn (d : Nat → Int32) (K : Int32) : Nat → Nat → Bool
  | 0 => fun _ => false
  | n + 1 => fun i => if i = n then s_op1 d K (s_opn d K n) n else s_opn d K n i
/-- keys in the open boxes among the first n -/
def s_box (d : Nat → Int32) (f : Nat → Bool) : Nat → Int32
  | 0 => 0
  | h + 1 => s_box d f h ||| (if d (40 + 4 * h) = 4 ∧ f h = true then (1 : Int32) <<< (d (40 + 4 * h + 3) &&& 31) else 0)
def s_rnd (d : Nat → Int32) (n : Nat) (K : Int32) : Int32 := K ||| s_box d (s_opn d K n) n
def s_kr (d : Nat → Int32) (n : Nat) (K : Int32) : Nat → Int32
  | 0 => K
  | r + 1 => s_rnd d n (s_kr d n K r)
/-- all keys that are had in the end -/
def s_end (d : Nat → Int32) (n : Nat) (K : Int32) : Int32 := s_kr d n K 24
def s_opens (d : Nat → Int32) (n : Nat) (K : Int32) (h : Nat) : Bool := s_opn d (s_end d n K) n h
def s_keys (d : Nat → Int32) (set : Int32) : Nat → Int32
  | 0 => 0
  | e + 1 => s_keys d set e ||| (if bt set e = true ∧ d (20 + e) = 0 then d (30 + e) else 0)
def s_cost (d : Nat → Int32) : Nat → Nat → Int32
  | 0 => fun _ => 0
  | n + 1 => fun i => if i = n then
      (if d (40 + 4 * n) = 1 then 3 else if d (40 + 4 * n) = 5 then 2 else if d (40 + 4 * n) = 4 then 4 + s_cost d n (d (40 + 4 * n + 1)).toNatClampNeg
       else (if d (40 + 4 * n) = 3 then 2 else 1) + s_cost d n (d (40 + 4 * n + 1)).toNatClampNeg + s_cost d n (d (40 + 4 * n + 2)).toNatClampNeg) else s_cost d n i
def s_lock (d : Nat → Int32) : Nat → Nat → Int32
  | 0 => fun _ => 0
  | n + 1 => fun i => if i = n then
      (if d (40 + 4 * n) = 1 then 1 else if d (40 + 4 * n) = 5 then 1 else if d (40 + 4 * n) = 4 then s_lock d n (d (40 + 4 * n + 1)).toNatClampNeg
       else s_lock d n (d (40 + 4 * n + 1)).toNatClampNeg + s_lock d n (d (40 + 4 * n + 2)).toNatClampNeg) else s_lock d n i
/-- all, as a set -/
def s_all (d : Nat → Int32) : Nat → Nat
  | 0 => 0
  | e + 1 => s_all d e + (if d (20 + e) = 0 then 2 ^ e else 0)
/-- how often keys were lent to an elder; which -/
def s_lt (d : Nat → Int32) (e : Nat) : Nat → Nat
  | 0 => 0
  | k + 1 => s_lt d e k + (if d (200 + 2 * k) = nI e then 1 else 0)
def s_lk (d : Nat → Int32) (e : Nat) : Nat → Int32
  | 0 => 0
  | k + 1 => s_lk d e k ||| (if d (200 + 2 * k) = nI e then (1 : Int32) <<< (d (200 + 2 * k + 1) &&& 31) else 0)
/-! ===== a text's steps, worked out for a set ===== -/
def s_wgt (d : Nat → Int32) (set : Int32) : Nat → Int32
  | 0 => 0
  | e + 1 => s_wgt d set e + (if bt set e = true then d (10 + e) else 0)
def s_pop (x : Int32) : Nat → Nat
  | 0 => 0
  | i + 1 => s_pop x i + (if bt x i = true then 1 else 0)
/-- asked: the set (of all); all; its weight -/
def s_ev1 (asked all w : Int32) (st : Int32) (v : List Bool) : List Bool :=
  if st &&& 7 = 4 then (match v with | a :: r => (!a) :: r | [] => [])
  else if st &&& 7 = 5 then (match v with | a :: c :: r => (c && a) :: r | r => r)
  else if st &&& 7 = 6 then (match v with | a :: c :: r => (c || a) :: r | r => r)
  else if st &&& 7 = 3 then (decide (¬ w < ((st >>> (3 &&& 31)) &&& 127))) :: v
  else if st &&& 7 = 0 then (decide (¬ nI (s_pop (asked &&& ((st >>> (10 &&& 31)) &&& all)) 32) < ((st >>> (3 &&& 31)) &&& 127))) :: v
  else if st &&& 7 = 1 then (decide ((((st >>> (10 &&& 31)) &&& all) &&& (asked ^^^ (-1))) = 0)) :: v
  else (decide (¬ (asked &&& ((st >>> (10 &&& 31)) &&& all)) = 0)) :: v
def s_ev (asked all w : Int32) : List Int32 → List Bool → List Bool
  | [], v => v
  | st :: c, v => s_ev asked all w c (s_ev1 asked all w st v)
