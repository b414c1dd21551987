section FEWM
variable {M : g_M}
def mW1 : List (Nat × Nat) := [(2, 1)]
def mW2 : List (Nat × Nat) := [(10, 1), (12, 1), (14, 2), (8, 2)]
def mW3 : List (Nat × Nat) := [(170, 1), (204, 1), (240, 1), (238, 2), (136, 2), (250, 2), (160, 2), (252, 2), (192, 2), (254, 3), (224, 3), (248, 3), (128, 3), (200, 3), (236, 3), (168, 3), (234, 3), (232, 5)]
def mW4 : List (Nat × Nat) := [(43690, 1), (52428, 1), (61680, 1), (65280, 1), (61166, 2), (34952, 2), (64250, 2), (41120, 2), (64764, 2), (49344, 2), (65450, 2), (43520, 2), (65484, 2), (52224, 2), (65520, 2), (61440, 2), (65278, 3), (57568, 3), (65518, 3), (60928, 3), (63736, 3), (32896, 3), (65416, 3), (34816, 3), (51400, 3), (65530, 3), (64000, 3), (60652, 3), (65440, 3), (40960, 3), (43176, 3), (65532, 3), (64512, 3), (60138, 3), (65472, 3), (49152, 3), (52360, 3), (61600, 3), (61132, 3), (64240, 3), (43656, 3), (61632, 3), (61098, 3), (64752, 3), (43680, 3), (52416, 3), (64170, 3), (64716, 3), (65534, 4), (64680, 4), (65514, 4), (49280, 4), (65276, 4), (43008, 4), (60096, 4), (32768, 4), (64200, 4), (65516, 4), (41088, 4), (65274, 4), (51200, 4), (60576, 4), (61152, 4), (65528, 4), (34944, 4), (65262, 4), (57344, 4), (63624, 4), (65024, 4), (65504, 4), (61664, 4), (65264, 4), (63488, 4), (65408, 4), (61568, 4), (63728, 4), (65480, 4), (52424, 4), (65228, 4), (60416, 4), (52352, 4), (60620, 4), (65448, 4), (43688, 4), (65194, 4), (59904, 4), (43648, 4), (60074, 4), (64760, 4), (64748, 4), (57536, 4), (51392, 4), (64248, 4), (64234, 4), (57504, 4), (43168, 4), (61164, 4), (61162, 4), (51336, 4), (43144, 4), (59624, 5), (60128, 5), (60640, 5), (61064, 5), (61088, 5), (61120, 5), (63656, 5), (63688, 5), (64136, 5), (64648, 5), (60104, 5), (64160, 5), (64192, 5), (60584, 5), (64672, 5), (64704, 5), (63720, 6), (65272, 6), (59392, 6), (61056, 6), (65160, 6), (65512, 6), (57472, 6), (59616, 6), (61128, 6), (64224, 6), (64128, 6), (60552, 6), (60648, 6), (65260, 6), (65184, 6), (63648, 6), (51328, 6), (59592, 6), (61096, 6), (64168, 6), (64736, 6), (64640, 6), (64712, 6), (60040, 6), (60064, 6), (60136, 6), (65258, 6), (65216, 6), (63680, 6), (60608, 6), (43136, 6), (59560, 6), (64744, 6), (65192, 6), (60032, 6), (59584, 6), (64232, 6), (65224, 6), (60544, 6), (59552, 6), (61160, 6), (65248, 6), (63616, 6), (59528, 6), (65152, 7), (63712, 7), (60616, 7), (60072, 7), (65256, 8), (59520, 8)]
def mW (c : Nat) : List (Nat × Nat) := if c = 1 then mW1 else if c = 2 then mW2 else if c = 3 then mW3 else mW4
def mQ1 : List Nat := [0, 1, 1, 1, 1, 1, 1, 1, 1]
def mQ2 : List Nat := [0, 2, 4, 4, 4, 4, 4, 4, 4]
def mQ3 : List Nat := [0, 3, 9, 17, 17, 18, 18, 18, 18]
def mQ4 : List Nat := [0, 4, 16, 48, 100, 116, 160, 164, 166]
def mQ (c : Nat) : List Nat := if c = 1 then mQ1 else if c = 2 then mQ2 else if c = 3 then mQ3 else mQ4
def mT (c i : Nat) : Nat := ((mW c).getD i (0, 0)).1
def mZ (c i : Nat) : Nat := ((mW c).getD i (0, 0)).2
def mP (c s : Nat) : Nat := (mQ c).getD s 0
def tbM : List (Nat × Nat) → Nat → Nat
  | [], _ => 0
  | t :: l, i => tbM l (i + 1) + i * 2 ^ (8 * t.1)
def mTb1 : Nat := tbM mW1 1
def mTb2 : Nat := tbM mW2 1
def mTb3 : Nat := tbM mW3 1
def mTb4 : Nat := tbM mW4 1
def mTb (c : Nat) : Nat := if c = 1 then mTb1 else if c = 2 then mTb2 else if c = 3 then mTb3 else mTb4
def mI (c t : Nat) : Nat := (mTb c >>> (8 * t)) % 256
theorem mI_a3 : allN (fun c => c == 0 || allN (fun t => mI c t == 0 || mT c (mI c t - 1) == t) (2 ^ 2 ^ c)) 4 = true := by decide +kernel
theorem mI_in : allN (fun c => c == 0 || allN (fun i => mI c (mT c i) == i + 1 && decide (1 ≤ mZ c i) && decide (mZ c i ≤ 8) && decide (mT c i < 65536)) (mP c 8)) 5 = true := by decide +kernel
def aM (c p t s : Nat) : Option Nat := if mI c t = 0 then none else if mI c t ≤ p then some p else if mI c t = p + 1 then (if mZ c p = s then some (p + 1) else none) else none
def mB (c s : Nat) (x : Nat × Nat) : Nat → List (Nat × Nat) → Nat → Option Nat
  | 0, _, p => some p
  | _ + 1, [], _ => none
  | n + 1, y :: ys, p => if x.2 + y.2 = s then (match aM c p (x.1 ||| y.1) s with | none => none | some p1 => match aM c p1 (x.1 &&& y.1) s with | none => none | some p2 => mB c s x n ys p2) else mB c s x n ys p
def mA (c s : Nat) : Nat → List (Nat × Nat) → Nat → Nat → Option Nat
  | 0, _, _, p => some p
  | _ + 1, [], _, _ => none
  | n + 1, x :: xs, a, p => match mB c s x (a + 1) (mW c) p with | none => none | some p1 => mA c s n xs (a + 1) p1
theorem mlev3 : allN (fun c => c == 0 || allN (fun s => s == 0 || mA c (s + 1) (mP c s) (mW c) 0 (mP c s) == some (mP c (s + 1))) 8) 4 = true := by decide +kernel
/-- bits of the first variables -/
def tb (e : Nat) : Nat → Nat
  | 0 => 0
  | j + 1 => tb e j ||| (if j.testBit e = true then 2 ^ j else 0)
theorem mini : allN (fun c => c == 0 || allN (fun e => aM c e (tb e (2 ^ c)) 1 == some (e + 1)) c && mP c 1 == c) 5 = true := by decide +kernel
theorem mlen : allN (fun c => c == 0 || decide ((mW c).length = mP c 8) && decide (mP c 8 ≤ 166)) 5 = true := by decide +kernel
/-- does a table rise? -/
def mono (c due : Nat) : Bool := allN (fun f => !due.testBit f || allN (fun k => due.testBit (f ||| 2 ^ k)) c) (2 ^ c)
/-- as a table of four -/
def ext (c due : Nat) : Nat → Nat
  | 0 => 0
  | j + 1 => ext c due j ||| (if due.testBit (j % 2 ^ c) = true then 2 ^ j else 0)
def fin (c due : Nat) : Bool := if due = 0 ∨ due = 2 ^ 2 ^ c - 1 then locF (ext c due 16) 16 1 == 0 else (mI c due != 0 && mZ c (mI c due - 1) == locF (ext c due 16) 16 1)
theorem fin_a3 : allN (fun c => c == 0 || allN (fun due => !mono c due || fin c due) (2 ^ 2 ^ c)) 4 = true := by decide +kernel
def m3 : List Nat := [0, 128, 136, 160, 168, 170, 192, 200, 204, 224, 232, 234, 236, 238, 240, 248, 250, 252, 254, 255]
theorem m3_all : allN (fun x => !mono 3 x || m3.contains x) 256 = true := by decide +kernel
theorem fin_a4 : m3.all (fun lo => m3.all (fun hi => !mono 4 (lo + 256 * hi) || fin 4 (lo + 256 * hi))) = true := by decide +kernel
end FEWM
