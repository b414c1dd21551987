section FEWC
variable {M : g_M}
def fLf : List Nat := [43690, 52428, 61680, 65280, 61166, 34952, 64250, 41120, 65450, 43520, 64764, 49344, 65484, 52224, 65520, 61440, 65278, 43176, 60138, 32896, 65518, 43656, 61098, 34816, 65530, 43680, 64170, 40960, 51400, 60652, 52360, 61132, 65532, 52416, 64716, 49152, 57568, 63736, 61600, 64240, 61632, 64752, 60928, 65416, 64000, 65440, 64512, 65472, 65534, 43688, 61162, 34944, 65262, 43144, 60074, 32768, 64234, 41088, 65274, 43168, 65194, 43008, 65514, 43648, 52424, 61164, 51336, 60620, 64748, 49280, 65276, 51392, 65228, 51200, 65516, 52352, 61664, 64248, 57504, 63728, 64760, 57536, 65264, 57344, 65528, 61568, 65024, 65448, 59904, 65408, 65480, 60416, 65504, 63488, 61152, 63624, 64200, 60576, 64680, 60096, 59624, 60128, 60640, 61064, 61088, 61120, 63656, 63688, 64136, 64648, 60104, 64160, 64192, 60584, 64672, 64704, 65258, 43136, 65260, 51328, 65272, 57472, 65512, 59392, 60136, 59616, 60648, 61160, 61096, 61056, 61128, 59528, 63720, 59560, 59592, 65160, 60040, 60552, 64232, 64168, 64128, 64224, 59552, 65184, 60064, 63648, 65192, 60032, 64744, 64640, 64712, 64736, 59584, 65216, 60608, 63680, 65224, 60544, 65248, 63616, 65152, 60072, 63712, 60616, 59520, 65256]
def fSt : List Nat := [0, 0, 4, 16, 48, 100, 116, 160, 164, 166, 166, 166, 166, 166, 166, 166, 166, 166]
def allN (p : Nat → Bool) : Nat → Bool
  | 0 => true
  | n + 1 => p n && allN p n
theorem allN_1 {p : Nat → Bool} : ∀ {n : Nat}, allN p n = true → ∀ k, k < n → p k = true
  | n + 1, h, k, hk => by
    have h' : (p n && allN p n) = true := h
    rw [Bool.and_eq_true] at h'
    by_cases c : k = n
    · rw [c]
      exact h'.1
    · exact allN_1 h'.2 k (by omega)
/-- where a truth stands in a list: its place and one; 0: nowhere -/
def tbF : List Nat → Nat → Nat
  | [], _ => 0
  | t :: l, i => tbF l (i + 1) + i * 2 ^ (8 * t)
def fTb : Nat := tbF fLf 1
def fI (t : Nat) : Nat := (fTb >>> (8 * t)) % 256
theorem fI_all : allN (fun t => fI t == 0 || fLf.getD (fI t - 1) 0 == t) 65536 = true := by decide +kernel
theorem fI_in : allN (fun i => fI (fLf.getD i 0) == i + 1) 166 = true := by decide +kernel
/-- a truth more, when p of the list stand already -/
def aP (p t : Nat) : Option Nat := if t = 0 then none else if fI t = 0 then none else if fI t ≤ p then some p else if fI t = p + 1 then some (p + 1) else none
def jB (x : Nat) : Nat → List Nat → Nat → Option Nat
  | 0, _, p => some p
  | _ + 1, [], _ => none
  | n + 1, y :: ys, p => match aP p (x ||| y) with | none => none | some p1 => match aP p1 (x &&& y) with | none => none | some p2 => jB x n ys p2
def jA (m : Nat) (ys : List Nat) : Nat → List Nat → Nat → Option Nat
  | 0, _, p => some p
  | _ + 1, [], _ => none
  | n + 1, x :: xs, p => match jB x m ys p with | none => none | some p1 => jA m ys n xs p1
def fS (i : Nat) : Nat := fSt.getD i 0
def fN (i : Nat) : Nat := fS (i + 1) - fS i
def hL (k : Nat) : Nat → Nat → Nat → Option Nat
  | 0, _, p => some p
  | n + 1, few, p => match jA (fN (k - few)) (fLf.drop (fS (k - few))) (fN few) (fLf.drop (fS few)) p with | none => none | some p1 => hL k n (few + 1) p1
theorem lev_0 : hL 1 0 1 4 = some (fS 2) ∧ aP 0 43690 = some 1 ∧ aP 1 52428 = some 2 ∧ aP 2 61680 = some 3 ∧ aP 3 65280 = some 4 := by decide +kernel
theorem lev_1 : ∀ k, k < 16 → 1 ≤ k → hL (k + 1) ((k + 1) / 2) 1 (fS (k + 1)) = some (fS (k + 2)) := by decide +kernel
theorem fS_le : ∀ k, k < 18 → fS k ≤ 166 := by decide +kernel
theorem fS_up : ∀ k, k < 17 → fS k ≤ fS (k + 1) := by decide +kernel
theorem fLf_b : fLf.length = 166 ∧ ∀ t, t ∈ fLf → t < 65536 := by decide +kernel
end FEWC
