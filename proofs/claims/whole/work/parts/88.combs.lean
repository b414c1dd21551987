section COMBS
variable {t n l m h c1 c2 c3 : Nat} {M : g_M} {d : Nat → Int32}
/-- numbers with one, two, three bits, by their size -/
def in1 (a : Nat) : List Nat := [2 ^ a]
def in2 (a : Nat) : List Nat := (List.range a).map (fun b => 2 ^ a ||| 2 ^ b)
def in3 (a : Nat) : List Nat := (List.range a).flatMap (fun b => (List.range b).map (fun c => (2 ^ a ||| 2 ^ b) ||| 2 ^ c))
def cb (F : Nat → List Nat) : List Nat := (List.range 24).flatMap F
/-- numbers with so many bits, each below one, by their greatest bit first -/
def cL : Nat → Nat → List Nat
  | 0, _ => [0]
  | m + 1, n => (List.range n).flatMap (fun a => (cL m a).map (fun y => y ||| 2 ^ a))
theorem cL1 : cL 1 24 = cb in1 := by decide +kernel
theorem cL2 : cL 2 24 = cb in2 := by decide +kernel
theorem cL3 : cL 3 24 = cb in3 := by decide +kernel
end COMBS
