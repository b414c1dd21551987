section COMBS
variable {t n l m h c1 c2 c3 : Nat} {M : g_M} {d : Nat → Int32}
/-- numbers with one, two, three bits, by their size -/
def in1 (a : Nat) : List Nat := [2 ^ a]
def in2 (a : Nat) : List Nat := (List.range a).map (fun b => 2 ^ a ||| 2 ^ b)
def in3 (a : Nat) : List Nat := (List.range a).flatMap (fun b => (List.range b).map (fun c => (2 ^ a ||| 2 ^ b) ||| 2 ^ c))
def cb (F : Nat → List Nat) : List Nat := (List.range 24).flatMap F
def nxI (x : Nat) : Option Int32 := f_X11_nextOfAsMany (nI x) (fun _ _ => 0, fun _ _ => 0)
def chk : List Nat → Bool
  | [] => true
  | x :: l => decide (x < 16777216) && (match l with | [] => (match nxI x with | some y => decide ((16777216 : Int32) ≤ y) | none => false) | y :: _ => decide (nxI x = some (nI y))) && chk l
theorem chk1 : chk (cb in1) = true := by decide +kernel
theorem chk2 : chk (cb in2) = true := by decide +kernel
theorem chk3 : chk (cb in3) = true := by decide +kernel
theorem hd1 : (cb in1).head? = some 1 ∧ (cb in1).length < 3000 := by decide +kernel
theorem hd2 : (cb in2).head? = some 3 ∧ (cb in2).length < 3000 := by decide +kernel
theorem hd3 : (cb in3).head? = some 7 ∧ (cb in3).length < 3000 := by decide +kernel
end COMBS
