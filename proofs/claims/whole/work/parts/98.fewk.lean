/-- a set of all by its number among them -/
def sM (few A : Nat) : Nat → Nat × Nat
  | 0 => (0, 0)
  | e + 1 => if A.testBit e = true then ((sM few A e).1 ||| (if few.testBit (sM few A e).2 = true then 2 ^ e else 0), (sM few A e).2 + 1) else sM few A e
def sp (few A : Nat) : Nat := (sM few A 10).1
def sC : Nat → Nat → Nat → Nat → Nat
  | 0, _, _, set => set
  | n + 1, left, x, set => if x = 0 then set else sC n (left / 2) (x ^^^ 2 ^ lb x) (set ||| (left % 2) * 2 ^ lb x)
theorem sp_all : allN (fun A => decide (4 < pt A 24) || allN (fun f => sC 1024 f A 0 == sp f A && sb (sp f A) A && sp f A == sp (f % 2 ^ pt A 24) A) 16) 1024 = true := by decide +kernel
theorem sp_up : allN (fun A => decide (4 < pt A 24) || allN (fun f => allN (fun k => (List.range 10).any (fun e => A.testBit e && sp (f ||| 2 ^ k) A == (sp f A ||| 2 ^ e))) (pt A 24)) (2 ^ pt A 24)) 1024 = true := by decide +kernel
