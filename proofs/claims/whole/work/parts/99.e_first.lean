/-! ===== the memory behind both constructors ===== -/
def z32 : Nat → Int32 := fun _ => 0
def z64 : Nat → Int64 := fun _ => 0
def m0 (k : Nat) : Nat → Int32 := if k = 13 then upd z32 1 (-1) else if k = 36 then upd z32 2 (-1) else if k = 39 then upd z32 2 (-1) else if k = 41 then upd z32 2 (-1) else if k = 60 then upd z32 2 (-1) else z32
def M0 : g_M := (m0, fun _ => z64)
theorem first_rel : Rel0 0 0 0 0 0 0 0 0 M0 := by
  have hs : ∀ s, s < 4 → M0.1 (51 + s) 0 = 0 ∧ M0.1 (51 + s) 1 = 0 ∧ M0.1 73 s = 0 ∧ M0.1 74 s = 0 := by
    intro s h
    rcases (show s = 0 ∨ s = 1 ∨ s = 2 ∨ s = 3 by omega) with rfl | rfl | rfl | rfl <;> exact ⟨rfl, rfl, rfl, rfl⟩
  refine ⟨⟨by omega, by omega, by omega, by omega, rfl, rfl, rfl, rfl, Or.inl ⟨rfl, rfl⟩, fun e h => absurd h (Nat.not_lt_zero _), fun e h => absurd h (Nat.not_lt_zero _), fun e h => absurd h (Nat.not_lt_zero _), fun e h => absurd h (Nat.not_lt_zero _)⟩, ⟨rfl, rfl, fun e h => absurd h (Nat.not_lt_zero _), fun i _ => ?_, fun e h => absurd h (Nat.not_lt_zero _), fun e _ _ => ⟨rfl, rfl, rfl⟩⟩, ⟨rfl, fun e h => absurd h (Nat.not_lt_zero _)⟩, ⟨rfl, rfl, fun e h => absurd h (Nat.not_lt_zero _)⟩, ⟨rfl, Or.inl rfl⟩, ⟨0, by omega, rfl, rfl, fun e h => absurd h (Nat.not_lt_zero _)⟩, ⟨fun _ => 0, fun k _ => ⟨rfl, rfl⟩, rfl, Nat.le_refl 0⟩, fun s h => ⟨0, by omega, (hs s h).2.1, (hs s h).2.2.2, (hs s h).1.trans (hs s h).2.2.1.symm, Or.inl (hs s h).2.2.1, fun _ => rfl, fun k _ => rfl⟩, ⟨rfl, rfl, rfl, by omega, by omega, by omega⟩, ⟨Or.inl rfl, fun h => absurd h (by decide), rfl, rfl⟩, ⟨Or.inl rfl, fun h => absurd h (by decide)⟩⟩
  show (0#32).getLsbD i = false
  exact BitVec.getLsbD_zero
theorem first_fx : FX M0 0 := by
  refine ⟨rfl, ?_, fun i hi => ?_⟩
  · refine ⟨rfl, by decide, fun i hi => absurd hi (by rw [show fS (0 + 1) = 0 by decide]; exact Nat.not_lt_zero i), fun w _ b _ => ⟨fun h => ?_, fun ⟨i, hi, _⟩ => absurd hi (by rw [show fS (0 + 1) = 0 by decide]; exact Nat.not_lt_zero i)⟩⟩
    have h2 : (0#64).getLsbD b = true := h
    rw [BitVec.getLsbD_zero] at h2
    exact Bool.noConfusion h2
  · rcases (show i = 0 ∨ i = 1 by omega) with rfl | rfl <;> decide
theorem first_all : Rel 0 M0 := ⟨⟨0, 0, 0, 0, 0, 0, 0, first_rel⟩, 0, by omega, first_fx⟩
