/-- the memory: ints by cell and place, longs by cell and place -/
abbrev g_M : Type := (Nat → Nat → Int32) × (Nat → Nat → Int64)
/-- the world's fixed numbers: the tables' classes, the array classes, the cells' addresses, the texts' addresses and their rows' -/
abbrev g_Y : Type := va_G × (Nat → ClassId) × (Nat → Nat) × (Nat → Nat) × (Nat → Nat)
abbrev g_r (Y : g_Y) (k : Nat) : Value := .ref (Y.2.2.1 k)
def g_tys (Y : g_Y) : List (ClassId × FieldType) := [(Y.2.1 0, .int), (Y.2.1 1, .long), (Y.2.1 2, .boolean), (Y.2.1 3, .object "ElderChest$Sheet"), (Y.2.1 4, .array .int)]
abbrev g_fn : Type := (Nat → Int32) → (Nat → Int64) → va_E
def g_cs (Y : g_Y) : List g_fn := [
  (fun a b => .inr (11, [g_r Y 1, g_r Y 3, g_r Y 13, g_r Y 24, .int (a 4), g_r Y 8, .int (a 6), .int (a 7), .int (a 8), g_r Y 32, g_r Y 33, g_r Y 36, g_r Y 39, g_r Y 41, g_r Y 43, g_r Y 46, g_r Y 50])),
  (fun a b => .inr (2, [g_r Y 2, .int (a 1)])),
  (fun a b => .inl (Y.2.1 0, 7, .inl a)),
  (fun a b => .inr (0, [.int (a 0), .int (a 1), .int (a 2), .int (a 3), g_r Y 4, g_r Y 5, g_r Y 6, g_r Y 7])),
  (fun a b => .inl (Y.2.1 0, 10, .inl a)),
  (fun a b => .inl (Y.2.1 0, 10, .inl a)),
  (fun a b => .inl (Y.2.1 0, 10, .inl a)),
  (fun a b => .inl (Y.2.1 0, 10, .inl a)),
  (fun a b => .inr (0, [.int (a 0), .int (a 1), .int (a 2), .int (a 3), g_r Y 9, g_r Y 10, g_r Y 11, g_r Y 12])),
  (fun a b => .inl (Y.2.1 0, 10, .inl a)),
  (fun a b => .inl (Y.2.1 0, 10, .inl a)),
  (fun a b => .inl (Y.2.1 0, 10, .inl a)),
  (fun a b => .inl (Y.2.1 0, 10, .inl a)),
  (fun a b => .inr (10, [.int (a 0), .int (a 1), .int (a 2), g_r Y 14, g_r Y 15])),
  (fun a b => .inl (Y.2.1 0, 8, .inl a)),
  (fun a b => .inl (Y.2.1 4, 8, .inr (.inr (.inr (.inr (fun j => some (Y.2.2.1 (16 + j)))))))),
  (fun a b => .inl (Y.2.1 0, 120, .inl a)),
  (fun a b => .inl (Y.2.1 0, 120, .inl a)),
  (fun a b => .inl (Y.2.1 0, 120, .inl a)),
  (fun a b => .inl (Y.2.1 0, 120, .inl a)),
  (fun a b => .inl (Y.2.1 0, 120, .inl a)),
  (fun a b => .inl (Y.2.1 0, 120, .inl a)),
  (fun a b => .inl (Y.2.1 0, 120, .inl a)),
  (fun a b => .inl (Y.2.1 0, 120, .inl a)),
  (fun a b => .inr (4, [.int (a 0), .int (a 1), g_r Y 25, g_r Y 26, g_r Y 27, g_r Y 28, g_r Y 29, g_r Y 30, g_r Y 31])),
  (fun a b => .inl (Y.2.1 0, 40, .inl a)),
  (fun a b => .inl (Y.2.1 0, 40, .inl a)),
  (fun a b => .inl (Y.2.1 0, 40, .inl a)),
  (fun a b => .inl (Y.2.1 0, 40, .inl a)),
  (fun a b => .inl (Y.2.1 0, 40, .inl a)),
  (fun a b => .inl (Y.2.1 0, 40, .inl a)),
  (fun a b => .inl (Y.2.1 0, 40, .inl a)),
  (fun a b => .inr (9, [g_r Y 33, g_r Y 35, .int (a 2), g_r Y 77, g_r Y 78, g_r Y 79, .int (a 6), .int (a 7)])),
  (fun a b => .inr (8, [g_r Y 34, .int (a 1)])),
  (fun a b => .inl (Y.2.1 0, 120, .inl a)),
  (fun a b => .inl (Y.2.1 0, 120, .inl a)),
  (fun a b => .inr (5, [g_r Y 37, g_r Y 38, .int (a 2)])),
  (fun a b => .inl (Y.2.1 0, 1024, .inl a)),
  (fun a b => .inl (Y.2.1 1, 1024, .inr (.inl b))),
  (fun a b => .inr (1, [g_r Y 40, .int (a 1), .int (a 2)])),
  (fun a b => .inl (Y.2.1 2, 1024, .inl a)),
  (fun a b => .inr (1, [g_r Y 42, .int (a 1), .int (a 2)])),
  (fun a b => .inl (Y.2.1 2, 1024, .inl a)),
  (fun a b => .inr (6, [g_r Y 44, .int (a 1), g_r Y 45])),
  (fun a b => .inl (Y.2.1 0, 252, .inl a)),
  (fun a b => .inl (Y.2.1 2, 1024, .inl a)),
  (fun a b => .inr (3, [g_r Y 47, g_r Y 48, g_r Y 49, .int (a 3), .int (a 4)])),
  (fun a b => .inl (Y.2.1 0, 166, .inl a)),
  (fun a b => .inl (Y.2.1 0, 18, .inl a)),
  (fun a b => .inl (Y.2.1 1, 1024, .inr (.inl b))),
  (fun a b => .inl (Y.2.1 3, 4, .inr (.inr (.inr (.inr (fun j => some (Y.2.2.1 (51 + j)))))))),
  (fun a b => .inr (7, [.int (a 0), .int (a 1), g_r Y 55])),
  (fun a b => .inr (7, [.int (a 0), .int (a 1), g_r Y 56])),
  (fun a b => .inr (7, [.int (a 0), .int (a 1), g_r Y 57])),
  (fun a b => .inr (7, [.int (a 0), .int (a 1), g_r Y 58])),
  (fun a b => .inl (Y.2.1 1, 40, .inr (.inl b))),
  (fun a b => .inl (Y.2.1 1, 40, .inr (.inl b))),
  (fun a b => .inl (Y.2.1 1, 40, .inr (.inl b))),
  (fun a b => .inl (Y.2.1 1, 40, .inr (.inl b))),
  (fun a b => .inr (12, [g_r Y 60, g_r Y 61, .int (a 2), g_r Y 62, .int (a 4), g_r Y 63, .int (a 6), .int (a 7), .int (a 8), .int (a 9), .int (a 10), .int (a 11), .int (a 12), .int (a 13), .int (a 14), .int (a 15), .int (a 16), g_r Y 64, g_r Y 65, g_r Y 66, g_r Y 67, g_r Y 68, g_r Y 69, g_r Y 70, g_r Y 71, g_r Y 72, .int (a 26), g_r Y 73, g_r Y 74, g_r Y 75, g_r Y 76])),
  (fun a b => .inl (Y.2.1 0, 1208, .inl a)),
  (fun a b => .inl (Y.2.1 0, 1208, .inl a)),
  (fun a b => .inl (Y.2.1 0, 120, .inl a)),
  (fun a b => .inl (Y.2.1 0, 7, .inl a)),
  (fun a b => .inl (Y.2.1 2, 1024, .inl a)),
  (fun a b => .inl (Y.2.1 2, 1024, .inl a)),
  (fun a b => .inl (Y.2.1 0, 40, .inl a)),
  (fun a b => .inl (Y.2.1 0, 40, .inl a)),
  (fun a b => .inl (Y.2.1 2, 40, .inl a)),
  (fun a b => .inl (Y.2.1 0, 40, .inl a)),
  (fun a b => .inl (Y.2.1 0, 1024, .inl a)),
  (fun a b => .inl (Y.2.1 0, 200, .inl a)),
  (fun a b => .inl (Y.2.1 0, 200, .inl a)),
  (fun a b => .inl (Y.2.1 0, 4, .inl a)),
  (fun a b => .inl (Y.2.1 0, 4, .inl a)),
  (fun a b => .inl (Y.2.1 1, 160, .inr (.inl b))),
  (fun a b => .inl (Y.2.1 1, 40, .inr (.inl b))),
  (fun a b => .inl (Y.2.1 0, 121, .inl a)),
  (fun a b => .inl (Y.2.1 0, 121, .inl a)),
  (fun a b => .inl (Y.2.1 0, 121, .inl a))]
def g_cell (Y : g_Y) (k : Nat) (a : Nat → Int32) (b : Nat → Int64) : va_E := ((g_cs Y).getD k (fun _ _ => .inr (0, []))) a b
def g_w (Y : g_Y) (M : g_M) : va_W := (List.range 80).map (fun k => (Y.2.2.1 k, g_cell Y k (M.1 k) (M.2 k)))
def g_A (Y : g_Y) : Nat → Prop := fun q => ∃ k, k < 80 ∧ q = Y.2.2.1 k
def g_inj (Y : g_Y) : Prop := ∀ i j, i < 80 → j < 80 → Y.2.2.1 i = Y.2.2.1 j → i = j
def g_u (M : g_M) (k i : Nat) (v : Int32) : g_M := (va_up M.1 k (upd (M.1 k) i v), M.2)
def g_ul (M : g_M) (k i : Nat) (v : Int64) : g_M := (M.1, va_up M.2 k (vp_updL (M.2 k) i v))
def g_uR (M : g_M) (k : Nat) (a : Nat → Int32) : g_M := (va_up M.1 k a, M.2)
def g_uRl (M : g_M) (k : Nat) (b : Nat → Int64) : g_M := (M.1, va_up M.2 k b)
theorem g_w_at {Y : g_Y} {M : g_M} {k : Nat} (hk : k < 80) : (g_w Y M)[k]? = some (Y.2.2.1 k, g_cell Y k (M.1 k) (M.2 k)) := by
  unfold g_w
  rw [List.getElem?_map, List.getElem?_range hk]
  rfl
theorem g_w_len {Y : g_Y} {M : g_M} : (g_w Y M).length = 80 := by unfold g_w; simp
theorem g_D {Y : g_Y} (M : g_M) (h : g_inj Y) {A : Nat → Prop} (hA : ∀ k, k < 80 → A (Y.2.2.1 k)) : va_D A (g_w Y M) := by
  have key : ∀ (k : Nat) (q : Nat × va_E), (g_w Y M)[k]? = some q → k < 80 ∧ q.1 = Y.2.2.1 k := by
    intro k q hq
    have hk : k < 80 := by
      have := (List.getElem?_eq_some_iff.mp hq).1
      rwa [g_w_len] at this
    rw [g_w_at hk] at hq
    cases hq
    exact ⟨hk, rfl⟩
  refine ⟨fun i j p q hi hj hpq => ?_, fun k q hk => ?_⟩
  · obtain ⟨h1, h2⟩ := key i p hi
    obtain ⟨h3, h4⟩ := key j q hj
    exact h i j h1 h3 (by rw [← h2, ← h4]; exact hpq)
  · obtain ⟨h1, h2⟩ := key k q hk
    rw [h2]
    exact hA k h1
theorem g_w_ext {Y : g_Y} {M M' : g_M} {k : Nat} {e : va_E} (hk : k < 80) (he : g_cell Y k (M'.1 k) (M'.2 k) = e) (ho : ∀ j, j ≠ k → M'.1 j = M.1 j ∧ M'.2 j = M.2 j) : (g_w Y M).set k (Y.2.2.1 k, e) = g_w Y M' := by
  apply List.ext_getElem?
  intro j
  by_cases hj : j < 80
  · by_cases h : j = k
    · subst h
      rw [List.getElem?_set_self (by rw [g_w_len]; exact hj), g_w_at hj, he]
    · rw [List.getElem?_set_ne (Ne.symm h), g_w_at hj, g_w_at hj, (ho j h).1, (ho j h).2]
  · rw [List.getElem?_eq_none (by rw [List.length_set, g_w_len]; omega), List.getElem?_eq_none (by rw [g_w_len]; omega)]
theorem g_set_u {Y : g_Y} {M : g_M} {k i : Nat} {v : Int32} {e : va_E} (hk : k < 80) (he : g_cell Y k (upd (M.1 k) i v) (M.2 k) = e) : (g_w Y M).set k (Y.2.2.1 k, e) = g_w Y (g_u M k i v) :=
  g_w_ext hk (by show g_cell Y k (va_up M.1 k (upd (M.1 k) i v) k) (M.2 k) = e; rw [show va_up M.1 k (upd (M.1 k) i v) k = upd (M.1 k) i v from if_pos rfl]; exact he) (fun j hj => ⟨if_neg hj, rfl⟩)
theorem g_set_ul {Y : g_Y} {M : g_M} {k i : Nat} {v : Int64} {e : va_E} (hk : k < 80) (he : g_cell Y k (M.1 k) (vp_updL (M.2 k) i v) = e) : (g_w Y M).set k (Y.2.2.1 k, e) = g_w Y (g_ul M k i v) :=
  g_w_ext hk (by show g_cell Y k (M.1 k) (va_up M.2 k (vp_updL (M.2 k) i v) k) = e; rw [show va_up M.2 k (vp_updL (M.2 k) i v) k = vp_updL (M.2 k) i v from if_pos rfl]; exact he) (fun j hj => ⟨rfl, if_neg hj⟩)
theorem g_set_R {Y : g_Y} {M : g_M} {k : Nat} {a : Nat → Int32} {e : va_E} (hk : k < 80) (he : g_cell Y k a (M.2 k) = e) : (g_w Y M).set k (Y.2.2.1 k, e) = g_w Y (g_uR M k a) :=
  g_w_ext hk (by show g_cell Y k (va_up M.1 k a k) (M.2 k) = e; rw [show va_up M.1 k a k = a from if_pos rfl]; exact he) (fun j hj => ⟨if_neg hj, rfl⟩)
theorem g_set_Rl {Y : g_Y} {M : g_M} {k : Nat} {b : Nat → Int64} {e : va_E} (hk : k < 80) (he : g_cell Y k (M.1 k) b = e) : (g_w Y M).set k (Y.2.2.1 k, e) = g_w Y (g_uRl M k b) :=
  g_w_ext hk (by show g_cell Y k (M.1 k) (va_up M.2 k b k) = e; rw [show va_up M.2 k b k = b from if_pos rfl]; exact he) (fun j hj => ⟨rfl, if_neg hj⟩)
theorem gc_0 (Y : g_Y) (a : Nat → Int32) (b : Nat → Int64) : g_cell Y 0 a b = .inr (11, [g_r Y 1, g_r Y 3, g_r Y 13, g_r Y 24, .int (a 4), g_r Y 8, .int (a 6), .int (a 7), .int (a 8), g_r Y 32, g_r Y 33, g_r Y 36, g_r Y 39, g_r Y 41, g_r Y 43, g_r Y 46, g_r Y 50]) := rfl
theorem gc_1 (Y : g_Y) (a : Nat → Int32) (b : Nat → Int64) : g_cell Y 1 a b = .inr (2, [g_r Y 2, .int (a 1)]) := rfl
theorem gc_2 (Y : g_Y) (a : Nat → Int32) (b : Nat → Int64) : g_cell Y 2 a b = .inl (Y.2.1 0, 7, .inl a) := rfl
theorem gc_3 (Y : g_Y) (a : Nat → Int32) (b : Nat → Int64) : g_cell Y 3 a b = .inr (0, [.int (a 0), .int (a 1), .int (a 2), .int (a 3), g_r Y 4, g_r Y 5, g_r Y 6, g_r Y 7]) := rfl
theorem gc_4 (Y : g_Y) (a : Nat → Int32) (b : Nat → Int64) : g_cell Y 4 a b = .inl (Y.2.1 0, 10, .inl a) := rfl
theorem gc_5 (Y : g_Y) (a : Nat → Int32) (b : Nat → Int64) : g_cell Y 5 a b = .inl (Y.2.1 0, 10, .inl a) := rfl
theorem gc_6 (Y : g_Y) (a : Nat → Int32) (b : Nat → Int64) : g_cell Y 6 a b = .inl (Y.2.1 0, 10, .inl a) := rfl
theorem gc_7 (Y : g_Y) (a : Nat → Int32) (b : Nat → Int64) : g_cell Y 7 a b = .inl (Y.2.1 0, 10, .inl a) := rfl
theorem gc_8 (Y : g_Y) (a : Nat → Int32) (b : Nat → Int64) : g_cell Y 8 a b = .inr (0, [.int (a 0), .int (a 1), .int (a 2), .int (a 3), g_r Y 9, g_r Y 10, g_r Y 11, g_r Y 12]) := rfl
theorem gc_9 (Y : g_Y) (a : Nat → Int32) (b : Nat → Int64) : g_cell Y 9 a b = .inl (Y.2.1 0, 10, .inl a) := rfl
theorem gc_10 (Y : g_Y) (a : Nat → Int32) (b : Nat → Int64) : g_cell Y 10 a b = .inl (Y.2.1 0, 10, .inl a) := rfl
theorem gc_11 (Y : g_Y) (a : Nat → Int32) (b : Nat → Int64) : g_cell Y 11 a b = .inl (Y.2.1 0, 10, .inl a) := rfl
theorem gc_12 (Y : g_Y) (a : Nat → Int32) (b : Nat → Int64) : g_cell Y 12 a b = .inl (Y.2.1 0, 10, .inl a) := rfl
theorem gc_13 (Y : g_Y) (a : Nat → Int32) (b : Nat → Int64) : g_cell Y 13 a b = .inr (10, [.int (a 0), .int (a 1), .int (a 2), g_r Y 14, g_r Y 15]) := rfl
theorem gc_14 (Y : g_Y) (a : Nat → Int32) (b : Nat → Int64) : g_cell Y 14 a b = .inl (Y.2.1 0, 8, .inl a) := rfl
theorem gc_15 (Y : g_Y) (a : Nat → Int32) (b : Nat → Int64) : g_cell Y 15 a b = .inl (Y.2.1 4, 8, .inr (.inr (.inr (.inr (fun j => some (Y.2.2.1 (16 + j))))))) := rfl
theorem gc_16 (Y : g_Y) (a : Nat → Int32) (b : Nat → Int64) : g_cell Y 16 a b = .inl (Y.2.1 0, 120, .inl a) := rfl
theorem gc_17 (Y : g_Y) (a : Nat → Int32) (b : Nat → Int64) : g_cell Y 17 a b = .inl (Y.2.1 0, 120, .inl a) := rfl
theorem gc_18 (Y : g_Y) (a : Nat → Int32) (b : Nat → Int64) : g_cell Y 18 a b = .inl (Y.2.1 0, 120, .inl a) := rfl
theorem gc_19 (Y : g_Y) (a : Nat → Int32) (b : Nat → Int64) : g_cell Y 19 a b = .inl (Y.2.1 0, 120, .inl a) := rfl
theorem gc_20 (Y : g_Y) (a : Nat → Int32) (b : Nat → Int64) : g_cell Y 20 a b = .inl (Y.2.1 0, 120, .inl a) := rfl
theorem gc_21 (Y : g_Y) (a : Nat → Int32) (b : Nat → Int64) : g_cell Y 21 a b = .inl (Y.2.1 0, 120, .inl a) := rfl
theorem gc_22 (Y : g_Y) (a : Nat → Int32) (b : Nat → Int64) : g_cell Y 22 a b = .inl (Y.2.1 0, 120, .inl a) := rfl
theorem gc_23 (Y : g_Y) (a : Nat → Int32) (b : Nat → Int64) : g_cell Y 23 a b = .inl (Y.2.1 0, 120, .inl a) := rfl
theorem gc_24 (Y : g_Y) (a : Nat → Int32) (b : Nat → Int64) : g_cell Y 24 a b = .inr (4, [.int (a 0), .int (a 1), g_r Y 25, g_r Y 26, g_r Y 27, g_r Y 28, g_r Y 29, g_r Y 30, g_r Y 31]) := rfl
theorem gc_25 (Y : g_Y) (a : Nat → Int32) (b : Nat → Int64) : g_cell Y 25 a b = .inl (Y.2.1 0, 40, .inl a) := rfl
theorem gc_26 (Y : g_Y) (a : Nat → Int32) (b : Nat → Int64) : g_cell Y 26 a b = .inl (Y.2.1 0, 40, .inl a) := rfl
theorem gc_27 (Y : g_Y) (a : Nat → Int32) (b : Nat → Int64) : g_cell Y 27 a b = .inl (Y.2.1 0, 40, .inl a) := rfl
theorem gc_28 (Y : g_Y) (a : Nat → Int32) (b : Nat → Int64) : g_cell Y 28 a b = .inl (Y.2.1 0, 40, .inl a) := rfl
theorem gc_29 (Y : g_Y) (a : Nat → Int32) (b : Nat → Int64) : g_cell Y 29 a b = .inl (Y.2.1 0, 40, .inl a) := rfl
theorem gc_30 (Y : g_Y) (a : Nat → Int32) (b : Nat → Int64) : g_cell Y 30 a b = .inl (Y.2.1 0, 40, .inl a) := rfl
theorem gc_31 (Y : g_Y) (a : Nat → Int32) (b : Nat → Int64) : g_cell Y 31 a b = .inl (Y.2.1 0, 40, .inl a) := rfl
theorem gc_32 (Y : g_Y) (a : Nat → Int32) (b : Nat → Int64) : g_cell Y 32 a b = .inr (9, [g_r Y 33, g_r Y 35, .int (a 2), g_r Y 77, g_r Y 78, g_r Y 79, .int (a 6), .int (a 7)]) := rfl
theorem gc_33 (Y : g_Y) (a : Nat → Int32) (b : Nat → Int64) : g_cell Y 33 a b = .inr (8, [g_r Y 34, .int (a 1)]) := rfl
theorem gc_34 (Y : g_Y) (a : Nat → Int32) (b : Nat → Int64) : g_cell Y 34 a b = .inl (Y.2.1 0, 120, .inl a) := rfl
theorem gc_35 (Y : g_Y) (a : Nat → Int32) (b : Nat → Int64) : g_cell Y 35 a b = .inl (Y.2.1 0, 120, .inl a) := rfl
theorem gc_36 (Y : g_Y) (a : Nat → Int32) (b : Nat → Int64) : g_cell Y 36 a b = .inr (5, [g_r Y 37, g_r Y 38, .int (a 2)]) := rfl
theorem gc_37 (Y : g_Y) (a : Nat → Int32) (b : Nat → Int64) : g_cell Y 37 a b = .inl (Y.2.1 0, 1024, .inl a) := rfl
theorem gc_38 (Y : g_Y) (a : Nat → Int32) (b : Nat → Int64) : g_cell Y 38 a b = .inl (Y.2.1 1, 1024, .inr (.inl b)) := rfl
theorem gc_39 (Y : g_Y) (a : Nat → Int32) (b : Nat → Int64) : g_cell Y 39 a b = .inr (1, [g_r Y 40, .int (a 1), .int (a 2)]) := rfl
theorem gc_40 (Y : g_Y) (a : Nat → Int32) (b : Nat → Int64) : g_cell Y 40 a b = .inl (Y.2.1 2, 1024, .inl a) := rfl
theorem gc_41 (Y : g_Y) (a : Nat → Int32) (b : Nat → Int64) : g_cell Y 41 a b = .inr (1, [g_r Y 42, .int (a 1), .int (a 2)]) := rfl
theorem gc_42 (Y : g_Y) (a : Nat → Int32) (b : Nat → Int64) : g_cell Y 42 a b = .inl (Y.2.1 2, 1024, .inl a) := rfl
theorem gc_43 (Y : g_Y) (a : Nat → Int32) (b : Nat → Int64) : g_cell Y 43 a b = .inr (6, [g_r Y 44, .int (a 1), g_r Y 45]) := rfl
theorem gc_44 (Y : g_Y) (a : Nat → Int32) (b : Nat → Int64) : g_cell Y 44 a b = .inl (Y.2.1 0, 252, .inl a) := rfl
theorem gc_45 (Y : g_Y) (a : Nat → Int32) (b : Nat → Int64) : g_cell Y 45 a b = .inl (Y.2.1 2, 1024, .inl a) := rfl
theorem gc_46 (Y : g_Y) (a : Nat → Int32) (b : Nat → Int64) : g_cell Y 46 a b = .inr (3, [g_r Y 47, g_r Y 48, g_r Y 49, .int (a 3), .int (a 4)]) := rfl
theorem gc_47 (Y : g_Y) (a : Nat → Int32) (b : Nat → Int64) : g_cell Y 47 a b = .inl (Y.2.1 0, 166, .inl a) := rfl
theorem gc_48 (Y : g_Y) (a : Nat → Int32) (b : Nat → Int64) : g_cell Y 48 a b = .inl (Y.2.1 0, 18, .inl a) := rfl
theorem gc_49 (Y : g_Y) (a : Nat → Int32) (b : Nat → Int64) : g_cell Y 49 a b = .inl (Y.2.1 1, 1024, .inr (.inl b)) := rfl
theorem gc_50 (Y : g_Y) (a : Nat → Int32) (b : Nat → Int64) : g_cell Y 50 a b = .inl (Y.2.1 3, 4, .inr (.inr (.inr (.inr (fun j => some (Y.2.2.1 (51 + j))))))) := rfl
theorem gc_51 (Y : g_Y) (a : Nat → Int32) (b : Nat → Int64) : g_cell Y 51 a b = .inr (7, [.int (a 0), .int (a 1), g_r Y 55]) := rfl
theorem gc_52 (Y : g_Y) (a : Nat → Int32) (b : Nat → Int64) : g_cell Y 52 a b = .inr (7, [.int (a 0), .int (a 1), g_r Y 56]) := rfl
theorem gc_53 (Y : g_Y) (a : Nat → Int32) (b : Nat → Int64) : g_cell Y 53 a b = .inr (7, [.int (a 0), .int (a 1), g_r Y 57]) := rfl
theorem gc_54 (Y : g_Y) (a : Nat → Int32) (b : Nat → Int64) : g_cell Y 54 a b = .inr (7, [.int (a 0), .int (a 1), g_r Y 58]) := rfl
theorem gc_55 (Y : g_Y) (a : Nat → Int32) (b : Nat → Int64) : g_cell Y 55 a b = .inl (Y.2.1 1, 40, .inr (.inl b)) := rfl
theorem gc_56 (Y : g_Y) (a : Nat → Int32) (b : Nat → Int64) : g_cell Y 56 a b = .inl (Y.2.1 1, 40, .inr (.inl b)) := rfl
theorem gc_57 (Y : g_Y) (a : Nat → Int32) (b : Nat → Int64) : g_cell Y 57 a b = .inl (Y.2.1 1, 40, .inr (.inl b)) := rfl
theorem gc_58 (Y : g_Y) (a : Nat → Int32) (b : Nat → Int64) : g_cell Y 58 a b = .inl (Y.2.1 1, 40, .inr (.inl b)) := rfl
theorem gc_59 (Y : g_Y) (a : Nat → Int32) (b : Nat → Int64) : g_cell Y 59 a b = .inr (12, [g_r Y 60, g_r Y 61, .int (a 2), g_r Y 62, .int (a 4), g_r Y 63, .int (a 6), .int (a 7), .int (a 8), .int (a 9), .int (a 10), .int (a 11), .int (a 12), .int (a 13), .int (a 14), .int (a 15), .int (a 16), g_r Y 64, g_r Y 65, g_r Y 66, g_r Y 67, g_r Y 68, g_r Y 69, g_r Y 70, g_r Y 71, g_r Y 72, .int (a 26), g_r Y 73, g_r Y 74, g_r Y 75, g_r Y 76]) := rfl
theorem gc_60 (Y : g_Y) (a : Nat → Int32) (b : Nat → Int64) : g_cell Y 60 a b = .inl (Y.2.1 0, 1208, .inl a) := rfl
theorem gc_61 (Y : g_Y) (a : Nat → Int32) (b : Nat → Int64) : g_cell Y 61 a b = .inl (Y.2.1 0, 1208, .inl a) := rfl
theorem gc_62 (Y : g_Y) (a : Nat → Int32) (b : Nat → Int64) : g_cell Y 62 a b = .inl (Y.2.1 0, 120, .inl a) := rfl
theorem gc_63 (Y : g_Y) (a : Nat → Int32) (b : Nat → Int64) : g_cell Y 63 a b = .inl (Y.2.1 0, 7, .inl a) := rfl
theorem gc_64 (Y : g_Y) (a : Nat → Int32) (b : Nat → Int64) : g_cell Y 64 a b = .inl (Y.2.1 2, 1024, .inl a) := rfl
theorem gc_65 (Y : g_Y) (a : Nat → Int32) (b : Nat → Int64) : g_cell Y 65 a b = .inl (Y.2.1 2, 1024, .inl a) := rfl
theorem gc_66 (Y : g_Y) (a : Nat → Int32) (b : Nat → Int64) : g_cell Y 66 a b = .inl (Y.2.1 0, 40, .inl a) := rfl
theorem gc_67 (Y : g_Y) (a : Nat → Int32) (b : Nat → Int64) : g_cell Y 67 a b = .inl (Y.2.1 0, 40, .inl a) := rfl
theorem gc_68 (Y : g_Y) (a : Nat → Int32) (b : Nat → Int64) : g_cell Y 68 a b = .inl (Y.2.1 2, 40, .inl a) := rfl
theorem gc_69 (Y : g_Y) (a : Nat → Int32) (b : Nat → Int64) : g_cell Y 69 a b = .inl (Y.2.1 0, 40, .inl a) := rfl
theorem gc_70 (Y : g_Y) (a : Nat → Int32) (b : Nat → Int64) : g_cell Y 70 a b = .inl (Y.2.1 0, 1024, .inl a) := rfl
theorem gc_71 (Y : g_Y) (a : Nat → Int32) (b : Nat → Int64) : g_cell Y 71 a b = .inl (Y.2.1 0, 200, .inl a) := rfl
theorem gc_72 (Y : g_Y) (a : Nat → Int32) (b : Nat → Int64) : g_cell Y 72 a b = .inl (Y.2.1 0, 200, .inl a) := rfl
theorem gc_73 (Y : g_Y) (a : Nat → Int32) (b : Nat → Int64) : g_cell Y 73 a b = .inl (Y.2.1 0, 4, .inl a) := rfl
theorem gc_74 (Y : g_Y) (a : Nat → Int32) (b : Nat → Int64) : g_cell Y 74 a b = .inl (Y.2.1 0, 4, .inl a) := rfl
theorem gc_75 (Y : g_Y) (a : Nat → Int32) (b : Nat → Int64) : g_cell Y 75 a b = .inl (Y.2.1 1, 160, .inr (.inl b)) := rfl
theorem gc_76 (Y : g_Y) (a : Nat → Int32) (b : Nat → Int64) : g_cell Y 76 a b = .inl (Y.2.1 1, 40, .inr (.inl b)) := rfl
theorem gc_77 (Y : g_Y) (a : Nat → Int32) (b : Nat → Int64) : g_cell Y 77 a b = .inl (Y.2.1 0, 121, .inl a) := rfl
theorem gc_78 (Y : g_Y) (a : Nat → Int32) (b : Nat → Int64) : g_cell Y 78 a b = .inl (Y.2.1 0, 121, .inl a) := rfl
theorem gc_79 (Y : g_Y) (a : Nat → Int32) (b : Nat → Int64) : g_cell Y 79 a b = .inl (Y.2.1 0, 121, .inl a) := rfl
theorem gp_0_4 (Y : g_Y) (a : Nat → Int32) (b : Nat → Int64) (v : Int32) : g_cell Y 0 (upd a 4 v) b = .inr (11, [g_r Y 1, g_r Y 3, g_r Y 13, g_r Y 24, .int (a 4), g_r Y 8, .int (a 6), .int (a 7), .int (a 8), g_r Y 32, g_r Y 33, g_r Y 36, g_r Y 39, g_r Y 41, g_r Y 43, g_r Y 46, g_r Y 50].set 4 (.int v)) := rfl
theorem gp_0_6 (Y : g_Y) (a : Nat → Int32) (b : Nat → Int64) (v : Int32) : g_cell Y 0 (upd a 6 v) b = .inr (11, [g_r Y 1, g_r Y 3, g_r Y 13, g_r Y 24, .int (a 4), g_r Y 8, .int (a 6), .int (a 7), .int (a 8), g_r Y 32, g_r Y 33, g_r Y 36, g_r Y 39, g_r Y 41, g_r Y 43, g_r Y 46, g_r Y 50].set 6 (.int v)) := rfl
theorem gp_0_7 (Y : g_Y) (a : Nat → Int32) (b : Nat → Int64) (v : Int32) : g_cell Y 0 (upd a 7 v) b = .inr (11, [g_r Y 1, g_r Y 3, g_r Y 13, g_r Y 24, .int (a 4), g_r Y 8, .int (a 6), .int (a 7), .int (a 8), g_r Y 32, g_r Y 33, g_r Y 36, g_r Y 39, g_r Y 41, g_r Y 43, g_r Y 46, g_r Y 50].set 7 (.int v)) := rfl
theorem gp_0_8 (Y : g_Y) (a : Nat → Int32) (b : Nat → Int64) (v : Int32) : g_cell Y 0 (upd a 8 v) b = .inr (11, [g_r Y 1, g_r Y 3, g_r Y 13, g_r Y 24, .int (a 4), g_r Y 8, .int (a 6), .int (a 7), .int (a 8), g_r Y 32, g_r Y 33, g_r Y 36, g_r Y 39, g_r Y 41, g_r Y 43, g_r Y 46, g_r Y 50].set 8 (.int v)) := rfl
theorem gp_1_1 (Y : g_Y) (a : Nat → Int32) (b : Nat → Int64) (v : Int32) : g_cell Y 1 (upd a 1 v) b = .inr (2, [g_r Y 2, .int (a 1)].set 1 (.int v)) := rfl
theorem gp_3_0 (Y : g_Y) (a : Nat → Int32) (b : Nat → Int64) (v : Int32) : g_cell Y 3 (upd a 0 v) b = .inr (0, [.int (a 0), .int (a 1), .int (a 2), .int (a 3), g_r Y 4, g_r Y 5, g_r Y 6, g_r Y 7].set 0 (.int v)) := rfl
theorem gp_3_1 (Y : g_Y) (a : Nat → Int32) (b : Nat → Int64) (v : Int32) : g_cell Y 3 (upd a 1 v) b = .inr (0, [.int (a 0), .int (a 1), .int (a 2), .int (a 3), g_r Y 4, g_r Y 5, g_r Y 6, g_r Y 7].set 1 (.int v)) := rfl
theorem gp_3_2 (Y : g_Y) (a : Nat → Int32) (b : Nat → Int64) (v : Int32) : g_cell Y 3 (upd a 2 v) b = .inr (0, [.int (a 0), .int (a 1), .int (a 2), .int (a 3), g_r Y 4, g_r Y 5, g_r Y 6, g_r Y 7].set 2 (.int v)) := rfl
theorem gp_3_3 (Y : g_Y) (a : Nat → Int32) (b : Nat → Int64) (v : Int32) : g_cell Y 3 (upd a 3 v) b = .inr (0, [.int (a 0), .int (a 1), .int (a 2), .int (a 3), g_r Y 4, g_r Y 5, g_r Y 6, g_r Y 7].set 3 (.int v)) := rfl
theorem gp_8_0 (Y : g_Y) (a : Nat → Int32) (b : Nat → Int64) (v : Int32) : g_cell Y 8 (upd a 0 v) b = .inr (0, [.int (a 0), .int (a 1), .int (a 2), .int (a 3), g_r Y 9, g_r Y 10, g_r Y 11, g_r Y 12].set 0 (.int v)) := rfl
theorem gp_8_1 (Y : g_Y) (a : Nat → Int32) (b : Nat → Int64) (v : Int32) : g_cell Y 8 (upd a 1 v) b = .inr (0, [.int (a 0), .int (a 1), .int (a 2), .int (a 3), g_r Y 9, g_r Y 10, g_r Y 11, g_r Y 12].set 1 (.int v)) := rfl
theorem gp_8_2 (Y : g_Y) (a : Nat → Int32) (b : Nat → Int64) (v : Int32) : g_cell Y 8 (upd a 2 v) b = .inr (0, [.int (a 0), .int (a 1), .int (a 2), .int (a 3), g_r Y 9, g_r Y 10, g_r Y 11, g_r Y 12].set 2 (.int v)) := rfl
theorem gp_8_3 (Y : g_Y) (a : Nat → Int32) (b : Nat → Int64) (v : Int32) : g_cell Y 8 (upd a 3 v) b = .inr (0, [.int (a 0), .int (a 1), .int (a 2), .int (a 3), g_r Y 9, g_r Y 10, g_r Y 11, g_r Y 12].set 3 (.int v)) := rfl
theorem gp_13_0 (Y : g_Y) (a : Nat → Int32) (b : Nat → Int64) (v : Int32) : g_cell Y 13 (upd a 0 v) b = .inr (10, [.int (a 0), .int (a 1), .int (a 2), g_r Y 14, g_r Y 15].set 0 (.int v)) := rfl
theorem gp_13_1 (Y : g_Y) (a : Nat → Int32) (b : Nat → Int64) (v : Int32) : g_cell Y 13 (upd a 1 v) b = .inr (10, [.int (a 0), .int (a 1), .int (a 2), g_r Y 14, g_r Y 15].set 1 (.int v)) := rfl
theorem gp_13_2 (Y : g_Y) (a : Nat → Int32) (b : Nat → Int64) (v : Int32) : g_cell Y 13 (upd a 2 v) b = .inr (10, [.int (a 0), .int (a 1), .int (a 2), g_r Y 14, g_r Y 15].set 2 (.int v)) := rfl
theorem gp_24_0 (Y : g_Y) (a : Nat → Int32) (b : Nat → Int64) (v : Int32) : g_cell Y 24 (upd a 0 v) b = .inr (4, [.int (a 0), .int (a 1), g_r Y 25, g_r Y 26, g_r Y 27, g_r Y 28, g_r Y 29, g_r Y 30, g_r Y 31].set 0 (.int v)) := rfl
theorem gp_24_1 (Y : g_Y) (a : Nat → Int32) (b : Nat → Int64) (v : Int32) : g_cell Y 24 (upd a 1 v) b = .inr (4, [.int (a 0), .int (a 1), g_r Y 25, g_r Y 26, g_r Y 27, g_r Y 28, g_r Y 29, g_r Y 30, g_r Y 31].set 1 (.int v)) := rfl
theorem gp_32_2 (Y : g_Y) (a : Nat → Int32) (b : Nat → Int64) (v : Int32) : g_cell Y 32 (upd a 2 v) b = .inr (9, [g_r Y 33, g_r Y 35, .int (a 2), g_r Y 77, g_r Y 78, g_r Y 79, .int (a 6), .int (a 7)].set 2 (.int v)) := rfl
theorem gp_32_6 (Y : g_Y) (a : Nat → Int32) (b : Nat → Int64) (v : Int32) : g_cell Y 32 (upd a 6 v) b = .inr (9, [g_r Y 33, g_r Y 35, .int (a 2), g_r Y 77, g_r Y 78, g_r Y 79, .int (a 6), .int (a 7)].set 6 (.int v)) := rfl
theorem gp_32_7 (Y : g_Y) (a : Nat → Int32) (b : Nat → Int64) (v : Int32) : g_cell Y 32 (upd a 7 v) b = .inr (9, [g_r Y 33, g_r Y 35, .int (a 2), g_r Y 77, g_r Y 78, g_r Y 79, .int (a 6), .int (a 7)].set 7 (.int v)) := rfl
theorem gp_33_1 (Y : g_Y) (a : Nat → Int32) (b : Nat → Int64) (v : Int32) : g_cell Y 33 (upd a 1 v) b = .inr (8, [g_r Y 34, .int (a 1)].set 1 (.int v)) := rfl
theorem gp_36_2 (Y : g_Y) (a : Nat → Int32) (b : Nat → Int64) (v : Int32) : g_cell Y 36 (upd a 2 v) b = .inr (5, [g_r Y 37, g_r Y 38, .int (a 2)].set 2 (.int v)) := rfl
theorem gp_39_1 (Y : g_Y) (a : Nat → Int32) (b : Nat → Int64) (v : Int32) : g_cell Y 39 (upd a 1 v) b = .inr (1, [g_r Y 40, .int (a 1), .int (a 2)].set 1 (.int v)) := rfl
theorem gp_39_2 (Y : g_Y) (a : Nat → Int32) (b : Nat → Int64) (v : Int32) : g_cell Y 39 (upd a 2 v) b = .inr (1, [g_r Y 40, .int (a 1), .int (a 2)].set 2 (.int v)) := rfl
theorem gp_41_1 (Y : g_Y) (a : Nat → Int32) (b : Nat → Int64) (v : Int32) : g_cell Y 41 (upd a 1 v) b = .inr (1, [g_r Y 42, .int (a 1), .int (a 2)].set 1 (.int v)) := rfl
theorem gp_41_2 (Y : g_Y) (a : Nat → Int32) (b : Nat → Int64) (v : Int32) : g_cell Y 41 (upd a 2 v) b = .inr (1, [g_r Y 42, .int (a 1), .int (a 2)].set 2 (.int v)) := rfl
theorem gp_43_1 (Y : g_Y) (a : Nat → Int32) (b : Nat → Int64) (v : Int32) : g_cell Y 43 (upd a 1 v) b = .inr (6, [g_r Y 44, .int (a 1), g_r Y 45].set 1 (.int v)) := rfl
theorem gp_46_3 (Y : g_Y) (a : Nat → Int32) (b : Nat → Int64) (v : Int32) : g_cell Y 46 (upd a 3 v) b = .inr (3, [g_r Y 47, g_r Y 48, g_r Y 49, .int (a 3), .int (a 4)].set 3 (.int v)) := rfl
theorem gp_46_4 (Y : g_Y) (a : Nat → Int32) (b : Nat → Int64) (v : Int32) : g_cell Y 46 (upd a 4 v) b = .inr (3, [g_r Y 47, g_r Y 48, g_r Y 49, .int (a 3), .int (a 4)].set 4 (.int v)) := rfl
theorem gp_51_0 (Y : g_Y) (a : Nat → Int32) (b : Nat → Int64) (v : Int32) : g_cell Y 51 (upd a 0 v) b = .inr (7, [.int (a 0), .int (a 1), g_r Y 55].set 0 (.int v)) := rfl
theorem gp_51_1 (Y : g_Y) (a : Nat → Int32) (b : Nat → Int64) (v : Int32) : g_cell Y 51 (upd a 1 v) b = .inr (7, [.int (a 0), .int (a 1), g_r Y 55].set 1 (.int v)) := rfl
theorem gp_52_0 (Y : g_Y) (a : Nat → Int32) (b : Nat → Int64) (v : Int32) : g_cell Y 52 (upd a 0 v) b = .inr (7, [.int (a 0), .int (a 1), g_r Y 56].set 0 (.int v)) := rfl
theorem gp_52_1 (Y : g_Y) (a : Nat → Int32) (b : Nat → Int64) (v : Int32) : g_cell Y 52 (upd a 1 v) b = .inr (7, [.int (a 0), .int (a 1), g_r Y 56].set 1 (.int v)) := rfl
theorem gp_53_0 (Y : g_Y) (a : Nat → Int32) (b : Nat → Int64) (v : Int32) : g_cell Y 53 (upd a 0 v) b = .inr (7, [.int (a 0), .int (a 1), g_r Y 57].set 0 (.int v)) := rfl
theorem gp_53_1 (Y : g_Y) (a : Nat → Int32) (b : Nat → Int64) (v : Int32) : g_cell Y 53 (upd a 1 v) b = .inr (7, [.int (a 0), .int (a 1), g_r Y 57].set 1 (.int v)) := rfl
theorem gp_54_0 (Y : g_Y) (a : Nat → Int32) (b : Nat → Int64) (v : Int32) : g_cell Y 54 (upd a 0 v) b = .inr (7, [.int (a 0), .int (a 1), g_r Y 58].set 0 (.int v)) := rfl
theorem gp_54_1 (Y : g_Y) (a : Nat → Int32) (b : Nat → Int64) (v : Int32) : g_cell Y 54 (upd a 1 v) b = .inr (7, [.int (a 0), .int (a 1), g_r Y 58].set 1 (.int v)) := rfl
theorem gp_59_2 (Y : g_Y) (a : Nat → Int32) (b : Nat → Int64) (v : Int32) : g_cell Y 59 (upd a 2 v) b = .inr (12, [g_r Y 60, g_r Y 61, .int (a 2), g_r Y 62, .int (a 4), g_r Y 63, .int (a 6), .int (a 7), .int (a 8), .int (a 9), .int (a 10), .int (a 11), .int (a 12), .int (a 13), .int (a 14), .int (a 15), .int (a 16), g_r Y 64, g_r Y 65, g_r Y 66, g_r Y 67, g_r Y 68, g_r Y 69, g_r Y 70, g_r Y 71, g_r Y 72, .int (a 26), g_r Y 73, g_r Y 74, g_r Y 75, g_r Y 76].set 2 (.int v)) := rfl
theorem gp_59_4 (Y : g_Y) (a : Nat → Int32) (b : Nat → Int64) (v : Int32) : g_cell Y 59 (upd a 4 v) b = .inr (12, [g_r Y 60, g_r Y 61, .int (a 2), g_r Y 62, .int (a 4), g_r Y 63, .int (a 6), .int (a 7), .int (a 8), .int (a 9), .int (a 10), .int (a 11), .int (a 12), .int (a 13), .int (a 14), .int (a 15), .int (a 16), g_r Y 64, g_r Y 65, g_r Y 66, g_r Y 67, g_r Y 68, g_r Y 69, g_r Y 70, g_r Y 71, g_r Y 72, .int (a 26), g_r Y 73, g_r Y 74, g_r Y 75, g_r Y 76].set 4 (.int v)) := rfl
theorem gp_59_6 (Y : g_Y) (a : Nat → Int32) (b : Nat → Int64) (v : Int32) : g_cell Y 59 (upd a 6 v) b = .inr (12, [g_r Y 60, g_r Y 61, .int (a 2), g_r Y 62, .int (a 4), g_r Y 63, .int (a 6), .int (a 7), .int (a 8), .int (a 9), .int (a 10), .int (a 11), .int (a 12), .int (a 13), .int (a 14), .int (a 15), .int (a 16), g_r Y 64, g_r Y 65, g_r Y 66, g_r Y 67, g_r Y 68, g_r Y 69, g_r Y 70, g_r Y 71, g_r Y 72, .int (a 26), g_r Y 73, g_r Y 74, g_r Y 75, g_r Y 76].set 6 (.int v)) := rfl
theorem gp_59_7 (Y : g_Y) (a : Nat → Int32) (b : Nat → Int64) (v : Int32) : g_cell Y 59 (upd a 7 v) b = .inr (12, [g_r Y 60, g_r Y 61, .int (a 2), g_r Y 62, .int (a 4), g_r Y 63, .int (a 6), .int (a 7), .int (a 8), .int (a 9), .int (a 10), .int (a 11), .int (a 12), .int (a 13), .int (a 14), .int (a 15), .int (a 16), g_r Y 64, g_r Y 65, g_r Y 66, g_r Y 67, g_r Y 68, g_r Y 69, g_r Y 70, g_r Y 71, g_r Y 72, .int (a 26), g_r Y 73, g_r Y 74, g_r Y 75, g_r Y 76].set 7 (.int v)) := rfl
theorem gp_59_8 (Y : g_Y) (a : Nat → Int32) (b : Nat → Int64) (v : Int32) : g_cell Y 59 (upd a 8 v) b = .inr (12, [g_r Y 60, g_r Y 61, .int (a 2), g_r Y 62, .int (a 4), g_r Y 63, .int (a 6), .int (a 7), .int (a 8), .int (a 9), .int (a 10), .int (a 11), .int (a 12), .int (a 13), .int (a 14), .int (a 15), .int (a 16), g_r Y 64, g_r Y 65, g_r Y 66, g_r Y 67, g_r Y 68, g_r Y 69, g_r Y 70, g_r Y 71, g_r Y 72, .int (a 26), g_r Y 73, g_r Y 74, g_r Y 75, g_r Y 76].set 8 (.int v)) := rfl
theorem gp_59_9 (Y : g_Y) (a : Nat → Int32) (b : Nat → Int64) (v : Int32) : g_cell Y 59 (upd a 9 v) b = .inr (12, [g_r Y 60, g_r Y 61, .int (a 2), g_r Y 62, .int (a 4), g_r Y 63, .int (a 6), .int (a 7), .int (a 8), .int (a 9), .int (a 10), .int (a 11), .int (a 12), .int (a 13), .int (a 14), .int (a 15), .int (a 16), g_r Y 64, g_r Y 65, g_r Y 66, g_r Y 67, g_r Y 68, g_r Y 69, g_r Y 70, g_r Y 71, g_r Y 72, .int (a 26), g_r Y 73, g_r Y 74, g_r Y 75, g_r Y 76].set 9 (.int v)) := rfl
theorem gp_59_10 (Y : g_Y) (a : Nat → Int32) (b : Nat → Int64) (v : Int32) : g_cell Y 59 (upd a 10 v) b = .inr (12, [g_r Y 60, g_r Y 61, .int (a 2), g_r Y 62, .int (a 4), g_r Y 63, .int (a 6), .int (a 7), .int (a 8), .int (a 9), .int (a 10), .int (a 11), .int (a 12), .int (a 13), .int (a 14), .int (a 15), .int (a 16), g_r Y 64, g_r Y 65, g_r Y 66, g_r Y 67, g_r Y 68, g_r Y 69, g_r Y 70, g_r Y 71, g_r Y 72, .int (a 26), g_r Y 73, g_r Y 74, g_r Y 75, g_r Y 76].set 10 (.int v)) := rfl
theorem gp_59_11 (Y : g_Y) (a : Nat → Int32) (b : Nat → Int64) (v : Int32) : g_cell Y 59 (upd a 11 v) b = .inr (12, [g_r Y 60, g_r Y 61, .int (a 2), g_r Y 62, .int (a 4), g_r Y 63, .int (a 6), .int (a 7), .int (a 8), .int (a 9), .int (a 10), .int (a 11), .int (a 12), .int (a 13), .int (a 14), .int (a 15), .int (a 16), g_r Y 64, g_r Y 65, g_r Y 66, g_r Y 67, g_r Y 68, g_r Y 69, g_r Y 70, g_r Y 71, g_r Y 72, .int (a 26), g_r Y 73, g_r Y 74, g_r Y 75, g_r Y 76].set 11 (.int v)) := rfl
theorem gp_59_12 (Y : g_Y) (a : Nat → Int32) (b : Nat → Int64) (v : Int32) : g_cell Y 59 (upd a 12 v) b = .inr (12, [g_r Y 60, g_r Y 61, .int (a 2), g_r Y 62, .int (a 4), g_r Y 63, .int (a 6), .int (a 7), .int (a 8), .int (a 9), .int (a 10), .int (a 11), .int (a 12), .int (a 13), .int (a 14), .int (a 15), .int (a 16), g_r Y 64, g_r Y 65, g_r Y 66, g_r Y 67, g_r Y 68, g_r Y 69, g_r Y 70, g_r Y 71, g_r Y 72, .int (a 26), g_r Y 73, g_r Y 74, g_r Y 75, g_r Y 76].set 12 (.int v)) := rfl
theorem gp_59_13 (Y : g_Y) (a : Nat → Int32) (b : Nat → Int64) (v : Int32) : g_cell Y 59 (upd a 13 v) b = .inr (12, [g_r Y 60, g_r Y 61, .int (a 2), g_r Y 62, .int (a 4), g_r Y 63, .int (a 6), .int (a 7), .int (a 8), .int (a 9), .int (a 10), .int (a 11), .int (a 12), .int (a 13), .int (a 14), .int (a 15), .int (a 16), g_r Y 64, g_r Y 65, g_r Y 66, g_r Y 67, g_r Y 68, g_r Y 69, g_r Y 70, g_r Y 71, g_r Y 72, .int (a 26), g_r Y 73, g_r Y 74, g_r Y 75, g_r Y 76].set 13 (.int v)) := rfl
theorem gp_59_14 (Y : g_Y) (a : Nat → Int32) (b : Nat → Int64) (v : Int32) : g_cell Y 59 (upd a 14 v) b = .inr (12, [g_r Y 60, g_r Y 61, .int (a 2), g_r Y 62, .int (a 4), g_r Y 63, .int (a 6), .int (a 7), .int (a 8), .int (a 9), .int (a 10), .int (a 11), .int (a 12), .int (a 13), .int (a 14), .int (a 15), .int (a 16), g_r Y 64, g_r Y 65, g_r Y 66, g_r Y 67, g_r Y 68, g_r Y 69, g_r Y 70, g_r Y 71, g_r Y 72, .int (a 26), g_r Y 73, g_r Y 74, g_r Y 75, g_r Y 76].set 14 (.int v)) := rfl
theorem gp_59_15 (Y : g_Y) (a : Nat → Int32) (b : Nat → Int64) (v : Int32) : g_cell Y 59 (upd a 15 v) b = .inr (12, [g_r Y 60, g_r Y 61, .int (a 2), g_r Y 62, .int (a 4), g_r Y 63, .int (a 6), .int (a 7), .int (a 8), .int (a 9), .int (a 10), .int (a 11), .int (a 12), .int (a 13), .int (a 14), .int (a 15), .int (a 16), g_r Y 64, g_r Y 65, g_r Y 66, g_r Y 67, g_r Y 68, g_r Y 69, g_r Y 70, g_r Y 71, g_r Y 72, .int (a 26), g_r Y 73, g_r Y 74, g_r Y 75, g_r Y 76].set 15 (.int v)) := rfl
theorem gp_59_16 (Y : g_Y) (a : Nat → Int32) (b : Nat → Int64) (v : Int32) : g_cell Y 59 (upd a 16 v) b = .inr (12, [g_r Y 60, g_r Y 61, .int (a 2), g_r Y 62, .int (a 4), g_r Y 63, .int (a 6), .int (a 7), .int (a 8), .int (a 9), .int (a 10), .int (a 11), .int (a 12), .int (a 13), .int (a 14), .int (a 15), .int (a 16), g_r Y 64, g_r Y 65, g_r Y 66, g_r Y 67, g_r Y 68, g_r Y 69, g_r Y 70, g_r Y 71, g_r Y 72, .int (a 26), g_r Y 73, g_r Y 74, g_r Y 75, g_r Y 76].set 16 (.int v)) := rfl
theorem gp_59_26 (Y : g_Y) (a : Nat → Int32) (b : Nat → Int64) (v : Int32) : g_cell Y 59 (upd a 26 v) b = .inr (12, [g_r Y 60, g_r Y 61, .int (a 2), g_r Y 62, .int (a 4), g_r Y 63, .int (a 6), .int (a 7), .int (a 8), .int (a 9), .int (a 10), .int (a 11), .int (a 12), .int (a 13), .int (a 14), .int (a 15), .int (a 16), g_r Y 64, g_r Y 65, g_r Y 66, g_r Y 67, g_r Y 68, g_r Y 69, g_r Y 70, g_r Y 71, g_r Y 72, .int (a 26), g_r Y 73, g_r Y 74, g_r Y 75, g_r Y 76].set 26 (.int v)) := rfl
theorem gc_sheet (Y : g_Y) (a : Nat → Int32) (b : Nat → Int64) {j : Nat} (h : j < 4) : g_cell Y (51 + j) a b = .inr (7, [.int (a 0), .int (a 1), g_r Y (55 + j)]) := by
  rcases (show j = 0 ∨ j = 1 ∨ j = 2 ∨ j = 3 by omega) with rfl | rfl | rfl | rfl <;> rfl
theorem gp_sheet_0 (Y : g_Y) (a : Nat → Int32) (b : Nat → Int64) (v : Int32) {j : Nat} (h : j < 4) : g_cell Y (51 + j) (upd a 0 v) b = .inr (7, [.int (a 0), .int (a 1), g_r Y (55 + j)].set 0 (.int v)) := by
  rcases (show j = 0 ∨ j = 1 ∨ j = 2 ∨ j = 3 by omega) with rfl | rfl | rfl | rfl <;> rfl
theorem gp_sheet_1 (Y : g_Y) (a : Nat → Int32) (b : Nat → Int64) (v : Int32) {j : Nat} (h : j < 4) : g_cell Y (51 + j) (upd a 1 v) b = .inr (7, [.int (a 0), .int (a 1), g_r Y (55 + j)].set 1 (.int v)) := by
  rcases (show j = 0 ∨ j = 1 ∨ j = 2 ∨ j = 3 by omega) with rfl | rfl | rfl | rfl <;> rfl
theorem gc_nums (Y : g_Y) (a : Nat → Int32) (b : Nat → Int64) {j : Nat} (h : j < 4) : g_cell Y (55 + j) a b = .inl (Y.2.1 1, 40, .inr (.inl b)) := by
  rcases (show j = 0 ∨ j = 1 ∨ j = 2 ∨ j = 3 by omega) with rfl | rfl | rfl | rfl <;> rfl
theorem gc_codes (Y : g_Y) (a : Nat → Int32) (b : Nat → Int64) {j : Nat} (h : j < 8) : g_cell Y (16 + j) a b = .inl (Y.2.1 0, 120, .inl a) := by
  rcases (show j = 0 ∨ j = 1 ∨ j = 2 ∨ j = 3 ∨ j = 4 ∨ j = 5 ∨ j = 6 ∨ j = 7 by omega) with rfl | rfl | rfl | rfl | rfl | rfl | rfl | rfl <;> rfl
/-- the texts of the program: place by place -/
def g_slen : List Nat := [3, 5, 2, 3, 3, 5, 2, 3, 3, 5, 8]
def g_sbyt : List (List Int32) := [[109, 97, 121], [110, 101, 118, 101, 114], [111, 114], [97, 110, 100], [110, 111, 116], [108, 101, 97, 115, 116], [111, 102], [97, 108, 108], [97, 110, 121], [119, 101, 105, 103, 104], [101, 118, 101, 114, 121, 111, 110, 101]]
def g_strs : List (String × Nat × String × Nat) := [(RX9, 106, "may", 0), (RX9, 112, "never", 1), (RX9, 114, "or", 2), (RX9, 116, "and", 3), (RX9, 118, "not", 4), (RX9, 120, "least", 5), (RX9, 122, "of", 6), (RX9, 124, "all", 7), (RX9, 126, "any", 8), (RX9, 128, "weigh", 9), (RX9, 130, "everyone", 10), (RX12, 183, "may", 0), (RX12, 185, "never", 1), (RX12, 179, "or", 2), (RX12, 174, "and", 3), (RX12, 166, "not", 4), (RX12, 137, "least", 5), (RX12, 139, "of", 6), (RX12, 150, "all", 7), (RX12, 152, "any", 8), (RX12, 154, "weigh", 9), (RX12, 119, "everyone", 10)]
/-- the texts and the JDK's statics that reading them needs -/
def g_S (Y : g_Y) (A : Nat → Prop) (U : State) (H : Heap) : Prop := (∀ q ∈ g_strs, vk_R q.1 q.2.1 q.2.2.1 (Y.2.2.2.1 q.2.2.2) U) ∧ vk_S 11 g_slen g_sbyt Y.2.2.2.1 Y.2.2.2.2 A U H ∧ va_Z "java/lang/String" "COMPACT_STRINGS" "Z" (.int 1) A U H ∧ va_Zq "jdk/internal/util/Preconditions" "SIOOBE_FORMATTER" "Ljava/util/function/BiFunction;" A U H
theorem g_S.kept {Y : g_Y} {A : Nat → Prop} {U : State} {H H1 : Heap} (h : g_S Y A U H) (hq : ∀ a : Nat, a < H.size → ¬ A a → H1[a]? = H[a]?) : g_S Y A U H1 := ⟨h.1, h.2.1.kept hq, h.2.2.1.kept hq, h.2.2.2.kept hq⟩
theorem g_S.narrow {Y : g_Y} {A B : Nat → Prop} {U : State} {H : Heap} (h : g_S Y A U H) (hAB : ∀ q, B q → A q) : g_S Y B U H := ⟨h.1, h.2.1.narrow hAB, h.2.2.1.narrow hAB, h.2.2.2.narrow hAB⟩
theorem g_S.warm {Y : g_Y} {A : Nat → Prop} {s U : State} {H : Heap} (hW : s.WarmedH U.vm) (h : g_S Y A s H) : g_S Y A U H := ⟨fun q hq => (h.1 q hq).warm hW, h.2.1.moved hW.alike, h.2.2.1.moved hW.alike, h.2.2.2.moved hW.alike⟩
theorem g_S.same {Y : g_Y} {A : Nat → Prop} {s U : State} {H : Heap} (hv : U.vm = s.vm) (h : g_S Y A s H) : g_S Y A U H := ⟨fun q hq => (h.1 q hq).same hv, h.2.1.moved (by rw [hv]; exact Vm.Alike.refl _), h.2.2.1.moved (by rw [hv]; exact Vm.Alike.refl _), h.2.2.2.moved (by rw [hv]; exact Vm.Alike.refl _)⟩
/-- a body's surroundings: program, launch, environment, room, start, method, arguments, frames below, method, code, end, what may change, cells and slots so far -/
abbrev g_X : Type := Program × Launch × Env × Room × State × MethodId × Array Value × List Frame × Method × Code × (State → Prop) × (Nat → Prop) × Nat × Nat
abbrev g_X.p (X : g_X) : Program := X.1
abbrev g_X.l (X : g_X) : Launch := X.2.1
abbrev g_X.e (X : g_X) : Env := X.2.2.1
abbrev g_X.R (X : g_X) : Room := X.2.2.2.1
abbrev g_X.s (X : g_X) : State := X.2.2.2.2.1
abbrev g_X.m (X : g_X) : MethodId := X.2.2.2.2.2.1
abbrev g_X.args (X : g_X) : Array Value := X.2.2.2.2.2.2.1
abbrev g_X.below (X : g_X) : List Frame := X.2.2.2.2.2.2.2.1
abbrev g_X.meth (X : g_X) : Method := X.2.2.2.2.2.2.2.2.1
abbrev g_X.c (X : g_X) : Code := X.2.2.2.2.2.2.2.2.2.1
abbrev g_X.Q (X : g_X) : State → Prop := X.2.2.2.2.2.2.2.2.2.2.1
abbrev g_X.A (X : g_X) : Nat → Prop := X.2.2.2.2.2.2.2.2.2.2.2.1
abbrev g_X.cells (X : g_X) : Nat := X.2.2.2.2.2.2.2.2.2.2.2.2.1
abbrev g_X.slots (X : g_X) : Nat := X.2.2.2.2.2.2.2.2.2.2.2.2.2
def g_C (l : Launch) (R : Room) (own : String) (cc : ByteArray) (nL : Nat) (X : g_X) (Y : g_Y) : Prop :=
  X.p.tables.exec = Jvm.exec ∧ X.c.code = cc ∧ X.c.maxLocals = nL ∧ X.s.vm.findClass own = some X.m.cls ∧ (∀ w ∈ g_ws, w.before X.args X.s = true) ∧ va_K Y.1 vwCl (g_tys Y) X.s ∧ g_inj Y ∧ (∀ k, k < 80 → X.A (Y.2.2.1 k)) ∧ g_S Y X.A X.s X.s.heap ∧ X.l = l ∧ X.R = R ∧ X.cells ≤ R.cells ∧ X.slots ≤ R.slots
/-- from this pc, these places and this stack, over this memory, the body comes to its end -/
def g_G (nL : Nat) (X : g_X) (Y : g_Y) (pc : Nat) (lv : List (Nat × Value)) (st : List Value) (M : g_M) : Prop :=
  ∀ (H : Heap) (locs : List Loc) (ls : Array Slot), va_P Y.1 vwCl (g_w Y M) H → va_S X.A X.s.heap H locs → lv_has ls nL lv → W X.p X.l X.e X.R X.s X.m X.args X.below X.meth X.c H locs X.cells X.slots X.Q (F0 X.m pc ls st)
/-- the room of a method that stands h calls above the ground -/
def g_rm (h : Nat) : Room := { frames := h, cells := 0, slots := 0, locals := 64 * h }
def g_Pc (Y : g_Y) (as : List Value) (M : g_M) : Array Value → State → Prop := va_Pc as (fun U => va_P Y.1 vwCl (g_w Y M) U.heap ∧ va_K Y.1 vwCl (g_tys Y) U ∧ g_inj Y ∧ g_S Y (g_A Y) U U.heap)
def g_Qc (Y : g_Y) (r : Option Value) (M : g_M) : Array Value → State → Outcome → State → Prop := fun _ st oc t => oc = .returned r ∧ va_P Y.1 vwCl (g_w Y M) t.heap ∧ va_F (g_A Y) st t
/-- THE CONTRACT: method y, called so over the memory M, answers r and leaves M' -/
def g_R (l : Launch) (Y : g_Y) (h : Nat) (y : MethodName) (cc : ByteArray) (nL : Nat) (ret : Option FieldType) (as : List Value) (M : g_M) (r : Option Value) (M' : g_M) : Prop :=
  Met l y (Cond.code y cc nL ret :: g_ws) (g_rm h) (g_Pc Y as M) (g_Qc Y r M') 0 0 (g_A Y)
/-- where a body ends -/
def g_E (ret : Option FieldType) (X : g_X) (Y : g_Y) (r : Option Value) (M : g_M) : Prop := X.Q = MQ X.below (g_Qc Y r M) X.args X.s X.cells X.slots (g_A Y) ∧ X.meth.sig.returnType = ret ∧ X.meth.locks = false ∧ X.A = g_A Y
theorem g_R_of {l : Launch} {Y : g_Y} {h : Nat} {y : MethodName} {cc : ByteArray} {nL : Nat} {ret : Option FieldType} {as : List Value} {M : g_M} {r : Option Value} {M' : g_M} {own : String} (hy : plainName y.cls = true) (ho : y.cls = own) (hlen : (lg_sl as).length ≤ nL)
    (body : ∀ X : g_X, g_C l (g_rm h) own cc nL X Y → g_E ret X Y r M' → g_G nL X Y 0 (lv_args 0 as) [] M) : g_R l Y h y cc nL ret as M r M' := by
  subst ho
  refine Met.ofW (cc := cc) (maxL := nL) (ret := ret) hy rfl ?_
  intro p e s m args below meth c s₁ B hml hv
  obtain ⟨rfl, hP, hK, hJ, hS⟩ := hv
  have hts := atoms_spec (ws := Cond.code y cc nL ret :: g_ws) B.pre
  have hown : s.vm.findClass y.cls = some m.cls := findClass_of_methodNamed B.named
  have hl := lv_entry as (n := nL) hlen
  rw [lg_entry_eq]
  exact body (p, l, e, (headSpec (Cond.code y cc nL ret :: g_ws) (g_rm h)).room, s, m, as.toArray, below, meth, c, MQ below (g_Qc Y r M') as.toArray s 0 0 (g_A Y), g_A Y, 0, 0)
    ⟨B.exec, B.bytes, hml, hown, fun w hw => hts w (List.mem_cons_of_mem _ hw), hK, hJ, fun k hk => ⟨k, hk, rfl⟩, hS, rfl, rfl, Nat.zero_le _, Nat.zero_le _⟩ ⟨rfl, B.returns, B.notSynchronized, rfl⟩ s.heap [] _ hP va_S.rf hl
theorem g_sub {nL : Nat} {X : g_X} {Y : g_Y} {pc : Nat} {lv lv' : List (Nat × Value)} {st : List Value} {M : g_M} (ks : List Nat) (hl : lv_pick lv ks = lv') (k : g_G nL X Y pc lv' st M) : g_G nL X Y pc lv st M := fun H locs ls hP hS h => k H locs ls hP hS (lv_sub h ks hl)
theorem g_top {nL : Nat} {X : g_X} {Y : g_Y} {pc : Nat} {lv : List (Nat × Value)} {st : List Value} {M : g_M} {x y : Int32} (h : some x = some y) (k : g_G nL X Y pc lv (.int y :: st) M) : g_G nL X Y pc lv (.int x :: st) M := by cases h; exact k
theorem g_topl {nL : Nat} {X : g_X} {Y : g_Y} {pc : Nat} {lv : List (Nat × Value)} {st : List Value} {M : g_M} {x y : Int64} (h : some x = some y) (k : g_G nL X Y pc lv (.long y :: st) M) : g_G nL X Y pc lv (.long x :: st) M := by cases h; exact k
/-- the partial acts, as options -/
def g_in (n : Nat) (i : Int32) : Option Nat := if i < 0 ∨ n ≤ i.toNatClampNeg then none else some i.toNatClampNeg
def g_ld (M : g_M) (c n : Nat) (i : Int32) : Option Int32 := if i < 0 ∨ n ≤ i.toNatClampNeg then none else some (M.1 c i.toNatClampNeg)
def g_ldl (M : g_M) (c n : Nat) (i : Int32) : Option Int64 := if i < 0 ∨ n ≤ i.toNatClampNeg then none else some (M.2 c i.toNatClampNeg)
def g_st (M : g_M) (c n : Nat) (i v : Int32) : Option g_M := if i < 0 ∨ n ≤ i.toNatClampNeg then none else some (g_u M c i.toNatClampNeg v)
def g_stl (M : g_M) (c n : Nat) (i : Int32) (v : Int64) : Option g_M := if i < 0 ∨ n ≤ i.toNatClampNeg then none else some (g_ul M c i.toNatClampNeg v)
def g_bz (v : Int32) : Option Int32 := if v = 0 ∨ v = 1 then some v else none
def g_nz (v : Int32) : Option Int32 := if v = 0 then none else some v
def g_cpi (M : g_M) (c n c' n' : Nat) (sp dp k : Int32) : Option g_M := if sp < 0 ∨ dp < 0 ∨ k < 0 ∨ n < sp.toNatClampNeg + k.toNatClampNeg ∨ n' < dp.toNatClampNeg + k.toNatClampNeg then none else some (g_uR M c' (va_cpy (M.1 c) (M.1 c') sp.toNatClampNeg dp.toNatClampNeg k.toNatClampNeg))
def g_cpl (M : g_M) (c n c' n' : Nat) (sp dp k : Int32) : Option g_M := if sp < 0 ∨ dp < 0 ∨ k < 0 ∨ n < sp.toNatClampNeg + k.toNatClampNeg ∨ n' < dp.toNatClampNeg + k.toNatClampNeg then none else some (g_uRl M c' (va_cpy (M.2 c) (M.2 c') sp.toNatClampNeg dp.toNatClampNeg k.toNatClampNeg))
theorem g_bind {α β : Type} {o : Option α} {f : α → Option β} {r : β} (h : o.bind f = some r) : ∃ v, o = some v ∧ f v = some r := by
  cases o with
  | none => simp at h
  | some v => exact ⟨v, rfl, h⟩
theorem g_in_s {n : Nat} {i : Int32} {j : Nat} (h : g_in n i = some j) : vp_in i n ∧ j = i.toNatClampNeg ∧ j < n := by
  unfold g_in at h
  by_cases c : i < 0 ∨ n ≤ i.toNatClampNeg
  · rw [if_pos c] at h; cases h
  · rw [if_neg c] at h; cases h
    exact ⟨c, rfl, Nat.not_le.mp fun q => c (Or.inr q)⟩
theorem g_ld_s {M : g_M} {c n : Nat} {i v : Int32} (h : g_ld M c n i = some v) : vp_in i n ∧ v = M.1 c i.toNatClampNeg := by
  unfold g_ld at h
  by_cases d : i < 0 ∨ n ≤ i.toNatClampNeg
  · rw [if_pos d] at h; cases h
  · rw [if_neg d] at h; cases h
    exact ⟨d, rfl⟩
theorem g_ldl_s {M : g_M} {c n : Nat} {i : Int32} {v : Int64} (h : g_ldl M c n i = some v) : vp_in i n ∧ v = M.2 c i.toNatClampNeg := by
  unfold g_ldl at h
  by_cases d : i < 0 ∨ n ≤ i.toNatClampNeg
  · rw [if_pos d] at h; cases h
  · rw [if_neg d] at h; cases h
    exact ⟨d, rfl⟩
theorem g_st_s {M M' : g_M} {c n : Nat} {i v : Int32} (h : g_st M c n i v = some M') : vp_in i n ∧ M' = g_u M c i.toNatClampNeg v := by
  unfold g_st at h
  by_cases d : i < 0 ∨ n ≤ i.toNatClampNeg
  · rw [if_pos d] at h; cases h
  · rw [if_neg d] at h; cases h
    exact ⟨d, rfl⟩
theorem g_stl_s {M M' : g_M} {c n : Nat} {i : Int32} {v : Int64} (h : g_stl M c n i v = some M') : vp_in i n ∧ M' = g_ul M c i.toNatClampNeg v := by
  unfold g_stl at h
  by_cases d : i < 0 ∨ n ≤ i.toNatClampNeg
  · rw [if_pos d] at h; cases h
  · rw [if_neg d] at h; cases h
    exact ⟨d, rfl⟩
theorem g_bz_s {v v' : Int32} (h : g_bz v = some v') : v' = v ∧ (v = 0 ∨ v = 1) := by
  unfold g_bz at h
  by_cases d : v = 0 ∨ v = 1
  · rw [if_pos d] at h; cases h; exact ⟨rfl, d⟩
  · rw [if_neg d] at h; cases h
theorem g_nz_s {v v' : Int32} (h : g_nz v = some v') : v' = v ∧ ¬ v = 0 := by
  unfold g_nz at h
  by_cases d : v = 0
  · rw [if_pos d] at h; cases h
  · rw [if_neg d] at h; cases h; exact ⟨rfl, d⟩
theorem g_zn {v : Int32} (h : v = 0 ∨ v = 1) : narrow .boolean (.int v) = .int v ∧ fits .boolean (.int v) = true ∧ vp_nar .boolean v = v := by
  rcases h with rfl | rfl <;> exact ⟨rfl, rfl, rfl⟩
/-- a branch whose value is known to come out -/
theorem g_if {α : Type} {c : Prop} [Decidable c] {a b : Option α} {r : α} (h : (if c then a else b) = some r) : (c → a = some r) ∧ (¬ c → b = some r) := by
  by_cases d : c
  · rw [if_pos d] at h; exact ⟨fun _ => h, fun n => absurd d n⟩
  · rw [if_neg d] at h; exact ⟨fun n => absurd n d, fun _ => h⟩
theorem g_good2 {y' : MethodName} {cc' : ByteArray} {n' : Nat} {ret' : Option FieldType} (h : Cond.code y' cc' n' ret' ∈ g_ws) : GoodIn g_ws (Cond.code y' cc' n' ret' :: g_ws) := fun w hw => by
  rcases List.mem_cons.mp hw with rfl | hw
  · exact g_good _ h
  · exact g_good w hw
theorem g_blind {Y : g_Y} {as : List Value} {M : g_M} : FrameBlind (g_Pc Y as M) := fun a U g mk q => by
  obtain ⟨q0, qP, qK, qJ, qS⟩ := q
  exact ⟨q0, qP, va_K.moved (u := U) (U := U.calling g mk a) (Vm.Alike.refl U.vm) qK, qJ, g_S.same (s := U) (U := U.calling g mk a) rfl qS⟩
theorem g_pre {l : Launch} {R : Room} {own : String} {cc : ByteArray} {nL : Nat} {X : g_X} {Y : g_Y} {M : g_M} {H : Heap} {locs : List Loc} (C : g_C l R own cc nL X Y) (hP : va_P Y.1 vwCl (g_w Y M) H) (hS : va_S X.A X.s.heap H locs) {as : List Value} : ∀ U : State, U.heap = H → X.s.WarmedH U.vm → g_Pc Y as M as.toArray U := fun U hU hW =>
  ⟨rfl, by rw [hU]; exact hP, va_K.moved hW.alike C.2.2.2.2.2.1, C.2.2.2.2.2.2.1, by
    rw [hU]
    exact ((C.2.2.2.2.2.2.2.2.1.kept hS.2.1).narrow (fun q hq => by obtain ⟨k, hk, rfl⟩ := hq; exact C.2.2.2.2.2.2.2.1 k hk)).warm hW⟩
/-- behind a call -/
theorem g_behind {l : Launch} {R : Room} {own : String} {cc : ByteArray} {nL : Nat} {X : g_X} {Y : g_Y} {M' : g_M} {H : Heap} {locs : List Loc} (C : g_C l R own cc nL X Y) (hS : va_S X.A X.s.heap H locs) {pc : Nat} {ls : Array Slot} {st0 st : List Value} {r : Option Value} {a : Array Value}
    (hr : va_Run X.p X.l X.e X.R X.s X.m X.args X.below X.meth X.c H locs X.cells X.slots 0 0 (F0 X.m pc ls st0) st (g_Qc Y r M' a) (g_A Y))
    (kk : ∀ (H1 : Heap) (locs1 : List Loc), va_P Y.1 vwCl (g_w Y M') H1 → va_S X.A X.s.heap H1 locs1 → W X.p X.l X.e X.R X.s X.m X.args X.below X.meth X.c H1 locs1 X.cells X.slots X.Q (F0 X.m (pc + 3) ls (r.toList ++ st))) : W X.p X.l X.e X.R X.s X.m X.args X.below X.meth X.c H locs X.cells X.slots X.Q (F0 X.m pc ls st0) := by
  intro T hT Xs
  obtain ⟨v, st₀, t, T', L, h0, X', hL, e1, e2, ⟨hv, hP', hz, hk⟩, stp⟩ := hr T hT Xs
  cases hv
  rw [h0] at hz hk
  have hA : ∀ q, g_A Y q → X.A q := fun q hq => by obtain ⟨k, hk, rfl⟩ := hq; exact C.2.2.2.2.2.2.2.1 k hk
  obtain ⟨t2, a1, b1⟩ := kk T'.heap (locs ++ L) (by rw [e1]; exact hP')
    ⟨Nat.le_trans hS.1 (by rw [e1]; exact hz), fun q h1 h2 => by rw [e1, hk q (Nat.lt_of_lt_of_le h1 hS.1) (fun z => h2 (hA q z))]; exact hS.2.1 q h1 h2, fun q hq => by
      rcases List.mem_append.mp hq with h | h
      · exact hS.2.2 q h
      · exact hA _ (hL q h)⟩ T' rfl X'
  exact ⟨t2, stp t2 a1, b1⟩

section GROWS
variable {l : Launch} {R : Room} {own : String} {cc : ByteArray} {nL : Nat} {X : g_X} {Y : g_Y} {pc q tgt : Nat} {lv lv' : List (Nat × Value)} {st : List Value} {M : g_M}
theorem g_iconst (C : g_C l R own cc nL X Y) {n : Int} {v : Int32} (hd : decode cc pc = .ok (.iconst n, 1)) (hq : pc + 1 = q) (hv : Int32.ofInt n = v) (kk : g_G nL X Y q lv (.int v :: st) M) : g_G nL X Y pc lv st M := by
  subst hq
  intro H locs ls hP hS hl
  exact lv_iconst C.1 C.2.1 hd hv (kk H locs ls hP hS hl)
theorem g_bipush (C : g_C l R own cc nL X Y) {n : Int} {v : Int32} (hd : decode cc pc = .ok (.bipush n, 2)) (hq : pc + 2 = q) (hv : (Int8.ofInt n).toInt32 = v) (kk : g_G nL X Y q lv (.int v :: st) M) : g_G nL X Y pc lv st M := by
  subst hq
  intro H locs ls hP hS hl
  exact lv_bipush C.1 C.2.1 hd hv (kk H locs ls hP hS hl)
theorem g_sipush (C : g_C l R own cc nL X Y) {n : Int} {v : Int32} (hd : decode cc pc = .ok (.sipush n, 3)) (hq : pc + 3 = q) (hv : (Int16.ofInt n).toInt32 = v) (kk : g_G nL X Y q lv (.int v :: st) M) : g_G nL X Y pc lv st M := by
  subst hq
  intro H locs ls hP hS hl
  exact lv_sipush C.1 C.2.1 hd hv (kk H locs ls hP hS hl)
theorem g_lconst (C : g_C l R own cc nL X Y) {n : Fin 2} {v : Int64} (hd : decode cc pc = .ok (.lconst n, 1)) (hq : pc + 1 = q) (hv : Int64.ofNat (n : Nat) = v) (kk : g_G nL X Y q lv (.long v :: st) M) : g_G nL X Y pc lv st M := by
  subst hq
  intro H locs ls hP hS hl
  exact lv_lconst C.1 C.2.1 hd hv (kk H locs ls hP hS hl)
theorem g_iload_n (C : g_C l R own cc nL X Y) {n : Fin 4} (k : Nat) {i : Nat} {x : Int32} (hd : decode cc pc = .ok (.iload_n n, 1)) (hq : pc + 1 = q) (hi : (n : Nat) = i) (hk : lv[k]? = some (i, .int x)) (kk : g_G nL X Y q lv (.int x :: st) M) : g_G nL X Y pc lv st M := by
  subst hq
  intro H locs ls hP hS hl
  exact lv_iload_n C.1 C.2.1 hd hi (lv_at hl k hk) (kk H locs ls hP hS hl)
theorem g_iload (C : g_C l R own cc nL X Y) (k : Nat) {i : Nat} {x : Int32} (hd : decode cc pc = .ok (.iload i, 2)) (hq : pc + 2 = q) (hk : lv[k]? = some (i, .int x)) (kk : g_G nL X Y q lv (.int x :: st) M) : g_G nL X Y pc lv st M := by
  subst hq
  intro H locs ls hP hS hl
  exact lv_iload C.1 C.2.1 hd (lv_at hl k hk) (kk H locs ls hP hS hl)
theorem g_istore_n (C : g_C l R own cc nL X Y) {n : Fin 4} {i : Nat} {x : Int32} (hd : decode cc pc = .ok (.istore_n n, 1)) (hq : pc + 1 = q) (hi : (n : Nat) = i) (hn : i < nL) (hv : (i, Value.int x) :: lv.filter (fun q => !(q.1 == i) && !(q.1 + 1 == i && q.2.category == 2)) = lv') (kk : g_G nL X Y q lv' st M) : g_G nL X Y pc lv (.int x :: st) M := by
  subst hq
  intro H locs ls hP hS hl
  exact lv_istore_n C.1 C.2.1 hd hi hl hn hv (fun ls hl => kk H locs ls hP hS hl)
theorem g_istore (C : g_C l R own cc nL X Y) {i : Nat} {x : Int32} (hd : decode cc pc = .ok (.istore i, 2)) (hq : pc + 2 = q) (hn : i < nL) (hv : (i, Value.int x) :: lv.filter (fun q => !(q.1 == i) && !(q.1 + 1 == i && q.2.category == 2)) = lv') (kk : g_G nL X Y q lv' st M) : g_G nL X Y pc lv (.int x :: st) M := by
  subst hq
  intro H locs ls hP hS hl
  exact lv_istore C.1 C.2.1 hd hl hn hv (fun ls hl => kk H locs ls hP hS hl)
theorem g_lload_n (C : g_C l R own cc nL X Y) {n : Fin 4} (k : Nat) {i : Nat} {x : Int64} (hd : decode cc pc = .ok (.lload_n n, 1)) (hq : pc + 1 = q) (hi : (n : Nat) = i) (hk : lv[k]? = some (i, .long x)) (kk : g_G nL X Y q lv (.long x :: st) M) : g_G nL X Y pc lv st M := by
  subst hq
  intro H locs ls hP hS hl
  exact lv_lload_n C.1 C.2.1 hd hi (lv_at hl k hk) (kk H locs ls hP hS hl)
theorem g_lload (C : g_C l R own cc nL X Y) (k : Nat) {i : Nat} {x : Int64} (hd : decode cc pc = .ok (.lload i, 2)) (hq : pc + 2 = q) (hk : lv[k]? = some (i, .long x)) (kk : g_G nL X Y q lv (.long x :: st) M) : g_G nL X Y pc lv st M := by
  subst hq
  intro H locs ls hP hS hl
  exact lv_lload C.1 C.2.1 hd (lv_at hl k hk) (kk H locs ls hP hS hl)
theorem g_lstore_n (C : g_C l R own cc nL X Y) {n : Fin 4} {i : Nat} {x : Int64} (hd : decode cc pc = .ok (.lstore_n n, 1)) (hq : pc + 1 = q) (hi : (n : Nat) = i) (hn : i + 1 < nL) (hv : (i, Value.long x) :: lv.filter (fun q => !(q.1 == i) && (!(q.1 == i + 1) && !(q.1 + 1 == i && q.2.category == 2))) = lv') (kk : g_G nL X Y q lv' st M) : g_G nL X Y pc lv (.long x :: st) M := by
  subst hq
  intro H locs ls hP hS hl
  exact lv_lstore_n C.1 C.2.1 hd hi hl hn hv (fun ls hl => kk H locs ls hP hS hl)
theorem g_lstore (C : g_C l R own cc nL X Y) {i : Nat} {x : Int64} (hd : decode cc pc = .ok (.lstore i, 2)) (hq : pc + 2 = q) (hn : i + 1 < nL) (hv : (i, Value.long x) :: lv.filter (fun q => !(q.1 == i) && (!(q.1 == i + 1) && !(q.1 + 1 == i && q.2.category == 2))) = lv') (kk : g_G nL X Y q lv' st M) : g_G nL X Y pc lv (.long x :: st) M := by
  subst hq
  intro H locs ls hP hS hl
  exact lv_lstore C.1 C.2.1 hd hl hn hv (fun ls hl => kk H locs ls hP hS hl)
theorem g_aload_n (C : g_C l R own cc nL X Y) {n : Fin 4} (k : Nat) {i : Nat} {x : Nat} (hd : decode cc pc = .ok (.aload_n n, 1)) (hq : pc + 1 = q) (hi : (n : Nat) = i) (hk : lv[k]? = some (i, .ref x)) (kk : g_G nL X Y q lv (.ref x :: st) M) : g_G nL X Y pc lv st M := by
  subst hq
  intro H locs ls hP hS hl
  exact lv_aload_n C.1 C.2.1 hd hi (lv_at hl k hk) (kk H locs ls hP hS hl)
theorem g_aload (C : g_C l R own cc nL X Y) (k : Nat) {i : Nat} {x : Nat} (hd : decode cc pc = .ok (.aload i, 2)) (hq : pc + 2 = q) (hk : lv[k]? = some (i, .ref x)) (kk : g_G nL X Y q lv (.ref x :: st) M) : g_G nL X Y pc lv st M := by
  subst hq
  intro H locs ls hP hS hl
  exact lv_aload C.1 C.2.1 hd (lv_at hl k hk) (kk H locs ls hP hS hl)
theorem g_astore_n (C : g_C l R own cc nL X Y) {n : Fin 4} {i : Nat} {x : Nat} (hd : decode cc pc = .ok (.astore_n n, 1)) (hq : pc + 1 = q) (hi : (n : Nat) = i) (hn : i < nL) (hv : (i, Value.ref x) :: lv.filter (fun q => !(q.1 == i) && !(q.1 + 1 == i && q.2.category == 2)) = lv') (kk : g_G nL X Y q lv' st M) : g_G nL X Y pc lv (.ref x :: st) M := by
  subst hq
  intro H locs ls hP hS hl
  exact lv_astore_n C.1 C.2.1 hd hi hl hn hv (fun ls hl => kk H locs ls hP hS hl)
theorem g_astore (C : g_C l R own cc nL X Y) {i : Nat} {x : Nat} (hd : decode cc pc = .ok (.astore i, 2)) (hq : pc + 2 = q) (hn : i < nL) (hv : (i, Value.ref x) :: lv.filter (fun q => !(q.1 == i) && !(q.1 + 1 == i && q.2.category == 2)) = lv') (kk : g_G nL X Y q lv' st M) : g_G nL X Y pc lv (.ref x :: st) M := by
  subst hq
  intro H locs ls hP hS hl
  exact lv_astore C.1 C.2.1 hd hl hn hv (fun ls hl => kk H locs ls hP hS hl)
theorem g_iinc (C : g_C l R own cc nL X Y) {i k : Nat} {n : Int} {x v : Int32} (hd : decode cc pc = .ok (.iinc i n, 3)) (hq : pc + 3 = q) (hk : lv[k]? = some (i, .int x)) (hx : x + Int32.ofInt n = v) (hn : i < nL) (hv : (i, Value.int v) :: lv.filter (fun q => !(q.1 == i) && !(q.1 + 1 == i && q.2.category == 2)) = lv') (kk : g_G nL X Y q lv' st M) : g_G nL X Y pc lv st M := by
  subst hq
  intro H locs ls hP hS hl
  exact lv_iinc C.1 C.2.1 hd hl hk hx hn hv (fun ls hl => kk H locs ls hP hS hl)
theorem g_iadd (C : g_C l R own cc nL X Y) {x y : Int32} (hd : decode cc pc = .ok (.iadd, 1)) (hq : pc + 1 = q)  (kk : g_G nL X Y q lv (.int (x + y) :: st) M) : g_G nL X Y pc lv (.int y :: .int x :: st) M := by
  subst hq
  intro H locs ls hP hS hl
  exact lv_iadd C.1 C.2.1 hd (kk H locs ls hP hS hl)
theorem g_isub (C : g_C l R own cc nL X Y) {x y : Int32} (hd : decode cc pc = .ok (.isub, 1)) (hq : pc + 1 = q)  (kk : g_G nL X Y q lv (.int (x - y) :: st) M) : g_G nL X Y pc lv (.int y :: .int x :: st) M := by
  subst hq
  intro H locs ls hP hS hl
  exact lv_isub C.1 C.2.1 hd (kk H locs ls hP hS hl)
theorem g_imul (C : g_C l R own cc nL X Y) {x y : Int32} (hd : decode cc pc = .ok (.imul, 1)) (hq : pc + 1 = q)  (kk : g_G nL X Y q lv (.int (x * y) :: st) M) : g_G nL X Y pc lv (.int y :: .int x :: st) M := by
  subst hq
  intro H locs ls hP hS hl
  exact lv_imul C.1 C.2.1 hd (kk H locs ls hP hS hl)
theorem g_iand (C : g_C l R own cc nL X Y) {x y : Int32} (hd : decode cc pc = .ok (.iand, 1)) (hq : pc + 1 = q)  (kk : g_G nL X Y q lv (.int (x &&& y) :: st) M) : g_G nL X Y pc lv (.int y :: .int x :: st) M := by
  subst hq
  intro H locs ls hP hS hl
  exact lv_iand C.1 C.2.1 hd (kk H locs ls hP hS hl)
theorem g_ior (C : g_C l R own cc nL X Y) {x y : Int32} (hd : decode cc pc = .ok (.ior, 1)) (hq : pc + 1 = q)  (kk : g_G nL X Y q lv (.int (x ||| y) :: st) M) : g_G nL X Y pc lv (.int y :: .int x :: st) M := by
  subst hq
  intro H locs ls hP hS hl
  exact lv_ior C.1 C.2.1 hd (kk H locs ls hP hS hl)
theorem g_ixor (C : g_C l R own cc nL X Y) {x y : Int32} (hd : decode cc pc = .ok (.ixor, 1)) (hq : pc + 1 = q)  (kk : g_G nL X Y q lv (.int (x ^^^ y) :: st) M) : g_G nL X Y pc lv (.int y :: .int x :: st) M := by
  subst hq
  intro H locs ls hP hS hl
  exact lv_ixor C.1 C.2.1 hd (kk H locs ls hP hS hl)
theorem g_ladd (C : g_C l R own cc nL X Y) {x y : Int64} (hd : decode cc pc = .ok (.ladd, 1)) (hq : pc + 1 = q)  (kk : g_G nL X Y q lv (.long (x + y) :: st) M) : g_G nL X Y pc lv (.long y :: .long x :: st) M := by
  subst hq
  intro H locs ls hP hS hl
  exact lv_ladd C.1 C.2.1 hd (kk H locs ls hP hS hl)
theorem g_lsub (C : g_C l R own cc nL X Y) {x y : Int64} (hd : decode cc pc = .ok (.lsub, 1)) (hq : pc + 1 = q)  (kk : g_G nL X Y q lv (.long (x - y) :: st) M) : g_G nL X Y pc lv (.long y :: .long x :: st) M := by
  subst hq
  intro H locs ls hP hS hl
  exact lv_lsub C.1 C.2.1 hd (kk H locs ls hP hS hl)
theorem g_land (C : g_C l R own cc nL X Y) {x y : Int64} (hd : decode cc pc = .ok (.land, 1)) (hq : pc + 1 = q)  (kk : g_G nL X Y q lv (.long (x &&& y) :: st) M) : g_G nL X Y pc lv (.long y :: .long x :: st) M := by
  subst hq
  intro H locs ls hP hS hl
  exact lv_land C.1 C.2.1 hd (kk H locs ls hP hS hl)
theorem g_lor (C : g_C l R own cc nL X Y) {x y : Int64} (hd : decode cc pc = .ok (.lor, 1)) (hq : pc + 1 = q)  (kk : g_G nL X Y q lv (.long (x ||| y) :: st) M) : g_G nL X Y pc lv (.long y :: .long x :: st) M := by
  subst hq
  intro H locs ls hP hS hl
  exact lv_lor C.1 C.2.1 hd (kk H locs ls hP hS hl)
theorem g_lxor (C : g_C l R own cc nL X Y) {x y : Int64} (hd : decode cc pc = .ok (.lxor, 1)) (hq : pc + 1 = q)  (kk : g_G nL X Y q lv (.long (x ^^^ y) :: st) M) : g_G nL X Y pc lv (.long y :: .long x :: st) M := by
  subst hq
  intro H locs ls hP hS hl
  exact lv_lxor C.1 C.2.1 hd (kk H locs ls hP hS hl)
theorem g_ishl (C : g_C l R own cc nL X Y) {x y : Int32} (hd : decode cc pc = .ok (.ishl, 1)) (hq : pc + 1 = q)  (kk : g_G nL X Y q lv (.int (x <<< (y &&& 31)) :: st) M) : g_G nL X Y pc lv (.int y :: .int x :: st) M := by
  subst hq
  intro H locs ls hP hS hl
  exact lv_ishl C.1 C.2.1 hd (kk H locs ls hP hS hl)
theorem g_ishr (C : g_C l R own cc nL X Y) {x y : Int32} (hd : decode cc pc = .ok (.ishr, 1)) (hq : pc + 1 = q)  (kk : g_G nL X Y q lv (.int (x >>> (y &&& 31)) :: st) M) : g_G nL X Y pc lv (.int y :: .int x :: st) M := by
  subst hq
  intro H locs ls hP hS hl
  exact lv_ishr C.1 C.2.1 hd (kk H locs ls hP hS hl)
theorem g_iushr (C : g_C l R own cc nL X Y) {x y : Int32} (hd : decode cc pc = .ok (.iushr, 1)) (hq : pc + 1 = q)  (kk : g_G nL X Y q lv (.int ((x.toUInt32 >>> (y.toUInt32 &&& Int32.toUInt32 31)).toInt32) :: st) M) : g_G nL X Y pc lv (.int y :: .int x :: st) M := by
  subst hq
  intro H locs ls hP hS hl
  exact lv_iushr C.1 C.2.1 hd rfl (kk H locs ls hP hS hl)
theorem g_lshl (C : g_C l R own cc nL X Y) {x : Int64} {y : Int32} (hd : decode cc pc = .ok (.lshl, 1)) (hq : pc + 1 = q)  (kk : g_G nL X Y q lv (.long (x <<< (y.toInt64 &&& 63)) :: st) M) : g_G nL X Y pc lv (.int y :: .long x :: st) M := by
  subst hq
  intro H locs ls hP hS hl
  exact lv_lshl C.1 C.2.1 hd rfl (kk H locs ls hP hS hl)
theorem g_lshr (C : g_C l R own cc nL X Y) {x : Int64} {y : Int32} (hd : decode cc pc = .ok (.lshr, 1)) (hq : pc + 1 = q)  (kk : g_G nL X Y q lv (.long (x >>> (y.toInt64 &&& 63)) :: st) M) : g_G nL X Y pc lv (.int y :: .long x :: st) M := by
  subst hq
  intro H locs ls hP hS hl
  exact lv_lshr C.1 C.2.1 hd rfl (kk H locs ls hP hS hl)
theorem g_ineg (C : g_C l R own cc nL X Y) {x : Int32} (hd : decode cc pc = .ok (.ineg, 1)) (hq : pc + 1 = q)  (kk : g_G nL X Y q lv (.int (-x) :: st) M) : g_G nL X Y pc lv (.int x :: st) M := by
  subst hq
  intro H locs ls hP hS hl
  exact lv_ineg C.1 C.2.1 hd (kk H locs ls hP hS hl)
theorem g_idiv (C : g_C l R own cc nL X Y) {x y z : Int32} (hd : decode cc pc = .ok (.idiv, 1)) (hq : pc + 1 = q) (hz : g_nz y = some z) (kk : g_G nL X Y q lv (.int (x / z) :: st) M) : g_G nL X Y pc lv (.int y :: .int x :: st) M := by
  subst hq
  intro H locs ls hP hS hl
  exact (by obtain ⟨e, h0⟩ := g_nz_s hz; subst e; exact lv_idiv C.1 C.2.1 hd h0 (kk H locs ls hP hS hl))
theorem g_irem (C : g_C l R own cc nL X Y) {x y z : Int32} (hd : decode cc pc = .ok (.irem, 1)) (hq : pc + 1 = q) (hz : g_nz y = some z) (kk : g_G nL X Y q lv (.int (x - x / z * z) :: st) M) : g_G nL X Y pc lv (.int y :: .int x :: st) M := by
  subst hq
  intro H locs ls hP hS hl
  exact (by obtain ⟨e, h0⟩ := g_nz_s hz; subst e; exact lv_irem C.1 C.2.1 hd h0 (kk H locs ls hP hS hl))
theorem g_i2l (C : g_C l R own cc nL X Y) {x : Int32} (hd : decode cc pc = .ok (.i2l, 1)) (hq : pc + 1 = q)  (kk : g_G nL X Y q lv (.long x.toInt64 :: st) M) : g_G nL X Y pc lv (.int x :: st) M := by
  subst hq
  intro H locs ls hP hS hl
  exact lv_i2l C.1 C.2.1 hd rfl (kk H locs ls hP hS hl)
theorem g_l2i (C : g_C l R own cc nL X Y) {x : Int64} (hd : decode cc pc = .ok (.l2i, 1)) (hq : pc + 1 = q)  (kk : g_G nL X Y q lv (.int x.toInt32 :: st) M) : g_G nL X Y pc lv (.long x :: st) M := by
  subst hq
  intro H locs ls hP hS hl
  exact lv_l2i C.1 C.2.1 hd rfl (kk H locs ls hP hS hl)
theorem g_i2b (C : g_C l R own cc nL X Y) {x : Int32} (hd : decode cc pc = .ok (.i2b, 1)) (hq : pc + 1 = q)  (kk : g_G nL X Y q lv (.int x.toInt8.toInt32 :: st) M) : g_G nL X Y pc lv (.int x :: st) M := by
  subst hq
  intro H locs ls hP hS hl
  exact lv_i2b C.1 C.2.1 hd rfl (kk H locs ls hP hS hl)
theorem g_i2s (C : g_C l R own cc nL X Y) {x : Int32} (hd : decode cc pc = .ok (.i2s, 1)) (hq : pc + 1 = q)  (kk : g_G nL X Y q lv (.int x.toInt16.toInt32 :: st) M) : g_G nL X Y pc lv (.int x :: st) M := by
  subst hq
  intro H locs ls hP hS hl
  exact lv_i2s C.1 C.2.1 hd rfl (kk H locs ls hP hS hl)
theorem g_dup (C : g_C l R own cc nL X Y) {va : Value} (hd : decode cc pc = .ok (.dup, 1)) (hq : pc + 1 = q) (hva : va.category = 1) (kk : g_G nL X Y q lv (va :: va :: st) M) : g_G nL X Y pc lv (va :: st) M := by
  subst hq
  intro H locs ls hP hS hl
  exact lv_dup C.1 C.2.1 hd hva (kk H locs ls hP hS hl)
theorem g_pop (C : g_C l R own cc nL X Y) {va : Value} (hd : decode cc pc = .ok (.pop, 1)) (hq : pc + 1 = q) (hva : va.category = 1) (kk : g_G nL X Y q lv (st) M) : g_G nL X Y pc lv (va :: st) M := by
  subst hq
  intro H locs ls hP hS hl
  exact lv_pop C.1 C.2.1 hd hva (kk H locs ls hP hS hl)
theorem g_dup_x1 (C : g_C l R own cc nL X Y) {va vb : Value} (hd : decode cc pc = .ok (.dup_x1, 1)) (hq : pc + 1 = q) (hva : va.category = 1) (hvb : vb.category = 1) (kk : g_G nL X Y q lv (va :: vb :: va :: st) M) : g_G nL X Y pc lv (va :: vb :: st) M := by
  subst hq
  intro H locs ls hP hS hl
  exact lv_dup_x1 C.1 C.2.1 hd hva hvb (kk H locs ls hP hS hl)
theorem g_dup2 (C : g_C l R own cc nL X Y) {va vb : Value} (hd : decode cc pc = .ok (.dup2, 1)) (hq : pc + 1 = q) (hva : va.category = 1) (hvb : vb.category = 1) (kk : g_G nL X Y q lv (va :: vb :: va :: vb :: st) M) : g_G nL X Y pc lv (va :: vb :: st) M := by
  subst hq
  intro H locs ls hP hS hl
  exact lv_dup2_11 C.1 C.2.1 hd hva hvb (kk H locs ls hP hS hl)
theorem g_lcmp (C : g_C l R own cc nL X Y) {x y : Int64} (hd : decode cc pc = .ok (.lcmp, 1)) (hq : pc + 1 = q)  (kk : g_G nL X Y q lv (.int (lg_cmp x y) :: st) M) : g_G nL X Y pc lv (.long y :: .long x :: st) M := by
  subst hq
  intro H locs ls hP hS hl
  exact W.lcmp C.1 C.2.1 hd (kk H locs ls hP hS hl)
theorem g_ldc (C : g_C l R own cc nL X Y) {index : Nat} {v : Int32} (hw : Cond.constant own index v ∈ g_ws) (hd : decode cc pc = .ok (.ldc index, 2)) (hq : pc + 2 = q) (kk : g_G nL X Y q lv (.int v :: st) M) : g_G nL X Y pc lv st M := by
  subst hq
  intro H locs ls hP hS hl
  exact lv_ldc C.1 C.2.1 C.2.2.2.1 (C.2.2.2.2.1 _ hw) hd (kk H locs ls hP hS hl)
theorem g_ldcw (C : g_C l R own cc nL X Y) {index : Nat} {v : Int32} (hw : Cond.constant own index v ∈ g_ws) (hd : decode cc pc = .ok (.ldc_w index, 3)) (hq : pc + 3 = q) (kk : g_G nL X Y q lv (.int v :: st) M) : g_G nL X Y pc lv st M := by
  subst hq
  intro H locs ls hP hS hl
  exact lv_ldcw C.1 C.2.1 C.2.2.2.1 (C.2.2.2.2.1 _ hw) hd (kk H locs ls hP hS hl)
theorem g_ldc2 (C : g_C l R own cc nL X Y) {index : Nat} {v : Int64} (hw : Cond.constantLong own index v ∈ g_ws) (hd : decode cc pc = .ok (.ldc2_w index, 3)) (hq : pc + 3 = q) (kk : g_G nL X Y q lv (.long v :: st) M) : g_G nL X Y pc lv st M := by
  subst hq
  intro H locs ls hP hS hl
  exact lv_ldc2 C.1 C.2.1 C.2.2.2.1 (C.2.2.2.2.1 _ hw) hd (kk H locs ls hP hS hl)
theorem g_ldcS (C : g_C l R own cc nL X Y) {index j : Nat} {tx : String} (hw : (own, index, tx, j) ∈ g_strs) (hd : decode cc pc = .ok (.ldc index, 2)) (hq : pc + 2 = q) (kk : g_G nL X Y q lv (.ref (Y.2.2.2.1 j) :: st) M) : g_G nL X Y pc lv st M := by
  subst hq
  intro H locs ls hP hS hl
  exact va_ldcS C.1 C.2.1 C.2.2.2.1 (C.2.2.2.2.2.2.2.2.1.1 _ hw) hd (kk H locs ls hP hS hl)
theorem g_if_eq (C : g_C l R own cc nL X Y) {x : Int32} {off : Int} (hd : decode cc pc = .ok (.ifCond .eq off, 3)) (hq : pc + 3 = q) (ht : (pc : Int) + off = (tgt : Int)) (kt : x = 0 → g_G nL X Y tgt lv st M) (kf : ¬ x = 0 → g_G nL X Y q lv st M) : g_G nL X Y pc lv (.int x :: st) M := by
  subst hq
  intro H locs ls hP hS hl
  exact lv_if_eq C.1 C.2.1 hd ht (fun c => kt c H locs ls hP hS hl) (fun c => kf c H locs ls hP hS hl)
theorem g_if_ne (C : g_C l R own cc nL X Y) {x : Int32} {off : Int} (hd : decode cc pc = .ok (.ifCond .ne off, 3)) (hq : pc + 3 = q) (ht : (pc : Int) + off = (tgt : Int)) (kt : ¬ x = 0 → g_G nL X Y tgt lv st M) (kf : x = 0 → g_G nL X Y q lv st M) : g_G nL X Y pc lv (.int x :: st) M := by
  subst hq
  intro H locs ls hP hS hl
  exact lv_if_ne C.1 C.2.1 hd ht (fun c => kt c H locs ls hP hS hl) (fun c => kf c H locs ls hP hS hl)
theorem g_if_lt (C : g_C l R own cc nL X Y) {x : Int32} {off : Int} (hd : decode cc pc = .ok (.ifCond .lt off, 3)) (hq : pc + 3 = q) (ht : (pc : Int) + off = (tgt : Int)) (kt : x < 0 → g_G nL X Y tgt lv st M) (kf : ¬ x < 0 → g_G nL X Y q lv st M) : g_G nL X Y pc lv (.int x :: st) M := by
  subst hq
  intro H locs ls hP hS hl
  exact lv_if_lt C.1 C.2.1 hd ht (fun c => kt c H locs ls hP hS hl) (fun c => kf c H locs ls hP hS hl)
theorem g_if_ge (C : g_C l R own cc nL X Y) {x : Int32} {off : Int} (hd : decode cc pc = .ok (.ifCond .ge off, 3)) (hq : pc + 3 = q) (ht : (pc : Int) + off = (tgt : Int)) (kt : 0 ≤ x → g_G nL X Y tgt lv st M) (kf : ¬ 0 ≤ x → g_G nL X Y q lv st M) : g_G nL X Y pc lv (.int x :: st) M := by
  subst hq
  intro H locs ls hP hS hl
  exact lv_if_ge C.1 C.2.1 hd ht (fun c => kt c H locs ls hP hS hl) (fun c => kf c H locs ls hP hS hl)
theorem g_if_gt (C : g_C l R own cc nL X Y) {x : Int32} {off : Int} (hd : decode cc pc = .ok (.ifCond .gt off, 3)) (hq : pc + 3 = q) (ht : (pc : Int) + off = (tgt : Int)) (kt : 0 < x → g_G nL X Y tgt lv st M) (kf : ¬ 0 < x → g_G nL X Y q lv st M) : g_G nL X Y pc lv (.int x :: st) M := by
  subst hq
  intro H locs ls hP hS hl
  exact lv_if_gt C.1 C.2.1 hd ht (fun c => kt c H locs ls hP hS hl) (fun c => kf c H locs ls hP hS hl)
theorem g_if_le (C : g_C l R own cc nL X Y) {x : Int32} {off : Int} (hd : decode cc pc = .ok (.ifCond .le off, 3)) (hq : pc + 3 = q) (ht : (pc : Int) + off = (tgt : Int)) (kt : x ≤ 0 → g_G nL X Y tgt lv st M) (kf : ¬ x ≤ 0 → g_G nL X Y q lv st M) : g_G nL X Y pc lv (.int x :: st) M := by
  subst hq
  intro H locs ls hP hS hl
  exact lv_if_le C.1 C.2.1 hd ht (fun c => kt c H locs ls hP hS hl) (fun c => kf c H locs ls hP hS hl)
theorem g_icmp_eq (C : g_C l R own cc nL X Y) {x y : Int32} {off : Int} (hd : decode cc pc = .ok (.if_icmp .eq off, 3)) (hq : pc + 3 = q) (ht : (pc : Int) + off = (tgt : Int)) (kt : x = y → g_G nL X Y tgt lv st M) (kf : ¬ x = y → g_G nL X Y q lv st M) : g_G nL X Y pc lv (.int y :: .int x :: st) M := by
  subst hq
  intro H locs ls hP hS hl
  exact lv_icmp_eq C.1 C.2.1 hd ht (fun c => kt c H locs ls hP hS hl) (fun c => kf c H locs ls hP hS hl)
theorem g_icmp_ne (C : g_C l R own cc nL X Y) {x y : Int32} {off : Int} (hd : decode cc pc = .ok (.if_icmp .ne off, 3)) (hq : pc + 3 = q) (ht : (pc : Int) + off = (tgt : Int)) (kt : ¬ x = y → g_G nL X Y tgt lv st M) (kf : x = y → g_G nL X Y q lv st M) : g_G nL X Y pc lv (.int y :: .int x :: st) M := by
  subst hq
  intro H locs ls hP hS hl
  exact lv_icmp_ne C.1 C.2.1 hd ht (fun c => kt c H locs ls hP hS hl) (fun c => kf c H locs ls hP hS hl)
theorem g_icmp_lt (C : g_C l R own cc nL X Y) {x y : Int32} {off : Int} (hd : decode cc pc = .ok (.if_icmp .lt off, 3)) (hq : pc + 3 = q) (ht : (pc : Int) + off = (tgt : Int)) (kt : x < y → g_G nL X Y tgt lv st M) (kf : ¬ x < y → g_G nL X Y q lv st M) : g_G nL X Y pc lv (.int y :: .int x :: st) M := by
  subst hq
  intro H locs ls hP hS hl
  exact lv_icmp_lt C.1 C.2.1 hd ht (fun c => kt c H locs ls hP hS hl) (fun c => kf c H locs ls hP hS hl)
theorem g_icmp_ge (C : g_C l R own cc nL X Y) {x y : Int32} {off : Int} (hd : decode cc pc = .ok (.if_icmp .ge off, 3)) (hq : pc + 3 = q) (ht : (pc : Int) + off = (tgt : Int)) (kt : y ≤ x → g_G nL X Y tgt lv st M) (kf : ¬ y ≤ x → g_G nL X Y q lv st M) : g_G nL X Y pc lv (.int y :: .int x :: st) M := by
  subst hq
  intro H locs ls hP hS hl
  exact lv_icmp_ge C.1 C.2.1 hd ht (fun c => kt c H locs ls hP hS hl) (fun c => kf c H locs ls hP hS hl)
theorem g_icmp_gt (C : g_C l R own cc nL X Y) {x y : Int32} {off : Int} (hd : decode cc pc = .ok (.if_icmp .gt off, 3)) (hq : pc + 3 = q) (ht : (pc : Int) + off = (tgt : Int)) (kt : y < x → g_G nL X Y tgt lv st M) (kf : ¬ y < x → g_G nL X Y q lv st M) : g_G nL X Y pc lv (.int y :: .int x :: st) M := by
  subst hq
  intro H locs ls hP hS hl
  exact lv_icmp_gt C.1 C.2.1 hd ht (fun c => kt c H locs ls hP hS hl) (fun c => kf c H locs ls hP hS hl)
theorem g_icmp_le (C : g_C l R own cc nL X Y) {x y : Int32} {off : Int} (hd : decode cc pc = .ok (.if_icmp .le off, 3)) (hq : pc + 3 = q) (ht : (pc : Int) + off = (tgt : Int)) (kt : x ≤ y → g_G nL X Y tgt lv st M) (kf : ¬ x ≤ y → g_G nL X Y q lv st M) : g_G nL X Y pc lv (.int y :: .int x :: st) M := by
  subst hq
  intro H locs ls hP hS hl
  exact lv_icmp_le C.1 C.2.1 hd ht (fun c => kt c H locs ls hP hS hl) (fun c => kf c H locs ls hP hS hl)
theorem g_goto (C : g_C l R own cc nL X Y) {off : Int} (hd : decode cc pc = .ok (.goto off, 3)) (ht : (pc : Int) + off = (tgt : Int)) (kk : g_G nL X Y tgt lv st M) : g_G nL X Y pc lv st M := by
  intro H locs ls hP hS hl
  exact lv_goto C.1 C.2.1 hd ht (kk H locs ls hP hS hl)
theorem g_tabO (C : g_C l R own cc nL X Y) {dflt lo hi : Int} {offs : Array Int} {len : Nat} {x : Int32} (hd : decode cc pc = .ok (.tableswitch dflt lo hi offs, len)) (h : x.toInt < lo ∨ hi < x.toInt) (ht : (pc : Int) + dflt = (tgt : Int)) (kk : g_G nL X Y tgt lv st M) : g_G nL X Y pc lv (.int x :: st) M := by
  intro H locs ls hP hS hl
  exact lv_tableOut C.1 C.2.1 hd h ht (kk H locs ls hP hS hl)
theorem g_tabI (C : g_C l R own cc nL X Y) {dflt lo hi : Int} {offs : Array Int} {len : Nat} {x : Int32} {off : Int} (hd : decode cc pc = .ok (.tableswitch dflt lo hi offs, len)) (h1 : ¬ x.toInt < lo) (h2 : ¬ hi < x.toInt) (ho : offs[(x.toInt - lo).toNat]? = some off) (ht : (pc : Int) + off = (tgt : Int)) (kk : g_G nL X Y tgt lv st M) : g_G nL X Y pc lv (.int x :: st) M := by
  intro H locs ls hP hS hl
  exact lv_tableIn C.1 C.2.1 hd h1 h2 ho ht (kk H locs ls hP hS hl)
theorem g_look (C : g_C l R own cc nL X Y) {dflt : Int} {ps : Array (Int × Int)} {len : Nat} {x : Int32} {off : Int} (hd : decode cc pc = .ok (.lookupswitch dflt ps, len)) (hp : (ps.toList.zip (ps.toList.drop 1)).all (fun (a, next) => a.1 < next.1) = true) (ho : Op.lookupswitch.offset ps.toList dflt x.toInt = off) (ht : (pc : Int) + off = (tgt : Int)) (kk : g_G nL X Y tgt lv st M) : g_G nL X Y pc lv (.int x :: st) M := by
  intro H locs ls hP hS hl
  exact lv_lookup C.1 C.2.1 hd hp ho ht (kk H locs ls hP hS hl)
theorem g_get (C : g_C l R own cc nL X Y) {k ci i index N : Nat} {Cn : String} {T : u_T} {fs : List Value} {v : Value} (hk : k < 80) (hc : g_cell Y k (M.1 k) (M.2 k) = .inr (ci, fs)) (hcl : vwCl[ci]? = some (Cn, T, N)) (hin : ∀ w ∈ u_ws Cn T N, w ∈ g_ws) (hi : i < N) (hw : Cond.fieldLink own index (T i).1 (T i).2.1 (T i).2.2.1 ∈ g_ws) (hv : fs[i]? = some v) (hd : decode cc pc = .ok (.getfield index, 3)) (hq : pc + 3 = q) (kk : g_G nL X Y q lv (v :: st) M) : g_G nL X Y pc lv (g_r Y k :: st) M := by
  subst hq
  intro H locs ls hP hS hl
  exact va_get C.1 C.2.1 C.2.2.2.2.1 hin C.2.2.2.1 C.2.2.2.2.2.1 hP k (by rw [g_w_at hk, hc]) hcl i hi (C.2.2.2.2.1 _ hw) (fun _ h => h) hv hd (kk H locs ls hP hS hl)
theorem g_put (C : g_C l R own cc nL X Y) {k ci i index N : Nat} {Cn : String} {T : u_T} {ty0 : Nat → FieldType} {fs : List Value} {v : Int32} {ty : FieldType} (hk : k < 80) (hc : g_cell Y k (M.1 k) (M.2 k) = .inr (ci, fs)) (hp : g_cell Y k (upd (M.1 k) i v) (M.2 k) = .inr (ci, fs.set i (.int v))) (hcl : vwCl[ci]? = some (Cn, T, N)) (hin : ∀ w ∈ u_ws Cn T N, w ∈ g_ws) (hty : ∀ k, k < N → parseFieldDescriptor (T k).2.2.1 = some (ty0 k)) (hnm : ∀ a, a < N → ∀ b, b < N → a ≠ b → (T a).2.1 ≠ (T b).2.1) (hi : i < N) (hw : Cond.fieldLink own index (T i).1 (T i).2.1 (T i).2.2.1 ∈ g_ws) (hf : (T i).2.2.2 = false) (ht : ty0 i = ty) (hn : narrow ty (.int v) = .int v) (hfit : fits ty (.int v) = true) (hlen : i < fs.length) (hd : decode cc pc = .ok (.putfield index, 3)) (hq : pc + 3 = q) (kk : g_G nL X Y q lv st (g_u M k i v)) : g_G nL X Y pc lv (.int v :: g_r Y k :: st) M := by
  subst hq
  intro H locs ls hP hS hl
  refine va_put C.1 C.2.1 C.2.2.2.2.1 hin ty0 hty hnm C.2.2.2.1 C.2.2.2.2.2.1 hP (g_D M C.2.2.2.2.2.2.1 C.2.2.2.2.2.2.2.1) hS k (by rw [g_w_at hk, hc]) hcl i hi (C.2.2.2.2.1 _ hw) (fun _ h => h) hf (by rw [hty i hi, ht]) hn hfit hlen hd (fun H1 locs1 hP1 _ hS1 => ?_)
  rw [g_set_u hk hp] at hP1
  exact kk H1 locs1 ls hP1 hS1 hl
theorem g_iald (C : g_C l R own cc nL X Y) {k n : Nat} {i v : Int32} (hk : k < 80) (hc : g_cell Y k (M.1 k) (M.2 k) = .inl (Y.2.1 0, n, .inl (M.1 k))) (h : g_ld M k n i = some v) (hd : decode cc pc = .ok (.iaload, 1)) (hq : pc + 1 = q) (kk : g_G nL X Y q lv (.int v :: st) M) : g_G nL X Y pc lv (.int i :: g_r Y k :: st) M := by
  subst hq
  intro H locs ls hP hS hl
  obtain ⟨h1, rfl⟩ := g_ld_s h
  exact va_iald C.1 C.2.1 C.2.2.2.2.2.1 hP k 0 (by rw [g_w_at hk, hc]) rfl h1 hd (kk H locs ls hP hS hl)
theorem g_zald (C : g_C l R own cc nL X Y) {k n : Nat} {i v : Int32} (hk : k < 80) (hc : g_cell Y k (M.1 k) (M.2 k) = .inl (Y.2.1 2, n, .inl (M.1 k))) (h : g_ld M k n i = some v) (hd : decode cc pc = .ok (.baload, 1)) (hq : pc + 1 = q) (kk : g_G nL X Y q lv (.int v :: st) M) : g_G nL X Y pc lv (.int i :: g_r Y k :: st) M := by
  subst hq
  intro H locs ls hP hS hl
  obtain ⟨h1, rfl⟩ := g_ld_s h
  exact va_zald C.1 C.2.1 C.2.2.2.2.2.1 hP k 2 (by rw [g_w_at hk, hc]) rfl h1 hd (kk H locs ls hP hS hl)
theorem g_lald (C : g_C l R own cc nL X Y) {k n : Nat} {i : Int32} {v : Int64} (hk : k < 80) (hc : g_cell Y k (M.1 k) (M.2 k) = .inl (Y.2.1 1, n, .inr (.inl (M.2 k)))) (h : g_ldl M k n i = some v) (hd : decode cc pc = .ok (.laload, 1)) (hq : pc + 1 = q) (kk : g_G nL X Y q lv (.long v :: st) M) : g_G nL X Y pc lv (.int i :: g_r Y k :: st) M := by
  subst hq
  intro H locs ls hP hS hl
  obtain ⟨h1, rfl⟩ := g_ldl_s h
  exact va_lald C.1 C.2.1 C.2.2.2.2.2.1 hP k 1 (by rw [g_w_at hk, hc]) rfl h1 hd (kk H locs ls hP hS hl)
theorem g_iast (C : g_C l R own cc nL X Y) {k n : Nat} {i v : Int32} {M1 : g_M} (hk : k < 80) (hc : ∀ a : Nat → Int32, g_cell Y k a (M.2 k) = .inl (Y.2.1 0, n, .inl a)) (h : g_st M k n i v = some M1) (hd : decode cc pc = .ok (.iastore, 1)) (hq : pc + 1 = q) (kk : g_G nL X Y q lv st M1) : g_G nL X Y pc lv (.int v :: .int i :: g_r Y k :: st) M := by
  subst hq
  intro H locs ls hP hS hl
  obtain ⟨h1, rfl⟩ := g_st_s h
  refine va_iast C.1 C.2.1 C.2.2.2.2.2.1 hP (g_D M C.2.2.2.2.2.2.1 C.2.2.2.2.2.2.2.1) hS k 0 (by rw [g_w_at hk, hc]) rfl h1 hd (fun H1 locs1 hP1 _ hS1 => ?_)
  rw [g_set_u (i := i.toNatClampNeg) (v := v) hk (hc _)] at hP1
  exact kk H1 locs1 ls hP1 hS1 hl
theorem g_zast (C : g_C l R own cc nL X Y) {k n : Nat} {i v v' : Int32} {M1 : g_M} (hk : k < 80) (hc : ∀ a : Nat → Int32, g_cell Y k a (M.2 k) = .inl (Y.2.1 2, n, .inl a)) (hz : g_bz v = some v') (h : g_st M k n i v' = some M1) (hd : decode cc pc = .ok (.bastore, 1)) (hq : pc + 1 = q) (kk : g_G nL X Y q lv st M1) : g_G nL X Y pc lv (.int v :: .int i :: g_r Y k :: st) M := by
  subst hq
  intro H locs ls hP hS hl
  obtain ⟨h1, rfl⟩ := g_st_s h
  obtain ⟨rfl, h2⟩ := g_bz_s hz
  refine va_zast C.1 C.2.1 C.2.2.2.2.2.1 hP (g_D M C.2.2.2.2.2.2.1 C.2.2.2.2.2.2.2.1) hS k 2 (by rw [g_w_at hk, hc]) rfl h1 hd (fun H1 locs1 hP1 _ hS1 => ?_)
  rw [(g_zn h2).2.2, g_set_u (i := i.toNatClampNeg) hk (hc _)] at hP1
  exact kk H1 locs1 ls hP1 hS1 hl
theorem g_last (C : g_C l R own cc nL X Y) {k n : Nat} {i : Int32} {v : Int64} {M1 : g_M} (hk : k < 80) (hc : ∀ b : Nat → Int64, g_cell Y k (M.1 k) b = .inl (Y.2.1 1, n, .inr (.inl b))) (h : g_stl M k n i v = some M1) (hd : decode cc pc = .ok (.lastore, 1)) (hq : pc + 1 = q) (kk : g_G nL X Y q lv st M1) : g_G nL X Y pc lv (.long v :: .int i :: g_r Y k :: st) M := by
  subst hq
  intro H locs ls hP hS hl
  obtain ⟨h1, rfl⟩ := g_stl_s h
  refine va_last C.1 C.2.1 C.2.2.2.2.2.1 hP (g_D M C.2.2.2.2.2.2.1 C.2.2.2.2.2.2.2.1) hS k 1 (by rw [g_w_at hk, hc]) rfl h1 hd (fun H1 locs1 hP1 _ hS1 => ?_)
  rw [g_set_ul (i := i.toNatClampNeg) (v := v) hk (hc _)] at hP1
  exact kk H1 locs1 ls hP1 hS1 hl
theorem g_aldS (C : g_C l R own cc nL X Y) {k n b j : Nat} {i : Int32} (hk : k < 80) (hc : g_cell Y k (M.1 k) (M.2 k) = .inl (Y.2.1 3, n, .inr (.inr (.inr (.inr (fun j => some (Y.2.2.1 (b + j)))))))) (h : g_in n i = some j) (hd : decode cc pc = .ok (.aaload, 1)) (hq : pc + 1 = q) (kk : g_G nL X Y q lv (g_r Y (b + j) :: st) M) : g_G nL X Y pc lv (.int i :: g_r Y k :: st) M := by
  subst hq
  intro H locs ls hP hS hl
  obtain ⟨h1, rfl, h2⟩ := g_in_s h
  exact va_aldq (f := fun j => some (Y.2.2.1 (b + j))) C.1 C.2.1 C.2.2.2.2.2.1 hP k 3 (by rw [g_w_at hk, hc]) rfl h1 hd (kk H locs ls hP hS hl)
theorem g_aldA (C : g_C l R own cc nL X Y) {k n b j : Nat} {i : Int32} (hk : k < 80) (hc : g_cell Y k (M.1 k) (M.2 k) = .inl (Y.2.1 4, n, .inr (.inr (.inr (.inr (fun j => some (Y.2.2.1 (b + j)))))))) (h : g_in n i = some j) (hd : decode cc pc = .ok (.aaload, 1)) (hq : pc + 1 = q) (kk : g_G nL X Y q lv (g_r Y (b + j) :: st) M) : g_G nL X Y pc lv (.int i :: g_r Y k :: st) M := by
  subst hq
  intro H locs ls hP hS hl
  obtain ⟨h1, rfl, h2⟩ := g_in_s h
  have ha : (g_w Y M)[k]? = some (Y.2.2.1 k, .inl (Y.2.1 4, n, .inr (.inr (.inr (.inr (fun j => some (Y.2.2.1 (b + j)))))))) := by rw [g_w_at hk, hc]
  exact W.aald (v := va_rf (some (Y.2.2.1 (b + i.toNatClampNeg)))) (ty := .array .int) C.1 C.2.1 (hP k _ ha) ((C.2.2.2.2.2.1.2 4 _ rfl).1 n (fun j => va_rf (some (Y.2.2.1 (b + j))))) rfl (fun q => by cases q) (by show ¬ (i < 0 ∨ (arrV _ _ _).slots.size ≤ _); rw [arrV_size]; exact h1) (by show (arrV _ _ _).slots[_]? = _; rw [arrV_read _ _ h2]) rfl rfl hd (kk H locs ls hP hS hl)
theorem g_alen (C : g_C l R own cc nL X Y) {k n t : Nat} {a : (Nat → Int32) ⊕ (Nat → Int64) ⊕ (Nat → UInt32) ⊕ (Nat → UInt64) ⊕ (Nat → Option Nat)} {ty : FieldType} {v : Int32} (hk : k < 80) (hc : g_cell Y k (M.1 k) (M.2 k) = .inl (Y.2.1 t, n, a)) (ht : (g_tys Y)[t]? = some (Y.2.1 t, ty)) (hv : Int32.ofNat n = v) (hd : decode cc pc = .ok (.arraylength, 1)) (hq : pc + 1 = q) (kk : g_G nL X Y q lv (.int v :: st) M) : g_G nL X Y pc lv (g_r Y k :: st) M := by
  subst hq
  intro H locs ls hP hS hl
  exact va_alen C.1 C.2.1 C.2.2.2.2.2.1 hP k t (by rw [g_w_at hk, hc]) ht hv hd (kk H locs ls hP hS hl)
theorem g_callV (C : g_C l R own cc nL X Y) {h k ci idx N nL2 : Nat} {y : MethodName} {cc2 : ByteArray} {ret2 : Option FieldType} {as : List Value} {st0 : List Value} {r : Option Value} {M2 : g_M} {T : u_T} {fs : List Value} (hm : g_R l Y h y cc2 nL2 ret2 (g_r Y k :: as) M r M2) (hR : h + 1 ≤ R.frames ∧ 64 * h + 64 ≤ R.locals) (hn : nL2 ≤ 45) (hk : k < 80) (hc : g_cell Y k (M.1 k) (M.2 k) = .inr (ci, fs)) (hcl : vwCl[ci]? = some (y.cls, T, N))
    (w1 : Cond.methodLink own idx y ∈ g_ws) (w2 : Cond.instanceMethod y ∈ g_ws) (w3 : Cond.selects y.cls y y ∈ g_ws) (w4 : Cond.initialized y.cls ∈ g_ws) (w5 : Cond.code y cc2 nL2 ret2 ∈ g_ws) (hD : y.cls ≠ "java/lang/invoke/MethodHandle" ∧ y.cls ≠ "java/lang/invoke/VarHandle" ∧ (parseMethodDescriptor y.desc).map (fun d => d.parameters.length) = some as.length) (hst : st0 = as.reverse ++ g_r Y k :: st) (hsum : (st.map fun v => v.category).sum ≤ 8) (hd : decode cc pc = .ok (.invokevirtual idx, 3)) (hq : pc + 3 = q) (kk : g_G nL X Y q lv (r.toList ++ st) M2) : g_G nL X Y pc lv st0 M := by
  subst hq
  intro H locs ls hP hS hl
  obtain ⟨c1, c2, c3, c4, c5, c6, c7, c8, c9, c10, c11, c12, c13⟩ := id C
  have hm : Met X.l y (Cond.code y cc2 nL2 ret2 :: g_ws) (g_rm h) (g_Pc Y (g_r Y k :: as) M) (g_Qc Y r M2) 0 0 (g_A Y) := by rw [c10]; exact hm
  refine g_behind C hS (va_runV (S := ⟨c1, c2, c3, c4, c5⟩) (Ts := g_ws) (b := Y.2.2.1 k) (As := as) hm
    ⟨callB_of as.length c5 (g_good2 w5) rfl rfl rfl (c5 _ w4) (c5 _ w1) hD ⟨by rw [c11]; exact hR.1, by rw [c11]; show 8 + (nL2 + 11) + 64 * h ≤ R.locals; omega⟩, c5 _ w2, c5 _ w3⟩
    ⟨g_blind, va_recv c6 hP hcl (by rw [g_w_at hk, hc]), g_pre C hP hS⟩ rfl rfl hl.1 hst (lv_room hsum) hd ⟨by rw [c11]; exact c12, by rw [c11]; exact c13⟩) (fun H1 locs1 hP1 hS1 => kk H1 locs1 ls hP1 hS1 hl)
theorem g_callS (C : g_C l R own cc nL X Y) {h idx nL2 : Nat} {y : MethodName} {cc2 : ByteArray} {ret2 : Option FieldType} {as : List Value} {st0 : List Value} {r : Option Value} {M2 : g_M} (hm : g_R l Y h y cc2 nL2 ret2 as M r M2) (hR : h + 1 ≤ R.frames ∧ 64 * h + 64 ≤ R.locals) (hn : nL2 ≤ 45)
    (w1 : Cond.methodLink own idx y ∈ g_ws) (w2 : Cond.static y ∈ g_ws) (w4 : Cond.initialized y.cls ∈ g_ws) (w5 : Cond.code y cc2 nL2 ret2 ∈ g_ws) (hD : y.cls ≠ "java/lang/invoke/MethodHandle" ∧ y.cls ≠ "java/lang/invoke/VarHandle" ∧ (parseMethodDescriptor y.desc).map (fun d => d.parameters.length) = some as.length) (hst : st0 = as.reverse ++ st) (hsum : (st.map fun v => v.category).sum ≤ 8) (hd : decode cc pc = .ok (.invokestatic idx, 3)) (hq : pc + 3 = q) (kk : g_G nL X Y q lv (r.toList ++ st) M2) : g_G nL X Y pc lv st0 M := by
  subst hq
  intro H locs ls hP hS hl
  obtain ⟨c1, c2, c3, c4, c5, c6, c7, c8, c9, c10, c11, c12, c13⟩ := id C
  have hm : Met X.l y (Cond.code y cc2 nL2 ret2 :: g_ws) (g_rm h) (g_Pc Y as M) (g_Qc Y r M2) 0 0 (g_A Y) := by rw [c10]; exact hm
  refine g_behind C hS (va_runS (S := ⟨c1, c2, c3, c4, c5⟩) (Ts := g_ws) (As := as) hm
    ⟨callB_of as.length c5 (g_good2 w5) rfl rfl rfl (c5 _ w4) (c5 _ w1) hD ⟨by rw [c11]; exact hR.1, by rw [c11]; show 8 + (nL2 + 11) + 64 * h ≤ R.locals; omega⟩, c5 _ w2⟩
    ⟨g_blind, g_pre C hP hS⟩ rfl rfl hl.1 hst (lv_room hsum) hd ⟨by rw [c11]; exact c12, by rw [c11]; exact c13⟩) (fun H1 locs1 hP1 hS1 => kk H1 locs1 ls hP1 hS1 hl)
theorem g_iret (C : g_C l R own cc nL X Y) {v : Int32} (E : g_E (some .int) X Y (some (.int v)) M) (hd : decode cc pc = .ok (.ireturn, 1)) : g_G nL X Y pc lv [.int v] M := by
  intro H locs ls hP hS hl
  obtain ⟨e1, e2, e3, e4⟩ := E
  rw [e1]
  rw [e4] at hS
  exact W.iret C.1 C.2.1 e2 (fun t ht hW => ⟨rfl, by rw [ht]; exact hP, hS.F ht⟩) hS.2.2 hd e3
theorem g_zret (C : g_C l R own cc nL X Y) {v v' : Int32} (hz : g_bz v = some v') (E : g_E (some .boolean) X Y (some (.int v')) M) (hd : decode cc pc = .ok (.ireturn, 1)) : g_G nL X Y pc lv [.int v] M := by
  intro H locs ls hP hS hl
  obtain ⟨e1, e2, e3, e4⟩ := E
  obtain ⟨rfl, hv⟩ := g_bz_s hz
  rw [e1]
  rw [e4] at hS
  exact W.zret C.1 C.2.1 e2 (g_zn hv).1 (fun t ht hW => ⟨rfl, by rw [ht]; exact hP, hS.F ht⟩) hS.2.2 hd e3
theorem g_lret (C : g_C l R own cc nL X Y) {v : Int64} (E : g_E (some .long) X Y (some (.long v)) M) (hd : decode cc pc = .ok (.lreturn, 1)) : g_G nL X Y pc lv [.long v] M := by
  intro H locs ls hP hS hl
  obtain ⟨e1, e2, e3, e4⟩ := E
  rw [e1]
  rw [e4] at hS
  exact W.lret C.1 C.2.1 e2 (fun t ht hW => ⟨rfl, by rw [ht]; exact hP, hS.F ht⟩) hS.2.2 hd e3
theorem g_aret (C : g_C l R own cc nL X Y) {k : Nat} {n : String} (E : g_E (some (.object n)) X Y (some (g_r Y k)) M) (hd : decode cc pc = .ok (.areturn, 1)) : g_G nL X Y pc lv [g_r Y k] M := by
  intro H locs ls hP hS hl
  obtain ⟨e1, e2, e3, e4⟩ := E
  rw [e1]
  rw [e4] at hS
  exact W.aret C.1 C.2.1 e2 (Or.inl ⟨n, rfl⟩) (Or.inr ⟨_, rfl⟩) (fun t ht hW => ⟨rfl, by rw [ht]; exact hP, hS.F ht⟩) hS.2.2 hd e3
theorem g_vret (C : g_C l R own cc nL X Y) (E : g_E none X Y none M) (hd : decode cc pc = .ok (.return_, 1)) : g_G nL X Y pc lv [] M := by
  intro H locs ls hP hS hl
  obtain ⟨e1, e2, e3, e4⟩ := E
  rw [e1]
  rw [e4] at hS
  exact W.vret C.1 C.2.1 e2 (fun t ht hW => ⟨rfl, by rw [ht]; exact hP, hS.F ht⟩) hS.2.2 hd e3
end GROWS

