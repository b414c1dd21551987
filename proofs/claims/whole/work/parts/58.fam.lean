/-! ===== families: the least that are in, the most that are out ===== -/
def pn (p : Nat → Bool) (s : Nat) : Bool := (List.range 1024).any (fun q => sb q s && (q != s) && p q)
def nr (p : Nat → Bool) (s : Nat) : Bool := (List.range 1024).any (fun q => sb q s && p q)
def mn (p : Nat → Bool) (s : Nat) : Bool := p s && !pn p s
def qn (p : Nat → Bool) (A s : Nat) : Bool := (List.range 1024).any (fun q => sb s q && sb q A && (q != s) && !p q)
def ns (p : Nat → Bool) (A s : Nat) : Bool := (List.range 1024).any (fun q => sb s q && sb q A && !p q)
def mx (p : Nat → Bool) (A s : Nat) : Bool := !p s && !qn p A s
theorem any_iff {f : Nat → Bool} {n : Nat} : (List.range n).any f = true ↔ ∃ q, q < n ∧ f q = true := by
  rw [List.any_eq_true]
  constructor
  · rintro ⟨q, a, b⟩
    exact ⟨q, List.mem_range.mp a, b⟩
  · rintro ⟨q, a, b⟩
    exact ⟨q, List.mem_range.mpr a, b⟩
theorem bool_iff {a b : Bool} (h : a = true ↔ b = true) : a = b := by
  cases a <;> cases b <;> simp_all
theorem pn_iff {p : Nat → Bool} {s : Nat} (hs : s < 1024) : pn p s = true ↔ ∃ q, sb q s = true ∧ q ≠ s ∧ p q = true := by
  unfold pn
  rw [any_iff]
  constructor
  · rintro ⟨q, -, b⟩
    rw [Bool.and_eq_true, Bool.and_eq_true, bne_iff_ne] at b
    exact ⟨q, b.1.1, b.1.2, b.2⟩
  · rintro ⟨q, a, b, c⟩
    have := sb_le a
    exact ⟨q, by omega, by rw [Bool.and_eq_true, Bool.and_eq_true, bne_iff_ne]; exact ⟨⟨a, b⟩, c⟩⟩
theorem nr_iff {p : Nat → Bool} {s : Nat} (hs : s < 1024) : nr p s = true ↔ ∃ q, sb q s = true ∧ p q = true := by
  unfold nr
  rw [any_iff]
  constructor
  · rintro ⟨q, -, b⟩
    rw [Bool.and_eq_true] at b
    exact ⟨q, b.1, b.2⟩
  · rintro ⟨q, a, c⟩
    have := sb_le a
    exact ⟨q, by omega, by rw [Bool.and_eq_true]; exact ⟨a, c⟩⟩
theorem qn_iff {p : Nat → Bool} {A s : Nat} (hA : A < 1024) : qn p A s = true ↔ ∃ q, sb s q = true ∧ sb q A = true ∧ q ≠ s ∧ p q = false := by
  unfold qn
  rw [any_iff]
  constructor
  · rintro ⟨q, -, b⟩
    rw [Bool.and_eq_true, Bool.and_eq_true, Bool.and_eq_true, bne_iff_ne] at b
    exact ⟨q, b.1.1.1, b.1.1.2, b.1.2, by simpa using b.2⟩
  · rintro ⟨q, a, b, c, e⟩
    have := sb_le b
    exact ⟨q, by omega, by rw [Bool.and_eq_true, Bool.and_eq_true, Bool.and_eq_true, bne_iff_ne]; exact ⟨⟨⟨a, b⟩, c⟩, by rw [e]; rfl⟩⟩
theorem ns_iff {p : Nat → Bool} {A s : Nat} (hA : A < 1024) : ns p A s = true ↔ ∃ q, sb s q = true ∧ sb q A = true ∧ p q = false := by
  unfold ns
  rw [any_iff]
  constructor
  · rintro ⟨q, -, b⟩
    rw [Bool.and_eq_true, Bool.and_eq_true] at b
    exact ⟨q, b.1.1, b.1.2, by simpa using b.2⟩
  · rintro ⟨q, a, b, e⟩
    have := sb_le b
    exact ⟨q, by omega, by rw [Bool.and_eq_true, Bool.and_eq_true]; exact ⟨⟨a, b⟩, by rw [e]; rfl⟩⟩
theorem nr_eq {p : Nat → Bool} {s : Nat} (hs : s < 1024) : nr p s = (pn p s || p s) := by
  apply bool_iff
  rw [nr_iff hs, Bool.or_eq_true, pn_iff hs]
  constructor
  · rintro ⟨q, a, b⟩
    by_cases c : q = s
    · right
      rw [← c]
      exact b
    · exact Or.inl ⟨q, a, c, b⟩
  · rintro (⟨q, a, -, b⟩ | b)
    · exact ⟨q, a, b⟩
    · exact ⟨s, sb_refl s, b⟩
theorem ns_eq {p : Nat → Bool} {A s : Nat} (hA : A < 1024) (hs : sb s A = true) : ns p A s = (qn p A s || !p s) := by
  apply bool_iff
  rw [ns_iff hA, Bool.or_eq_true, qn_iff hA]
  constructor
  · rintro ⟨q, a, b, c⟩
    by_cases e : q = s
    · right
      rw [← e, c]
      rfl
    · exact Or.inl ⟨q, a, b, e, c⟩
  · rintro (⟨q, a, b, -, c⟩ | c)
    · exact ⟨q, a, b, c⟩
    · exact ⟨s, sb_refl s, hs, by simpa using c⟩
theorem sb_xor {s i : Nat} (hi : s.testBit i = true) : sb (s ^^^ 2 ^ i) s = true ∧ (s ^^^ 2 ^ i) ≠ s := by
  constructor
  · rw [sb_iff]
    intro j hj
    rw [xb] at hj
    by_cases c : i = j
    · rw [← c]
      exact hi
    · rw [decide_eq_false c, Bool.xor_false] at hj
      exact hj
  · intro e
    have := congrArg (fun z => z.testBit i) e
    simp only [xb, decide_true, hi] at this
    exact absurd this (by decide)
theorem pn_step {p : Nat → Bool} {s : Nat} (hs : s < 1024) : (List.range 10).any (fun i => s.testBit i && nr p (s ^^^ 2 ^ i)) = pn p s := by
  apply bool_iff
  rw [any_iff, pn_iff hs]
  constructor
  · rintro ⟨i, hi, b⟩
    rw [Bool.and_eq_true] at b
    have x := sb_xor b.1
    have := sb_le x.1
    obtain ⟨q, q1, q2⟩ := (nr_iff (by omega)).mp b.2
    refine ⟨q, sb_trans q1 x.1, fun e => ?_, q2⟩
    subst e
    exact x.2 (sb_anti x.1 q1)
  · rintro ⟨q, a, ne, b⟩
    have : ∃ i, s.testBit i = true ∧ q.testBit i = false := by
      apply Classical.byContradiction
      intro no
      refine ne (sb_anti a (sb_iff.mpr (fun i hi => ?_)))
      cases e : q.testBit i
      · exact absurd ⟨i, hi, e⟩ no
      · rfl
    obtain ⟨i, i1, i2⟩ := this
    have hi : i < 10 := by
      apply Classical.byContradiction
      intro c
      rw [tb_big hs (by omega)] at i1
      exact absurd i1 (by decide)
    refine ⟨i, hi, ?_⟩
    have x := sb_xor i1
    have := sb_le x.1
    rw [Bool.and_eq_true]
    refine ⟨i1, (nr_iff (by omega)).mpr ⟨q, sb_iff.mpr (fun j hj => ?_), b⟩⟩
    rw [xb]
    by_cases c : i = j
    · subst c
      rw [i2] at hj
      exact absurd hj (by decide)
    · rw [decide_eq_false c, Bool.xor_false]
      exact sb_iff.mp a j hj
theorem sb_or {s A i : Nat} (hs : sb s A = true) (hA : A.testBit i = true) (hi : s.testBit i = false) : sb s (s ||| 2 ^ i) = true ∧ sb (s ||| 2 ^ i) A = true ∧ (s ||| 2 ^ i) ≠ s := by
  refine ⟨sb_iff.mpr (fun j hj => ?_), sb_iff.mpr (fun j hj => ?_), fun e => ?_⟩
  · rw [ob, hj, Bool.true_or]
  · rw [ob, Bool.or_eq_true] at hj
    rcases hj with hj | hj
    · exact sb_iff.mp hs j hj
    · rw [← of_decide_eq_true hj]
      exact hA
  · have := congrArg (fun z => z.testBit i) e
    simp only [ob, decide_true, hi, Bool.or_true] at this
    exact absurd this (by decide)
theorem qn_step {p : Nat → Bool} {A s : Nat} (hA : A < 1024) (hs : sb s A = true) : (List.range 10).any (fun i => (A &&& (s ^^^ 1023)).testBit i && ns p A (s ||| 2 ^ i)) = qn p A s := by
  have t1023 : ∀ i, i < 10 → (1023 : Nat).testBit i = true := by decide
  apply bool_iff
  rw [any_iff, qn_iff hA]
  constructor
  · rintro ⟨i, hi, b⟩
    rw [Bool.and_eq_true, Nat.testBit_and, Nat.testBit_xor, t1023 i hi, Bool.and_eq_true] at b
    have b3 : s.testBit i = false := by
      have := b.1.2
      cases e : s.testBit i
      · rfl
      · rw [e] at this
        exact absurd this (by decide)
    have x := sb_or hs b.1.1 b3
    obtain ⟨q, q1, q2, q3⟩ := (ns_iff hA).mp b.2
    refine ⟨q, sb_trans x.1 q1, q2, fun e => ?_, q3⟩
    subst e
    exact x.2.2 (sb_anti q1 x.1)
  · rintro ⟨q, a, b, ne, c⟩
    have : ∃ i, q.testBit i = true ∧ s.testBit i = false := by
      apply Classical.byContradiction
      intro no
      refine ne (sb_anti (sb_iff.mpr (fun i hi => ?_)) a)
      cases e : s.testBit i
      · exact absurd ⟨i, hi, e⟩ no
      · rfl
    obtain ⟨i, i1, i2⟩ := this
    have hAi := sb_iff.mp b i i1
    have hi : i < 10 := by
      apply Classical.byContradiction
      intro c
      rw [tb_big hA (by omega)] at hAi
      exact absurd hAi (by decide)
    refine ⟨i, hi, ?_⟩
    rw [Bool.and_eq_true, Nat.testBit_and, Nat.testBit_xor, t1023 i hi, hAi, i2]
    refine ⟨rfl, (ns_iff hA).mpr ⟨q, sb_iff.mpr (fun j hj => ?_), b, c⟩⟩
    rw [ob, Bool.or_eq_true] at hj
    rcases hj with hj | hj
    · exact sb_iff.mp a j hj
    · rw [← of_decide_eq_true hj]
      exact i1
/-! lists of them -/
def lst (f : Nat → Bool) (A k : Nat) : List Nat := (List.range k).filter (fun s => sb s A && f s)
theorem lst_s (f : Nat → Bool) (A k : Nat) : lst f A (k + 1) = lst f A k ++ (if (sb k A && f k) = true then [k] else []) := by
  unfold lst
  rw [List.range_succ, List.filter_append]
  congr 1
  rw [List.filter_cons, List.filter_nil]
theorem lst_mono {f : Nat → Bool} {A k k' : Nat} (h : k ≤ k') : ∃ r, lst f A k' = lst f A k ++ r := by
  induction k' with
  | zero =>
    have : k = 0 := by omega
    subst this
    exact ⟨[], by simp⟩
  | succ n ih =>
    by_cases c : k = n + 1
    · subst c
      exact ⟨[], by simp⟩
    · obtain ⟨r, hr⟩ := ih (by omega)
      exact ⟨r ++ _, by rw [lst_s, hr, List.append_assoc]⟩
theorem lst_end {f : Nat → Bool} {A k : Nat} (h : A < k) : lst f A k = lst f A (A + 1) := by
  induction k with
  | zero => omega
  | succ n ih =>
    by_cases c : A = n
    · subst c
      rfl
    · rw [lst_s, if_neg, List.append_nil]
      · exact ih (by omega)
      · rw [Bool.and_eq_true]
        intro q
        have := sb_le q.1
        omega
theorem lst_mem {f : Nat → Bool} {A k s : Nat} : s ∈ lst f A k ↔ s < k ∧ sb s A = true ∧ f s = true := by
  unfold lst
  rw [List.mem_filter, List.mem_range, Bool.and_eq_true]
theorem lst_lt {f : Nat → Bool} {A k i j : Nat} (hij : i < j) (hj : j < (lst f A k).length) : (lst f A k).getD i 0 < (lst f A k).getD j 0 := by
  have pw : List.Pairwise (· < ·) (lst f A k) := List.Pairwise.filter _ List.pairwise_lt_range
  have := List.pairwise_iff_getElem.mp pw i j (by omega) hj hij
  rw [List.getD_eq_getElem?_getD, List.getD_eq_getElem?_getD, List.getElem?_eq_getElem (by omega), List.getElem?_eq_getElem hj]
  exact this
theorem lst_at {f : Nat → Bool} {A k i : Nat} (hi : i < (lst f A k).length) : (lst f A k).getD i 0 ∈ lst f A k := by
  rw [List.getD_eq_getElem?_getD, List.getElem?_eq_getElem hi]
  exact List.getElem_mem hi
theorem mn_1 {p : Nat → Bool} {s : Nat} : mn p s = true ↔ p s = true ∧ pn p s = false := by
  unfold mn
  rw [Bool.and_eq_true]
  simp
theorem mx_1 {p : Nat → Bool} {A s : Nat} : mx p A s = true ↔ p s = false ∧ qn p A s = false := by
  unfold mx
  rw [Bool.and_eq_true]
  simp
theorem mn_252 (p : Nat → Bool) {A k : Nat} (hk : k ≤ 1024) : (lst (mn p) A k).length ≤ 252 := by
  refine anti_252 (fun i hi => ?_) (fun i j hij hj => ?_)
  · have := (lst_mem.mp (lst_at hi)).1
    omega
  · have hlt := lst_lt hij hj
    have a := lst_mem.mp (lst_at (f := mn p) (A := A) (k := k) (i := i) (by omega))
    have b := lst_mem.mp (lst_at (f := mn p) (A := A) (k := k) hj)
    have a3 := mn_1.mp a.2.2
    have b3 := mn_1.mp b.2.2
    constructor
    · intro q
      have := (pn_iff (p := p) (by omega)).mpr ⟨_, q, by omega, a3.1⟩
      rw [this] at b3
      exact absurd b3.2 (by decide)
    · intro q
      have := sb_le q
      omega
theorem mx_252 (p : Nat → Bool) {A k : Nat} (hA : A < 1024) (hk : k ≤ 1024) : (lst (mx p A) A k).length ≤ 252 := by
  refine anti_252 (fun i hi => ?_) (fun i j hij hj => ?_)
  · have := (lst_mem.mp (lst_at hi)).1
    omega
  · have hlt := lst_lt hij hj
    have a := lst_mem.mp (lst_at (f := mx p A) (A := A) (k := k) (i := i) (by omega))
    have b := lst_mem.mp (lst_at (f := mx p A) (A := A) (k := k) hj)
    have a3 := mx_1.mp a.2.2
    have b3 := mx_1.mp b.2.2
    constructor
    · intro q
      have := (qn_iff (p := p) hA).mpr ⟨_, q, b.2.1, by omega, b3.1⟩
      rw [this] at a3
      exact absurd a3.2 (by decide)
    · intro q
      have := sb_le q
      omega
/-- a submask before another -/
theorem sb_pred : ∀ (k s q r : Nat), q < 2 ^ k → sb q s = true → sb r s = true → r < q → r ≤ (q - 1) &&& s := by
  intro k
  induction k with
  | zero =>
    intro s q r h1 h2 h3 h4
    have : q = 0 := by omega
    omega
  | succ k ih =>
    intro s q r h1 h2 h3 h4
    have half : ∀ {x y : Nat}, sb x y = true → sb (x / 2) (y / 2) = true ∧ x % 2 ≤ y % 2 := fun {x y} e => by
      rw [sb_iff] at e
      constructor
      · rw [sb_iff]
        intro i hi
        rw [← Nat.testBit_succ] at hi ⊢
        exact e _ hi
      · have := e 0
        rw [Nat.testBit_zero, Nat.testBit_zero] at this
        simp at this
        omega
    have hq := half h2
    have hr := half h3
    have e1 : ((q - 1) &&& s) / 2 = (q - 1) / 2 &&& s / 2 := Nat.and_div_two
    have e2 : ((q - 1) &&& s) % 2 = ((q - 1) % 2) &&& (s % 2) := Nat.and_mod_two_pow (n := 1)
    by_cases c : q % 2 = 1
    · have f1 : (q - 1) / 2 = q / 2 := by omega
      have f2 : q / 2 &&& s / 2 = q / 2 := by
        have := hq.1
        unfold sb at this
        rw [beq_iff_eq] at this
        exact this
      rw [f1, f2] at e1
      omega
    · have f1 : (q - 1) / 2 = q / 2 - 1 := by omega
      have f2 : (q - 1) % 2 = 1 := by omega
      have := ih (s / 2) (q / 2) (r / 2) (by rw [Nat.pow_succ] at h1; omega) hq.1 hr.1 (by omega)
      rw [f1] at e1
      rw [f2] at e2
      have f3 : 1 &&& (s % 2) = s % 2 := by
        rcases (show s % 2 = 0 ∨ s % 2 = 1 by omega) with z | z <;> rw [z] <;> rfl
      rw [f3] at e2
      omega
