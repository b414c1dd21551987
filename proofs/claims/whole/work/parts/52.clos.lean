/-! ===== opening, round after round: as numbers grow ===== -/
def bsub (x y : Int32) : Prop := ∀ i, i < 32 → bt x i = true → bt y i = true
theorem bsub.rfl {x : Int32} : bsub x x := fun _ _ h => h
theorem bsub.trans {x y z : Int32} (a : bsub x y) (b : bsub y z) : bsub x z := fun i hi h => b i hi (a i hi h)
theorem bsub.eq {x y : Int32} (a : bsub x y) (b : bsub y x) : x = y := b_ext (fun i hi => by
  have h1 := a i hi
  have h2 := b i hi
  cases p : bt x i <;> cases q : bt y i <;> simp_all)
theorem bt_sub {x y : Int32} (a : bsub x y) {i : Nat} (h : bt x i = true) : bt y i = true := by
  by_cases c : i < 32
  · exact a i c h
  · rw [b_big (by omega)] at h
    exact absurd h (by decide)
section CLOS
variable {d : Nat → Int32} {h : Nat}
theorem s_opn_in {K : Int32} {i : Nat} : ∀ {n : Nat}, i < n → s_opn d K n i = s_op1 d K (s_opn d K i) i
  | 0, hi => absurd hi (by omega)
  | n + 1, hi => by
    show (if i = n then s_op1 d K (s_opn d K n) n else s_opn d K n i) = _
    by_cases c : i = n
    · subst c
      rw [if_pos rfl]
    · rw [if_neg c]
      exact s_opn_in (by omega)
theorem s_opn_out {K : Int32} {i : Nat} : ∀ {n : Nat}, n ≤ i → s_opn d K n i = false
  | 0, _ => rfl
  | n + 1, hi => by
    show (if i = n then s_op1 d K (s_opn d K n) n else s_opn d K n i) = _
    rw [if_neg (by omega)]
    exact s_opn_out (by omega)
theorem s_op1_mono {K K' : Int32} (a : bsub K K') {f g : Nat → Bool} (hf : ∀ i, f i = true → g i = true) {i : Nat} (e : s_op1 d K f i = true) : s_op1 d K' g i = true := by
  unfold s_op1 at e ⊢
  split
  · rename_i c
    rw [if_pos c] at e
    exact bt_sub a e
  · rename_i c
    rw [if_neg c] at e
    split
    · rename_i c2
      rw [if_pos c2, Bool.or_eq_true] at e
      rw [Bool.or_eq_true]
      exact e.imp (bt_sub a) (bt_sub a)
    · rename_i c2
      rw [if_neg c2] at e
      split
      · rename_i c3
        rw [if_pos c3, Bool.or_eq_true] at e
        rw [Bool.or_eq_true]
        exact e.imp (hf _) (hf _)
      · rename_i c3
        rw [if_neg c3] at e
        split
        · rename_i c4
          rw [if_pos c4, Bool.and_eq_true] at e
          rw [Bool.and_eq_true]
          exact ⟨hf _ e.1, hf _ e.2⟩
        · rename_i c4
          rw [if_neg c4] at e
          exact hf _ e
theorem s_opn_mono {K K' : Int32} (a : bsub K K') : ∀ (n i : Nat), s_opn d K n i = true → s_opn d K' n i = true
  | 0, i, e => by
    rw [show s_opn d K 0 i = false from rfl] at e
    exact absurd e (by decide)
  | n + 1, i, e => by
    have e2 : (if i = n then s_op1 d K (s_opn d K n) n else s_opn d K n i) = true := e
    show (if i = n then s_op1 d K' (s_opn d K' n) n else s_opn d K' n i) = true
    by_cases c : i = n
    · rw [if_pos c] at e2 ⊢
      exact s_op1_mono a (s_opn_mono a n) e2
    · rw [if_neg c] at e2 ⊢
      exact s_opn_mono a n i e2
/-- the keys of boxes are keys -/
def KB (d : Nat → Int32) (h : Nat) : Prop := ∀ i, i < h → d (40 + 4 * i) = 4 → ∃ q, q < 24 ∧ d (40 + 4 * i + 3) = nI q
theorem s_box_bt {f : Nat → Bool} {k : Nat} (hk : k < 32) : ∀ {n : Nat}, KB d n → (bt (s_box d f n) k = true ↔ ∃ i, i < n ∧ d (40 + 4 * i) = 4 ∧ f i = true ∧ d (40 + 4 * i + 3) = nI k)
  | 0, _ => by
    constructor
    · intro e
      rw [show s_box d f 0 = 0 from rfl, b_0] at e
      exact absurd e (by decide)
    · rintro ⟨i, hi, -⟩
      omega
  | n + 1, w => by
    have ih := s_box_bt (f := f) hk (n := n) (fun i hi => w i (by omega))
    show bt (s_box d f n ||| _) k = true ↔ _
    rw [b_or, Bool.or_eq_true, ih]
    constructor
    · rintro (⟨i, hi, a⟩ | e)
      · exact ⟨i, by omega, a⟩
      · by_cases c : d (40 + 4 * n) = 4 ∧ f n = true
        · rw [if_pos c] at e
          obtain ⟨q, hq, eq⟩ := w n (by omega) c.1
          rw [eq, bt_one (by omega)] at e
          have : k = q := of_decide_eq_true e
          exact ⟨n, by omega, c.1, c.2, by rw [eq, this]⟩
        · rw [if_neg c, b_0] at e
          exact absurd e (by decide)
    · rintro ⟨i, hi, a1, a2, a3⟩
      by_cases c : i = n
      · subst c
        right
        rw [if_pos ⟨a1, a2⟩, a3, bt_one hk]
        exact decide_eq_true rfl
      · exact Or.inl ⟨i, by omega, a1, a2, a3⟩
theorem s_box_mono {f g : Nat → Bool} (w : KB d h) (hf : ∀ i, i < h → f i = true → g i = true) : bsub (s_box d f h) (s_box d g h) := fun k hk e => by
  rw [s_box_bt hk w] at e ⊢
  obtain ⟨i, hi, a1, a2, a3⟩ := e
  exact ⟨i, hi, a1, hf i hi a2, a3⟩
theorem s_kr_up (K : Int32) (r : Nat) : bsub (s_kr d h K r) (s_kr d h K (r + 1)) := fun i _ e => by
  show bt (s_kr d h K r ||| _) i = true
  rw [b_or, e, Bool.true_or]
theorem s_kr_le {K : Int32} {r r' : Nat} (hr : r ≤ r') : bsub (s_kr d h K r) (s_kr d h K r') := by
  induction r' with
  | zero =>
    have : r = 0 := by omega
    subst this
    exact bsub.rfl
  | succ n ih =>
    by_cases c : r = n + 1
    · subst c
      exact bsub.rfl
    · exact (ih (by omega)).trans (s_kr_up K n)
theorem s_kr_fix {K : Int32} {r : Nat} (e : s_kr d h K (r + 1) = s_kr d h K r) : ∀ j, s_kr d h K (r + j) = s_kr d h K r
  | 0 => rfl
  | j + 1 => by
    show s_rnd d h (s_kr d h K (r + j)) = _
    rw [s_kr_fix e j]
    exact e
theorem s_kr_grow (w : KB d h) {K : Int32} {r : Nat} (ne : ¬ s_kr d h K (r + 1) = s_kr d h K r) : fb_ct (bt (s_kr d h K r)) 24 + 1 ≤ fb_ct (bt (s_kr d h K (r + 1))) 24 := by
  have : ∃ i, i < 24 ∧ bt (s_kr d h K r) i = false ∧ bt (s_kr d h K (r + 1)) i = true := by
    apply Classical.byContradiction
    intro no
    refine ne (bsub.eq (fun i hi e => ?_) (s_kr_up K r))
    cases q : bt (s_kr d h K r) i with
    | true => rfl
    | false =>
      have e2 : bt (s_kr d h K r ||| s_box d (s_opn d (s_kr d h K r) h) h) i = true := e
      rw [b_or, q, Bool.false_or, s_box_bt hi w] at e2
      obtain ⟨j, hj, a1, -, a3⟩ := e2
      obtain ⟨z, hz, ez⟩ := w j hj a1
      have : z = i := (nI_eq (by omega) (by omega)).mp (ez.symm.trans a3)
      exact absurd ⟨i, by omega, q, e⟩ no
  obtain ⟨i, hi, a, b⟩ := this
  have u := fb_ct_upd (bt (s_kr d h K r)) true hi
  rw [a] at u
  simp only [if_true, Bool.false_eq_true, if_false] at u
  have s := fb_ct_sub (n := 24) (p := fun k => if k = i then true else bt (s_kr d h K r) k) (q := bt (s_kr d h K (r + 1))) (fun k hk e => by
    by_cases c : k = i
    · subst c
      exact b
    · simp only [if_neg c] at e
      exact bt_sub (s_kr_up K r) e)
  omega
theorem s_kr_many (w : KB d h) {K : Int32} : ∀ r, (∀ j, j < r → ¬ s_kr d h K (j + 1) = s_kr d h K j) → r ≤ fb_ct (bt (s_kr d h K r)) 24
  | 0, _ => by omega
  | r + 1, a => by
    have := s_kr_many w r (fun j hj => a j (by omega))
    have := s_kr_grow w (a r (by omega))
    omega
theorem s_kr_stop (w : KB d h) (K : Int32) : ∃ r, r ≤ 24 ∧ s_kr d h K (r + 1) = s_kr d h K r := by
  apply Classical.byContradiction
  intro no
  have := s_kr_many w (K := K) 25 (fun j hj e => no ⟨j, by omega, e⟩)
  have := fb_ct_le (bt (s_kr d h K 25)) 24
  omega
theorem s_kr_end (w : KB d h) (K : Int32) {r : Nat} (hr : 24 ≤ r) : s_kr d h K r = s_end d h K := by
  obtain ⟨q, hq, e⟩ := s_kr_stop w K
  have f := s_kr_fix e
  unfold s_end
  have a := f (r - q)
  have b := f (24 - q)
  rw [show q + (r - q) = r by omega] at a
  rw [show q + (24 - q) = 24 by omega] at b
  rw [a, b]
theorem s_kr_end' (w : KB d h) (K : Int32) {r : Nat} (e : s_kr d h K (r + 1) = s_kr d h K r) : s_kr d h K r = s_end d h K := by
  rw [← s_kr_end w K (r := r + 24) (by omega)]
  exact (s_kr_fix e 24).symm
theorem s_end_rnd (w : KB d h) (K : Int32) : s_rnd d h (s_end d h K) = s_end d h K := s_kr_end w K (r := 25) (by omega)
/-- what is had in the end are the keys given and those in boxes that are open in the end -/
theorem s_end_box (w : KB d h) (K : Int32) : K ||| s_box d (s_opn d (s_end d h K) h) h = s_end d h K := by
  refine bsub.eq (fun i hi e => ?_) ?_
  · rw [b_or, Bool.or_eq_true] at e
    rcases e with e | e
    · exact bt_sub (s_kr_le (r := 0) (r' := 24) (by omega)) e
    · rw [← s_end_rnd w K]
      show bt (s_end d h K ||| _) i = true
      rw [b_or, e, Bool.or_true]
  · have : ∀ r, r ≤ 24 → bsub (s_kr d h K r) (K ||| s_box d (s_opn d (s_end d h K) h) h) := by
      intro r
      induction r with
      | zero =>
        intro _ i _ e
        rw [b_or]
        rw [show s_kr d h K 0 = K from rfl] at e
        rw [e, Bool.true_or]
      | succ n ih =>
        intro hn i hi e
        have e2 : bt (s_kr d h K n ||| s_box d (s_opn d (s_kr d h K n) h) h) i = true := e
        rw [b_or, Bool.or_eq_true] at e2
        rcases e2 with e2 | e2
        · exact ih (by omega) i hi e2
        · rw [b_or]
          have z := s_box_mono (f := s_opn d (s_kr d h K n) h) (g := s_opn d (s_end d h K) h) w (fun j _ => s_opn_mono (s_kr_le (r := n) (r' := 24) (by omega)) h j) i hi e2
          rw [z, Bool.or_true]
    exact this 24 (Nat.le_refl _)
/-- the first round (from 1) at which it is so, 0 if none -/
def s_fst (f : Nat → Bool) : Nat → Nat
  | 0 => 0
  | r + 1 => if s_fst f r = 0 then (if f r = true then r + 1 else 0) else s_fst f r
theorem s_fst_0 {f : Nat → Bool} : ∀ {r : Nat}, s_fst f r = 0 ↔ ∀ j, j < r → f j = false
  | 0 => ⟨fun _ j hj => absurd hj (by omega), fun _ => rfl⟩
  | r + 1 => by
    have ih := s_fst_0 (f := f) (r := r)
    show (if s_fst f r = 0 then (if f r = true then r + 1 else 0) else s_fst f r) = 0 ↔ _
    constructor
    · intro e j hj
      by_cases c : s_fst f r = 0
      · rw [if_pos c] at e
        by_cases c2 : f r = true
        · rw [if_pos c2] at e
          omega
        · by_cases cj : j = r
          · rw [cj]
            simpa using c2
          · exact ih.mp c j (by omega)
      · rw [if_neg c] at e
        exact absurd e c
    · intro a
      rw [if_pos (ih.mpr (fun j hj => a j (by omega))), if_neg]
      rw [a r (by omega)]
      decide
theorem s_fst_is {f : Nat → Bool} {r : Nat} (e : f r = true) (a : ∀ j, j < r → f j = false) : ∀ k, s_fst f (r + 1 + k) = r + 1
  | 0 => by
    show (if s_fst f r = 0 then (if f r = true then r + 1 else 0) else s_fst f r) = _
    rw [if_pos (s_fst_0.mpr a), if_pos e]
  | k + 1 => by
    show (if s_fst f (r + 1 + k) = 0 then _ else s_fst f (r + 1 + k)) = _
    rw [s_fst_is e a k, if_neg (by omega)]
theorem s_fst_le {f : Nat → Bool} : ∀ r, s_fst f r ≤ r
  | 0 => Nat.le_refl _
  | r + 1 => by
    have := s_fst_le (f := f) r
    unfold s_fst
    split
    · split <;> omega
    · omega
end CLOS
