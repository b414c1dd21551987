section OPEND
variable {h : Nat} {d : Nat → Int32} {M : g_M}
theorem or_eq {K b : Int32} : K ||| b = K ↔ bsub b K := by
  constructor
  · intro e i hi q
    rw [← e, b_or, q, Bool.or_true]
  · intro s
    refine b_ext (fun i hi => ?_)
    rw [b_or]
    cases q : bt b i
    · rw [Bool.or_false]
    · rw [s i hi q]
      rfl
theorem oe_go (x : XH M d h) (w : ∀ i, i < h → W_H d i) (hh : h ≤ 40) (K : Int32) : ∀ (k f r : Nat) (y : Int64), r + k = 24 → k < f → (∀ j, j < 64 → bl y j = s_opn d (s_kr d h K r) h j) → ∃ z, g_lq3 (F_X4_openInTheEnd_11 M (fun (x3 : Int64) => some x3) (fun (x3 : Int64) => some x3)) f (s_kr d h K r) y (nI (r + 1)) = some z ∧ ∀ j, j < 64 → bl z j = s_opens d h K j := by
  have wk := W_H.KB w
  intro k
  induction k with
  | zero =>
    intro f r y hr hf hy
    obtain ⟨f, rfl⟩ : ∃ f', f = f' + 1 := ⟨f - 1, by omega⟩
    have : r = 24 := by omega
    subst this
    refine ⟨y, ?_, hy⟩
    rw [lq3_s, F_X4_openInTheEnd_11, if_neg (by decide), kb_eq x wk hh (fun j hj => hy j (by omega)), Option.bind_some, if_pos]
    exact s_end_rnd wk K
  | succ k ih =>
    intro f r y hr hf hy
    obtain ⟨f, rfl⟩ : ∃ f', f = f' + 1 := ⟨f - 1, by omega⟩
    by_cases c : s_kr d h K (r + 1) = s_kr d h K r
    · refine ⟨y, ?_, ?_⟩
      · rw [lq3_s, F_X4_openInTheEnd_11, if_neg (show ¬ (40 : Int32) < nI (r + 1) from nI_nlt (a := 40) (by omega) (by omega)), kb_eq x wk hh (fun j hj => hy j (by omega)), Option.bind_some, if_pos]
        exact c
      · intro j hj
        rw [hy j hj, s_kr_end' wk K c]
        rfl
    · obtain ⟨u, u1, u2⟩ := ow_eq x w hh (s_kr d h K (r + 1))
      obtain ⟨z, z1, z2⟩ := ih f (r + 1) u (by omega) (by omega) u2
      refine ⟨z, ?_, z2⟩
      rw [lq3_s, F_X4_openInTheEnd_11, if_neg (show ¬ (40 : Int32) < nI (r + 1) from nI_nlt (a := 40) (by omega) (by omega)), kb_eq x wk hh (fun j hj => hy j (by omega)), Option.bind_some, if_neg (show ¬ s_kr d h K r ||| s_box d (s_opn d (s_kr d h K r) h) h = s_kr d h K r from c)]
      rw [show f_X4_openWith (s_kr d h K r ||| s_box d (s_opn d (s_kr d h K r) h) h) M = some u from u1, Option.bind_some, nI_1]
      exact z1
theorem oe_eq (x : XH M d h) (w : ∀ i, i < h → W_H d i) (hh : h ≤ 40) (K : Int32) : ∃ z, f_X4_openInTheEnd K M = some z ∧ ∀ j, j < 64 → bl z j = s_opens d h K j := by
  obtain ⟨u, u1, u2⟩ := ow_eq x w hh K
  obtain ⟨z, z1, z2⟩ := oe_go x w hh K 24 20000000 0 u (by omega) (by omega) u2
  refine ⟨z, ?_, z2⟩
  unfold f_X4_openInTheEnd
  rw [u1, Option.bind_some]
  exact z1
theorem isO_eq (x : XH M d h) (w : ∀ i, i < h → W_H d i) (hh : h ≤ 40) (K : Int32) {i : Nat} (hi : i < h) : f_X4_isOpenInTheEnd (nI i) K M = some (if s_opens d h K i = true then 1 else 0) := by
  obtain ⟨z, z1, z2⟩ := oe_eq x w hh K
  unfold f_X4_isOpenInTheEnd
  rw [z1, Option.bind_some]
  cases c : s_opens d h K i
  · rw [if_pos ((lg0_bit z (by omega)).mpr ((z2 i (by omega)).trans c))]
    rfl
  · rw [if_neg (fun p => by rw [lg0_bit z (by omega), z2 i (by omega), c] at p; exact absurd p (by decide))]
    rfl
theorem ke_eq (x : XH M d h) (w : ∀ i, i < h → W_H d i) (hh : h ≤ 40) (K : Int32) : f_X4_keysInTheEnd K M = some (s_end d h K) := by
  have wk := W_H.KB w
  obtain ⟨z, z1, z2⟩ := oe_eq x w hh K
  unfold f_X4_keysInTheEnd
  rw [z1, Option.bind_some, kb_eq x wk hh (g := s_opn d (s_end d h K) h) (fun j hj => z2 j (by omega)), Option.bind_some, s_end_box wk]
/-- the round at which a hanging opens -/
def s_rd (d : Nat → Int32) (h : Nat) (K : Int32) (i : Nat) : Nat := s_fst (fun j => s_opn d (s_kr d h K j) h i) 25
theorem ro_go (x : XH M d h) (w : ∀ i, i < h → W_H d i) (hh : h ≤ 40) (K : Int32) {i : Nat} (hi : i < h) : ∀ (k f r : Nat), r + k = 24 → k < f → (∀ j, j < r → s_opn d (s_kr d h K j) h i = false) → g_lq3 (F_X4_roundOf_5 M (fun (x4 : Int32) => some x4) (some 0) (some 0)) f (nI i) (s_kr d h K r) (nI (r + 1)) = some (nI (s_rd d h K i)) := by
  have wk := W_H.KB w
  intro k
  induction k with
  | zero =>
    intro f r hr hf hj
    obtain ⟨f, rfl⟩ : ∃ f', f = f' + 1 := ⟨f - 1, by omega⟩
    have : r = 24 := by omega
    subst this
    obtain ⟨u, u1, u2⟩ := ow_eq x w hh (s_kr d h K 24)
    rw [lq3_s, F_X4_roundOf_5, if_neg (by decide), u1, Option.bind_some]
    cases c : s_opn d (s_kr d h K 24) h i
    · rw [if_pos ((lg0_bit u (by omega)).mpr ((u2 i (by omega)).trans c)), kb_eq x wk hh (fun j hj => u2 j (by omega)), Option.bind_some, if_pos (show s_kr d h K 24 ||| s_box d (s_opn d (s_kr d h K 24) h) h = s_kr d h K 24 from s_end_rnd wk K), show s_rd d h K i = 0 from s_fst_0.mpr (fun j hj2 => by
        by_cases e : j = 24
        · rw [e]
          exact c
        · exact hj j (by omega))]
      rfl
    · rw [if_neg (fun p => by rw [lg0_bit u (by omega), u2 i (by omega), c] at p; exact absurd p (by decide)), show s_rd d h K i = 24 + 1 from s_fst_is (f := fun j => s_opn d (s_kr d h K j) h i) c hj 0]
  | succ k ih =>
    intro f r hr hf hj
    obtain ⟨f, rfl⟩ : ∃ f', f = f' + 1 := ⟨f - 1, by omega⟩
    obtain ⟨u, u1, u2⟩ := ow_eq x w hh (s_kr d h K r)
    rw [lq3_s, F_X4_roundOf_5, if_neg (show ¬ (40 : Int32) < nI (r + 1) from nI_nlt (a := 40) (by omega) (by omega)), u1, Option.bind_some]
    cases c : s_opn d (s_kr d h K r) h i
    · rw [if_pos ((lg0_bit u (by omega)).mpr ((u2 i (by omega)).trans c)), kb_eq x wk hh (fun j hj => u2 j (by omega)), Option.bind_some]
      by_cases e : s_kr d h K (r + 1) = s_kr d h K r
      · rw [if_pos (show s_kr d h K r ||| s_box d (s_opn d (s_kr d h K r) h) h = s_kr d h K r from e), show s_rd d h K i = 0 from s_fst_0.mpr (fun j hj2 => by
          by_cases q : j < r
          · exact hj j q
          · have := s_kr_fix e (j - r)
            rw [show r + (j - r) = j by omega] at this
            show s_opn d (s_kr d h K j) h i = false
            rw [this]
            exact c)]
        rfl
      · rw [if_neg (show ¬ s_kr d h K r ||| s_box d (s_opn d (s_kr d h K r) h) h = s_kr d h K r from e), nI_1]
        exact ih f (r + 1) (by omega) (by omega) (fun j hj2 => by
          by_cases q : j = r
          · rw [q]
            exact c
          · exact hj j (by omega))
    · rw [if_neg (fun p => by rw [lg0_bit u (by omega), u2 i (by omega), c] at p; exact absurd p (by decide))]
      have := s_fst_is (f := fun j => s_opn d (s_kr d h K j) h i) c hj (24 - r)
      rw [show r + 1 + (24 - r) = 25 by omega] at this
      rw [show s_rd d h K i = r + 1 from this]
theorem ro_eq (x : XH M d h) (w : ∀ i, i < h → W_H d i) (hh : h ≤ 40) (K : Int32) {i : Nat} (hi : i < h) : f_X4_roundOf (nI i) K M = some (nI (s_rd d h K i)) := ro_go x w hh K hi 24 20000000 0 (by omega) (by omega) (fun j hj => absurd hj (by omega))
end OPEND
section KEYSOF
variable {n l m h : Nat} {M : g_M}
theorem kc_go (h1 : W_D (M.1 60) n l m h) (h2 : X_E (M.1 60) n l (M.1 3 0) (M.1 3 1) (M.1 3 2) (M.1 4) (M.1 5) (M.1 6) (M.1 7)) (S : Int32) : ∀ (k f i : Nat), i + k = n → k < f → g_lq3 (F_X0_keysOf_4 M (fun (x2 : Int32) => some x2)) f S (s_keys (M.1 60) S i) (nI i) = some (s_keys (M.1 60) S n)
  | 0, f, i, hi, hf => by
    obtain ⟨f, rfl⟩ : ∃ f', f = f' + 1 := ⟨f - 1, by omega⟩
    have b1 := h1.1
    have : i = n := by omega
    subst this
    rw [lq3_s, F_X0_keysOf_4, h2.1, if_pos (nI_le (Nat.le_refl _) (by omega))]
  | k + 1, f, i, hi, hf => by
    obtain ⟨f, rfl⟩ : ∃ f', f = f' + 1 := ⟨f - 1, by omega⟩
    have b1 := h1.1
    have ih := kc_go h1 h2 S k f (i + 1) (by omega) (by omega)
    have q := h2.2.2.2.2.1 i (by omega)
    have g := h2.2.2.1 i (by omega)
    have wa := (h1.2.2.2.2.2.2.2.2.2.1 i (by omega)).2.1
    have st : s_keys (M.1 60) S (i + 1) = s_keys (M.1 60) S i ||| (if bt S i = true ∧ (M.1 60) (20 + i) = 0 then (M.1 60) (30 + i) else 0) := rfl
    have z0 : s_keys (M.1 60) S i ||| 0 = s_keys (M.1 60) S i := b_ext (fun j _ => by rw [b_or, b_0, Bool.or_false])
    have cond : (S &&& (M.1 3 1 ^^^ (-1))) &&& ((1 : Int32) <<< (nI i &&& 31)) = 0 ↔ ¬ (bt S i = true ∧ (M.1 60) (20 + i) = 0) := by
      rw [b_and1 _ (by omega), b_and, bt_not _ (by omega), g]
      rcases wa with e | e
      · rw [e]
        cases bt S i <;> simp
      · rw [e]
        cases bt S i <;> simp
    rw [lq3_s, F_X0_keysOf_4, h2.1, if_neg (nI_ge (by omega) (by omega)), nI_1]
    by_cases c : bt S i = true ∧ (M.1 60) (20 + i) = 0
    · rw [if_neg (fun p => cond.mp p c), e_ld (by omega) (by omega), Option.bind_some, ← ih, st, if_pos c, q.2.1]
    · rw [if_pos (cond.mpr c), ← ih, st, if_neg c, z0]
theorem kc_eq (h1 : W_D (M.1 60) n l m h) (h2 : X_E (M.1 60) n l (M.1 3 0) (M.1 3 1) (M.1 3 2) (M.1 4) (M.1 5) (M.1 6) (M.1 7)) (S : Int32) : f_X0_keysOf S M = some (s_keys (M.1 60) S n) := kc_go h1 h2 S n 20000000 0 (by omega) (by have := h1.1; omega)
theorem km_go (h1 : W_D (M.1 60) n l m h) (S : Int32) : ∀ (k f i : Nat), i + k = n → k < f → g_lq3 (F_X12_keysOf_4 M (fun (x2 : Int32) => some x2)) f S (s_keys (M.1 60) S i) (nI i) = some (s_keys (M.1 60) S n)
  | 0, f, i, hi, hf => by
    obtain ⟨f, rfl⟩ : ∃ f', f = f' + 1 := ⟨f - 1, by omega⟩
    have b1 := h1.1
    have : i = n := by omega
    subst this
    rw [lq3_s, F_X12_keysOf_4, ld_0, Option.bind_some, h1.2.2.2.2.1, if_pos (nI_le (Nat.le_refl _) (by omega))]
  | k + 1, f, i, hi, hf => by
    obtain ⟨f, rfl⟩ : ∃ f', f = f' + 1 := ⟨f - 1, by omega⟩
    have b1 := h1.1
    have ih := km_go h1 S k f (i + 1) (by omega) (by omega)
    have st : s_keys (M.1 60) S (i + 1) = s_keys (M.1 60) S i ||| (if bt S i = true ∧ (M.1 60) (20 + i) = 0 then (M.1 60) (30 + i) else 0) := rfl
    rw [lq3_s, F_X12_keysOf_4, ld_0, Option.bind_some, h1.2.2.2.2.1, if_neg (nI_ge (by omega) (by omega)), nI_1, b_bit _ (by omega), ld_20 (by omega), Option.bind_some, ld_30 (by omega), Option.bind_some, ← ih, st]
    by_cases c1 : bt S i = true
    · rw [if_pos c1, if_pos rfl]
      by_cases c2 : (M.1 60) (20 + i) = 0
      · rw [if_pos c2, if_pos ⟨c1, c2⟩]
      · rw [if_neg c2, if_neg (fun p => c2 p.2)]
    · rw [if_neg c1, if_neg (by decide), if_neg (fun p => c1 p.1)]
theorem km_eq (h1 : W_D (M.1 60) n l m h) (S : Int32) : f_X12_keysOf S M = some (s_keys (M.1 60) S n) := km_go h1 S n 20000000 0 (by omega) (by have := h1.1; omega)
end KEYSOF
