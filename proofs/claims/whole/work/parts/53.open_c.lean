/-! ===== bits of longs ===== -/
def bl (x : Int64) (i : Nat) : Bool := x.toBitVec.getLsbD i
theorem bl_ext {x y : Int64} (h : ∀ i, i < 64 → bl x i = bl y i) : x = y := Int64.toBitVec_inj.mp (BitVec.eq_of_getLsbD_eq (fun i hi => h i hi))
theorem bl_or (x y : Int64) (i : Nat) : bl (x ||| y) i = (bl x i || bl y i) := by unfold bl; rw [Int64.toBitVec_or, BitVec.getLsbD_or]
theorem bl_and (x y : Int64) (i : Nat) : bl (x &&& y) i = (bl x i && bl y i) := by unfold bl; rw [Int64.toBitVec_and, BitVec.getLsbD_and]
theorem bl_big {x : Int64} {i : Nat} (h : 64 ≤ i) : bl x i = false := BitVec.getLsbD_of_ge _ _ h
theorem bl_0 (i : Nat) : bl 0 i = false := BitVec.getLsbD_zero
theorem bl_1 : ∀ i, i < 64 → bl 1 i = decide (i = 0) := by decide +kernel
theorem sl64 : ∀ n, n < 64 → ((Int32.toInt64 (nI n) &&& 63).toBitVec.smod 64).toNat = n := by decide +kernel
theorem bl_shl {n : Nat} (hn : n < 64) (x : Int64) {i : Nat} (hi : i < 64) : bl (x <<< (Int32.toInt64 (nI n) &&& 63)) i = (decide (n ≤ i) && bl x (i - n)) := by
  unfold bl
  rw [Int64.toBitVec_shiftLeft]
  show (x.toBitVec <<< ((Int32.toInt64 (nI n) &&& 63).toBitVec.smod 64).toNat).getLsbD i = _
  rw [sl64 n hn, BitVec.getLsbD_shiftLeft]
  rcases Nat.lt_or_ge i n with h | h
  · simp [h, Nat.not_le.mpr h]
  · simp [hi, h, Nat.not_lt.mpr h]
theorem bl_sshr {n : Nat} (hn : n < 64) (x : Int64) {i : Nat} (hi : i < 64) : bl (x >>> (Int32.toInt64 (nI n) &&& 63)) i = if n + i < 64 then bl x (n + i) else bl x 63 := by
  unfold bl
  rw [Int64.toBitVec_shiftRight]
  show (x.toBitVec.sshiftRight ((Int32.toInt64 (nI n) &&& 63).toBitVec.smod 64).toNat).getLsbD i = _
  rw [sl64 n hn, BitVec.getLsbD_sshiftRight, BitVec.msb_eq_getLsbD_last]
  simp [hi]
theorem bl_one {k : Nat} (hk : k < 64) {i : Nat} (hi : i < 64) : bl ((1 : Int64) <<< (Int32.toInt64 (nI k) &&& 63)) i = decide (i = k) := by
  rw [bl_shl hk _ hi, bl_1 _ (by omega)]
  by_cases c : i = k
  · subst c
    simp
  · by_cases e : k ≤ i
    · rw [decide_eq_true e, Bool.true_and]
      exact decide_eq_decide.mpr (by omega)
    · rw [decide_eq_false e, decide_eq_false c]
      rfl
theorem bl_bit (x : Int64) {k : Nat} (hk : k < 64) : (x >>> (Int32.toInt64 (nI k) &&& 63)) &&& 1 = if bl x k = true then 1 else 0 := by
  apply bl_ext
  intro i hi
  rw [bl_and, bl_1 i hi, bl_sshr hk x hi]
  by_cases e : i = 0
  · subst e
    simp only [Nat.add_zero, hk, if_true, decide_true, Bool.and_true]
    cases bl x k
    · simp [bl_0]
    · simp [bl_1]
  · simp only [e, decide_false, Bool.and_false]
    cases bl x k
    · simp [bl_0]
    · simp [bl_1 i hi, e]
theorem lg0 (x : Int64) : lg_cmp x 0 = 0 ↔ x = 0 := by
  unfold lg_cmp
  by_cases c : x > 0
  · rw [if_pos c]
    constructor
    · intro q
      exact absurd q (by decide)
    · rintro rfl
      exact absurd c (by decide)
  · rw [if_neg c]
    by_cases d : x = 0
    · rw [if_pos d]
      exact ⟨fun _ => d, fun _ => rfl⟩
    · rw [if_neg d]
      exact ⟨fun q => absurd q (by decide), fun q => absurd q d⟩
theorem lg0_bit (x : Int64) {k : Nat} (hk : k < 64) : lg_cmp ((x >>> (Int32.toInt64 (nI k) &&& 63)) &&& 1) 0 = 0 ↔ bl x k = false := by
  rw [lg0, bl_bit x hk]
  cases bl x k
  · simp
  · simp
/-! ===== what the class opens ===== -/
section OPENC
variable {h : Nat} {d : Nat → Int32} {M : g_M}
/-- the class's hangings are those of the row -/
abbrev XH (M : g_M) (d : Nat → Int32) (h : Nat) : Prop := X_H d h (M.1 24 0) (M.1 25) (M.1 26) (M.1 27) (M.1 28) (M.1 29) (M.1 30) (M.1 31)
theorem W_H.KB {d : Nat → Int32} {h : Nat} (w : ∀ i, i < h → W_H d i) : KB d h := fun i hi e => by
  rcases w i hi with ⟨k15, -⟩ | ⟨k23, -⟩ | ⟨-, -, -, q⟩
  · rcases k15 with k | k <;> rw [k] at e <;> exact absurd e (by decide)
  · rcases k23 with k | k <;> rw [k] at e <;> exact absurd e (by decide)
  · exact q
theorem ow1 (x : XH M d h) (w : ∀ i, i < h → W_H d i) (hh : h ≤ 40) {i : Nat} (hi : i < h) {K : Int32} {y : Int64} {f : Nat → Bool} (hy : ∀ j, j < i → bl y j = f j) : f_X4_opensWith (nI i) K y M = some (if s_op1 d K f i = true then 1 else 0) := by
  have q := x.2 i hi
  unfold f_X4_opensWith s_op1
  rw [e_ld (by omega) (by omega), Option.bind_some, e_ld (by omega) (by omega), Option.bind_some, Option.bind_some, Option.bind_some, e_ld (by omega) (by omega), Option.bind_some, e_ld (by omega) (by omega), Option.bind_some, q.1, q.2.2.1, q.2.2.2.1, q.2.2.2.2.1]
  rcases w i hi with ⟨k15, e1, e2, z, hz, e3⟩ | ⟨k23, ⟨a, ha, ea⟩, ⟨b, hb, eb⟩, e3⟩ | ⟨k4, ⟨a, ha, ea⟩, e2, z, hz, e3⟩
  · rcases k15 with k | k
    · unfold s_opr
      rw [k, if_neg (show ¬ (1 : Int32) = 2 by decide), if_neg (show ¬ (1 : Int32) = 3 by decide), if_neg (show ¬ (1 : Int32) = 4 by decide), if_pos (show (1 : Int32) = 1 from rfl), if_pos (show (1 : Int32) = 1 from rfl), e3, nI_clamp (by omega)]
      have := b_and1 K (k := z) (by omega)
      cases c : bt K z
      · rw [if_pos (this.mpr c)]
        rfl
      · rw [if_neg (fun u => by rw [this.mp u] at c; exact absurd c (by decide))]
        rfl
    · unfold s_opr
      rw [k, if_neg (show ¬ (5 : Int32) = 2 by decide), if_neg (show ¬ (5 : Int32) = 3 by decide), if_neg (show ¬ (5 : Int32) = 4 by decide), if_neg (show ¬ (5 : Int32) = 1 by decide), if_pos (show (5 : Int32) = 5 from rfl), if_neg (show ¬ (5 : Int32) = 1 by decide), if_pos (show (5 : Int32) = 5 from rfl), e3, nI_clamp (by omega)]
      generalize hz2 : (if z = 23 then 0 else z + 1) = z2
      have hz2' : z2 < 24 := by
        rw [← hz2]
        split <;> omega
      have : K &&& (((1 : Int32) <<< (nI z &&& 31)) ||| ((1 : Int32) <<< (nI z2 &&& 31))) = 0 ↔ (bt K z || bt K z2) = false := by
        rw [b_eq0, Bool.or_eq_false_iff]
        constructor
        · intro u
          have u1 := u z (by omega)
          have u2 := u z2 (by omega)
          rw [b_and, b_or, bt_one (by omega), bt_one (by omega)] at u1 u2
          simp at u1 u2
          exact ⟨u1, u2⟩
        · intro u j hj
          rw [b_and, b_or, bt_one (by omega), bt_one (by omega)]
          by_cases c : j = z
          · rw [c, u.1]
            rfl
          · by_cases c2 : j = z2
            · rw [c2, u.2]
              rfl
            · simp [c, c2]
      cases c : (bt K z || bt K z2)
      · rw [if_pos (this.mpr c)]
        rfl
      · rw [if_neg (fun u => by rw [this.mp u] at c; exact absurd c (by decide))]
        rfl
  · rw [ea, eb, s_nn_n (by omega), s_nn_n (by omega), nI_clamp (by omega), nI_clamp (by omega), bl_bit _ (by omega), bl_bit _ (by omega), hy a ha, hy b hb]
    rcases k23 with k | k
    · rw [k, if_pos (show (2 : Int32) = 2 from rfl), if_neg (show ¬ (2 : Int32) = 1 by decide), if_neg (show ¬ (2 : Int32) = 5 by decide), if_pos (show (2 : Int32) = 2 from rfl)]
      cases f a <;> cases f b <;> rfl
    · rw [k, if_neg (show ¬ (3 : Int32) = 2 by decide), if_pos (show (3 : Int32) = 3 from rfl), if_neg (show ¬ (3 : Int32) = 1 by decide), if_neg (show ¬ (3 : Int32) = 5 by decide), if_neg (show ¬ (3 : Int32) = 2 by decide), if_pos (show (3 : Int32) = 3 from rfl)]
      cases f a <;> cases f b <;> rfl
  · rw [ea, s_nn_n (by omega), nI_clamp (by omega), bl_bit _ (by omega), hy a ha, k4, if_neg (show ¬ (4 : Int32) = 2 by decide), if_neg (show ¬ (4 : Int32) = 3 by decide), if_pos (show (4 : Int32) = 4 from rfl), if_neg (show ¬ (4 : Int32) = 1 by decide), if_neg (show ¬ (4 : Int32) = 5 by decide), if_neg (show ¬ (4 : Int32) = 2 by decide), if_neg (show ¬ (4 : Int32) = 3 by decide)]
    cases f a <;> rfl
theorem ow_go (x : XH M d h) (w : ∀ i, i < h → W_H d i) (hh : h ≤ 40) {K : Int32} : ∀ (k f i : Nat) (y : Int64), i + k = h → k < f → (∀ j, j < 64 → bl y j = s_opn d K i j) → ∃ z, g_lq3 (F_X4_openWith_5 M (fun (x2 : Int64) => some x2)) f K y (nI i) = some z ∧ ∀ j, j < 64 → bl z j = s_opn d K h j
  | 0, f, i, y, hi, hf, hy => by
    obtain ⟨f, rfl⟩ : ∃ f', f = f' + 1 := ⟨f - 1, by omega⟩
    have : i = h := by omega
    subst this
    refine ⟨y, ?_, hy⟩
    rw [lq3_s, F_X4_openWith_5, x.1, if_pos (nI_le (Nat.le_refl _) (by omega))]
  | k + 1, f, i, y, hi, hf, hy => by
    obtain ⟨f, rfl⟩ : ∃ f', f = f' + 1 := ⟨f - 1, by omega⟩
    have st : ∀ j, s_opn d K (i + 1) j = if j = i then s_op1 d K (s_opn d K i) i else s_opn d K i j := fun j => rfl
    cases c : s_op1 d K (s_opn d K i) i
    · obtain ⟨z, z1, z2⟩ := ow_go x w hh (K := K) k f (i + 1) y (by omega) (by omega) (fun j hj => by
        rw [st, c, hy j hj]
        by_cases e : j = i
        · rw [if_pos e, e]
          exact s_opn_out (Nat.le_refl _)
        · rw [if_neg e])
      refine ⟨z, ?_, z2⟩
      rw [lq3_s, F_X4_openWith_5, x.1, if_neg (nI_ge (by omega) (by omega)), ow1 x w hh (by omega) (fun j hj => hy j (by omega)), Option.bind_some, c, if_neg (show ¬ false = true by decide), if_pos rfl, nI_1]
      exact z1
    · obtain ⟨z, z1, z2⟩ := ow_go x w hh (K := K) k f (i + 1) (y ||| ((1 : Int64) <<< (Int32.toInt64 (nI i) &&& 63))) (by omega) (by omega) (fun j hj => by
        rw [st, c, bl_or, bl_one (by omega) hj, hy j hj]
        by_cases e : j = i
        · rw [if_pos e, decide_eq_true e, Bool.or_true]
        · rw [if_neg e, decide_eq_false e, Bool.or_false])
      refine ⟨z, ?_, z2⟩
      rw [lq3_s, F_X4_openWith_5, x.1, if_neg (nI_ge (by omega) (by omega)), ow1 x w hh (by omega) (fun j hj => hy j (by omega)), Option.bind_some, c, if_pos rfl, if_neg (by decide), Option.bind_some, nI_1]
      exact z1
theorem ow_eq (x : XH M d h) (w : ∀ i, i < h → W_H d i) (hh : h ≤ 40) (K : Int32) : ∃ z, f_X4_openWith K M = some z ∧ ∀ j, j < 64 → bl z j = s_opn d K h j := ow_go x w hh h 20000000 0 0 (by omega) (by omega) (fun j _ => bl_0 j)
theorem kb_go (x : XH M d h) (w : KB d h) (hh : h ≤ 40) {y : Int64} {g : Nat → Bool} (hy : ∀ j, j < h → bl y j = g j) : ∀ (k f i : Nat), i + k = h → k < f → g_lq3 (F_X4_keysInBoxes_5 M (fun (x3 : Int32) => some x3)) f y (s_box d g i) (nI i) = some (s_box d g h)
  | 0, f, i, hi, hf => by
    obtain ⟨f, rfl⟩ : ∃ f', f = f' + 1 := ⟨f - 1, by omega⟩
    have : i = h := by omega
    subst this
    rw [lq3_s, F_X4_keysInBoxes_5, x.1, if_pos (nI_le (Nat.le_refl _) (by omega))]
  | k + 1, f, i, hi, hf => by
    obtain ⟨f, rfl⟩ : ∃ f', f = f' + 1 := ⟨f - 1, by omega⟩
    have q := x.2 i (by omega)
    have ih := kb_go x w hh hy k f (i + 1) (by omega) (by omega)
    have st : s_box d g (i + 1) = s_box d g i ||| (if d (40 + 4 * i) = 4 ∧ g i = true then (1 : Int32) <<< (d (40 + 4 * i + 3) &&& 31) else 0) := rfl
    have z0 : s_box d g i ||| 0 = s_box d g i := b_ext (fun j _ => by rw [b_or, b_0, Bool.or_false])
    rw [lq3_s, F_X4_keysInBoxes_5, x.1, if_neg (nI_ge (by omega) (by omega)), e_ld (by omega) (by omega), Option.bind_some, q.1, nI_1]
    by_cases c : d (40 + 4 * i) = 4
    · obtain ⟨u, hu, eu⟩ := w i (by omega) c
      rw [if_pos c]
      cases e : g i
      · rw [if_pos ((lg0_bit y (by omega)).mpr ((hy i (by omega)).trans e)), ← ih, st, if_neg (by rw [e]; simp), z0]
      · rw [if_neg (fun p => by rw [lg0_bit y (by omega), hy i (by omega), e] at p; exact absurd p (by decide)), e_ld (by omega) (by omega), Option.bind_some, Option.bind_some, ← ih, st, if_pos ⟨c, e⟩, q.2.1, eu, s_nn_n (by omega)]
    · rw [if_neg c, ← ih, st, if_neg (fun p => c p.1), z0]
theorem kb_eq (x : XH M d h) (w : KB d h) (hh : h ≤ 40) {y : Int64} {g : Nat → Bool} (hy : ∀ j, j < h → bl y j = g j) : f_X4_keysInBoxes y M = some (s_box d g h) := kb_go x w hh hy h 20000000 0 (by omega) (by omega)
end OPENC
