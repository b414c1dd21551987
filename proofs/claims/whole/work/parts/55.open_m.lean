/-! ===== what the model opens ===== -/
def bi (c : Bool) : Int32 := if c = true then 1 else 0
theorem bi_bz (c : Bool) : g_bz (bi c) = some (bi c) := by cases c <;> rfl
theorem bi_0 (c : Bool) : bi c = 0 ↔ c = false := by cases c <;> simp [bi]
section OPENM
variable {h : Nat} {d : Nat → Int32}
theorem om_st (hh : h ≤ 40) (e3 : d 3 = nI h) (w : ∀ i, i < h → W_H d i) {K : Int32} {i : Nat} (hi : i < h) (M : g_M) (ed : M.1 60 = d) (hj : ∀ j, j < i → M.1 68 j = bi (s_opn d K h j)) (k234 : g_M → Option g_M) (k : Int32 → Int32 → g_M → Option g_M) : F_X12_opensWith_2 k234 k K (nI i) M = k K (nI i + 1) (g_u M 68 i (bi (s_opn d K h i))) := by
  have hd : ∀ j, M.1 60 j = d j := fun j => by rw [ed]
  have lo : ∀ a, a < i → s_opn d K i a = s_opn d K h a := fun a ha => by rw [s_opn_in ha, s_opn_in (by omega : a < h)]
  have st : ∀ v : Int32, g_st M 68 40 (nI i) v = some (g_u M 68 i v) := fun v => e_st (by omega) (by omega)
  have bit : ∀ q, q < 32 → ((K >>> (nI q &&& 31)) &&& 1 = 1 ↔ bt K q = true) := fun q hq => by
    rw [b_bit _ hq]
    cases bt K q <;> simp
  unfold F_X12_opensWith_2
  rw [ld_3, Option.bind_some, hd, e3, if_neg (nI_ge (by omega) (by omega)), ld_h (by omega) (j := 3) (x := 3) (by omega) rfl, Option.bind_some, ld_h (by omega) (j := 0) (x := 0) (by omega) rfl, Option.bind_some, ld_h (by omega) (j := 1) (x := 1) (by omega) rfl, Option.bind_some, ld_h (by omega) (j := 2) (x := 2) (by omega) rfl, Option.bind_some, hd, hd, hd, hd, Nat.add_zero, g_bz0, g_bz1, s_opn_in hi]
  simp only [Option.bind_some, st]
  unfold s_op1
  rcases w i hi with ⟨k15, e1, e2, z, hz, e3'⟩ | ⟨k23, ⟨a, ha, ea⟩, ⟨b, hb, eb⟩, e3'⟩ | ⟨k4, ⟨a, ha, ea⟩, e2, z, hz, e3'⟩
  · rcases k15 with kk | kk
    · rw [kk, if_pos (show (1 : Int32) = 1 from rfl), if_pos (show (1 : Int32) = 1 from rfl), e3', nI_clamp (by omega)]
      by_cases c : bt K z = true
      · rw [if_pos ((bit z (by omega)).mpr c), c]
        rfl
      · rw [if_neg (fun p => c ((bit z (by omega)).mp p)), Bool.eq_false_iff.mpr c]
        rfl
    · rw [kk, if_neg (show ¬ (5 : Int32) = 1 by decide), if_neg (show ¬ (5 : Int32) = 2 by decide), if_neg (show ¬ (5 : Int32) = 3 by decide), if_pos (show (5 : Int32) = 5 from rfl), if_neg (show ¬ (5 : Int32) = 1 by decide), if_pos (show (5 : Int32) = 5 from rfl), e3', nI_clamp (by omega)]
      unfold f_X12_opensWith_111
      rw [g_bz0, g_bz1]
      simp only [Option.bind_some, st]
      by_cases c : bt K z = true
      · rw [if_pos ((bit z (by omega)).mpr c), c]
        rfl
      · rw [if_neg (fun p => c ((bit z (by omega)).mp p)), Bool.eq_false_iff.mpr c, Bool.false_or]
        by_cases c2 : z = 23
        · subst c2
          rw [if_pos (show nI 23 = 23 from rfl), if_pos rfl]
          have this : (K >>> ((0 : Int32) &&& 31) &&& 1 = 1 ↔ bt K 0 = true) := bit 0 (by omega)
          by_cases c3 : bt K 0 = true
          · rw [if_pos (this.mpr c3), c3]
            rfl
          · rw [if_neg (fun p => c3 (this.mp p)), Bool.eq_false_iff.mpr c3]
            rfl
        · rw [if_neg (show ¬ nI z = 23 from fun p => c2 ((nI_eq (b := 23) (by omega) (by omega)).mp p)), if_neg c2, nI_1]
          have := bit (z + 1) (by omega)
          by_cases c3 : bt K (z + 1) = true
          · rw [if_pos (this.mpr c3), c3]
            rfl
          · rw [if_neg (fun p => c3 (this.mp p)), Bool.eq_false_iff.mpr c3]
            rfl
  · rw [ea, eb, nI_clamp (by omega), nI_clamp (by omega), lo a ha, lo b hb, e_ld (by omega) (by omega), e_ld (by omega) (by omega), hj a ha, hj b hb]
    simp only [Option.bind_some]
    rcases k23 with kk | kk
    · rw [kk, if_neg (show ¬ (2 : Int32) = 1 by decide), if_pos (show (2 : Int32) = 2 from rfl), if_neg (show ¬ (2 : Int32) = 1 by decide), if_neg (show ¬ (2 : Int32) = 5 by decide), if_pos (show (2 : Int32) = 2 from rfl)]
      cases s_opn d K h a
      · rw [if_pos ((bi_0 false).mpr rfl)]
        cases s_opn d K h b
        · rw [if_pos ((bi_0 false).mpr rfl)]
          rfl
        · rw [if_neg (fun p => absurd ((bi_0 true).mp p) (by decide))]
          rfl
      · rw [if_neg (fun p => absurd ((bi_0 true).mp p) (by decide))]
        rfl
    · rw [kk, if_neg (show ¬ (3 : Int32) = 1 by decide), if_neg (show ¬ (3 : Int32) = 2 by decide), if_pos (show (3 : Int32) = 3 from rfl), if_neg (show ¬ (3 : Int32) = 1 by decide), if_neg (show ¬ (3 : Int32) = 5 by decide), if_neg (show ¬ (3 : Int32) = 2 by decide), if_pos (show (3 : Int32) = 3 from rfl)]
      cases s_opn d K h a
      · rw [if_pos ((bi_0 false).mpr rfl)]
        rfl
      · rw [if_neg (fun p => absurd ((bi_0 true).mp p) (by decide))]
        cases s_opn d K h b
        · rw [if_pos ((bi_0 false).mpr rfl)]
          rfl
        · rw [if_neg (fun p => absurd ((bi_0 true).mp p) (by decide))]
          rfl
  · rw [ea, nI_clamp (by omega), lo a ha, e_ld (by omega) (by omega), hj a ha, k4, if_neg (show ¬ (4 : Int32) = 1 by decide), if_neg (show ¬ (4 : Int32) = 2 by decide), if_neg (show ¬ (4 : Int32) = 3 by decide), if_neg (show ¬ (4 : Int32) = 5 by decide), Option.bind_some, bi_bz, Option.bind_some, if_neg (show ¬ (4 : Int32) = 1 by decide), if_neg (show ¬ (4 : Int32) = 5 by decide), if_neg (show ¬ (4 : Int32) = 2 by decide), if_neg (show ¬ (4 : Int32) = 3 by decide)]
theorem om_go (hh : h ≤ 40) (e3 : d 3 = nI h) (w : ∀ i, i < h → W_H d i) (K : Int32) : ∀ (k f i : Nat) (M : g_M), i + k = h → k < f → M.1 60 = d → (∀ j, j < i → M.1 68 j = bi (s_opn d K h j)) → ∃ M' : g_M, g_lp2 (F_X12_opensWith_2 (fun (M : g_M) => some M)) f K (nI i) M = some M' ∧ g_fr [68] [] M M' ∧ ∀ j, j < h → M'.1 68 j = bi (s_opn d K h j)
  | 0, f, i, M, hi, hf, ed, hj => by
    obtain ⟨f, rfl⟩ : ∃ f', f = f' + 1 := ⟨f - 1, by omega⟩
    have : i = h := by omega
    subst this
    refine ⟨M, ?_, g_fr.rfl, hj⟩
    rw [lp2_s, F_X12_opensWith_2, ld_3, Option.bind_some, ed, e3, if_pos (nI_le (Nat.le_refl _) (by omega))]
  | k + 1, f, i, M, hi, hf, ed, hj => by
    obtain ⟨f, rfl⟩ : ∃ f', f = f' + 1 := ⟨f - 1, by omega⟩
    obtain ⟨M', m1, m2, m3⟩ := om_go hh e3 w K k f (i + 1) (g_u M 68 i (bi (s_opn d K h i))) (by omega) (by omega) ed (fun j hj2 => by
      by_cases c : j = i
      · subst c
        exact upd_eq
      · exact (upd_ne c).trans (hj j (by omega)))
    refine ⟨M', ?_, (g_fr.rfl.uS (by decide)).trans m2, m3⟩
    rw [lp2_s, om_st hh e3 w (by omega) M ed hj, nI_1, m1]
theorem om_eq (hh : h ≤ 40) (e3 : d 3 = nI h) (w : ∀ i, i < h → W_H d i) (K : Int32) (M : g_M) (ed : M.1 60 = d) : ∃ M' : g_M, f_X12_opensWith K M = some M' ∧ g_fr [68] [] M M' ∧ ∀ j, j < h → M'.1 68 j = bi (s_opn d K h j) := om_go hh e3 w K h 20000000 0 M (by omega) (by omega) ed (fun j hj => absurd hj (by omega))
/-! marking the boxes -/
/-- the mark of a box after r rounds -/
def s_mk (d : Nat → Int32) (h : Nat) (K : Int32) (r i : Nat) : Nat := s_fst (fun j => s_opn d (s_kr d h K j) h i) r
theorem s_fst_ext {f : Nat → Bool} {r : Nat} (e : ∀ j, r ≤ j → f j = f r) : ∀ k, s_fst f (r + 1 + k) = s_fst f (r + 1)
  | 0 => rfl
  | k + 1 => by
    show (if s_fst f (r + 1 + k) = 0 then (if f (r + 1 + k) = true then r + 1 + k + 1 else 0) else s_fst f (r + 1 + k)) = _
    rw [s_fst_ext e k]
    by_cases c : s_fst f (r + 1) = 0
    · rw [if_pos c, e _ (by omega), s_fst_0.mp c r (by omega), c]
      rfl
    · rw [if_neg c]
theorem s_box_new_0 {f : Nat → Bool} : ∀ {n : Nat}, (∀ i, i < n → d (40 + 4 * i) = 4 → f i = false) → s_box d f n = 0
  | 0, _ => rfl
  | n + 1, a => by
    show s_box d f n ||| _ = 0
    rw [s_box_new_0 (fun i hi => a i (by omega)), if_neg (fun p => by rw [a n (by omega) p.1] at p; exact absurd p.2 (by decide))]
    rfl
/-- what the boxes new at a round add is what all open boxes add -/
theorem s_kr_new (w : KB d h) (K : Int32) (r : Nat) : s_kr d h K r ||| s_box d (fun i => s_opn d (s_kr d h K r) h i && decide (s_mk d h K r i = 0)) h = s_kr d h K (r + 1) := by
  refine bsub.eq (fun i hi e => ?_) (fun i hi e => ?_)
  · rw [b_or, Bool.or_eq_true] at e
    show bt (s_kr d h K r ||| s_box d (s_opn d (s_kr d h K r) h) h) i = true
    rw [b_or, Bool.or_eq_true]
    refine e.imp id (s_box_mono w (fun j _ q => ?_) i hi)
    rw [Bool.and_eq_true] at q
    exact q.1
  · have e2 : bt (s_kr d h K r ||| s_box d (s_opn d (s_kr d h K r) h) h) i = true := e
    rw [b_or, Bool.or_eq_true] at e2 ⊢
    rcases e2 with e2 | e2
    · exact Or.inl e2
    · rw [s_box_bt hi w] at e2
      obtain ⟨j, hj, a1, a2, a3⟩ := e2
      by_cases c : s_mk d h K r j = 0
      · right
        rw [s_box_bt hi w]
        exact ⟨j, hj, a1, by rw [a2, decide_eq_true c]; rfl, a3⟩
      · left
        have : ∃ q, q < r ∧ s_opn d (s_kr d h K q) h j = true := by
          apply Classical.byContradiction
          intro no
          refine c (s_fst_0.mpr (fun q hq => ?_))
          cases e : s_opn d (s_kr d h K q) h j
          · rfl
          · exact absurd ⟨q, hq, e⟩ no
        obtain ⟨q, hq, eq⟩ := this
        refine bt_sub (s_kr_le (r := q + 1) (by omega)) ?_
        show bt (s_kr d h K q ||| s_box d (s_opn d (s_kr d h K q) h) h) i = true
        rw [b_or, (s_box_bt hi w).mpr ⟨j, hj, a1, eq, a3⟩, Bool.or_true]
theorem ci_go (hh : h ≤ 40) (e3 : d 3 = nI h) (w : KB d h) (K : Int32) {r : Nat} (hr : r < 100) (kk : Int32 → Int32 → Int32 → g_M → Option (Int32 × g_M)) : ∀ (k f i : Nat) (fl : Int32) (M : g_M), i + k = h → k < f → M.1 60 = d → (∀ j, j < h → M.1 68 j = bi (s_opn d (s_kr d h K r) h j)) → (∀ j, j < h → d (40 + 4 * j) = 4 → M.1 69 j = nI (if j < i then s_mk d h K (r + 1) j else s_mk d h K r j)) → (fl = 0 ∨ fl = 1) → (fl = 0 → ∀ j, j < i → d (40 + 4 * j) = 4 → s_opn d (s_kr d h K r) h j = true → s_mk d h K r j ≠ 0) → (fl = 1 → ∃ j, j < h ∧ d (40 + 4 * j) = 4 ∧ s_opn d (s_kr d h K r) h j = true ∧ s_mk d h K r j = 0) → ∃ (fl' : Int32) (M' : g_M), g_lp4 (F_X12_comesOf_46 kk) f (s_kr d h K r ||| s_box d (fun i => s_opn d (s_kr d h K r) h i && decide (s_mk d h K r i = 0)) i) fl (nI (r + 1)) (nI i) M = kk (s_kr d h K (r + 1)) fl' (nI (r + 1)) M' ∧ g_fr [69] [] M M' ∧ (∀ j, j < h → d (40 + 4 * j) = 4 → M'.1 69 j = nI (s_mk d h K (r + 1) j)) ∧ (fl' = 0 ∨ fl' = 1) ∧ (fl' = 0 → ∀ j, j < h → d (40 + 4 * j) = 4 → s_opn d (s_kr d h K r) h j = true → s_mk d h K r j ≠ 0) ∧ (fl' = 1 → ∃ j, j < h ∧ d (40 + 4 * j) = 4 ∧ s_opn d (s_kr d h K r) h j = true ∧ s_mk d h K r j = 0)
  | 0, f, i, fl, M, hi, hf, ed, h68, h69, f1, f2, f3 => by
    obtain ⟨f, rfl⟩ : ∃ f', f = f' + 1 := ⟨f - 1, by omega⟩
    have : i = h := by omega
    subst this
    refine ⟨fl, M, ?_, g_fr.rfl, fun j hj a => ?_, f1, f2, f3⟩
    · rw [lp4_s, F_X12_comesOf_46, ld_3, Option.bind_some, ed, e3, if_pos (nI_le (Nat.le_refl _) (by omega)), s_kr_new w]
    · rw [h69 j hj a, if_pos hj]
  | k + 1, f, i, fl, M, hi, hf, ed, h68, h69, f1, f2, f3 => by
    obtain ⟨f, rfl⟩ : ∃ f', f = f' + 1 := ⟨f - 1, by omega⟩
    have hd : ∀ j, M.1 60 j = d j := fun j => by rw [ed]
    have st : s_box d (fun i => s_opn d (s_kr d h K r) h i && decide (s_mk d h K r i = 0)) (i + 1) = s_box d (fun i => s_opn d (s_kr d h K r) h i && decide (s_mk d h K r i = 0)) i ||| (if d (40 + 4 * i) = 4 ∧ (s_opn d (s_kr d h K r) h i && decide (s_mk d h K r i = 0)) = true then (1 : Int32) <<< (d (40 + 4 * i + 3) &&& 31) else 0) := rfl
    have mk1 : s_mk d h K (r + 1) i = (if s_mk d h K r i = 0 then (if s_opn d (s_kr d h K r) h i = true then r + 1 else 0) else s_mk d h K r i) := rfl
    have mkl : ∀ j, s_mk d h K r j ≤ r := fun j => s_fst_le r
    have z0 : ∀ x : Int32, x ||| 0 = x := fun x => b_ext (fun j _ => by rw [b_or, b_0, Bool.or_false])
    -- nothing new here
    have same : (d (40 + 4 * i) = 4 → s_opn d (s_kr d h K r) h i = true → s_mk d h K r i ≠ 0) → F_X12_comesOf_46 kk (g_lp4 (F_X12_comesOf_46 kk) f) (s_kr d h K r ||| s_box d (fun i => s_opn d (s_kr d h K r) h i && decide (s_mk d h K r i = 0)) i) fl (nI (r + 1)) (nI i) M = g_lp4 (F_X12_comesOf_46 kk) f (s_kr d h K r ||| s_box d (fun i => s_opn d (s_kr d h K r) h i && decide (s_mk d h K r i = 0)) i) fl (nI (r + 1)) (nI i + 1) M → (∃ (fl' : Int32) (M' : g_M), g_lp4 (F_X12_comesOf_46 kk) (f + 1) (s_kr d h K r ||| s_box d (fun i => s_opn d (s_kr d h K r) h i && decide (s_mk d h K r i = 0)) i) fl (nI (r + 1)) (nI i) M = kk (s_kr d h K (r + 1)) fl' (nI (r + 1)) M' ∧ g_fr [69] [] M M' ∧ (∀ j, j < h → d (40 + 4 * j) = 4 → M'.1 69 j = nI (s_mk d h K (r + 1) j)) ∧ (fl' = 0 ∨ fl' = 1) ∧ (fl' = 0 → ∀ j, j < h → d (40 + 4 * j) = 4 → s_opn d (s_kr d h K r) h j = true → s_mk d h K r j ≠ 0) ∧ (fl' = 1 → ∃ j, j < h ∧ d (40 + 4 * j) = 4 ∧ s_opn d (s_kr d h K r) h j = true ∧ s_mk d h K r j = 0)) := fun nn e => by
      have e2 : s_kr d h K r ||| s_box d (fun i => s_opn d (s_kr d h K r) h i && decide (s_mk d h K r i = 0)) (i + 1) = s_kr d h K r ||| s_box d (fun i => s_opn d (s_kr d h K r) h i && decide (s_mk d h K r i = 0)) i := by
        rw [st, if_neg, z0]
        rintro ⟨p1, p2⟩
        rw [Bool.and_eq_true] at p2
        exact nn p1 p2.1 (of_decide_eq_true p2.2)
      have := ci_go hh e3 w K hr kk k f (i + 1) fl M (by omega) (by omega) ed h68 (fun j hj a => by
        rw [h69 j hj a]
        by_cases c : j = i
        · subst c
          rw [if_neg (by omega), if_pos (by omega), mk1]
          by_cases q : s_mk d h K r j = 0
          · rw [if_pos q, q]
            by_cases q2 : s_opn d (s_kr d h K r) h j = true
            · exact absurd q (nn a q2)
            · rw [if_neg q2]
          · rw [if_neg q]
        · by_cases c2 : j < i
          · rw [if_pos c2, if_pos (by omega)]
          · rw [if_neg c2, if_neg (by omega)]) f1 (fun z j hj a b => by
        by_cases c : j = i
        · subst c
          exact nn a b
        · exact f2 z j (by omega) a b) f3
      rw [e2] at this
      rw [lp4_s, e, nI_1]
      exact this
    have ev : F_X12_comesOf_46 kk (g_lp4 (F_X12_comesOf_46 kk) f) (s_kr d h K r ||| s_box d (fun i => s_opn d (s_kr d h K r) h i && decide (s_mk d h K r i = 0)) i) fl (nI (r + 1)) (nI i) M = (if d (40 + 4 * i) = 4 then (if M.1 69 i = 0 then (if bi (s_opn d (s_kr d h K r) h i) = 0 then g_lp4 (F_X12_comesOf_46 kk) f (s_kr d h K r ||| s_box d (fun i => s_opn d (s_kr d h K r) h i && decide (s_mk d h K r i = 0)) i) fl (nI (r + 1)) (nI i + 1) M else g_lp4 (F_X12_comesOf_46 kk) f (s_kr d h K r ||| s_box d (fun i => s_opn d (s_kr d h K r) h i && decide (s_mk d h K r i = 0)) i ||| ((1 : Int32) <<< (d (40 + 4 * i + 3) &&& 31))) 1 (nI (r + 1)) (nI i + 1) (g_u M 69 i (nI (r + 1)))) else g_lp4 (F_X12_comesOf_46 kk) f (s_kr d h K r ||| s_box d (fun i => s_opn d (s_kr d h K r) h i && decide (s_mk d h K r i = 0)) i) fl (nI (r + 1)) (nI i + 1) M) else g_lp4 (F_X12_comesOf_46 kk) f (s_kr d h K r ||| s_box d (fun i => s_opn d (s_kr d h K r) h i && decide (s_mk d h K r i = 0)) i) fl (nI (r + 1)) (nI i + 1) M) := by
      rw [F_X12_comesOf_46, ld_3, Option.bind_some, hd, e3, if_neg (nI_ge (by omega) (by omega)), ld_h (by omega) (j := 0) (x := 0) (by omega) rfl, Option.bind_some, hd, Nat.add_zero, e_ld (by omega) (by omega), Option.bind_some, e_ld (by omega) (by omega), Option.bind_some, e_st (by omega) (by omega), Option.bind_some, h68 i (by omega), ld_h (by omega) (j := 3) (x := 3) (by omega) rfl, Option.bind_some, Option.bind_some, show (g_u M 69 i (nI (r + 1))).1 60 (40 + 4 * i + 3) = d (40 + 4 * i + 3) from hd _]
    by_cases k4 : d (40 + 4 * i) = 4
    · rw [if_pos k4] at ev
      have m69 := h69 i (by omega) k4
      rw [if_neg (by omega)] at m69
      have ml := mkl i
      by_cases c : s_mk d h K r i = 0
      · rw [m69, c, if_pos (show nI 0 = 0 from rfl)] at ev
        by_cases q : s_opn d (s_kr d h K r) h i = true
        · rw [q, if_neg (by decide)] at ev
          have e2 : s_kr d h K r ||| s_box d (fun i => s_opn d (s_kr d h K r) h i && decide (s_mk d h K r i = 0)) (i + 1) = s_kr d h K r ||| s_box d (fun i => s_opn d (s_kr d h K r) h i && decide (s_mk d h K r i = 0)) i ||| ((1 : Int32) <<< (d (40 + 4 * i + 3) &&& 31)) := by
            rw [st, if_pos ⟨k4, by rw [q, decide_eq_true c]; rfl⟩]
            exact b_ext (fun j _ => by rw [b_or, b_or, b_or, b_or, Bool.or_assoc])
          obtain ⟨fl', M', m1, m2, m3⟩ := ci_go hh e3 w K hr kk k f (i + 1) 1 (g_u M 69 i (nI (r + 1))) (by omega) (by omega) ed h68 (fun j hj a => by
            by_cases cj : j = i
            · subst cj
              rw [if_pos (by omega), mk1, if_pos c, if_pos q]
              exact upd_eq
            · refine (show upd (M.1 69) i (nI (r + 1)) j = _ from upd_ne cj).trans ?_
              rw [h69 j hj a]
              by_cases c2 : j < i
              · rw [if_pos c2, if_pos (by omega)]
              · rw [if_neg c2, if_neg (by omega)]) (Or.inr rfl) (fun z => absurd z (by decide)) (fun _ => ⟨i, by omega, k4, q, c⟩)
          rw [e2] at m1
          exact ⟨fl', M', by rw [lp4_s, ev, nI_1]; exact m1, (g_fr.rfl.uS (by decide)).trans m2, m3⟩
        · rw [Bool.eq_false_iff.mpr q, if_pos ((bi_0 false).mpr rfl)] at ev
          exact same (fun _ p => absurd p q) ev
      · rw [m69, if_neg (nI_ne0 (by omega) (by omega))] at ev
        exact same (fun _ _ => c) ev
    · rw [if_neg k4] at ev
      exact same (fun p => absurd p k4) ev
end OPENM
