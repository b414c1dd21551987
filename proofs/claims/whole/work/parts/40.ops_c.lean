def mG1 (s0 : Int32) (M : g_M) : g_M := g_u (g_u M 3 1 s0) 3 3 (M.1 3 3 + 1)
section OPSC
variable {t n l m h c1 c2 c3 : Nat} {M : g_M}
theorem s_pop_0 {x : Int32} {k : Nat} : ∀ j, (∀ i, k ≤ i → bt x i = false) → s_pop x (k + j) = s_pop x k
  | 0, _ => rfl
  | j + 1, h => by
    show s_pop x (k + j) + (if bt x (k + j) = true then 1 else 0) = _
    rw [s_pop_0 j h, h (k + j) (by omega), if_neg (by decide), Nat.add_zero]
theorem gone_core (ht : t < 64) (H : Rel0 t n l m h c1 c2 c3 M) {j : Nat} (hj : j < n) {s0 : Int32} (v : Bool) (hs : ∀ i, i < 32 → bt s0 i = if i = j then v else bt (M.1 3 1) i) : RE (t + 1) (g_u (mG1 s0 M) 60 (20 + j) (if v = true then 1 else 0)) := by
  obtain ⟨h1, h2, h3, h4, h5, h6, h7, h8, h9, h10, h11⟩ := id H
  obtain ⟨b1, b2, b3, b4, e0, e4, e1, e3, eu, wA, wL, wH, wT⟩ := id h1
  have hc := h9.lt ht
  have fr : g_fr [60] [(3, 3), (3, 1)] M (g_u (mG1 s0 M) 60 (20 + j) (if v = true then 1 else 0)) := ((g_fr.rfl.uT (by decide)).uT (by decide)).uS (by decide)
  have hd : ∀ k, k ≠ 20 + j → (g_u (mG1 s0 M) 60 (20 + j) (if v = true then 1 else 0)).1 60 k = M.1 60 k := fun k a => upd_ne a
  have d1 : (g_u (mG1 s0 M) 60 (20 + j) (if v = true then 1 else 0)).1 60 (20 + j) = if v = true then 1 else 0 := upd_eq
  have aL : agL (M.1 60) ((g_u (mG1 s0 M) 60 (20 + j) (if v = true then 1 else 0)).1 60) l := agL_u b2 (by omega)
  have aH : agH (M.1 60) ((g_u (mG1 s0 M) 60 (20 + j) (if v = true then 1 else 0)).1 60) h := agH_u b4 (by omega)
  have aT : agT (M.1 60) ((g_u (mG1 s0 M) 60 (20 + j) (if v = true then 1 else 0)).1 60) m := agT_u (by omega)
  refine ⟨n, l, m, h, c1 + 1, c2, c3, ?_⟩
  exact ⟨⟨b1, b2, b3, b4, (hd 0 (by omega)).trans e0, (hd 4 (by omega)).trans e4, (hd 1 (by omega)).trans e1, (hd 3 (by omega)).trans e3, by rw [hd 2 (by omega)]; exact eu, fun e he => by
      rw [hd (10 + e) (by omega), hd (30 + e) (by omega)]
      refine ⟨(wA e he).1, ?_, (wA e he).2.2⟩
      by_cases c : e = j
      · subst c
        rw [d1]
        cases v
        · exact Or.inl rfl
        · exact Or.inr rfl
      · rw [hd (20 + e) (by omega)]
        exact (wA e he).2.1, fun k hk => by
      rw [(aL k hk).1, (aL k hk).2]
      exact wL k hk, fun i hi => (wH i hi).agree aH hi, fun k hk => (wT k hk).agree aT hk⟩, ⟨h2.1, h2.2.1, fun e he => by
      rw [show (g_u (mG1 s0 M) 60 (20 + j) (if v = true then 1 else 0)).1 3 1 = s0 from rfl, hs e (by omega)]
      by_cases c : e = j
      · subst c
        rw [d1, if_pos rfl]
        cases v <;> decide
      · rw [hd (20 + e) (by omega), if_neg c]
        exact h2.2.2.1 e he, fun i hi => by
      rw [show (g_u (mG1 s0 M) 60 (20 + j) (if v = true then 1 else 0)).1 3 1 = s0 from rfl]
      by_cases c : i < 32
      · rw [hs i c, if_neg (by omega)]
        exact h2.2.2.2.1 i hi
      · exact b_big (by omega), fun e he => by
      rw [s_lt_cong e aL, s_lk_cong e aL, hd (10 + e) (by omega), hd (30 + e) (by omega)]
      exact h2.2.2.2.2.1 e he, fun e he h2e => h2.2.2.2.2.2 e he h2e⟩, h3.agree aH, keep4d fr (by decide) b3 h4 aT (h4.2.1.trans (hd 2 (by omega)).symm), h5.agree aT aH (Nat.le_refl _) (Nat.le_refl _), keep6 fr (by decide) h6, (keep7 fr (by decide) h7).mono (by omega), keep8 fr (by decide) h8, h9.b1, h10.bump (by omega) (by omega), h11.bump (by omega) (by omega)⟩
theorem gone_c {M : g_M} {x3 s0 : Int32} : f_X0_setGone_31 x3 s0 M = some (if s0 = x3 then 0 else 1, mG1 s0 M) := by
  unfold f_X0_setGone_31
  rw [Option.bind_some, Option.bind_some, show (g_u (g_u M 3 1 s0) 3 3 ((g_u M 3 1 s0).1 3 3 + 1)).1 3 1 = s0 from rfl]
  split <;> rfl
theorem gone_m {M : g_M} {j : Nat} (hj : j < 10) {x3 s0 : Int32} : f_X12_gone_41 (nI j) x3 s0 (20 + nI j) M = some (if x3 = s0 then 0 else 1, g_u M 60 (20 + j) s0) := by
  unfold f_X12_gone_41
  rw [st_20 (by omega), Option.bind_some, ld_20 (by omega), Option.bind_some, show (g_u M 60 (20 + j) s0).1 60 (20 + j) = s0 from upd_eq]
  split <;> rfl
theorem op_gone (ht : t < 64) (H : Rel0 t n l m h c1 c2 c3 M) (x y : Int32) : Op (f_X11_gone x y) (f_X12_gone x y) t M := by
  obtain ⟨h1, h2, h3, h4, h5, h6, h7, h8, h9, h10, h11⟩ := id H
  obtain ⟨b1, b2, b3, b4, e0, e4, e1, e3, eu, wA, wL, wH, wT⟩ := id h1
  rcases ix x (n := n) (by omega) with ho | ⟨j, hj, rfl⟩
  · refine Op.t0 H ?_ ?_
    · unfold f_X11_gone
      rw [has_out h2.1 ho, Option.bind_some, if_pos rfl]
    · unfold f_X12_gone
      rw [me_out (n := n) (M := tellM 0 M) e0 (by omega) ho, Option.bind_some, if_pos rfl]
  have hb := h2.2.2.1 j hj
  have w := (wA j hj).2.1
  have key : ∀ (s0 : Int32) (v : Bool), (∀ i, i < 32 → bt s0 i = if i = j then v else bt (M.1 3 1) i) → f_X0_setGone (nI j) y M = f_X0_setGone_31 (M.1 3 1) s0 M → (∀ M', f_X12_gone_41 (nI j) (M'.1 60 (20 + j)) (if v = true then 1 else 0) (20 + nI j) M' = (if y = 0 then (f_X12_gone_41 (nI j) (M'.1 60 (20 + j)) 0 (20 + nI j) M') else (f_X12_gone_41 (nI j) (M'.1 60 (20 + j)) 1 (20 + nI j) M'))) → Op (f_X11_gone (nI j) y) (f_X12_gone (nI j) y) t M := by
    intro s0 v hs hf hg
    refine ⟨(if s0 = M.1 3 1 then 0 else 1, mG1 s0 M), (if M.1 60 (20 + j) = (if v = true then 1 else 0) then 0 else 1, g_u (mG1 s0 M) 60 (20 + j) (if v = true then 1 else 0)), ?_, ?_, ?_, gone_core ht H hj v hs⟩
    · unfold f_X11_gone
      rw [has_in h2.1 hj (by omega), Option.bind_some, if_neg (by decide), hf, gone_c, Option.bind_some]
      dsimp only
      by_cases c : s0 = M.1 3 1
      · rw [if_pos c, if_pos rfl]
      · rw [if_neg c, if_neg (by decide)]
    · unfold f_X12_gone
      dsimp only
      rw [me_in (n := n) (show (mG1 s0 M).1 60 0 = nI n from e0) (by omega) hj, Option.bind_some, if_neg (by decide), ld_20 (by omega), Option.bind_some, ← hg, gone_m (by omega)]
      rfl
    · have : s0 = M.1 3 1 ↔ M.1 60 (20 + j) = (if v = true then 1 else 0) := by
        constructor
        · intro c
          have := hs j (by omega)
          rw [c, hb, if_pos rfl] at this
          rcases w with w | w
          · rw [w] at this ⊢
            cases v
            · rfl
            · simp at this
          · rw [w] at this ⊢
            cases v
            · simp at this
            · rfl
        · intro c
          refine b_ext (fun i hi => ?_)
          rw [hs i hi]
          by_cases d : i = j
          · subst d
            rw [if_pos rfl, hb, c]
            cases v <;> decide
          · rw [if_neg d]
      dsimp only
      by_cases c : s0 = M.1 3 1
      · rw [if_pos c, if_pos (this.mp c)]
      · rw [if_neg c, if_neg (fun q => c (this.mpr q))]
  by_cases c : y = 0
  · refine key ((M.1 3 1) &&& (((1 : Int32) <<< (nI j &&& 31)) ^^^ (-1))) false (fun i hi => ?_) ?_ (fun M' => ?_)
    · rw [b_and, bt_not _ hi, bt_one (by omega)]
      by_cases d : i = j
      · simp [d]
      · simp [d]
    · unfold f_X0_setGone
      rw [if_pos c]
    · rw [if_pos c]
      rfl
  · refine key ((M.1 3 1) ||| ((1 : Int32) <<< (nI j &&& 31))) true (fun i hi => ?_) ?_ (fun M' => ?_)
    · rw [b_or, bt_one (by omega)]
      by_cases d : i = j
      · simp [d]
      · simp [d]
    · unfold f_X0_setGone
      rw [if_neg c]
    · rw [if_neg c]
      rfl
/-! keys -/
def mK1 (j : Nat) (v : Int32) (M : g_M) : g_M := g_u (g_u M 5 j v) 3 3 (M.1 3 3 + 1)
theorem key_core (ht : t < 64) (H : Rel0 t n l m h c1 c2 c3 M) {j : Nat} (hj : j < n) {v : Int32} (hv : ∃ q, q < 2 ^ 24 ∧ v = nI q) : Rel0 (t + 1) n l m h (c1 + 1) c2 c3 (g_u (mK1 j v M) 60 (30 + j) v) := by
  obtain ⟨h1, h2, h3, h4, h5, h6, h7, h8, h9, h10, h11⟩ := id H
  obtain ⟨b1, b2, b3, b4, e0, e4, e1, e3, eu, wA, wL, wH, wT⟩ := id h1
  have hc := h9.lt ht
  have fr : g_fr [60, 5] [(3, 3)] M (g_u (mK1 j v M) 60 (30 + j) v) := ((g_fr.rfl.uS (by decide)).uT (by decide)).uS (by decide)
  have hd : ∀ k, k ≠ 30 + j → (g_u (mK1 j v M) 60 (30 + j) v).1 60 k = M.1 60 k := fun k a => upd_ne a
  have d1 : (g_u (mK1 j v M) 60 (30 + j) v).1 60 (30 + j) = v := upd_eq
  have aL : agL (M.1 60) ((g_u (mK1 j v M) 60 (30 + j) v).1 60) l := agL_u b2 (by omega)
  have aH : agH (M.1 60) ((g_u (mK1 j v M) 60 (30 + j) v).1 60) h := agH_u b4 (by omega)
  have aT : agT (M.1 60) ((g_u (mK1 j v M) 60 (30 + j) v).1 60) m := agT_u (by omega)
  exact ⟨⟨b1, b2, b3, b4, (hd 0 (by omega)).trans e0, (hd 4 (by omega)).trans e4, (hd 1 (by omega)).trans e1, (hd 3 (by omega)).trans e3, by rw [hd 2 (by omega)]; exact eu, fun e he => by
      rw [hd (10 + e) (by omega), hd (20 + e) (by omega)]
      refine ⟨(wA e he).1, (wA e he).2.1, ?_⟩
      by_cases c : e = j
      · subst c
        rw [d1]
        exact hv
      · rw [hd (30 + e) (by omega)]
        exact (wA e he).2.2, fun k hk => by
      rw [(aL k hk).1, (aL k hk).2]
      exact wL k hk, fun i hi => (wH i hi).agree aH hi, fun k hk => (wT k hk).agree aT hk⟩, ⟨h2.1, h2.2.1, fun e he => by
      rw [hd (20 + e) (by omega)]
      exact h2.2.2.1 e he, h2.2.2.2.1, fun e he => by
      rw [s_lt_cong e aL, s_lk_cong e aL, hd (10 + e) (by omega)]
      have := h2.2.2.2.2.1 e he
      refine ⟨this.1, ?_, this.2.2⟩
      by_cases c : e = j
      · subst c
        rw [d1]
        exact upd_eq
      · rw [hd (30 + e) (by omega)]
        exact (upd_ne c).trans this.2.1, fun e he h2e => ⟨(upd_ne (by omega)).trans (h2.2.2.2.2.2 e he h2e).1, (h2.2.2.2.2.2 e he h2e).2⟩⟩, h3.agree aH, keep4d fr (by decide) b3 h4 aT (h4.2.1.trans (hd 2 (by omega)).symm), h5.agree aT aH (Nat.le_refl _) (Nat.le_refl _), keep6 fr (by decide) h6, (keep7 fr (by decide) h7).mono (by omega), keep8 fr (by decide) h8, h9.b1, h10.bump (by omega) (by omega), h11.bump (by omega) (by omega)⟩
theorem key_c {M : g_M} {j : Nat} (hj : j < 10) {x4 v : Int32} : f_X0_setKey_34 (nI j) x4 v (nI j) M = some (if v = x4 then 0 else 1, mK1 j v M) := by
  unfold f_X0_setKey_34
  rw [e_st hj (by omega), Option.bind_some, Option.bind_some, e_ld hj (by omega), Option.bind_some, show (g_u (g_u M 5 j v) 3 3 ((g_u M 5 j v).1 3 3 + 1)).1 5 j = v from upd_eq]
  split <;> rfl
theorem key_m {M : g_M} {j : Nat} (hj : j < 10) {x4 v : Int32} : f_X12_key_61 (nI j) x4 v (30 + nI j) M = some (if x4 = v then 0 else 1, g_u M 60 (30 + j) v) := by
  unfold f_X12_key_61
  rw [st_30 (by omega), Option.bind_some, ld_30 (by omega), Option.bind_some, show (g_u M 60 (30 + j) v).1 60 (30 + j) = v from upd_eq]
  split <;> rfl
theorem key_val {q k : Nat} (hq : q < 2 ^ 24) (hk : k < 24) : (∃ z, z < 2 ^ 24 ∧ nI q &&& (((1 : Int32) <<< (nI k &&& 31)) ^^^ (-1)) = nI z) ∧ (∃ z, z < 2 ^ 24 ∧ nI q ||| ((1 : Int32) <<< (nI k &&& 31)) = nI z) := by
  constructor
  · refine b_small (fun i hi => ?_)
    rw [b_and, b_high hq (by omega) hi, Bool.false_and]
  · refine b_small (fun i hi => ?_)
    rw [b_or, b_high hq (by omega) hi, bt_one (by omega), Bool.false_or]
    exact decide_eq_false (by omega)
theorem op_key (ht : t < 64) (H : Rel0 t n l m h c1 c2 c3 M) (x k y : Int32) : Op (f_X11_key x k y) (f_X12_key x k y) t M := by
  obtain ⟨h1, h2, h3, h4, h5, h6, h7, h8, h9, h10, h11⟩ := id H
  obtain ⟨b1, b2, b3, b4, e0, e4, e1, e3, eu, wA, wL, wH, wT⟩ := id h1
  rcases ix x (n := n) (by omega) with ho | ⟨j, hj, rfl⟩
  · refine Op.t0 H ?_ ?_
    · unfold f_X11_key
      rw [has_out h2.1 ho, Option.bind_some, if_pos rfl]
      rfl
    · unfold f_X12_key
      rw [me_out (n := n) (M := tellM 0 M) e0 (by omega) ho, Option.bind_some, if_pos rfl]
      rfl
  rcases ix k (n := 24) (by omega) with ho | ⟨i, hi, rfl⟩
  · refine Op.t0 H ?_ ?_
    · unfold f_X11_key
      rw [has_in h2.1 hj (by omega), Option.bind_some, if_neg (by decide), ik_out ho, Option.bind_some, if_pos rfl]
      rfl
    · unfold f_X12_key
      rw [me_in (n := n) (M := tellM 0 M) e0 (by omega) hj, Option.bind_some, if_neg (by decide), mk_out ho, Option.bind_some, if_pos rfl]
      rfl
  obtain ⟨q, hq, eq⟩ := (wA j hj).2.2
  have hr : M.1 5 j = M.1 60 (30 + j) := (h2.2.2.2.2.1 j hj).2.1
  have vals := key_val hq hi
  have key : ∀ (v : Int32), (∃ z, z < 2 ^ 24 ∧ v = nI z) → f_X0_setKey (nI j) (nI i) y M = f_X0_setKey_34 (nI j) (M.1 5 j) v (nI j) M → (∀ M' : g_M, M'.1 60 (30 + j) = nI q → f_X12_key_61 (nI j) (nI q) v (30 + nI j) M' = (if y = 0 then (f_X12_key_61 (nI j) (nI q) (nI q &&& (((1 : Int32) <<< (nI i &&& 31)) ^^^ (-1))) (30 + nI j) M') else (f_X12_key_61 (nI j) (nI q) (nI q ||| ((1 : Int32) <<< (nI i &&& 31))) (30 + nI j) M'))) → Op (f_X11_key (nI j) (nI i) y) (f_X12_key (nI j) (nI i) y) t M := by
    intro v hv hf hg
    refine ⟨(if v = nI q then 0 else 1, mK1 j v M), (if nI q = v then 0 else 1, g_u (mK1 j v M) 60 (30 + j) v), ?_, ?_, ?_, n, l, m, h, c1 + 1, c2, c3, key_core ht H hj hv⟩
    · unfold f_X11_key
      rw [has_in h2.1 hj (by omega), Option.bind_some, if_neg (by decide), ik_in hi, Option.bind_some, if_neg (by decide), hf, key_c (by omega), Option.bind_some, hr, eq]
      dsimp only
      by_cases c : v = nI q
      · rw [if_pos c, if_pos rfl]
      · rw [if_neg c, if_neg (by decide)]
    · have eq2 : (mK1 j v M).1 60 (30 + j) = nI q := eq
      unfold f_X12_key
      dsimp only
      rw [me_in (n := n) (show (mK1 j v M).1 60 0 = nI n from e0) (by omega) hj, Option.bind_some, if_neg (by decide), mk_in hi, Option.bind_some, if_neg (by decide), ld_30 (by omega), Option.bind_some, eq2, ← hg _ eq2, key_m (by omega)]
    · dsimp only
      by_cases c : v = nI q
      · rw [if_pos c, if_pos c.symm]
      · rw [if_neg c, if_neg (fun z => c z.symm)]
  by_cases c : y = 0
  · refine key (nI q &&& (((1 : Int32) <<< (nI i &&& 31)) ^^^ (-1))) vals.1 ?_ (fun M' e => ?_)
    · unfold f_X0_setKey
      rw [e_ld (by omega) (by omega), Option.bind_some, if_pos c, hr, eq]
    · rw [if_pos c]
  · refine key (nI q ||| ((1 : Int32) <<< (nI i &&& 31))) vals.2 ?_ (fun M' e => ?_)
    · unfold f_X0_setKey
      rw [e_ld (by omega) (by omega), Option.bind_some, if_neg c, hr, eq]
    · rw [if_neg c]
end OPSC
