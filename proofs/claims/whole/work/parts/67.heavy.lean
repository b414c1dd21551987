section HEAVY
variable {t n l m h c1 c2 c3 : Nat} {M : g_M}
/-- the first with the most keys among the first k that are there; how many together -/
def hB (d : Nat → Int32) : Nat → Option Nat
  | 0 => none
  | k + 1 => if d (20 + k) = 0 then (match hB d k with | none => some k | some b => if ct (d (30 + k)) ≤ ct (d (30 + b)) then some b else some k) else hB d k
def hS (d : Nat → Int32) : Nat → Nat
  | 0 => 0
  | k + 1 => hS d k + (if d (20 + k) = 0 then ct (d (30 + k)) else 0)
theorem hB_lt {d : Nat → Int32} : ∀ {k b : Nat}, hB d k = some b → b < k
  | 0, b, e => by
    rw [show hB d 0 = none from rfl] at e
    exact absurd e (by simp)
  | k + 1, b, e => by
    unfold hB at e
    by_cases c : d (20 + k) = 0
    · rw [if_pos c] at e
      cases q : hB d k with
      | none =>
        rw [q] at e
        have := Option.some.inj e
        omega
      | some z =>
        rw [q] at e
        have := hB_lt q
        dsimp only at e
        split at e
        · have := Option.some.inj e
          omega
        · have := Option.some.inj e
          omega
    · rw [if_neg c] at e
      have := hB_lt e
      omega
theorem hS_le {d : Nat → Int32} : ∀ k, hS d k ≤ 24 * k
  | 0 => Nat.le_refl _
  | k + 1 => by
    have := hS_le (d := d) k
    have := ct_le (d (30 + k))
    unfold hS
    split <;> omega
theorem hB_none {d : Nat → Int32} : ∀ {k : Nat}, hB d k = none → s_all d k = 0
  | 0, _ => rfl
  | k + 1, e => by
    unfold hB at e
    by_cases c : d (20 + k) = 0
    · rw [if_pos c] at e
      cases q : hB d k with
      | none =>
        rw [q] at e
        exact absurd e (by simp)
      | some z =>
        rw [q] at e
        dsimp only at e
        split at e <;> exact absurd e (by simp)
    · rw [if_neg c] at e
      unfold s_all
      rw [hB_none e, if_neg c]
def hi1 : Option Nat → Int32
  | none => 0
  | some b => nI b
def hi2 (d : Nat → Int32) : Option Nat → Int32
  | none => -1
  | some b => nI (ct (d (30 + b)))
def hi3 : Option Nat → Int32
  | none => -1
  | some b => nI b
theorem hc_go (h1 : W_D (M.1 60) n l m h) (h2 : X_E (M.1 60) n l (M.1 3 0) (M.1 3 1) (M.1 3 2) (M.1 4) (M.1 5) (M.1 6) (M.1 7)) : ∀ (k f i : Nat), i + k = n → k < f → g_lq3 (F_X0_heaviest_6 M (fun (x1 : Int32) => some x1)) f (hi1 (hB (M.1 60) i)) (hi2 (M.1 60) (hB (M.1 60) i)) (nI i) = some (hi1 (hB (M.1 60) n))
  | 0, f, i, hi, hf => by
    obtain ⟨f, rfl⟩ : ∃ f', f = f' + 1 := ⟨f - 1, by omega⟩
    have b1 := h1.1
    have : i = n := by omega
    subst this
    rw [lq3_s, F_X0_heaviest_6, h2.1, if_pos (nI_le (Nat.le_refl _) (by omega))]
  | k + 1, f, i, hi, hf => by
    obtain ⟨f, rfl⟩ : ∃ f', f = f' + 1 := ⟨f - 1, by omega⟩
    have b1 := h1.1
    have ih := hc_go h1 h2 k f (i + 1) (by omega) (by omega)
    have q := h2.2.2.2.2.1 i (by omega)
    have g := h2.2.2.1 i (by omega)
    have wa := h1.2.2.2.2.2.2.2.2.2.1 i (by omega)
    obtain ⟨z, hz, ez⟩ := wa.2.2
    rw [lq3_s, F_X0_heaviest_6, h2.1, if_neg (nI_ge (by omega) (by omega)), e_ld (by omega) (by omega), Option.bind_some, q.2.1, ez, bitc hz, Option.bind_some, b_bit _ (by omega), g, nI_1, ← ih]
    have st : hB (M.1 60) (i + 1) = (if (M.1 60) (20 + i) = 0 then (match hB (M.1 60) i with | none => some i | some b => if ct ((M.1 60) (30 + i)) ≤ ct ((M.1 60) (30 + b)) then some b else some i) else hB (M.1 60) i) := rfl
    rw [st]
    have cl := ct_le ((M.1 60) (30 + i))
    have ei : nI (s_pop (nI z) 24) = nI (ct ((M.1 60) (30 + i))) := by rw [ez]; rfl
    rw [ei]
    rcases wa.2.1 with e | e
    · rw [e, if_pos rfl, if_neg (show ¬ decide ((0 : Int32) = 1) = true by decide), if_pos rfl]
      cases hb : hB (M.1 60) i with
      | none =>
        show (if nI (ct ((M.1 60) (30 + i))) ≤ -1 then _ else _) = _
        rw [if_neg]
        · rfl
        · rw [i_le, nI_toInt (by omega)]
          have e2 : (-1 : Int32).toInt = -1 := by decide
          omega
      | some b =>
        have cb := ct_le ((M.1 60) (30 + b))
        show (if nI (ct ((M.1 60) (30 + i))) ≤ nI (ct ((M.1 60) (30 + b))) then _ else _) = _
        dsimp only
        by_cases c : ct ((M.1 60) (30 + i)) ≤ ct ((M.1 60) (30 + b))
        · rw [if_pos (nI_le c (by omega)), if_pos c]
        · rw [if_neg (nI_ge (by omega) (by omega)), if_neg c]
          rfl
    · rw [e, if_neg (show ¬ (1 : Int32) = 0 by decide), if_pos (show decide ((1 : Int32) = 1) = true by decide), if_neg (by decide)]
theorem ks_go (h1 : W_D (M.1 60) n l m h) (h2 : X_E (M.1 60) n l (M.1 3 0) (M.1 3 1) (M.1 3 2) (M.1 4) (M.1 5) (M.1 6) (M.1 7)) : ∀ (k f i : Nat), i + k = n → k < f → g_lq2 (F_X0_keysTogether_4 M (fun (x1 : Int32) => some x1)) f (nI (hS (M.1 60) i)) (nI i) = some (nI (hS (M.1 60) n))
  | 0, f, i, hi, hf => by
    obtain ⟨f, rfl⟩ : ∃ f', f = f' + 1 := ⟨f - 1, by omega⟩
    have b1 := h1.1
    have : i = n := by omega
    subst this
    rw [lq2_s, F_X0_keysTogether_4, h2.1, if_pos (nI_le (Nat.le_refl _) (by omega))]
  | k + 1, f, i, hi, hf => by
    obtain ⟨f, rfl⟩ : ∃ f', f = f' + 1 := ⟨f - 1, by omega⟩
    have b1 := h1.1
    have ih := ks_go h1 h2 k f (i + 1) (by omega) (by omega)
    have q := h2.2.2.2.2.1 i (by omega)
    have g := h2.2.2.1 i (by omega)
    have wa := h1.2.2.2.2.2.2.2.2.2.1 i (by omega)
    obtain ⟨z, hz, ez⟩ := wa.2.2
    have st : hS (M.1 60) (i + 1) = hS (M.1 60) i + (if (M.1 60) (20 + i) = 0 then ct ((M.1 60) (30 + i)) else 0) := rfl
    rw [lq2_s, F_X0_keysTogether_4, h2.1, if_neg (nI_ge (by omega) (by omega)), e_ld (by omega) (by omega), Option.bind_some, q.2.1, ez, bitc hz, Option.bind_some, b_bit _ (by omega), g, nI_1, nI_add, ← ih, st, ez]
    rcases wa.2.1 with e | e
    · rw [e, if_pos rfl, if_neg (show ¬ decide ((0 : Int32) = 1) = true by decide), if_pos rfl]
      rfl
    · rw [e, if_neg (show ¬ (1 : Int32) = 0 by decide), if_pos (show decide ((1 : Int32) = 1) = true by decide), if_neg (by decide)]
      rfl
theorem hm_go (h1 : W_D (M.1 60) n l m h) (K : Int32 → Int32 → Int32 → g_M → Option (Int32 × g_M)) (x : Int32) : ∀ (k f i : Nat), i + k = n → k < f → g_lp4 (F_X12_heavy_35 K) f x (hi3 (hB (M.1 60) i)) (nI (hS (M.1 60) i)) (nI i) M = K x (hi3 (hB (M.1 60) n)) (nI (hS (M.1 60) n)) M
  | 0, f, i, hi, hf => by
    obtain ⟨f, rfl⟩ : ∃ f', f = f' + 1 := ⟨f - 1, by omega⟩
    have b1 := h1.1
    have : i = n := by omega
    subst this
    rw [lp4_s, F_X12_heavy_35, ld_0, Option.bind_some, h1.2.2.2.2.1, if_pos (nI_le (Nat.le_refl _) (by omega))]
  | k + 1, f, i, hi, hf => by
    obtain ⟨f, rfl⟩ : ∃ f', f = f' + 1 := ⟨f - 1, by omega⟩
    have b1 := h1.1
    have ih := hm_go h1 K x k f (i + 1) (by omega) (by omega)
    have wa := h1.2.2.2.2.2.2.2.2.2.1 i (by omega)
    have st : hS (M.1 60) (i + 1) = hS (M.1 60) i + (if (M.1 60) (20 + i) = 0 then ct ((M.1 60) (30 + i)) else 0) := rfl
    have st2 : hB (M.1 60) (i + 1) = (if (M.1 60) (20 + i) = 0 then (match hB (M.1 60) i with | none => some i | some b => if ct ((M.1 60) (30 + i)) ≤ ct ((M.1 60) (30 + b)) then some b else some i) else hB (M.1 60) i) := rfl
    have cl := ct_le ((M.1 60) (30 + i))
    have many : ∀ y, f_X12_many y M = some (nI (ct y)) := fun y => many_eq y M
    rw [lp4_s, F_X12_heavy_35, ld_0, Option.bind_some, h1.2.2.2.2.1, if_neg (nI_ge (by omega) (by omega)), ld_20 (by omega), Option.bind_some, ld_30 (by omega), Option.bind_some, many, Option.bind_some, nI_add, nI_1, ← ih, st, st2]
    rcases wa.2.1 with e | e
    · rw [e, if_pos rfl, if_pos rfl, if_pos rfl]
      cases hb : hB (M.1 60) i with
      | none =>
        rw [if_pos (show hi3 none < 0 by decide)]
        rfl
      | some b =>
        have := hB_lt hb
        have cb := ct_le ((M.1 60) (30 + b))
        dsimp only
        rw [show hi3 (some b) = nI b from rfl, if_neg (nI_pos (by omega)), Option.bind_some, many, Option.bind_some, ld_30 (by omega), Option.bind_some, many, Option.bind_some]
        by_cases c : ct ((M.1 60) (30 + i)) ≤ ct ((M.1 60) (30 + b))
        · rw [if_pos (nI_le c (by omega)), if_pos c]
          rfl
        · rw [if_neg (nI_ge (by omega) (by omega)), if_neg c]
          rfl
    · rw [e, if_neg (show ¬ (1 : Int32) = 0 by decide), if_neg (show ¬ (1 : Int32) = 0 by decide), if_neg (show ¬ (1 : Int32) = 0 by decide)]
      rfl
theorem op_heavy (H : Rel0 t n l m h c1 c2 c3 M) (x : Int32) : Op (f_X11_heavy x) (f_X12_heavy x) t M := by
  obtain ⟨h1, h2, h3, h4, h5, h6, h7, h8, h9, h10, h11⟩ := id H
  obtain ⟨b1, b2, b3, b4, e0, e4, e1, e3, eu, wA, wL, wH, wT⟩ := id h1
  have hA := all_1024 (M.1 60) b1
  have al0 : ∀ M' : g_M, M'.1 60 = M.1 60 → f_X12_all M' = some (nI (s_all (M.1 60) n)) := fun M' e => by rw [all_eq b1 (by rw [e]; exact e0), e]
  rcases ix x (n := 3) (by omega) with ho | ⟨j, hj, rfl⟩
  · refine Op.t0 H ?_ ?_
    · unfold f_X11_heavy
      by_cases c : x < 0
      · rw [if_pos c]
        rfl
      · have : ¬ x ≤ 2 := by
          have := ho.resolve_left c
          rw [i_le] at this ⊢
          have e1 : (nI 3).toInt = 3 := by decide
          have e2 : (2 : Int32).toInt = 2 := by decide
          omega
        rw [if_neg c, if_neg this]
        rfl
    · unfold f_X12_heavy
      rw [in_out _ (a := 0) (b := 2) (out_m1 (n := 3) (by omega) ho), Option.bind_some, if_pos rfl]
  have p0 : ¬ nI j < 0 := nI_pos (by omega)
  have p2 : nI j ≤ 2 := show nI j ≤ nI 2 from nI_le (by omega) (by omega)
  have p3 : ¬ (2 : Int32) < nI j := show ¬ nI 2 < nI j from nI_nlt (by omega) (by omega)
  by_cases cA : s_all (M.1 60) n = 0
  · refine Op.t3 H ?_ ?_
    · unfold f_X11_heavy
      rw [if_neg p0, if_pos p2, present_eq h1 h2, Option.bind_some, cA, if_pos (show nI 0 = 0 from rfl)]
    · unfold f_X12_heavy
      rw [in_in _ p0 p3, Option.bind_some, if_neg (by decide), al0 (tellM 3 M) rfl, Option.bind_some, cA, if_pos (show nI 0 = 0 from rfl)]
  have nA : ¬ nI (s_all (M.1 60) n) = 0 := nI_ne0 (by omega) (by omega)
  cases hb : hB (M.1 60) n with
  | none => exact absurd (hB_none hb) cA
  | some b =>
    have hbl := hB_lt hb
    have r5 : M.1 5 b = M.1 60 (30 + b) := (h2.2.2.2.2.1 b hbl).2.1
    obtain ⟨z, hz, ez⟩ := (wA b hbl).2.2
    have hc := hc_go h1 h2 n 20000000 0 (by omega) (by omega)
    rw [hb] at hc
    have ks := ks_go h1 h2 n 20000000 0 (by omega) (by omega)
    have hm := hm_go h1 (fun (x1 : Int32) (x2 : Int32) (x3 : Int32) (M : g_M) => (if x1 = 0 then ((g_ld M 60 1208 (30 + x2)).bind fun v11 => (f_X12_many v11 M).bind fun p12 => some (p12, M)) else ((if x1 = 1 then (some (x2, M)) else (some (x3, M)))))) (nI j) n 20000000 0 (by omega) (by omega)
    rw [hb] at hm
    refine Op.say (v := if nI j = 0 then nI (ct (M.1 60 (30 + b))) else if nI j = 1 then nI b else nI (hS (M.1 60) n)) H ?_ ?_
    · unfold f_X11_heavy
      rw [if_neg p0, if_pos p2, present_eq h1 h2, Option.bind_some, if_neg nA, show f_X0_heaviest M = some (nI b) from hc, Option.bind_some, e_ld (by omega) (by omega), Option.bind_some, r5, ez, bitc hz, Option.bind_some, show f_X0_keysTogether M = some (nI (hS (M.1 60) n)) from ks, Option.bind_some]
      split
      · rfl
      · split <;> rfl
    · unfold f_X12_heavy
      rw [in_in _ p0 p3, Option.bind_some, if_neg (by decide), al0 M rfl, Option.bind_some, if_neg nA]
      refine Eq.trans hm ?_
      show (if nI j = 0 then ((g_ld M 60 1208 (30 + nI b)).bind fun v11 => (f_X12_many v11 M).bind fun p12 => some (p12, M)) else ((if nI j = 1 then (some (nI b, M)) else (some (nI (hS (M.1 60) n), M))))) = _
      rw [ld_30 (by omega), Option.bind_some, many_eq, Option.bind_some]
      split
      · rfl
      · split <;> rfl
end HEAVY
