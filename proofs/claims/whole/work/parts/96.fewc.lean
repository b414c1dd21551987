section FEWD
variable {M : g_M}
abbrev fL (i : Nat) : Nat := fLf.getD i 0
theorem fL_b (i : Nat) : fL i < 65536 := by
  unfold fL
  by_cases c : i < fLf.length
  · rw [List.getD_eq_getElem?_getD, List.getElem?_eq_getElem c]
    exact fLf_b.2 _ (List.getElem_mem c)
  · rw [List.getD_eq_getElem?_getD, List.getElem?_eq_none (by omega)]
    show (0 : Nat) < 65536
    omega
theorem fI_of {t : Nat} (ht : t < 65536) (h : fI t ≠ 0) : fL (fI t - 1) = t := by
  have := allN_1 fI_all t ht
  rw [Bool.or_eq_true, beq_iff_eq, beq_iff_eq] at this
  exact this.resolve_left h
theorem fI_at {i : Nat} (hi : i < 166) : fI (fL i) = i + 1 := beq_iff_eq.mp (allN_1 fI_in i hi)
theorem fL_166 {i : Nat} (h : 166 ≤ i) : fL i = 0 := by
  unfold fL
  rw [List.getD_eq_getElem?_getD, List.getElem?_eq_none (by rw [fLf_b.1]; exact h)]
  rfl
/-- the truths that the class knows: the first p of the list -/
def AX (M : g_M) (p : Nat) : Prop := M.1 46 3 = nI p ∧ p ≤ 166 ∧ (∀ i, i < p → M.1 47 i = nI (fL i)) ∧ ∀ w, w < 1024 → ∀ b, b < 64 → (bl (M.2 49 w) b = true ↔ ∃ i, i < p ∧ fL i = 64 * w + b)
theorem at_eq {p t p' : Nat} (h : AX M p) (ht : t < 65536) (e : aP p t = some p') : ∃ M' : g_M, f_X3_addTruth (nI t) M = some M' ∧ g_fr [47, 49] [(46, 3)] M M' ∧ AX M' p' ∧ p ≤ p' := by
  obtain ⟨a1, a2, a3, a4⟩ := id h
  unfold aP at e
  by_cases t0 : t = 0
  · rw [if_pos t0] at e
    exact absurd e (by simp)
  rw [if_neg t0] at e
  by_cases i0 : fI t = 0
  · rw [if_pos i0] at e
    exact absurd e (by simp)
  rw [if_neg i0] at e
  have fo := fI_of ht i0
  have w1 : t / 64 < 1024 := by omega
  have e63 : nI t &&& 63 = nI (t % 64) := pk_andN (by omega) 6 (by decide)
  have e6 : nI t >>> (6 &&& 31) = nI (t / 64) := pk_shrN (by omega) (6 &&& 31) 6 (by decide)
  have hs : 64 * (t / 64) + t % 64 = t := by omega
  have kn := a4 (t / 64) w1 (t % 64) (by omega)
  rw [hs] at kn
  have tst : lg_cmp (M.2 49 (t / 64) &&& ((1 : Int64) <<< (Int32.toInt64 (nI (t % 64)) &&& 63))) 0 = 0 ↔ bl (M.2 49 (t / 64)) (t % 64) = false := by
    rw [lg0]
    constructor
    · intro q
      have : bl (M.2 49 (t / 64) &&& ((1 : Int64) <<< (Int32.toInt64 (nI (t % 64)) &&& 63))) (t % 64) = false := by rw [q, bl_0]
      rw [bl_and, bl_one (by omega) (by omega), decide_eq_true rfl, Bool.and_true] at this
      exact this
    · intro q
      refine bl_ext (fun j hj => ?_)
      rw [bl_and, bl_one (by omega) hj, bl_0]
      by_cases c : j = t % 64
      · rw [c, q, Bool.false_and]
      · rw [decide_eq_false c, Bool.and_false]
  unfold f_X3_addTruth
  rw [Option.bind_some, if_neg (nI_ne0 (by omega) (by omega)), e6, e63, e_ldl w1 (by omega), Option.bind_some]
  by_cases c1 : fI t ≤ p
  · rw [if_pos c1] at e
    have ep := Option.some.inj e
    subst ep
    have : bl (M.2 49 (t / 64)) (t % 64) = true := kn.mpr ⟨fI t - 1, by omega, fo⟩
    rw [if_neg (fun q => by rw [tst.mp q] at this; exact absurd this (by decide))]
    exact ⟨M, rfl, g_fr.rfl, h, Nat.le_refl _⟩
  · rw [if_neg c1] at e
    by_cases c2 : fI t = p + 1
    · rw [if_pos c2] at e
      have ep := Option.some.inj e
      subst ep
      rw [c2, Nat.add_sub_cancel] at fo
      have hp : p < 166 := by
        refine Classical.byContradiction fun q => t0 ?_
        rw [← fo]
        exact fL_166 (by omega)
      have nk : bl (M.2 49 (t / 64)) (t % 64) = false := Bool.eq_false_iff.mpr (fun q => by
        obtain ⟨i, hi, ei⟩ := kn.mp q
        have := fI_at (i := i) (by omega)
        rw [ei] at this
        omega)
      rw [if_pos (tst.mpr nk), a1, if_pos (show nI p < 166 from nI_lt (b := 166) hp (by omega)), Option.bind_some, e_stl w1 (by omega), Option.bind_some, show (g_ul M 49 (t / 64) (M.2 49 (t / 64) ||| ((1 : Int64) <<< (Int32.toInt64 (nI (t % 64)) &&& 63)))).1 46 3 = nI p from a1, e_st hp (by omega), Option.bind_some, Option.bind_some]
      refine ⟨_, rfl, ((g_fr.rfl.ulS (by decide)).uS (by decide)).uT (by decide), ⟨?_, by omega, fun i hi => ?_, fun w hw b hb => ?_⟩, by omega⟩
      · show M.1 46 3 + 1 = _
        rw [a1, nI_1]
      · show upd (M.1 47) p (nI t) i = _
        by_cases c : i = p
        · subst c
          rw [upd_eq, fo]
        · rw [upd_ne c]
          exact a3 i (by omega)
      · show bl (vp_updL (M.2 49) (t / 64) _ w) b = true ↔ _
        by_cases cw : w = t / 64
        · subst cw
          rw [pk_uLs, bl_or, bl_one (by omega) hb, Bool.or_eq_true, a4 _ hw b hb, decide_eq_true_iff]
          constructor
          · rintro (⟨i, hi, ei⟩ | q)
            · exact ⟨i, by omega, ei⟩
            · exact ⟨p, by omega, by rw [fo]; omega⟩
          · rintro ⟨i, hi, ei⟩
            by_cases c : i = p
            · subst c
              right
              rw [fo] at ei
              omega
            · exact Or.inl ⟨i, by omega, ei⟩
        · rw [pk_uLn cw, a4 w hw b hb]
          constructor
          · rintro ⟨i, hi, ei⟩
            exact ⟨i, by omega, ei⟩
          · rintro ⟨i, hi, ei⟩
            by_cases c : i = p
            · subst c
              rw [fo] at ei
              exact absurd (show w = t / 64 by omega) cw
            · exact ⟨i, by omega, ei⟩
    · rw [if_neg c2] at e
      exact absurd e (by simp)
theorem drop_c {j : Nat} (hj : j < 166) : fLf.drop j = fL j :: fLf.drop (j + 1) := by
  have hl : j < fLf.length := by rw [fLf_b.1]; exact hj
  rw [List.drop_eq_getElem_cons hl]
  congr 1
  unfold fL
  rw [List.getD_eq_getElem?_getD, List.getElem?_eq_getElem hl]
  rfl
theorem jB_s {x n y p p' : Nat} {ys : List Nat} (h : jB x (n + 1) (y :: ys) p = some p') : ∃ p1 p2, aP p (x ||| y) = some p1 ∧ aP p1 (x &&& y) = some p2 ∧ jB x n ys p2 = some p' := by
  have h' : (match aP p (x ||| y) with | none => none | some p1 => match aP p1 (x &&& y) with | none => none | some p2 => jB x n ys p2) = some p' := h
  cases e1 : aP p (x ||| y) with
  | none => rw [e1] at h'; exact absurd h' (by simp)
  | some p1 =>
    rw [e1] at h'
    dsimp only at h'
    cases e2 : aP p1 (x &&& y) with
    | none => rw [e2] at h'; exact absurd h' (by simp)
    | some p2 =>
      rw [e2] at h'
      exact ⟨p1, p2, rfl, e2, h'⟩
theorem jA_s {m n x p p' : Nat} {ys xs : List Nat} (h : jA m ys (n + 1) (x :: xs) p = some p') : ∃ p1, jB x m ys p = some p1 ∧ jA m ys n xs p1 = some p' := by
  have h' : (match jB x m ys p with | none => none | some p1 => jA m ys n xs p1) = some p' := h
  cases e1 : jB x m ys p with
  | none => rw [e1] at h'; exact absurd h' (by simp)
  | some p1 =>
    rw [e1] at h'
    exact ⟨p1, rfl, h'⟩
theorem hL_s {k n few p p' : Nat} (h : hL k (n + 1) few p = some p') : ∃ p1, jA (fN (k - few)) (fLf.drop (fS (k - few))) (fN few) (fLf.drop (fS few)) p = some p1 ∧ hL k n (few + 1) p1 = some p' := by
  have h' : (match jA (fN (k - few)) (fLf.drop (fS (k - few))) (fN few) (fLf.drop (fS few)) p with | none => none | some p1 => hL k n (few + 1) p1) = some p' := h
  cases e1 : jA (fN (k - few)) (fLf.drop (fS (k - few))) (fN few) (fLf.drop (fS few)) p with
  | none => rw [e1] at h'; exact absurd h' (by simp)
  | some p1 =>
    rw [e1] at h'
    exact ⟨p1, rfl, h'⟩
abbrev FJ (M M' : g_M) : Prop := g_fr [47, 49] [(46, 3)] M M'
theorem or16 {x y : Nat} (hx : x < 65536) (hy : y < 65536) : x ||| y < 65536 := Nat.or_lt_two_pow (n := 16) hx hy
theorem and16 {x y : Nat} (hx : x < 65536) : x &&& y < 65536 := Nat.lt_of_le_of_lt Nat.and_le_left hx
theorem jb_go {i many : Nat} {few : Int32} (hm : many + 1 < 18) (K : Int32 → Int32 → Int32 → g_M → Option g_M) : ∀ (n f j p p' : Nat) (M : g_M), j + n = fS (many + 1) → n < f → M.1 48 (many + 1) = nI (fS (many + 1)) → AX M p → i < p → fS (many + 1) ≤ p → jB (fL i) n (fLf.drop j) p = some p' → ∃ M' : g_M, g_lp4 (F_X3_joinAll_27 K) f few (nI many) (nI i) (nI j) M = K few (nI many) (nI i) M' ∧ FJ M M' ∧ AX M' p' ∧ p ≤ p'
  | 0, f, j, p, p', M, hj, hf, e48, h, hi, hp, e => by
    obtain ⟨f, rfl⟩ : ∃ f', f = f' + 1 := ⟨f - 1, by omega⟩
    have ep : p = p' := Option.some.inj e
    subst ep
    have h166 := h.2.1
    refine ⟨M, ?_, g_fr.rfl, h, Nat.le_refl _⟩
    rw [lp4_s, F_X3_joinAll_27, nI_1, e_ld (by omega) (by omega), Option.bind_some, e48, if_pos (nI_le (by omega) (by omega))]
  | n + 1, f, j, p, p', M, hj, hf, e48, h, hi, hp, e => by
    obtain ⟨f, rfl⟩ : ∃ f', f = f' + 1 := ⟨f - 1, by omega⟩
    have h166 := h.2.1
    rw [drop_c (show j < 166 by omega)] at e
    obtain ⟨p1, p2, q1, q2, q3⟩ := jB_s e
    obtain ⟨M1, a1, a2, a3, a4⟩ := at_eq h (or16 (fL_b i) (fL_b j)) q1
    obtain ⟨M2, b1, b2, b3, b4⟩ := at_eq a3 (and16 (fL_b i)) q2
    have e48' : M2.1 48 (many + 1) = nI (fS (many + 1)) := ((a2.trans b2).at (by decide) (by simp)).trans e48
    obtain ⟨M', m1, m2, m3, m4⟩ := jb_go hm K n f (j + 1) p2 p' M2 (by omega) (by omega) e48' b3 (by omega) (by omega) q3
    refine ⟨M', ?_, (a2.trans b2).trans m2, m3, by omega⟩
    rw [lp4_s, F_X3_joinAll_27, nI_1, e_ld (by omega) (by omega), Option.bind_some, e48, if_neg (nI_ge (by omega) (by omega)), e_ld (by omega) (by omega), Option.bind_some, e_ld (by omega) (by omega), Option.bind_some, h.2.2.1 i hi, h.2.2.1 j (by omega), nx_or, a1, Option.bind_some, e_ld (by omega) (by omega), Option.bind_some, e_ld (by omega) (by omega), Option.bind_some, a3.2.2.1 i (by omega), a3.2.2.1 j (by omega), nx_and, b1, Option.bind_some, nI_1, m1]
theorem ja_go {few many : Nat} (hf1 : few + 1 < 18) (hm : many + 1 < 18) : ∀ (n f i p p' : Nat) (M : g_M), i + n = fS (few + 1) → n < f → M.1 48 (few + 1) = nI (fS (few + 1)) → M.1 48 many = nI (fS many) → M.1 48 (many + 1) = nI (fS (many + 1)) → AX M p → fS (few + 1) ≤ p → fS (many + 1) ≤ p → jA (fN many) (fLf.drop (fS many)) n (fLf.drop i) p = some p' → ∃ M' : g_M, g_lp3 (F_X3_joinAll_7 (fun (M : g_M) => some M)) f (nI few) (nI many) (nI i) M = some M' ∧ FJ M M' ∧ AX M' p' ∧ p ≤ p'
  | 0, f, i, p, p', M, hi, hf, e1, e2, e3, h, hp1, hp2, e => by
    obtain ⟨f, rfl⟩ : ∃ f', f = f' + 1 := ⟨f - 1, by omega⟩
    have ep : p = p' := Option.some.inj e
    subst ep
    have h166 := h.2.1
    refine ⟨M, ?_, g_fr.rfl, h, Nat.le_refl _⟩
    rw [lp3_s, F_X3_joinAll_7, nI_1, e_ld (by omega) (by omega), Option.bind_some, e1, if_pos (nI_le (by omega) (by omega))]
  | n + 1, f, i, p, p', M, hi, hf, e1, e2, e3, h, hp1, hp2, e => by
    obtain ⟨f, rfl⟩ : ∃ f', f = f' + 1 := ⟨f - 1, by omega⟩
    have h166 := h.2.1
    have up := fS_up many (by omega)
    rw [drop_c (show i < 166 by omega)] at e
    obtain ⟨p1, q1, q2⟩ := jA_s e
    obtain ⟨M1, a1, a2, a3, a4⟩ := jb_go (i := i) (few := nI few) hm (fun (x1 : Int32) (x2 : Int32) (x3 : Int32) (M : g_M) => g_lp3 (F_X3_joinAll_7 (fun (M : g_M) => some M)) f x1 x2 (x3 + 1) M) (fN many) 20000000 (fS many) p p1 M (by unfold fN; omega) (by unfold fN; omega) e3 h (by omega) hp2 q1
    obtain ⟨M', m1, m2, m3, m4⟩ := ja_go hf1 hm n f (i + 1) p1 p' M1 (by omega) (by omega) ((a2.at (by decide) (by simp)).trans e1) ((a2.at (by decide) (by simp)).trans e2) ((a2.at (by decide) (by simp)).trans e3) a3 (by omega) (by omega) q2
    refine ⟨M', ?_, a2.trans m2, m3, by omega⟩
    rw [lp3_s, F_X3_joinAll_7, nI_1, e_ld (by omega) (by omega), Option.bind_some, e1, if_neg (nI_ge (by omega) (by omega)), e_ld (by omega) (by omega), Option.bind_some, e2]
    refine Eq.trans a1 ?_
    rw [nI_1]
    exact m1
theorem hl3_go {k : Nat} (hk : k ≤ 16) (h2 : 2 ≤ k) (K : Int32 → g_M → Option g_M) : ∀ (n f few p p' : Nat) (M : g_M), few + n = k / 2 + 1 → 1 ≤ few → n < f → (∀ i, i ≤ k → M.1 48 i = nI (fS i)) → AX M p → fS k ≤ p → hL k n few p = some p' → ∃ M' : g_M, g_lp2 (F_X3_hangAll_31 K) f (nI k) (nI few) M = K (nI k) M' ∧ FJ M M' ∧ AX M' p'
  | 0, f, few, p, p', M, hn, h1, hf, e48, h, hp, e => by
    obtain ⟨f, rfl⟩ : ∃ f', f = f' + 1 := ⟨f - 1, by omega⟩
    have ep : p = p' := Option.some.inj e
    subst ep
    refine ⟨M, ?_, g_fr.rfl, h⟩
    rw [lp2_s, F_X3_hangAll_31, show g_nz 2 = some 2 from rfl, Option.bind_some, show (2 : Int32) = nI 2 from rfl, pk_div (by omega) (by omega) (by omega), if_pos (nI_lt (by omega) (by omega))]
  | n + 1, f, few, p, p', M, hn, h1, hf, e48, h, hp, e => by
    obtain ⟨f, rfl⟩ : ∃ f', f = f' + 1 := ⟨f - 1, by omega⟩
    obtain ⟨p1, q1, q2⟩ := hL_s e
    have mono : ∀ a b, a ≤ b → b < 18 → fS a ≤ fS b := fun a b hab hb => by
      induction b with
      | zero => rw [show a = 0 by omega]; exact Nat.le_refl _
      | succ b ih =>
        by_cases c : a = b + 1
        · rw [c]; exact Nat.le_refl _
        · exact Nat.le_trans (ih (by omega) (by omega)) (fS_up b (by omega))
    have m1' := mono (few + 1) k (by omega) (by omega)
    have m2' := mono (k - few + 1) k (by omega) (by omega)
    have up := fS_up few (by omega)
    have f166 := fS_le (few + 1) (by omega)
    obtain ⟨M1, a1, a2, a3, a4⟩ := ja_go (few := few) (many := k - few) (by omega) (by omega) (fN few) 20000000 (fS few) p p1 M (by unfold fN; omega) (by unfold fN; omega) (e48 _ (by omega)) (e48 _ (by omega)) (e48 _ (by omega)) h (by omega) (by omega) q1
    obtain ⟨M', b1, b2, b3⟩ := hl3_go hk h2 K n f (few + 1) p1 p' M1 (by omega) (by omega) (by omega) (fun i hi => (a2.at (by decide) (by simp)).trans (e48 i hi)) a3 (by omega) q2
    refine ⟨M', ?_, a2.trans b2, b3⟩
    have jn : f_X3_joinAll (nI few) (nI k - nI few) M = some M1 := by
      unfold f_X3_joinAll
      rw [pk_sub (by omega), e_ld (by omega) (by omega), Option.bind_some, e48 few (by omega)]
      exact a1
    rw [lp2_s, F_X3_hangAll_31, show g_nz 2 = some 2 from rfl, Option.bind_some, show (2 : Int32) = nI 2 from rfl, pk_div (by omega) (by omega) (by omega), if_neg (nI_nlt (by omega) (by omega)), jn, Option.bind_some, nI_1, b1]
/-- all that need at most k locks are there -/
def FX (M : g_M) (k : Nat) : Prop := M.1 46 4 = nI k ∧ AX M (fS (k + 1)) ∧ ∀ i, i ≤ k + 1 → M.1 48 i = nI (fS i)
abbrev FH (M M' : g_M) : Prop := g_fr [47, 48, 49] [(46, 3), (46, 4)] M M'
theorem FX.next {k : Nat} {M1 : g_M} (hk : k < 16) (h : FX M k) (fr : FJ M M1) (ax : AX M1 (fS (k + 2))) : ∃ M' : g_M, ((g_st M1 48 18 (nI (k + 1) + 1) (M1.1 46 3)).bind fun M9 => (some (g_u M9 46 4 (nI (k + 1)))).bind fun M10 => some M10) = some M' ∧ FH M M' ∧ FX M' (k + 1) := by
  rw [nI_1, e_st (by omega) (by omega), Option.bind_some, Option.bind_some]
  have fr' : FH M M1 := g_fr.mono fr (by decide) (by decide)
  refine ⟨_, rfl, (fr'.uS (by decide)).uT (by decide), rfl, ⟨ax.1, ax.2.1, ax.2.2.1, ax.2.2.2⟩, fun i hi => ?_⟩
  show upd (M1.1 48) (k + 1 + 1) (M1.1 46 3) i = _
  by_cases c : i = k + 1 + 1
  · subst c
    rw [upd_eq]
    exact ax.1
  · rw [upd_ne c, fr.at (by decide) (by simp)]
    exact h.2.2 i (by omega)
theorem ha_eq {k : Nat} (hk : k < 16) (h : FX M k) : ∃ M' : g_M, f_X3_hangAll (nI (k + 1)) M = some M' ∧ FH M M' ∧ FX M' (k + 1) := by
  unfold f_X3_hangAll
  by_cases c : k = 0
  · subst c
    obtain ⟨-, l1, l2, l3, l4⟩ := lev_0
    obtain ⟨M1, a1, a2, a3, -⟩ := at_eq (t := 43690) (p := 0) h.2.1 (by omega) l1
    obtain ⟨M2, b1, b2, b3, -⟩ := at_eq (t := 52428) a3 (by omega) l2
    obtain ⟨M3, c1, c2, c3, -⟩ := at_eq (t := 61680) b3 (by omega) l3
    obtain ⟨M4, d1, d2, d3, -⟩ := at_eq (t := 65280) c3 (by omega) l4
    have fr : FJ M M4 := ((a2.trans b2).trans c2).trans d2
    obtain ⟨M', m1, m2, m3⟩ := h.next (M1 := M4) (by omega) fr d3
    refine ⟨M', ?_, m2, m3⟩
    rw [if_pos (show nI (0 + 1) = 1 from rfl), show f_X3_addTruth 43690 M = some M1 from a1, Option.bind_some, show f_X3_addTruth 52428 M1 = some M2 from b1, Option.bind_some, show f_X3_addTruth 61680 M2 = some M3 from c1, Option.bind_some, show f_X3_addTruth 65280 M3 = some M4 from d1, Option.bind_some]
    show g_lp2 _ (19999999 + 1) (nI (0 + 1)) 1 M4 = _
    rw [lp2_s, F_X3_hangAll_31, show g_nz 2 = some 2 from rfl, Option.bind_some, if_pos (by decide)]
    exact m1
  · obtain ⟨M1, a1, a2, a3⟩ := hl3_go (k := k + 1) (by omega) (by omega) (fun (x1 : Int32) (M : g_M) => (g_st M 48 18 (x1 + 1) (M.1 46 3)).bind fun M3 => (some (g_u M3 46 4 x1)).bind fun M4 => some M4) ((k + 1) / 2) 20000000 1 (fS (k + 1)) (fS (k + 2)) M (by omega) (by omega) (by omega) (fun i hi => h.2.2 i hi) h.2.1 (Nat.le_refl _) (lev_1 k hk (by omega))
    obtain ⟨M', m1, m2, m3⟩ := h.next hk a2 a3
    refine ⟨M', ?_, m2, m3⟩
    rw [if_neg (fun q => by have := nI_inj (a := k + 1) (b := 1) (by omega) (by omega) q; omega)]
    exact Eq.trans a1 m1
/-- is a truth among n of a list? -/
def scB (t : Nat) : Nat → List Nat → Bool
  | 0, _ => false
  | _ + 1, [] => false
  | n + 1, y :: ys => if y = t then true else scB t n ys
def locF (t : Nat) : Nat → Nat → Nat
  | 0, _ => 0
  | n + 1, k => if scB t (fN k) (fLf.drop (fS k)) = true then k else locF t n (k + 1)
theorem sc_go {t k dn : Nat} (ht : t < 65536) (hk : k ≤ dn) (hd : dn ≤ 16) (h : FX M dn) (K50 : Int32 → g_M → Option (Int32 × g_M)) (K58 : Int32 → Int32 → g_M → Option (Int32 × g_M)) : ∀ (n f j : Nat), j + n = fS (k + 1) → n < f → g_lp3 (F_X3_locksFor_28 K50 K58) f (nI t) (nI k) (nI j) M = (if scB t n (fLf.drop j) = true then K50 (nI k) M else K58 (nI t) (nI k) M)
  | 0, f, j, hj, hf => by
    obtain ⟨f, rfl⟩ : ∃ f', f = f' + 1 := ⟨f - 1, by omega⟩
    have f166 := fS_le (k + 1) (by omega)
    rw [lp3_s, F_X3_locksFor_28, nI_1, e_ld (by omega) (by omega), Option.bind_some, h.2.2 (k + 1) (by omega), if_pos (nI_le (by omega) (by omega))]
    exact (if_neg (by unfold scB; decide)).symm
  | n + 1, f, j, hj, hf => by
    obtain ⟨f, rfl⟩ : ∃ f', f = f' + 1 := ⟨f - 1, by omega⟩
    have f166 := fS_le (k + 1) (by omega)
    have mono : ∀ a b, a ≤ b → b < 18 → fS a ≤ fS b := fun a b hab hb => by
      induction b with
      | zero => rw [show a = 0 by omega]; exact Nat.le_refl _
      | succ b ih =>
        by_cases c : a = b + 1
        · rw [c]; exact Nat.le_refl _
        · exact Nat.le_trans (ih (by omega) (by omega)) (fS_up b (by omega))
    have mm := mono (k + 1) (dn + 1) (by omega) (by omega)
    have ih := sc_go ht hk hd h K50 K58 n f (j + 1) (by omega) (by omega)
    have st : scB t (n + 1) (fLf.drop j) = if fL j = t then true else scB t n (fLf.drop (j + 1)) := by
      rw [drop_c (show j < 166 by omega)]
      rfl
    rw [st, lp3_s, F_X3_locksFor_28, nI_1, e_ld (by omega) (by omega), Option.bind_some, h.2.2 (k + 1) (by omega), if_neg (nI_ge (by omega) (by omega)), e_ld (by omega) (by omega), Option.bind_some, h.2.1.2.2.1 j (by omega), nI_1, ih]
    have := fL_b j
    by_cases c : fL j = t
    · rw [if_pos (by rw [c]), if_pos c, if_pos rfl]
    · rw [if_neg (fun q => c ((nI_eq (by omega) (by omega)).mp q)), if_neg c]
theorem lf_go {t : Nat} (ht : t < 65536) : ∀ (n f k dn : Nat) (M : g_M), k + n = 17 → n < f → 1 ≤ k → k ≤ dn + 1 → dn ≤ 16 → FX M dn → ∃ (M' : g_M) (dn' : Nat), g_lp2 (F_X3_locksFor_2 (fun (x2 : Int32) (M : g_M) => some (x2, M)) (fun (M : g_M) => some (0, M))) f (nI t) (nI k) M = some (nI (locF t n k), M') ∧ FH M M' ∧ dn' ≤ 16 ∧ FX M' dn'
  | 0, f, k, dn, M, hk, hf, k1, kd, d16, h => by
    obtain ⟨f, rfl⟩ : ∃ f', f = f' + 1 := ⟨f - 1, by omega⟩
    have : k = 17 := by omega
    subst this
    refine ⟨M, dn, ?_, g_fr.rfl, d16, h⟩
    rw [lp2_s, F_X3_locksFor_2, if_pos (by decide)]
    rfl
  | n + 1, f, k, dn, M, hk, hf, k1, kd, d16, h => by
    obtain ⟨f, rfl⟩ : ∃ f', f = f' + 1 := ⟨f - 1, by omega⟩
    have up := fS_up k (by omega)
    have f166 := fS_le (k + 1) (by omega)
    have goon : ∀ (M1 : g_M) (d1 : Nat), FH M M1 → k ≤ d1 → d1 ≤ 16 → FX M1 d1 → ∃ (M' : g_M) (dn' : Nat), ((g_ld M1 48 18 (nI k)).bind fun v1 => g_lp3 (F_X3_locksFor_28 (fun (x2 : Int32) (M : g_M) => some (x2, M)) (fun (x1 : Int32) (x2 : Int32) (M : g_M) => g_lp2 (F_X3_locksFor_2 (fun (x2 : Int32) (M : g_M) => some (x2, M)) (fun (M : g_M) => some (0, M))) f x1 (x2 + 1) M)) 20000000 (nI t) (nI k) v1 M1) = some (nI (locF t (n + 1) k), M') ∧ FH M M' ∧ dn' ≤ 16 ∧ FX M' dn' := fun M1 d1 fr hd1 h16 h1 => by
      have sc := sc_go ht hd1 h16 h1 (fun (x2 : Int32) (M : g_M) => some (x2, M)) (fun (x1 : Int32) (x2 : Int32) (M : g_M) => g_lp2 (F_X3_locksFor_2 (fun (x2 : Int32) (M : g_M) => some (x2, M)) (fun (M : g_M) => some (0, M))) f x1 (x2 + 1) M) (fN k) 20000000 (fS k) (by unfold fN; omega) (by unfold fN; omega)
      rw [e_ld (by omega) (by omega), Option.bind_some, h1.2.2 k (by omega), sc]
      have st : locF t (n + 1) k = if scB t (fN k) (fLf.drop (fS k)) = true then k else locF t n (k + 1) := rfl
      rw [st]
      by_cases c : scB t (fN k) (fLf.drop (fS k)) = true
      · rw [if_pos c, if_pos c]
        exact ⟨M1, d1, rfl, fr, h16, h1⟩
      · rw [if_neg c, if_neg c]
        obtain ⟨M', dn', m1, m2, m3, m4⟩ := lf_go ht n f (k + 1) d1 M1 (by omega) (by omega) (by omega) (by omega) h16 h1
        exact ⟨M', dn', by rw [nI_1]; exact m1, fr.trans m2, m3, m4⟩
    rw [lp2_s, F_X3_locksFor_2, if_neg (show ¬ (16 : Int32) < nI k from nI_nlt (a := 16) (by omega) (by omega)), h.1]
    by_cases c : k ≤ dn
    · rw [if_pos (nI_le c (by omega))]
      exact goon M dn g_fr.rfl c d16 h
    · have ek : k = dn + 1 := by omega
      obtain ⟨M1, a1, a2, a3⟩ := ha_eq (k := dn) (by omega) h
      rw [if_neg (nI_ge (by omega) (by omega)), ek, a1, Option.bind_some, ← ek]
      exact goon M1 (dn + 1) a2 (by omega) (by omega) a3
theorem lf_eq {t dn : Nat} (ht : t < 65536) (d16 : dn ≤ 16) (h : FX M dn) : ∃ (M' : g_M) (dn' : Nat), f_X3_locksFor (nI t) M = some (nI (locF t 16 1), M') ∧ FH M M' ∧ dn' ≤ 16 ∧ FX M' dn' := lf_go ht 16 20000000 1 dn M (by omega) (by omega) (by omega) (by omega) d16 h
end FEWD
