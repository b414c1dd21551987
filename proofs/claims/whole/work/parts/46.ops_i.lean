section OPSI
variable {t n l m h c1 c2 c3 : Nat} {M : g_M}
theorem cp1_go (K : Int32 → Int32 → Int32 → g_M → Option (Int32 × g_M)) {a p b q k : Nat} (ha : a < 4) (hp : p + k ≤ 40) : ∀ (r f i : Nat) (M : g_M), i + r = k → r < f → ∃ M' : g_M, g_lp6 (F_X12_copy_97 K) f (nI a) (nI p) (nI b) (nI q) (nI k) (nI i) M = K (nI b) (nI q) (nI k) M' ∧ g_fr [76] [] M M' ∧ (∀ j, j < i → M'.2 76 j = M.2 76 j) ∧ ∀ j, i ≤ j → j < k → M'.2 76 j = M.2 75 (40 * a + p + j)
  | 0, f, i, M, hi, hf => by
    obtain ⟨f, rfl⟩ : ∃ f', f = f' + 1 := ⟨f - 1, by omega⟩
    refine ⟨M, ?_, g_fr.rfl, fun j _ => rfl, fun j a b => absurd b (by omega)⟩
    rw [lp6_s, F_X12_copy_97, if_pos (nI_le (by omega) (by omega))]
  | r + 1, f, i, M, hi, hf => by
    obtain ⟨f, rfl⟩ : ∃ f', f = f' + 1 := ⟨f - 1, by omega⟩
    obtain ⟨M', m1, m2, m3, m4⟩ := cp1_go K (a := a) (b := b) (q := q) ha hp r f (i + 1) (g_ul M 76 i (M.2 75 (40 * a + p + i))) (by omega) (by omega)
    refine ⟨M', ?_, (g_fr.rfl.ulS (by decide)).trans m2, fun j hj => (m3 j (by omega)).trans (pk_uLn (by omega)), fun j c d => ?_⟩
    · rw [lp6_s, F_X12_copy_97, if_neg (nI_ge (by omega) (by omega)), show (40 : Int32) * nI a + nI p + nI i = nI (40 * a + p + i) by rw [show (40 : Int32) * nI a = nI (40 * a) from pk_mul 40 a, nI_add, nI_add], e_ldl (by omega) (by omega), Option.bind_some, e_stl (by omega) (by omega), Option.bind_some, nI_1, m1]
    · by_cases e : j = i
      · subst e
        exact (m3 j (by omega)).trans pk_uLs
      · exact m4 j (by omega) d
theorem cp2_go (K : Int32 → g_M → Option (Int32 × g_M)) {b q k : Nat} (hb : b < 4) (hq : q + k ≤ 40) : ∀ (r f i : Nat) (M : g_M), i + r = k → r < f → ∃ M' : g_M, g_lp4 (F_X12_copy_134 K) f (nI b) (nI q) (nI k) (nI i) M = K (nI k) M' ∧ g_fr [75] [] M M' ∧ ∀ j, M'.2 75 j = if 40 * b + q + i ≤ j ∧ j < 40 * b + q + k then M.2 76 (j - (40 * b + q)) else M.2 75 j
  | 0, f, i, M, hi, hf => by
    obtain ⟨f, rfl⟩ : ∃ f', f = f' + 1 := ⟨f - 1, by omega⟩
    refine ⟨M, ?_, g_fr.rfl, fun j => by rw [if_neg (by omega)]⟩
    rw [lp4_s, F_X12_copy_134, if_pos (nI_le (by omega) (by omega))]
  | r + 1, f, i, M, hi, hf => by
    obtain ⟨f, rfl⟩ : ∃ f', f = f' + 1 := ⟨f - 1, by omega⟩
    obtain ⟨M', m1, m2, m3⟩ := cp2_go K hb hq r f (i + 1) (g_ul M 75 (40 * b + q + i) (M.2 76 i)) (by omega) (by omega)
    refine ⟨M', ?_, (g_fr.rfl.ulS (by decide)).trans m2, fun j => ?_⟩
    · rw [lp4_s, F_X12_copy_134, if_neg (nI_ge (by omega) (by omega)), e_ldl (by omega) (by omega), Option.bind_some, show (40 : Int32) * nI b + nI q + nI i = nI (40 * b + q + i) by rw [show (40 : Int32) * nI b = nI (40 * b) from pk_mul 40 b, nI_add, nI_add], e_stl (by omega) (by omega), Option.bind_some, nI_1, m1]
    · rw [m3 j, show (g_ul M 75 (40 * b + q + i) (M.2 76 i)).2 76 = M.2 76 from rfl, show (g_ul M 75 (40 * b + q + i) (M.2 76 i)).2 75 = vp_updL (M.2 75) (40 * b + q + i) (M.2 76 i) from rfl]
      by_cases c : j = 40 * b + q + i
      · subst c
        rw [if_neg (by omega), if_pos (by omega), pk_uLs, show 40 * b + q + i - (40 * b + q) = i by omega]
      · rw [pk_uLn c]
        by_cases d : 40 * b + q + (i + 1) ≤ j ∧ j < 40 * b + q + k
        · rw [if_pos d, if_pos (by omega)]
        · rw [if_neg d, if_neg (by omega)]
def hs (z x y : Int32) : Int32 := if x < 0 then 0 else if y < 0 then 0 else if z < y then 0 else if z - y < x then 0 else 1
theorem hs_neg {z k p : Nat} (hz : z ≤ 40) (hk : k < 2 ^ 31) (hp : p < 2 ^ 31) (c : z < k) : nI z - nI k < nI p := by
  rw [i_lt, Int32.toInt_sub, nI_toInt (by omega), nI_toInt hk, nI_toInt hp, Int.bmod_eq_of_le (by omega) (by omega)]
  omega
theorem hs_c {o z : Nat} {x y : Int32} (e : M.1 (51 + o) 1 = nI z) (hz : z ≤ 40) : f_X7_hasFrom o x y M = some (hs (nI z) x y) := by
  unfold f_X7_hasFrom hs
  rw [e]
  by_cases a : x < 0
  · rw [if_pos a, if_pos a]
  rw [if_neg a, if_neg a]
  by_cases b : y < 0
  · rw [if_pos b, if_pos b]
  rw [if_neg b, if_neg b]
  by_cases c : nI z < y
  · obtain ⟨p, hp, rfl⟩ := nI_of a
    obtain ⟨k, hk, rfl⟩ := nI_of b
    rw [if_pos c, if_pos (hs_neg hz hk hp ((nI_ltI (by omega) hk).mp c))]
  rw [if_neg c]
  split <;> rfl
theorem hs_m {o : Nat} (ho : o < 4) {x y : Int32} : f_X12_has (nI o) x y M = some (hs (M.1 74 o) x y) := by
  unfold f_X12_has hs
  by_cases a : x < 0
  · rw [if_pos a, if_pos a]
  rw [if_neg a, if_neg a]
  by_cases b : y < 0
  · rw [if_pos b, if_pos b]
  rw [if_neg b, if_neg b, e_ld ho (by omega), Option.bind_some]
  by_cases c : M.1 74 o < y
  · rw [if_pos c, if_pos c]
  rw [if_neg c, if_neg c, Option.bind_some]
  split <;> rfl
theorem hs_01 (z x y : Int32) : hs z x y = 0 ∨ hs z x y = 1 := by
  unfold hs
  split
  · exact Or.inl rfl
  split
  · exact Or.inl rfl
  split
  · exact Or.inl rfl
  split
  · exact Or.inl rfl
  · exact Or.inr rfl
theorem hs_1 {z : Nat} {x y : Int32} (hz : z ≤ 40) (e : hs (nI z) x y = 1) : ∃ p k, x = nI p ∧ y = nI k ∧ p + k ≤ z := by
  unfold hs at e
  by_cases a : x < 0
  · rw [if_pos a] at e
    exact absurd e (by decide)
  by_cases b : y < 0
  · rw [if_neg a, if_pos b] at e
    exact absurd e (by decide)
  obtain ⟨p, hp, rfl⟩ := nI_of a
  obtain ⟨k, hk, rfl⟩ := nI_of b
  rw [if_neg a, if_neg b] at e
  by_cases c : nI z < nI k
  · rw [if_pos c] at e
    exact absurd e (by decide)
  rw [if_neg c] at e
  have c2 : k ≤ z := by
    have := mt (nI_ltI (by omega) hk).mpr c
    omega
  rw [pk_sub c2] at e
  by_cases d : nI (z - k) < nI p
  · rw [if_pos d] at e
    exact absurd e (by decide)
  have := mt (nI_ltI (by omega) hp).mpr d
  exact ⟨p, k, rfl, rfl, by omega⟩
theorem mis_c {o : Nat} {b : Int32} (e : M.1 (51 + o) 0 = b) : f_X7_isMissing o M = some (if b = 0 then 1 else 0) := by
  unfold f_X7_isMissing
  rw [e]
  split <;> rfl
theorem copy_core (H : Rel0 t n l m h c1 c2 c3 M) {a b p q k : Nat} (ha : a < 4) (hb : b < 4) (hp : p + k ≤ 40) (hq : q + k ≤ 40) {M2 M3 : g_M} (f2 : g_fr [76] [] (g_uRl M (55 + b) (va_cpy (M.2 (55 + a)) (M.2 (55 + b)) p q k)) M2) (v2 : ∀ j, j < k → M2.2 76 j = M.2 75 (40 * a + p + j)) (f3 : g_fr [75] [] M2 M3) (v3 : ∀ j, M3.2 75 j = if 40 * b + q ≤ j ∧ j < 40 * b + q + k then M2.2 76 (j - (40 * b + q)) else M2.2 75 j) : Rel0 (t + 1) n l m h c1 c2 c3 M3 := by
  have f1 : g_fr [55, 56, 57, 58, 73, 74, 75, 76] [(51, 0), (51, 1), (52, 0), (52, 1), (53, 0), (53, 1), (54, 0), (54, 1)] M (g_uRl M (55 + b) (va_cpy (M.2 (55 + a)) (M.2 (55 + b)) p q k)) := fun c i hc hi => ⟨rfl, by
    show va_up M.2 (55 + b) _ c i = _
    rw [va_up_ne _ _ (by rintro rfl; exact hc (mem55 b hb))]⟩
  refine sheet_core H ((f1.trans (f2.mono (by decide) (by decide))).trans (f3.mono (by decide) (by decide))) (fun s hs => ?_)
  obtain ⟨z, z1, z2, z3, z4, z5, z6, z7⟩ := H.2.2.2.2.2.2.2.1 s hs
  obtain ⟨y, y1, y2, y3, y4, y5, y6, y7⟩ := H.2.2.2.2.2.2.2.1 a ha
  have r1 : ∀ c, c ≠ 75 → c ≠ 76 → M3.1 c = M.1 c := fun c x1 x2 => (f3.row (by simp; omega) (by simp)).1.trans (f2.row (k := c) (by simp; omega) (by simp)).1
  have r2 : M3.2 (55 + s) = va_up M.2 (55 + b) (va_cpy (M.2 (55 + a)) (M.2 (55 + b)) p q k) (55 + s) := (f3.row (k := 55 + s) (by simp; omega) (by simp)).2.trans (f2.row (k := 55 + s) (by simp; omega) (by simp)).2
  have r3 : M2.2 75 = M.2 75 := (f2.row (k := 75) (by simp) (by simp)).2.trans (va_up_ne _ _ (by omega))
  rw [r1 (51 + s) (by omega) (by omega), r1 73 (by omega) (by omega), r1 74 (by omega) (by omega), r2]
  refine ⟨z, z1, z2, z3, z4, z5, z6, fun j hj => ?_⟩
  rw [v3, r3]
  by_cases c : s = b
  · subst c
    rw [va_up_self]
    by_cases d : q ≤ j ∧ j < q + k
    · rw [if_pos (by omega), pk_cpy_in d.1 d.2, v2 _ (by omega), y7 _ (by omega), show 40 * a + (p + (j - q)) = 40 * a + p + (40 * s + j - (40 * s + q)) by omega]
    · rw [if_neg (by omega), pk_cpy_out (by omega)]
      exact z7 j hj
  · rw [va_up_ne _ _ (by omega), if_neg (by omega)]
    exact z7 j hj
theorem op_copy (H : Rel0 t n l m h c1 c2 c3 M) (x1 x2 x3 x4 x5 : Int32) : Op (f_X11_copy x1 x2 x3 x4 x5) (f_X12_copy x1 x2 x3 x4 x5) t M := by
  rcases ix x1 (n := 4) (by omega) with ho | ⟨a, ha, rfl⟩
  · refine Op.t0 H ?_ ?_
    · unfold f_X11_copy
      rw [is_out ho, Option.bind_some, if_pos rfl]
      rfl
    · unfold f_X12_copy
      rw [ms_out ho, Option.bind_some, if_pos rfl]
      rfl
  rcases ix x3 (n := 4) (by omega) with ho | ⟨b, hb, rfl⟩
  · refine Op.t0 H ?_ ?_
    · unfold f_X11_copy
      rw [is_in ha, Option.bind_some, if_neg (by decide), is_out ho, Option.bind_some, if_pos rfl]
      rfl
    · unfold f_X12_copy
      rw [ms_in ha, Option.bind_some, if_neg (by decide), ms_out ho, Option.bind_some, if_pos rfl]
      rfl
  obtain ⟨z, z1, z2, z3, z4, z5, z6, z7⟩ := H.2.2.2.2.2.2.2.1 b hb
  obtain ⟨y, y1, y2, y3, y4, y5, y6, y7⟩ := H.2.2.2.2.2.2.2.1 a ha
  have cls : f_X11_copy (nI a) x2 (nI b) x4 x5 M = (if M.1 73 a = 0 then f_X11_copy_48 M else if M.1 73 b = 0 then f_X11_copy_48 M else if M.1 73 a = M.1 73 b then (if hs (nI y) x2 x5 = 0 then f_X11_copy_121 M else if hs (nI z) x4 x5 = 0 then f_X11_copy_121 M else ((g_cpl M (55 + a) 40 (55 + b) 40 x2 x4 x5).bind fun M18 => some (x5, M18))) else ((f_X2_tell (-1000000003) M).bind fun p19 => some (p19.1, p19.2))) := by
    unfold f_X11_copy
    rw [is_in ha, Option.bind_some, if_neg (by decide), is_in hb, Option.bind_some, if_neg (by decide), e_in ha (by omega), Option.bind_some, mis_c y4, Option.bind_some]
    by_cases d : M.1 73 a = 0
    · rw [if_pos d, if_pos d, if_neg (by decide)]
    rw [if_neg d, if_neg d, if_pos rfl, e_in hb (by omega), Option.bind_some, mis_c z4, Option.bind_some]
    by_cases e : M.1 73 b = 0
    · rw [if_pos e, if_pos e, if_neg (by decide)]
    rw [if_neg e, if_neg e, if_pos rfl, Option.bind_some, Option.bind_some, y4, z4]
    by_cases g : M.1 73 a = M.1 73 b
    · rw [if_pos g, if_pos g, Option.bind_some, hs_c y2 y1, Option.bind_some]
      by_cases i : hs (nI y) x2 x5 = 0
      · rw [if_pos i, if_pos i]
      · rw [if_neg i, if_neg i, Option.bind_some, hs_c z2 z1, Option.bind_some]
        by_cases j : hs (nI z) x4 x5 = 0
        · rw [if_pos j, if_pos j]
        · rw [if_neg j, if_neg j, Option.bind_some, Option.bind_some]
    · rw [if_neg g, if_neg g]
  have mod : ∀ M' : g_M, M'.1 73 = M.1 73 → M'.1 74 = M.1 74 → f_X12_copy (nI a) x2 (nI b) x4 x5 M' = (if M.1 73 a = 0 then f_X12_copy_38 M' else if M.1 73 b = 0 then f_X12_copy_38 M' else if M.1 73 a = M.1 73 b then (if hs (nI y) x2 x5 = 0 then f_X12_copy_88 M' else if hs (nI z) x4 x5 = 0 then f_X12_copy_88 M' else (g_lp6 (F_X12_copy_97 (fun (x3 : Int32) (x4 : Int32) (x5 : Int32) (M : g_M) => g_lp4 (F_X12_copy_134 (fun (x5 : Int32) (M : g_M) => some (x5, M))) 20000000 x3 x4 x5 0 M)) 20000000 (nI a) x2 (nI b) x4 x5 0 M')) else ((f_X12_finding 2 M').bind fun p16 => some (p16.1, p16.2))) := by
    intro M' k1 k2
    unfold f_X12_copy
    rw [ms_in ha, Option.bind_some, if_neg (by decide), ms_in hb, Option.bind_some, if_neg (by decide), e_ld ha (by omega), Option.bind_some, e_ld hb (by omega), Option.bind_some, Option.bind_some, Option.bind_some, hs_m ha, Option.bind_some, hs_m hb, Option.bind_some, k1, k2, y3, z3]
  by_cases d : M.1 73 a = 0
  · refine Op.t5 H ?_ ?_
    · rw [cls, if_pos d]
      rfl
    · rw [mod (tellM 5 M) rfl rfl, if_pos d]
      rfl
  by_cases e : M.1 73 b = 0
  · refine Op.t5 H ?_ ?_
    · rw [cls, if_neg d, if_pos e]
      rfl
    · rw [mod (tellM 5 M) rfl rfl, if_neg d, if_pos e]
      rfl
  by_cases g : M.1 73 a = M.1 73 b
  · by_cases i : hs (nI y) x2 x5 = 0
    · refine Op.t0 H ?_ ?_
      · rw [cls, if_neg d, if_neg e, if_pos g, if_pos i]
        rfl
      · rw [mod (tellM 0 M) rfl rfl, if_neg d, if_neg e, if_pos g, if_pos i]
        rfl
    by_cases j : hs (nI z) x4 x5 = 0
    · refine Op.t0 H ?_ ?_
      · rw [cls, if_neg d, if_neg e, if_pos g, if_neg i, if_pos j]
        rfl
      · rw [mod (tellM 0 M) rfl rfl, if_neg d, if_neg e, if_pos g, if_neg i, if_pos j]
        rfl
    obtain ⟨p, k, rfl, rfl, pk⟩ := hs_1 y1 ((hs_01 _ _ _).resolve_left i)
    obtain ⟨q, k', rfl, ek, qk⟩ := hs_1 z1 ((hs_01 _ _ _).resolve_left j)
    have hkk : k = k' := by
      by_cases hlt : k' < 2 ^ 31
      · exact (nI_eq (by omega) hlt).mp ek
      · omega
    subst hkk
    have cp : g_cpl M (55 + a) 40 (55 + b) 40 (nI p) (nI q) (nI k) = some (g_uRl M (55 + b) (va_cpy (M.2 (55 + a)) (M.2 (55 + b)) p q k)) := by
      unfold g_cpl
      rw [nI_clamp (by omega), nI_clamp (by omega), nI_clamp (by omega), if_neg]
      rintro (u | u | u | u | u)
      · exact nI_pos (by omega) u
      · exact nI_pos (by omega) u
      · exact nI_pos (by omega) u
      · omega
      · omega
    obtain ⟨M2, s1, s2, s3, s4⟩ := cp1_go (fun (x3 : Int32) (x4 : Int32) (x5 : Int32) (M : g_M) => g_lp4 (F_X12_copy_134 (fun (x5 : Int32) (M : g_M) => some (x5, M))) 20000000 x3 x4 x5 0 M) (a := a) (p := p) (b := b) (q := q) (k := k) ha (by omega) k 20000000 0 (g_uRl M (55 + b) (va_cpy (M.2 (55 + a)) (M.2 (55 + b)) p q k)) (by omega) (by omega)
    obtain ⟨M3, u1, u2, u3⟩ := cp2_go (fun (x5 : Int32) (M : g_M) => some (x5, M)) (b := b) (q := q) (k := k) hb (by omega) k 20000000 0 M2 (by omega) (by omega)
    refine ⟨(nI k, g_uRl M (55 + b) (va_cpy (M.2 (55 + a)) (M.2 (55 + b)) p q k)), (nI k, M3), ?_, ?_, rfl, n, l, m, h, c1, c2, c3, copy_core H (a := a) (b := b) (p := p) (q := q) (k := k) ha hb (by omega) (by omega) s2 (fun j hj => (s4 j (by omega) hj).trans ?_) u2 u3⟩
    · rw [cls, if_neg d, if_neg e, if_pos g, if_neg i, if_neg j, cp, Option.bind_some]
    · dsimp only
      rw [mod (g_uRl M (55 + b) (va_cpy (M.2 (55 + a)) (M.2 (55 + b)) p q k)) rfl rfl, if_neg d, if_neg e, if_pos g, if_neg i, if_neg j]
      exact s1.trans u1
    · show va_up M.2 (55 + b) _ 75 _ = _
      rw [va_up_ne _ _ (by omega)]
  · refine Op.t2 H ?_ ?_
    · rw [cls, if_neg d, if_neg e, if_neg g]
    · rw [mod (tellM 2 M) rfl rfl, if_neg d, if_neg e, if_neg g]
end OPSI
