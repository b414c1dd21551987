section NEEDM
variable {t n l m h c1 c2 c3 : Nat} {M : g_M} {d : Nat → Int32}
/-- a search, one place after another, till something is found -/
theorem sl_go {X : Type} (G : Nat → Int32 → Nat → g_M → Option X) (K : Int32 → g_M → Option X) (P : Nat → Bool) (inn : Nat → List Nat) (N : Nat) (hb : ∀ j, j < N → ∀ y, y ∈ inn j → y ≠ 0 ∧ y < 2 ^ 31) (e1 : ∀ f M, G (f + 1) 0 N M = K 0 M) (e2 : ∀ f best j M, best ≠ 0 → best < 2 ^ 31 → G (f + 1) (nI best) j M = K (nI best) M) (e3 : ∀ f j M, j < N → M.1 60 = d → ∃ M' : g_M, g_fr [68, 69] [] M M' ∧ G (f + 1) 0 j M = G f (nI (sr P (inn j))) (j + 1) M') : ∀ (k f j : Nat) (M : g_M), j + k = N → k + 1 < f → M.1 60 = d → ∃ M' : g_M, g_fr [68, 69] [] M M' ∧ G f 0 j M = K (nI (sr P ((List.range' j k).flatMap inn))) M'
  | 0, f, j, M, hj, hf, ed => by
    obtain ⟨f, rfl⟩ : ∃ f', f = f' + 1 := ⟨f - 1, by omega⟩
    have : j = N := by omega
    subst this
    exact ⟨M, g_fr.rfl, e1 f M⟩
  | k + 1, f, j, M, hj, hf, ed => by
    obtain ⟨f, rfl⟩ : ∃ f', f = f' + 1 := ⟨f - 1, by omega⟩
    obtain ⟨M1, a1, a2⟩ := e3 f j M (by omega) ed
    have ed1 : M1.1 60 = d := (a1.row (by decide) (by simp)).1.trans ed
    rw [List.range'_succ, List.flatMap_cons, sr_app (fun y hy => (hb j (by omega) y hy).1), a2]
    by_cases c : sr P (inn j) = 0
    · rw [if_pos c, c]
      obtain ⟨M', m1, m2⟩ := sl_go G K P inn N hb e1 e2 e3 k f (j + 1) M1 (by omega) (by omega) ed1
      exact ⟨M', a1.trans m1, m2⟩
    · rw [if_neg c]
      obtain ⟨f, rfl⟩ : ∃ f', f = f' + 1 := ⟨f - 1, by omega⟩
      exact ⟨M1, a1, e2 f _ (j + 1) M1 c (hb j (by omega) _ (sr_mem c).1).2⟩
theorem fm_map (g : Nat → Nat) : ∀ l : List Nat, l.flatMap (fun b => [g b]) = l.map g
  | [] => rfl
  | x :: l => by
    rw [List.flatMap_cons, fm_map g l]
    rfl
/-- does a hanging open with these keys besides -/
def nP (d : Nat → Int32) (h i : Nat) (K : Int32) (y : Nat) : Bool := s_opens d h (K ||| nI y) i
theorem sr_1 {P : Nat → Bool} {y : Nat} : sr P [y] = if P y = true then y else 0 := rfl
theorem o167 (hh : h ≤ 40) (e3 : d 3 = nI h) (w : ∀ i, i < h → W_H d i) {i : Nat} (hi : i < h) (ed : M.1 60 = d) (k : Int32 → Int32 → Int32 → Int32 → Int32 → Int32 → Int32 → g_M → Option (Int32 × g_M)) {K x4 x6 x7 x8 s0 s1 : Int32} {y : Nat} (hy : s1 ||| s0 = nI y) : ∃ M' : g_M, g_fr [68, 69] [] M M' ∧ f_X12_need__167 k (nI i) K x4 x6 x7 x8 s0 s1 M = k (nI i) K x4 (nI (sr (nP d h i K) [y])) x6 x7 (x8 + 1) M' := by
  obtain ⟨M2, a1, a2⟩ := ob_eq hh e3 w (K ||| nI y) (M := M) ed hi
  refine ⟨M2, a2, ?_⟩
  unfold f_X12_need__167
  rw [hy, a1, Option.bind_some, sr_1]
  unfold nP
  dsimp only
  cases s_opens d h (K ||| nI y) i
  · rw [if_pos ((bi_0 false).mpr rfl), if_neg (by decide)]
    rfl
  · rw [if_neg (fun q => absurd ((bi_0 true).mp q) (by decide)), if_pos rfl]
theorem p24 {a : Nat} (ha : a < 24) : 2 ^ a < 2 ^ 24 := Nat.pow_lt_pow_right (by omega) ha
theorem bd2 {a b : Nat} (ha : a < 24) (hb : b < 24) : 2 ^ a ||| 2 ^ b < 2 ^ 24 := Nat.or_lt_two_pow (p24 ha) (p24 hb)
theorem bd3 {a b c : Nat} (ha : a < 24) (hb : b < 24) (hc : c < 24) : (2 ^ a ||| 2 ^ b) ||| 2 ^ c < 2 ^ 24 := Nat.or_lt_two_pow (bd2 ha hb) (p24 hc)
theorem nz2 {a b : Nat} : 2 ^ a ||| 2 ^ b ≠ 0 := or_nz (Nat.ne_of_gt (Nat.two_pow_pos a))
theorem nz3 {a b c : Nat} : (2 ^ a ||| 2 ^ b) ||| 2 ^ c ≠ 0 := or_nz nz2
section LOOPS
variable (hh : h ≤ 40) (e3 : d 3 = nI h) (w : ∀ i, i < h → W_H d i) {i : Nat} (hi : i < h) (K : Int32)
/-- the innermost loop, with at most two keys: one turn -/
theorem c12 (hh : h ≤ 40) (e3 : d 3 = nI h) (w : ∀ i, i < h → W_H d i) {i : Nat} (hi : i < h) (K : Int32) (K196 : Int32 → Int32 → Int32 → Int32 → Int32 → Int32 → g_M → Option (Int32 × g_M)) {x4 x6 x7 : Int32} (h4 : x4 ≤ 2) {y : Nat} (hy : (((1 : Int32) <<< (x6 &&& 31)) ||| (if 0 ≤ x7 then (1 : Int32) <<< (x7 &&& 31) else 0)) ||| 0 = nI y) {M : g_M} (ed : M.1 60 = d) : ∃ M' : g_M, g_fr [68, 69] [] M M' ∧ g_lp7 (F_X12_need__114 K196) 20000000 (nI i) K x4 0 x6 x7 (-1) M = K196 (nI i) K x4 (nI (sr (nP d h i K) [y])) x6 x7 M' := by
  obtain ⟨M', m1, m2⟩ := o167 hh e3 w hi ed (g_lp7 (F_X12_need__114 K196) 19999999) (K := K) (x4 := x4) (x6 := x6) (x7 := x7) (x8 := -1) hy
  refine ⟨M', m1, ?_⟩
  show g_lp7 (F_X12_need__114 K196) (19999999 + 1) (nI i) K x4 0 x6 x7 (-1) M = _
  rw [lp7_s, F_X12_need__114, if_pos h4]
  unfold f_X12_need__128 f_X12_need__153
  rw [if_neg (show ¬ (0 : Int32) ≤ -1 by decide), if_pos rfl, if_neg (show ¬ (0 : Int32) ≤ -1 by decide), if_neg (show ¬ (0 : Int32) ≤ -1 by decide)]
  have last : g_lp7 (F_X12_need__114 K196) 19999999 (nI i) K x4 (nI (sr (nP d h i K) [y])) x6 x7 (-1 + 1) M' = K196 (nI i) K x4 (nI (sr (nP d h i K) [y])) x6 x7 M' := by
    show g_lp7 (F_X12_need__114 K196) (19999998 + 1) (nI i) K x4 (nI (sr (nP d h i K) [y])) x6 x7 0 M' = _
    rw [lp7_s, F_X12_need__114, if_pos h4]
    unfold f_X12_need__128
    rw [if_pos (show (0 : Int32) ≤ 0 by decide)]
  rw [← last, ← m2]
  split <;> rfl
theorem c3_all (hh : h ≤ 40) (e3 : d 3 = nI h) (w : ∀ i, i < h → W_H d i) {i : Nat} (hi : i < h) (K : Int32) (K196 : Int32 → Int32 → Int32 → Int32 → Int32 → Int32 → g_M → Option (Int32 × g_M)) {a b : Nat} (ha : a < 24) (hb : b < a) {M : g_M} (ed : M.1 60 = d) : ∃ M' : g_M, g_fr [68, 69] [] M M' ∧ g_lp7 (F_X12_need__114 K196) 20000000 (nI i) K 3 0 (nI a) (nI b) 0 M = K196 (nI i) K 3 (nI (sr (nP d h i K) ((List.range b).map (fun c => (2 ^ a ||| 2 ^ b) ||| 2 ^ c)))) (nI a) (nI b) M' := by
  have := sl_go (d := d) (fun f best c M => g_lp7 (F_X12_need__114 K196) f (nI i) K 3 best (nI a) (nI b) (nI c) M) (fun best M => K196 (nI i) K 3 best (nI a) (nI b) M) (nP d h i K) (fun c => [(2 ^ a ||| 2 ^ b) ||| 2 ^ c]) b (fun c hc y hy => by
      rw [List.mem_singleton.mp hy]
      have := bd3 ha (show b < 24 by omega) (show c < 24 by omega)
      exact ⟨nz3, by omega⟩) (fun f M => by
      rw [lp7_s, F_X12_need__114, if_neg (by decide)]
      unfold f_X12_need__128
      rw [if_pos (nI_le (Nat.le_refl _) (by omega))]) (fun f best j M h0 h31 => by
      rw [lp7_s, F_X12_need__114, if_neg (by decide)]
      unfold f_X12_need__128
      split
      · rfl
      · rw [if_neg (nI_ne0 (by omega) h31)]) (fun f c M hc ed => by
      have hy : (((1 : Int32) <<< (nI a &&& 31)) ||| ((1 : Int32) <<< (nI b &&& 31))) ||| ((1 : Int32) <<< (nI c &&& 31)) = nI ((2 ^ a ||| 2 ^ b) ||| 2 ^ c) := by
        rw [pw_shl a (by omega), pw_shl b (by omega), pw_shl c (by omega), nx_or, nx_or]
      obtain ⟨M', m1, m2⟩ := o167 hh e3 w hi ed (g_lp7 (F_X12_need__114 K196) f) (K := K) (x4 := 3) (x6 := nI a) (x7 := nI b) (x8 := nI c) hy
      refine ⟨M', m1, ?_⟩
      rw [lp7_s, F_X12_need__114, if_neg (by decide)]
      unfold f_X12_need__128 f_X12_need__153
      rw [if_neg (nI_ge hc (by omega)), if_pos rfl, if_pos (nI_pos' (by omega)), if_pos (nI_pos' (by omega)), m2, nI_1]) b 20000000 0 M (by omega) (by omega) ed
  rw [fm_map, ← List.range_eq_range'] at this
  exact this
theorem b1_all (hh : h ≤ 40) (e3 : d 3 = nI h) (w : ∀ i, i < h → W_H d i) {i : Nat} (hi : i < h) (K : Int32) (K202 : Int32 → Int32 → Int32 → Int32 → Int32 → g_M → Option (Int32 × g_M)) {a : Nat} (ha : a < 24) {M : g_M} (ed : M.1 60 = d) : ∃ M' : g_M, g_fr [68, 69] [] M M' ∧ g_lp6 (F_X12_need__79 K202) 20000000 (nI i) K 1 0 (nI a) (-1) M = K202 (nI i) K 1 (nI (sr (nP d h i K) (in1 a))) (nI a) M' := by
  obtain ⟨M', m1, m2⟩ := c12 hh e3 w hi K (fun (x1 : Int32) (x3 : Int32) (x4 : Int32) (x5 : Int32) (x6 : Int32) (x7 : Int32) (M : g_M) => g_lp6 (F_X12_need__79 K202) 19999999 x1 x3 x4 x5 x6 (x7 + 1) M) (x4 := 1) (x6 := nI a) (x7 := -1) (by decide) (y := 2 ^ a) (by
    rw [if_neg (show ¬ (0 : Int32) ≤ -1 by decide), Int32.or_zero, Int32.or_zero, pw_shl a (by omega)]) ed
  refine ⟨M', m1, ?_⟩
  show g_lp6 (F_X12_need__79 K202) (19999999 + 1) (nI i) K 1 0 (nI a) (-1) M = _
  rw [lp6_s, F_X12_need__79, if_pos (by decide)]
  unfold f_X12_need__93
  rw [if_neg (show ¬ (0 : Int32) ≤ -1 by decide), if_pos rfl, if_pos (show (1 : Int32) ≤ 2 by decide)]
  refine Eq.trans m2 ?_
  show g_lp6 (F_X12_need__79 K202) (19999998 + 1) (nI i) K 1 (nI (sr (nP d h i K) [2 ^ a])) (nI a) 0 M' = _
  rw [lp6_s, F_X12_need__79, if_pos (by decide)]
  unfold f_X12_need__93
  rw [if_pos (show (0 : Int32) ≤ 0 by decide)]
  rfl
theorem b23 (hh : h ≤ 40) (e3 : d 3 = nI h) (w : ∀ i, i < h → W_H d i) {i : Nat} (hi : i < h) (K : Int32) (K202 : Int32 → Int32 → Int32 → Int32 → Int32 → g_M → Option (Int32 × g_M)) {x4 x8 : Int32} (h1 : ¬ x4 ≤ 1) (h8 : x8 = if x4 ≤ 2 then -1 else 0) {a : Nat} (ha : a < 24) (inn : Nat → List Nat) (hb : ∀ j, j < a → ∀ y, y ∈ inn j → y ≠ 0 ∧ y < 2 ^ 31) (hin : ∀ (K196 : Int32 → Int32 → Int32 → Int32 → Int32 → Int32 → g_M → Option (Int32 × g_M)) (b : Nat) (M : g_M), b < a → M.1 60 = d → ∃ M' : g_M, g_fr [68, 69] [] M M' ∧ g_lp7 (F_X12_need__114 K196) 20000000 (nI i) K x4 0 (nI a) (nI b) x8 M = K196 (nI i) K x4 (nI (sr (nP d h i K) (inn b))) (nI a) (nI b) M') {M : g_M} (ed : M.1 60 = d) : ∃ M' : g_M, g_fr [68, 69] [] M M' ∧ g_lp6 (F_X12_need__79 K202) 20000000 (nI i) K x4 0 (nI a) 0 M = K202 (nI i) K x4 (nI (sr (nP d h i K) ((List.range a).flatMap inn))) (nI a) M' := by
  have := sl_go (d := d) (fun f best b M => g_lp6 (F_X12_need__79 K202) f (nI i) K x4 best (nI a) (nI b) M) (fun best M => K202 (nI i) K x4 best (nI a) M) (nP d h i K) inn a hb (fun f M => by
      rw [lp6_s, F_X12_need__79, if_neg h1]
      unfold f_X12_need__93
      rw [if_pos (nI_le (Nat.le_refl _) (by omega))]) (fun f best j M h0 h31 => by
      rw [lp6_s, F_X12_need__79, if_neg h1]
      unfold f_X12_need__93
      split
      · rfl
      · rw [if_neg (nI_ne0 (by omega) h31)]) (fun f b M hb2 ed => by
      obtain ⟨M', m1, m2⟩ := hin (fun (x1 : Int32) (x3 : Int32) (x4 : Int32) (x5 : Int32) (x6 : Int32) (x7 : Int32) (M : g_M) => g_lp6 (F_X12_need__79 K202) f x1 x3 x4 x5 x6 (x7 + 1) M) b M hb2 ed
      refine ⟨M', m1, ?_⟩
      rw [lp6_s, F_X12_need__79, if_neg h1]
      unfold f_X12_need__93
      rw [if_neg (nI_ge hb2 (by omega)), if_pos rfl, ← nI_1]
      by_cases c : x4 ≤ 2
      · rw [if_pos c] at h8 ⊢
        rw [h8] at m2
        exact m2
      · rw [if_neg c] at h8 ⊢
        rw [h8] at m2
        exact m2) a 20000000 0 M (by omega) (by omega) ed
  rw [← List.range_eq_range'] at this
  exact this
theorem b2_all (hh : h ≤ 40) (e3 : d 3 = nI h) (w : ∀ i, i < h → W_H d i) {i : Nat} (hi : i < h) (K : Int32) (K202 : Int32 → Int32 → Int32 → Int32 → Int32 → g_M → Option (Int32 × g_M)) {a : Nat} (ha : a < 24) {M : g_M} (ed : M.1 60 = d) : ∃ M' : g_M, g_fr [68, 69] [] M M' ∧ g_lp6 (F_X12_need__79 K202) 20000000 (nI i) K 2 0 (nI a) 0 M = K202 (nI i) K 2 (nI (sr (nP d h i K) (in2 a))) (nI a) M' := by
  have := b23 hh e3 w hi K K202 (x4 := 2) (x8 := -1) (by decide) (by decide) ha (fun b => [2 ^ a ||| 2 ^ b]) (fun b hb y hy => by
    rw [List.mem_singleton.mp hy]
    have := bd2 ha (show b < 24 by omega)
    exact ⟨nz2, by omega⟩) (fun K196 b M hb ed => c12 hh e3 w hi K K196 (by decide) (by
      rw [if_pos (nI_pos' (by omega)), Int32.or_zero, pw_shl a (by omega), pw_shl b (by omega), nx_or]) ed) ed
  rw [fm_map] at this
  exact this
theorem b3_all (hh : h ≤ 40) (e3 : d 3 = nI h) (w : ∀ i, i < h → W_H d i) {i : Nat} (hi : i < h) (K : Int32) (K202 : Int32 → Int32 → Int32 → Int32 → Int32 → g_M → Option (Int32 × g_M)) {a : Nat} (ha : a < 24) {M : g_M} (ed : M.1 60 = d) : ∃ M' : g_M, g_fr [68, 69] [] M M' ∧ g_lp6 (F_X12_need__79 K202) 20000000 (nI i) K 3 0 (nI a) 0 M = K202 (nI i) K 3 (nI (sr (nP d h i K) (in3 a))) (nI a) M' :=
  b23 hh e3 w hi K K202 (x4 := 3) (x8 := 0) (by decide) (by decide) ha (fun b => (List.range b).map (fun c => (2 ^ a ||| 2 ^ b) ||| 2 ^ c)) (fun b hb y hy => by
    obtain ⟨c, hc, rfl⟩ := List.mem_map.mp hy
    have hc2 := List.mem_range.mp hc
    have := bd3 ha (show b < 24 by omega) (show c < 24 by omega)
    exact ⟨nz3, by omega⟩) (fun K196 b M hb ed => c3_all hh e3 w hi K K196 ha hb ed) ed
theorem a_all {i : Nat} (K : Int32) (K208 : Int32 → Int32 → Int32 → Int32 → g_M → Option (Int32 × g_M)) {x4 x7 : Int32} (h7 : x7 = if x4 ≤ 1 then -1 else 0) (F : Nat → List Nat) (hb : ∀ j, j < 24 → ∀ y, y ∈ F j → y ≠ 0 ∧ y < 2 ^ 31) (hin : ∀ (K202 : Int32 → Int32 → Int32 → Int32 → Int32 → g_M → Option (Int32 × g_M)) (a : Nat) (M : g_M), a < 24 → M.1 60 = d → ∃ M' : g_M, g_fr [68, 69] [] M M' ∧ g_lp6 (F_X12_need__79 K202) 20000000 (nI i) K x4 0 (nI a) x7 M = K202 (nI i) K x4 (nI (sr (nP d h i K) (F a))) (nI a) M') {M : g_M} (ed : M.1 60 = d) : ∃ M' : g_M, g_fr [68, 69] [] M M' ∧ g_lp5 (F_X12_need__54 K208) 20000000 (nI i) K x4 0 0 M = K208 (nI i) K x4 (nI (sr (nP d h i K) (cb F))) M' := by
  have := sl_go (d := d) (fun f best a M => g_lp5 (F_X12_need__54 K208) f (nI i) K x4 best (nI a) M) (fun best M => K208 (nI i) K x4 best M) (nP d h i K) F 24 hb (fun f M => by
      rw [lp5_s, F_X12_need__54, if_pos (by decide)]) (fun f best j M h0 h31 => by
      rw [lp5_s, F_X12_need__54]
      split
      · rfl
      · rw [if_neg (nI_ne0 (by omega) h31)]) (fun f a M ha ed => by
      obtain ⟨M', m1, m2⟩ := hin (fun (x1 : Int32) (x3 : Int32) (x4 : Int32) (x5 : Int32) (x6 : Int32) (M : g_M) => g_lp5 (F_X12_need__54 K208) f x1 x3 x4 x5 (x6 + 1) M) a M ha ed
      refine ⟨M', m1, ?_⟩
      rw [lp5_s, F_X12_need__54, if_neg (show ¬ (24 : Int32) ≤ nI a from nI_ge (b := 24) ha (by omega)), if_pos rfl, ← nI_1]
      by_cases c : x4 ≤ 1
      · rw [if_pos c] at h7 ⊢
        rw [h7] at m2
        exact m2
      · rw [if_neg c] at h7 ⊢
        rw [h7] at m2
        exact m2) 24 20000000 0 M (by omega) (by omega) ed
  rw [← List.range_eq_range'] at this
  exact this
end LOOPS
theorem in1_b {a y : Nat} (ha : a < 24) (h : y ∈ in1 a) : y ≠ 0 ∧ y < 2 ^ 31 := by
  refine ⟨in1_z h, ?_⟩
  rw [show y = 2 ^ a from List.mem_singleton.mp h]
  have := p24 ha
  omega
theorem in2_b {a y : Nat} (ha : a < 24) (h : y ∈ in2 a) : y ≠ 0 ∧ y < 2 ^ 31 := by
  refine ⟨in2_z h, ?_⟩
  obtain ⟨b, hb, rfl⟩ := List.mem_map.mp h
  have := List.mem_range.mp hb
  have := bd2 ha (show b < 24 by omega)
  omega
theorem in3_b {a y : Nat} (ha : a < 24) (h : y ∈ in3 a) : y ≠ 0 ∧ y < 2 ^ 31 := by
  refine ⟨in3_z h, ?_⟩
  obtain ⟨b, hb, h⟩ := List.mem_flatMap.mp h
  obtain ⟨c, hc, rfl⟩ := List.mem_map.mp h
  have := List.mem_range.mp hb
  have := List.mem_range.mp hc
  have := bd3 ha (show b < 24 by omega) (show c < 24 by omega)
  omega
end NEEDM
