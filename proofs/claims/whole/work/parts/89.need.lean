section NEED
variable {t n l m h c1 c2 c3 : Nat} {M : g_M} {d : Nat → Int32}
/-- the first number of a list with a property, else 0 -/
def sr (P : Nat → Bool) : List Nat → Nat
  | [] => 0
  | y :: l => if P y = true then y else sr P l
theorem sr_t {P : Nat → Bool} {y : Nat} {l : List Nat} (h : P y = true) : sr P (y :: l) = y := if_pos h
theorem sr_f {P : Nat → Bool} {y : Nat} {l : List Nat} (h : P y = false) : sr P (y :: l) = sr P l := if_neg (by rw [h]; decide)
theorem sr_cong {P Q : Nat → Bool} : ∀ {l : List Nat}, (∀ y, y ∈ l → P y = Q y) → sr P l = sr Q l
  | [], _ => rfl
  | y :: l, h => by
    unfold sr
    rw [h y List.mem_cons_self, sr_cong (fun z hz => h z (List.mem_cons_of_mem _ hz))]
theorem sr_app {P : Nat → Bool} {l2 : List Nat} : ∀ {l1 : List Nat}, (∀ y, y ∈ l1 → y ≠ 0) → sr P (l1 ++ l2) = if sr P l1 = 0 then sr P l2 else sr P l1
  | [], _ => rfl
  | y :: l, h => by
    cases c : P y
    · rw [List.cons_append, sr_f c, sr_f c]
      exact sr_app (fun z hz => h z (List.mem_cons_of_mem _ hz))
    · rw [List.cons_append, sr_t c, sr_t c, if_neg (h y List.mem_cons_self)]
theorem sr_no {P : Nat → Bool} : ∀ {l : List Nat}, (∀ y, y ∈ l → y ≠ 0) → sr P l = 0 → ∀ y, y ∈ l → P y = false
  | [], _, _, y, hy => by cases hy
  | x :: l, h, e, y, hy => by
    cases c : P x
    · rw [sr_f c] at e
      rcases List.mem_cons.mp hy with rfl | q
      · exact c
      · exact sr_no (fun z hz => h z (List.mem_cons_of_mem _ hz)) e y q
    · rw [sr_t c] at e
      exact absurd e (h x List.mem_cons_self)
theorem sr_mem {P : Nat → Bool} : ∀ {l : List Nat}, sr P l ≠ 0 → sr P l ∈ l ∧ P (sr P l) = true
  | [], h => absurd rfl h
  | x :: l, h => by
    cases c : P x
    · rw [sr_f c] at h ⊢
      exact ⟨List.mem_cons_of_mem _ (sr_mem h).1, (sr_mem h).2⟩
    · rw [sr_t c]
      exact ⟨List.mem_cons_self, c⟩
/-- the first number of a list with a property -/
def fd (P : Nat → Bool) : List Nat → Option Nat
  | [] => none
  | y :: l => if P y = true then some y else fd P l
def oI : Option Nat → Int32
  | none => -1
  | some y => nI y
theorem fd_t {P : Nat → Bool} {y : Nat} {l : List Nat} (h : P y = true) : fd P (y :: l) = some y := if_pos h
theorem fd_f {P : Nat → Bool} {y : Nat} {l : List Nat} (h : P y = false) : fd P (y :: l) = fd P l := if_neg (by rw [h]; decide)
theorem fd_cong {P Q : Nat → Bool} : ∀ {l : List Nat}, (∀ y, y ∈ l → P y = Q y) → fd P l = fd Q l
  | [], _ => rfl
  | y :: l, h => by
    unfold fd
    rw [h y List.mem_cons_self, fd_cong (fun z hz => h z (List.mem_cons_of_mem _ hz))]
theorem fd_no {P : Nat → Bool} : ∀ {l : List Nat}, (∀ y, y ∈ l → P y = false) → fd P l = none
  | [], _ => rfl
  | y :: l, h => by
    rw [fd_f (h y List.mem_cons_self)]
    exact fd_no (fun z hz => h z (List.mem_cons_of_mem _ hz))
theorem fd_app_n {P : Nat → Bool} {l2 : List Nat} : ∀ {l1 : List Nat}, fd P l1 = none → fd P (l1 ++ l2) = fd P l2
  | [], _ => rfl
  | y :: l, h => by
    cases c : P y
    · rw [fd_f c] at h
      rw [List.cons_append, fd_f c]
      exact fd_app_n h
    · rw [fd_t c] at h
      exact absurd h (by simp)
theorem fd_app_s {P : Nat → Bool} {l2 : List Nat} {x : Nat} : ∀ {l1 : List Nat}, fd P l1 = some x → fd P (l1 ++ l2) = some x
  | [], h => absurd (show (none : Option Nat) = some x from h) (by simp)
  | y :: l, h => by
    cases c : P y
    · rw [fd_f c] at h
      rw [List.cons_append, fd_f c]
      exact fd_app_s h
    · rw [fd_t c] at h
      rw [List.cons_append, fd_t c]
      exact h
theorem fd_map {P : Nat → Bool} {g : Nat → Nat} : ∀ {l : List Nat}, fd P (l.map g) = (fd (fun y => P (g y)) l).map g
  | [] => rfl
  | y :: l => by
    cases c : P (g y)
    · rw [List.map_cons, fd_f c, fd_f (P := fun y => P (g y)) c]
      exact fd_map
    · rw [List.map_cons, fd_t c, fd_t (P := fun y => P (g y)) c]
      rfl
theorem fd_mem {P : Nat → Bool} {x : Nat} : ∀ {l : List Nat}, fd P l = some x → x ∈ l
  | [], h => absurd (show (none : Option Nat) = some x from h) (by simp)
  | y :: l, h => by
    cases c : P y
    · rw [fd_f c] at h
      exact List.mem_cons_of_mem _ (fd_mem h)
    · rw [fd_t c] at h
      rw [← Option.some.inj h]
      exact List.mem_cons_self
theorem fd_sr {P : Nat → Bool} : ∀ {l : List Nat}, (∀ y, y ∈ l → y ≠ 0) → oI (fd P l) = if sr P l = 0 then -1 else nI (sr P l)
  | [], _ => rfl
  | y :: l, h => by
    cases c : P y
    · rw [fd_f c, sr_f c]
      exact fd_sr (fun z hz => h z (List.mem_cons_of_mem _ hz))
    · rw [fd_t c, sr_t c, if_neg (h y List.mem_cons_self)]
      rfl
theorem cL_b : ∀ {m n y : Nat}, y ∈ cL m n → y < 2 ^ n
  | 0, n, y, h => by
    have e : y = 0 := List.mem_singleton.mp (show y ∈ [0] from h)
    rw [e]
    exact Nat.two_pow_pos n
  | m + 1, n, y, h => by
    obtain ⟨a, ha, hm⟩ := List.mem_flatMap.mp (show y ∈ (List.range n).flatMap (fun a => (cL m a).map (fun y => y ||| 2 ^ a)) from h)
    obtain ⟨z, hz, rfl⟩ := List.mem_map.mp hm
    have ha := List.mem_range.mp ha
    have hz := cL_b hz
    have p1 : 2 ^ a < 2 ^ n := Nat.pow_lt_pow_right (by omega) ha
    exact Nat.or_lt_two_pow (by omega) p1
/-- the class goes through such a list -/
def nQ (d : Nat → Int32) (h i : Nat) (E U : Int32) (y : Nat) : Bool := decide (nI y &&& (U ^^^ (-1)) = 0) && s_opens d h (E ||| nI y) i
theorem in1_z {a y : Nat} (h : y ∈ in1 a) : y ≠ 0 := by
  unfold in1 at h
  have := List.mem_singleton.mp h
  have := Nat.two_pow_pos a
  omega
theorem or_nz {x y : Nat} (h : x ≠ 0) : x ||| y ≠ 0 := fun q => by
  have := Nat.le_trans Nat.left_le_or (Nat.le_of_eq q)
  omega
theorem in2_z {a y : Nat} (h : y ∈ in2 a) : y ≠ 0 := by
  unfold in2 at h
  obtain ⟨b, -, rfl⟩ := List.mem_map.mp h
  exact or_nz (Nat.ne_of_gt (Nat.two_pow_pos a))
theorem in3_z {a y : Nat} (h : y ∈ in3 a) : y ≠ 0 := by
  unfold in3 at h
  obtain ⟨b, -, h⟩ := List.mem_flatMap.mp h
  obtain ⟨c, -, rfl⟩ := List.mem_map.mp h
  exact or_nz (or_nz (Nat.ne_of_gt (Nat.two_pow_pos a)))
theorem cb_z {F : Nat → List Nat} (hF : ∀ a y, y ∈ F a → y ≠ 0) : ∀ y, y ∈ cb F → y ≠ 0 := fun y h => by
  unfold cb at h
  obtain ⟨a, -, h⟩ := List.mem_flatMap.mp h
  exact hF a y h
/-- keys for which there is a lock -/
def s_kol (d : Nat → Int32) : Nat → Int32
  | 0 => 0
  | i + 1 => s_kol d i ||| s_opr d i
theorem kol_go (x : XH M d h) (hh : h ≤ 40) : ∀ (k f i : Nat), i + k = h → k < f → g_lq2 (F_X4_keysOfLocks_4 M (fun (x1 : Int32) => some x1)) f (s_kol d i) (nI i) = some (s_kol d h)
  | 0, f, i, hi, hf => by
    obtain ⟨f, rfl⟩ : ∃ f', f = f' + 1 := ⟨f - 1, by omega⟩
    have : i = h := by omega
    subst this
    rw [lq2_s, F_X4_keysOfLocks_4, x.1, if_pos (nI_le (Nat.le_refl _) (by omega))]
  | k + 1, f, i, hi, hf => by
    obtain ⟨f, rfl⟩ : ∃ f', f = f' + 1 := ⟨f - 1, by omega⟩
    have ih := kol_go x hh k f (i + 1) (by omega) (by omega)
    rw [lq2_s, F_X4_keysOfLocks_4, x.1, if_neg (nI_ge (by omega) (by omega)), e_ld (by omega) (by omega), Option.bind_some, (x.2 i (by omega)).2.2.1, nI_1]
    exact ih
theorem kol_bt {k : Nat} : ∀ {n i : Nat}, i < n → bt (s_kol d n) k = false → bt (s_opr d i) k = false
  | n + 1, i, hi, e => by
    have e' : bt (s_kol d n ||| s_opr d n) k = false := e
    rw [b_or, Bool.or_eq_false_iff] at e'
    by_cases c : i = n
    · subst c
      exact e'.2
    · exact kol_bt (by omega) e'.1
def QE (d : Nat → Int32) (h i : Nat) (E : Int32) : Nat → Bool := nQ d h i E (s_kol d h &&& (E ^^^ (-1)))
theorem QE_0 {E : Int32} {i : Nat} : QE d h i E 0 = s_opens d h E i := by
  unfold QE nQ
  rw [show nI 0 = (0 : Int32) from rfl, Int32.or_zero, decide_eq_true (b_eq0.mpr (fun j _ => by rw [b_and, b_0, Bool.false_and])), Bool.true_and]
theorem QE_no {E : Int32} {i k y : Nat} (hk : k < 24) (hy : y < 2 ^ k) (u : bt (s_kol d h &&& (E ^^^ (-1))) k = false) : QE d h i E (y ||| 2 ^ k) = false := by
  have p1 : 2 ^ k < 2 ^ 24 := Nat.pow_lt_pow_right (by omega) hk
  have yb : y ||| 2 ^ k < 2 ^ 24 := Nat.or_lt_two_pow (by omega) p1
  have z : ¬ (nI (y ||| 2 ^ k) &&& ((s_kol d h &&& (E ^^^ (-1))) ^^^ (-1)) = 0) := fun q => by
    have q2 := b_eq0.mp q k (by omega)
    rw [b_and, bt_not _ (by omega), bt_nI (by omega), Nat.testBit_or, Nat.testBit_two_pow_self, Bool.or_true, Bool.true_and, u] at q2
    exact absurd q2 (by decide)
  unfold QE nQ
  rw [decide_eq_false z, Bool.false_and]
theorem QE_sh {E : Int32} {i k y : Nat} (hk : k < 24) (hy : y < 2 ^ k) (u : bt (s_kol d h &&& (E ^^^ (-1))) k = true) : QE d h i E (y ||| 2 ^ k) = QE d h i (E ||| nI (2 ^ k)) y := by
  have p1 : 2 ^ k < 2 ^ 24 := Nat.pow_lt_pow_right (by omega) hk
  have yb : y ||| 2 ^ k < 2 ^ 24 := Nat.or_lt_two_pow (by omega) p1
  have e1 : nI (y ||| 2 ^ k) &&& ((s_kol d h &&& (E ^^^ (-1))) ^^^ (-1)) = 0 ↔ nI y &&& ((s_kol d h &&& ((E ||| nI (2 ^ k)) ^^^ (-1))) ^^^ (-1)) = 0 := by
    have key : ∀ j, j < 32 → bt (nI (y ||| 2 ^ k) &&& ((s_kol d h &&& (E ^^^ (-1))) ^^^ (-1))) j = bt (nI y &&& ((s_kol d h &&& ((E ||| nI (2 ^ k)) ^^^ (-1))) ^^^ (-1))) j := fun j hj => by
      by_cases c : k = j
      · rw [b_and, bt_not _ hj, ← c, u, Bool.not_true, Bool.and_false, b_and, bt_nI (n := y) (by omega), Nat.testBit_lt_two_pow hy, Bool.false_and]
      · rw [b_and, bt_not _ hj, b_and, bt_not _ hj, b_and, bt_not _ hj, b_and, bt_not _ hj, b_or, bt_nI (n := 2 ^ k) (by omega), bt_nI (n := y ||| 2 ^ k) (by omega), bt_nI (n := y) (by omega), Nat.testBit_or, Nat.testBit_two_pow, decide_eq_false c, Bool.or_false, Bool.or_false]
    rw [b_eq0, b_eq0]
    exact ⟨fun q j hj => (key j hj).symm.trans (q j hj), fun q j hj => (key j hj).trans (q j hj)⟩
  have e2 : E ||| nI (y ||| 2 ^ k) = (E ||| nI (2 ^ k)) ||| nI y := by
    rw [← nx_or]
    refine b_ext (fun j hj => ?_)
    rw [b_or, b_or, b_or, b_or]
    cases bt E j <;> cases bt (nI y) j <;> cases bt (nI (2 ^ k)) j <;> rfl
  unfold QE nQ
  rw [e2, decide_eq_decide.mpr e1]
/-- the class's search, with one key more -/
theorem lb38 {i m : Nat} {E : Int32} (kB : Int32 → Int32 → Int32 → Int32 → g_M → Option (Int32 × g_M)) (hB : ∀ key, key < 24 → kB (nI i) (E ||| nI (2 ^ key)) (nI m) (nI key) M = some (oI (fd (QE d h i (E ||| nI (2 ^ key))) (cL m key)), M)) {below : Nat} (hb : below ≤ 24) : ∀ (r f key : Nat), key + r = below → r < f → g_lp6 (F_X11_leastBesides_38 kB (fun (x6 : Int32) (x7 : Int32) (M : g_M) => some (x7 ||| ((1 : Int32) <<< (x6 &&& 31)), M)) (fun (M : g_M) => some ((-1), M))) f (nI i) E (nI (m + 1)) (nI below) (s_kol d h &&& (E ^^^ (-1))) (nI key) M = some (oI (fd (QE d h i E) ((List.range' key r).flatMap (fun a => (cL m a).map (fun y => y ||| 2 ^ a)))), M)
  | 0, f, key, hk, hf => by
    obtain ⟨f, rfl⟩ : ∃ f', f = f' + 1 := ⟨f - 1, by omega⟩
    have : key = below := by omega
    subst this
    rw [lp6_s, F_X11_leastBesides_38, if_pos (nI_le (Nat.le_refl _) (by omega))]
    rfl
  | r + 1, f, key, hk, hf => by
    obtain ⟨f, rfl⟩ : ∃ f', f = f' + 1 := ⟨f - 1, by omega⟩
    have ih := lb38 kB hB hb r f (key + 1) (by omega) (by omega)
    rw [lp6_s, F_X11_leastBesides_38, if_neg (nI_ge (by omega) (by omega)), b_bit (s_kol d h &&& (E ^^^ (-1))) (k := key) (by omega), nI_1, nI_pred, pw_shl key (by omega), List.range'_succ, List.flatMap_cons]
    cases u : bt (s_kol d h &&& (E ^^^ (-1))) key
    · rw [if_pos (show (if false = true then (1 : Int32) else 0) = 0 by decide), ih, fd_app_n (fd_no (fun y hy => by
        obtain ⟨z, hz, rfl⟩ := List.mem_map.mp hy
        exact QE_no (by omega) (cL_b hz) u))]
    · rw [if_neg (show ¬ (if true = true then (1 : Int32) else 0) = 0 by decide), hB key (by omega), Option.bind_some]
      dsimp only
      have sh : fd (QE d h i E) ((cL m key).map (fun y => y ||| 2 ^ key)) = (fd (QE d h i (E ||| nI (2 ^ key))) (cL m key)).map (fun y => y ||| 2 ^ key) := by
        rw [fd_map, fd_cong (fun y hy => QE_sh (by omega) (cL_b hy) u)]
      have p1 : 2 ^ key < 2 ^ 24 := Nat.pow_lt_pow_right (by omega) (by omega)
      cases e : fd (QE d h i (E ||| nI (2 ^ key))) (cL m key) with
      | none =>
        rw [e] at sh
        rw [if_pos (show oI none < 0 by decide), ih, fd_app_n (show _ = none from sh)]
      | some y =>
        have yb := cL_b (fd_mem e)
        rw [e] at sh
        rw [if_neg (show ¬ oI (some y) < 0 from nI_pos (by omega)), fd_app_s (show _ = some (y ||| 2 ^ key) from sh)]
        show some (nI y ||| nI (2 ^ key), M) = some (nI (y ||| 2 ^ key), M)
        rw [nx_or]
theorem lbR (x : XH M d h) (w : ∀ i, i < h → W_H d i) (hh : h ≤ 40) {i : Nat} (hi : i < h) : ∀ (m j : Nat) (E : Int32) (below : Nat), below ≤ 24 → m ≤ 3 → g_lp4 F_X11_leastBesides (m + 1 + j) (nI i) E (nI m) (nI below) M = some (oI (fd (QE d h i E) (cL m below)), M)
  | 0, j, E, below, hb, hm => by
    rw [show 0 + 1 + j = j + 1 by omega, lp4_s, F_X11_leastBesides, if_neg (show ¬ (0 : Int32) < nI 0 by decide), isO_eq x w hh E hi, Option.bind_some]
    show _ = some (oI (fd (QE d h i E) [0]), M)
    cases o : s_opens d h E i
    · rw [if_pos (show (if false = true then (1 : Int32) else 0) = 0 by decide), fd_f (QE_0.trans o)]
      rfl
    · rw [if_neg (show ¬ (if true = true then (1 : Int32) else 0) = 0 by decide), fd_t (QE_0.trans o)]
      rfl
  | m + 1, j, E, below, hb, hm => by
    have kol : f_X4_keysOfLocks M = some (s_kol d h) := kol_go x hh h 20000000 0 (by omega) (by omega)
    rw [show m + 1 + 1 + j = (m + 1 + j) + 1 by omega, lp4_s, F_X11_leastBesides, if_pos (show (0 : Int32) < nI (m + 1) from nI_lt (a := 0) (by omega) (by omega)), kol, Option.bind_some]
    refine (lb38 (g_lp4 F_X11_leastBesides (m + 1 + j)) (fun key hk => lbR x w hh hi m j _ key (by omega) (by omega)) hb below 20000000 0 (by omega) (by omega)).trans ?_
    rw [← List.range_eq_range']
    rfl
/-- a key for which there is no lock opens nothing -/
def agk (k : Nat) (x y : Int32) : Prop := ∀ j, j ≠ k → bt x j = bt y j
theorem op1_ag {K K' : Int32} {k i : Nat} (w : W_H d i) (hk : bt (s_opr d i) k = false) (a : agk k K K') (f : Nat → Bool) : s_op1 d K f i = s_op1 d K' f i := by
  unfold s_op1
  unfold s_opr at hk
  by_cases c1 : d (40 + 4 * i) = 1
  · rw [if_pos c1] at hk
    rw [if_pos c1, if_pos c1]
    rcases w with ⟨-, -, -, q, hq, eq⟩ | ⟨w, -⟩ | ⟨w, -⟩
    · rw [eq] at hk ⊢
      rw [bt_one (by omega)] at hk
      rw [nI_clamp (by omega)]
      exact a q (fun z => by subst z; simp at hk)
    · rw [c1] at w
      exact absurd w (by decide)
    · rw [c1] at w
      exact absurd w (by decide)
  rw [if_neg c1] at hk
  rw [if_neg c1, if_neg c1]
  by_cases c5 : d (40 + 4 * i) = 5
  · rw [if_pos c5] at hk
    rw [if_pos c5, if_pos c5]
    rcases w with ⟨-, -, -, q, hq, eq⟩ | ⟨w, -⟩ | ⟨w, -⟩
    · rw [eq, nI_clamp (by omega)] at hk
      rw [eq, nI_clamp (by omega)]
      have hs : (if q = 23 then 0 else q + 1) < 24 := by split <;> omega
      rw [b_or, bt_one (by omega), bt_one (by omega), Bool.or_eq_false_iff, decide_eq_false_iff_not, decide_eq_false_iff_not] at hk
      rw [a q (fun z => hk.1 z.symm), a _ (fun z => hk.2 z.symm)]
    · rw [c5] at w
      exact absurd w (by decide)
    · rw [c5] at w
      exact absurd w (by decide)
  rw [if_neg c5, if_neg c5]
theorem opn_ag {K K' : Int32} {k : Nat} (a : agk k K K') : ∀ {n : Nat}, (∀ i, i < n → W_H d i) → (∀ i, i < n → bt (s_opr d i) k = false) → s_opn d K n = s_opn d K' n
  | 0, _, _ => rfl
  | n + 1, w, hk => by
    funext i
    show (if i = n then s_op1 d K (s_opn d K n) n else s_opn d K n i) = (if i = n then s_op1 d K' (s_opn d K' n) n else s_opn d K' n i)
    rw [opn_ag a (fun i hi => w i (by omega)) (fun i hi => hk i (by omega)), op1_ag (w n (by omega)) (hk n (by omega)) a]
theorem kr_ag {K K' : Int32} {k : Nat} (w : ∀ i, i < h → W_H d i) (hk : bt (s_kol d h) k = false) (a : agk k K K') : ∀ r, agk k (s_kr d h K r) (s_kr d h K' r)
  | 0 => a
  | r + 1 => fun j hj => by
    have ih := kr_ag w hk a r
    show bt (s_kr d h K r ||| s_box d (s_opn d (s_kr d h K r) h) h) j = bt (s_kr d h K' r ||| s_box d (s_opn d (s_kr d h K' r) h) h) j
    rw [b_or, b_or, ih j hj, opn_ag ih w (fun i hi => kol_bt hi hk)]
theorem opens_ag {K K' : Int32} {k : Nat} (w : ∀ i, i < h → W_H d i) (hk : bt (s_kol d h) k = false) (a : agk k K K') : s_opens d h K = s_opens d h K' := by
  unfold s_opens
  exact opn_ag (kr_ag w hk a 24) w (fun i hi => kol_bt hi hk)
/-- a key that is no use can go -/
theorem no_use (w : ∀ i, i < h → W_H d i) {K : Int32} {i k : Nat} (hk : bt (s_kol d h &&& (s_end d h K ^^^ (-1))) k = false) (hk2 : k < 32) {x y : Int32} (a : agk k x y) : s_opens d h (K ||| x) i = s_opens d h (K ||| y) i := by
  rw [b_and, Bool.and_eq_false_iff] at hk
  rcases hk with hk | hk
  · rw [opens_ag w hk (fun j hj => by rw [b_or, b_or, a j hj] : agk k (K ||| x) (K ||| y))]
  · rw [bt_not _ hk2, Bool.not_eq_false'] at hk
    rw [← s_opens_end (W_H.KB w), ← s_opens_end (W_H.KB w) K y]
    congr 1
    refine b_ext (fun j hj => ?_)
    rw [b_or, b_or]
    by_cases c : j = k
    · subst c
      rw [hk, Bool.true_or, Bool.true_or]
    · rw [a j c]
end NEED
