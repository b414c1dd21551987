section HANG
variable {t n l m h c1 c2 c3 : Nat} {M : g_M}
def mH1 (h : Nat) (K key op f s co lo : Int32) (M : g_M) : g_M := g_u (g_u (g_u (g_u (g_u (g_u (g_u (g_u (g_u M 25 h K) 26 h key) 27 h op) 28 h f) 29 h s) 30 h co) 31 h lo) 24 1 (M.1 24 1 + 1)) 24 0 (nI (h + 1))
def mH2 (h : Nat) (K a1 a2 a3 : Int32) (M : g_M) : g_M := g_u (g_u (g_u (g_u (g_u M 60 (40 + 4 * h) K) 60 (40 + 4 * h + 1) a1) 60 (40 + 4 * h + 2) a2) 60 (40 + 4 * h + 3) a3) 60 3 (nI (h + 1))
def dH (d : Nat → Int32) (h : Nat) (K a1 a2 a3 : Int32) : Nat → Int32 := upd (upd (upd (upd (upd d (40 + 4 * h) K) (40 + 4 * h + 1) a1) (40 + 4 * h + 2) a2) (40 + 4 * h + 3) a3) 3 (nI (h + 1))
theorem mH2_60 {K a1 a2 a3 : Int32} : (mH2 h K a1 a2 a3 M).1 60 = dH (M.1 60) h K a1 a2 a3 := rfl
theorem dH_ne {d : Nat → Int32} {K a1 a2 a3 : Int32} {k : Nat} (h3 : k ≠ 3) (hk : k < 40 + 4 * h ∨ 40 + 4 * h + 4 ≤ k) : dH d h K a1 a2 a3 k = d k := by
  unfold dH
  rw [upd_ne h3, upd_ne (by omega), upd_ne (by omega), upd_ne (by omega), upd_ne (by omega)]
theorem dH_0 {d : Nat → Int32} {K a1 a2 a3 : Int32} : dH d h K a1 a2 a3 (40 + 4 * h) = K := by
  unfold dH
  rw [upd_ne (by omega), upd_ne (by omega), upd_ne (by omega), upd_ne (by omega), upd_eq]
theorem dH_1 {d : Nat → Int32} {K a1 a2 a3 : Int32} : dH d h K a1 a2 a3 (40 + 4 * h + 1) = a1 := by
  unfold dH
  rw [upd_ne (by omega), upd_ne (by omega), upd_ne (by omega), upd_eq]
theorem dH_2 {d : Nat → Int32} {K a1 a2 a3 : Int32} : dH d h K a1 a2 a3 (40 + 4 * h + 2) = a2 := by
  unfold dH
  rw [upd_ne (by omega), upd_ne (by omega), upd_eq]
theorem dH_3 {d : Nat → Int32} {K a1 a2 a3 : Int32} : dH d h K a1 a2 a3 (40 + 4 * h + 3) = a3 := by
  unfold dH
  rw [upd_ne (by omega), upd_eq]
theorem dH_ag {d : Nat → Int32} {K a1 a2 a3 : Int32} : agH d (dH d h K a1 a2 a3) h := fun i hi j hj => dH_ne (by omega) (by omega)
theorem X_C.b3' {t t' : Nat} {x1 x2 x3 : Int32} {c1 c2 c3 : Nat} (h : X_C t x1 x2 x3 c1 c2 c3) (ht : t ≤ t') (hb : c3 + 1 ≤ 1000 * t') : X_C t' x1 x2 (x3 + 1) c1 c2 (c3 + 1) := by
  obtain ⟨rfl, rfl, rfl, a, b, c⟩ := h
  exact ⟨rfl, rfl, nI_1 _, by omega, by omega, by omega⟩
theorem hang_core {t' : Nat} (ht : t ≤ t') (H : Rel0 t n l m h c1 c2 c3 M) (hh : h < 40) (hc3 : c3 + 1 ≤ 1000 * t') (hcc : c1 + c3 + 1 < 2 ^ 31) {K key op f s co lo a1 a2 a3 : Int32} (hW : W_H (dH (M.1 60) h K a1 a2 a3) h) (e1' : key = s_nn a3) (e2' : op = s_opr (dH (M.1 60) h K a1 a2 a3) h) (e3' : f = s_nn a1) (e4' : s = s_nn a2) (e5' : co = s_cost (dH (M.1 60) h K a1 a2 a3) (h + 1) h) (e6' : lo = s_lock (dH (M.1 60) h K a1 a2 a3) (h + 1) h) : Rel0 t' n l m (h + 1) c1 c2 (c3 + 1) (mH2 h K a1 a2 a3 (mH1 h K key op f s co lo M)) := by
  obtain ⟨h1, h2, h3, h4, h5, h6, h7, h8, h9, h10, h11⟩ := id H
  obtain ⟨b1, b2, b3, b4, e0, e4, e1, e3, eu, wA, wL, wH, wT⟩ := id h1
  have fr : g_fr [60, 25, 26, 27, 28, 29, 30, 31] [(24, 0), (24, 1)] M (mH2 h K a1 a2 a3 (mH1 h K key op f s co lo M)) := (((((((((((((g_fr.rfl.uS (by decide)).uS (by decide)).uS (by decide)).uS (by decide)).uS (by decide)).uS (by decide)).uS (by decide)).uT (by decide)).uT (by decide)).uS (by decide)).uS (by decide)).uS (by decide)).uS (by decide)).uS (by decide)
  have ed : (mH2 h K a1 a2 a3 (mH1 h K key op f s co lo M)).1 60 = dH (M.1 60) h K a1 a2 a3 := rfl
  have aA : agA (M.1 60) (dH (M.1 60) h K a1 a2 a3) n := fun e he => ⟨dH_ne (by omega) (by omega), dH_ne (by omega) (by omega), dH_ne (by omega) (by omega)⟩
  have aL : agL (M.1 60) (dH (M.1 60) h K a1 a2 a3) l := fun e he => ⟨dH_ne (by omega) (by omega), dH_ne (by omega) (by omega)⟩
  have aT : agT (M.1 60) (dH (M.1 60) h K a1 a2 a3) m := fun e he => ⟨dH_ne (by omega) (by omega), fun k hk => dH_ne (by omega) (by omega)⟩
  have aH : agH (M.1 60) (dH (M.1 60) h K a1 a2 a3) h := dH_ag
  have d2 : dH (M.1 60) h K a1 a2 a3 2 = M.1 60 2 := dH_ne (by omega) (by omega)
  exact ⟨⟨b1, b2, b3, by omega, (show dH (M.1 60) h K a1 a2 a3 0 = _ from dH_ne (by omega) (by omega)).trans e0, (show dH (M.1 60) h K a1 a2 a3 4 = _ from dH_ne (by omega) (by omega)).trans e4, (show dH (M.1 60) h K a1 a2 a3 1 = _ from dH_ne (by omega) (by omega)).trans e1, by rw [ed]; exact upd_eq, by rw [ed, d2]; exact eu, fun e he => by
      rw [ed, (aA e he).1, (aA e he).2.1, (aA e he).2.2]
      exact wA e he, fun z hz => by
      rw [ed, (aL z hz).1, (aL z hz).2]
      exact wL z hz, fun i hi => by
      by_cases c : i = h
      · subst c
        exact hW
      · exact (wH i (by omega)).agree aH (by omega), fun z hz => (wT z hz).agree aT hz⟩, h2.agree aA aL, ⟨rfl, fun i hi => by
      rw [ed]
      by_cases c : i = h
      · subst c
        rw [dH_0, dH_1, dH_2, dH_3]
        exact ⟨upd_eq, (upd_eq).trans e1', (upd_eq).trans e2', (upd_eq).trans e3', (upd_eq).trans e4', (upd_eq).trans e5', (upd_eq).trans e6'⟩
      · have q := (h3.agree aH).2 i (by omega)
        exact ⟨(upd_ne c).trans q.1, (upd_ne c).trans q.2.1, (upd_ne c).trans q.2.2.1, (upd_ne c).trans q.2.2.2.1, (upd_ne c).trans q.2.2.2.2.1, (upd_ne c).trans q.2.2.2.2.2.1, (upd_ne c).trans q.2.2.2.2.2.2⟩⟩, keep4d fr (by decide) b3 h4 aT (h4.2.1.trans d2.symm), h5.agree aT aH (Nat.le_refl _) (by omega), keep6 fr (by decide) h6, (keep7 fr (by decide) h7).mono (by omega), keep8 fr (by decide) h8, h9.b3' ht hc3, h10.bump (by omega) (by omega), X_A.agree h11 aA aT d2 eu wT b3⟩
theorem add_eq {h : Nat} (hh : h < 40) (e : M.1 24 0 = nI h) {K key op f s co lo : Int32} (ho : ∀ M', f_X4_openersOf K key M' = some op) : f_X4_add K key f s co lo M = some (nI h, mH1 h K key op f s co lo M) := by
  unfold f_X4_add
  rw [e, e_st hh (by omega), Option.bind_some, show (g_u M 25 h K).1 24 0 = nI h from e, e_st hh (by omega), Option.bind_some, ho, Option.bind_some, show (g_u (g_u M 25 h K) 26 h key).1 24 0 = nI h from e, e_st hh (by omega), Option.bind_some, show (g_u (g_u (g_u M 25 h K) 26 h key) 27 h op).1 24 0 = nI h from e, e_st hh (by omega), Option.bind_some, show (g_u (g_u (g_u (g_u M 25 h K) 26 h key) 27 h op) 28 h f).1 24 0 = nI h from e, e_st hh (by omega), Option.bind_some, show (g_u (g_u (g_u (g_u (g_u M 25 h K) 26 h key) 27 h op) 28 h f) 29 h s).1 24 0 = nI h from e, e_st hh (by omega), Option.bind_some, show (g_u (g_u (g_u (g_u (g_u (g_u M 25 h K) 26 h key) 27 h op) 28 h f) 29 h s) 30 h co).1 24 0 = nI h from e, e_st hh (by omega), Option.bind_some, Option.bind_some, Option.bind_some]
  show some (M.1 24 0, g_u _ 24 0 (M.1 24 0 + 1)) = _
  rw [e, nI_1]
  rfl
theorem st_h {i j : Nat} (hi : i < 40) (hj : j < 4) {v x : Int32} (hx : x = nI j) : g_st M 60 1208 (40 + 4 * nI i + x) v = some (g_u M 60 (40 + 4 * i + j) v) := by
  rw [hx, show (40 : Int32) + 4 * nI i + nI j = nI (40 + 4 * i + j) by rw [show (4 : Int32) * nI i = nI (4 * i) from pk_mul 4 i, show (40 : Int32) + nI (4 * i) = nI (40 + 4 * i) from nI_add 40 (4 * i), nI_add]]
  exact e_st (by omega) (by omega)
theorem ld_h {i j : Nat} (hi : i < 40) (hj : j < 4) {x : Int32} (hx : x = nI j) : f_X12_hang (nI i) x M = some (M.1 60 (40 + 4 * i + j)) := by
  unfold f_X12_hang
  rw [hx, show (40 : Int32) + 4 * nI i + nI j = nI (40 + 4 * i + j) by rw [show (4 : Int32) * nI i = nI (4 * i) from pk_mul 4 i, show (40 : Int32) + nI (4 * i) = nI (40 + 4 * i) from nI_add 40 (4 * i), nI_add], e_ld (by omega) (by omega), Option.bind_some]
theorem hangs_eq {h : Nat} (hh : h < 40) (e : M.1 60 3 = nI h) {K a1 a2 a3 : Int32} : f_X12_hangs K a1 a2 a3 M = some (nI h, mH2 h K a1 a2 a3 M) := by
  unfold f_X12_hangs
  rw [ld_3, Option.bind_some, e, if_neg (show ¬ nI h = 40 from fun q => by have := (nI_eq (b := 40) (by omega) (by omega)).mp q; omega), Option.bind_some, st_h hh (j := 0) (x := 0) (by omega) rfl, Option.bind_some, st_h hh (j := 1) (x := 1) (by omega) rfl, Option.bind_some, st_h hh (j := 2) (x := 2) (by omega) rfl, Option.bind_some, st_h hh (j := 3) (x := 3) (by omega) rfl, Option.bind_some, ld_3, Option.bind_some]
  rw [show (g_u (g_u (g_u (g_u M 60 (40 + 4 * h + 0) K) 60 (40 + 4 * h + 1) a1) 60 (40 + 4 * h + 2) a2) 60 (40 + 4 * h + 3) a3).1 60 3 = nI h by
    simp only [g_row_eq]
    rw [upd_ne (by omega), upd_ne (by omega), upd_ne (by omega), upd_ne (by omega)]
    exact e, nI_1, st_3, Option.bind_some]
  rfl
theorem hangs_full (e : M.1 60 3 = nI 40) {K a1 a2 a3 : Int32} : f_X12_hangs K a1 a2 a3 M = (f_X12_finding 1 M).bind fun p9 => some (p9.1, p9.2) := by
  unfold f_X12_hangs
  rw [ld_3, Option.bind_some, e, if_pos (by decide)]
theorem room_eq {h : Nat} (hh : h ≤ 40) (e : M.1 24 0 = nI h) {k : Nat} (hk : k ≤ 1000) : f_X4_hasRoomFor (nI k) M = some (if h + k ≤ 40 then 1 else 0) := by
  unfold f_X4_hasRoomFor
  rw [e, show (40 : Int32) - nI h = nI (40 - h) from pk_sub hh]
  by_cases c : h + k ≤ 40
  · rw [if_pos c, if_neg (nI_nlt (by omega) (by omega))]
  · rw [if_neg c, if_pos (nI_lt (by omega) (by omega))]
theorem opr_1 {q : Nat} (hq : q < 24) (M' : g_M) : f_X4_openersOf 1 (nI q) M' = some ((1 : Int32) <<< (nI q &&& 31)) := by
  unfold f_X4_openersOf
  rw [if_pos rfl]
theorem opr_5 {q : Nat} (hq : q < 24) (M' : g_M) : f_X4_openersOf 5 (nI q) M' = some (((1 : Int32) <<< (nI q &&& 31)) ||| ((1 : Int32) <<< (nI (if q = 23 then 0 else q + 1) &&& 31))) := by
  unfold f_X4_openersOf
  rw [if_neg (by decide), if_pos rfl, show g_nz 24 = some 24 from rfl, Option.bind_some, nI_1, show nI (q + 1) - nI (q + 1) / 24 * 24 = nI ((q + 1) % 24) from pk_rem (d := 24) (by omega) (by omega) (by omega)]
  by_cases c : q = 23
  · subst c
    rfl
  · rw [if_neg c, Nat.mod_eq_of_lt (by omega)]
theorem opr_else {K key : Int32} (h1 : K ≠ 1) (h5 : K ≠ 5) (M' : g_M) : f_X4_openersOf K key M' = some 0 := by
  unfold f_X4_openersOf
  rw [if_neg h1, if_neg h5]
theorem s_nn_n {q : Nat} (hq : q < 2 ^ 31) : s_nn (nI q) = nI q := by
  unfold s_nn
  rw [if_neg (fun e => m1_ne hq e.symm)]
theorem lock_core {t' : Nat} (ht : t ≤ t') (H : Rel0 t n l m h c1 c2 c3 M) (hh : h < 40) (hc3 : c3 + 1 ≤ 1000 * t') (hcc : c1 + c3 + 1 < 2 ^ 31) {q : Nat} (hq : q < 24) {K co : Int32} (hK : (K = 1 ∧ co = 3) ∨ (K = 5 ∧ co = 2)) : ∃ A, f_X4_add K (nI q) 0 0 co 1 M = some (nI h, A) ∧ g_fr [25, 26, 27, 28, 29, 30, 31] [(24, 0), (24, 1)] M A ∧ Rel0 t' n l m (h + 1) c1 c2 (c3 + 1) (mH2 h K (-1) (-1) (nI q) A) := by
  have e24 := H.2.2.1.1
  have fr : ∀ op, g_fr [25, 26, 27, 28, 29, 30, 31] [(24, 0), (24, 1)] M (mH1 h K (nI q) op 0 0 co 1 M) := fun op => ((((((((g_fr.rfl.uS (by decide)).uS (by decide)).uS (by decide)).uS (by decide)).uS (by decide)).uS (by decide)).uS (by decide)).uT (by decide)).uT (by decide)
  rcases hK with ⟨rfl, rfl⟩ | ⟨rfl, rfl⟩
  · refine ⟨_, add_eq hh e24 (opr_1 hq), fr _, hang_core ht H hh hc3 hcc ?_ (s_nn_n (by omega)).symm ?_ rfl rfl ?_ ?_⟩
    · left
      rw [dH_0, dH_1, dH_2, dH_3]
      exact ⟨Or.inl rfl, rfl, rfl, q, hq, rfl⟩
    · unfold s_opr
      rw [dH_0, dH_3, if_pos rfl]
    · unfold s_cost
      rw [dH_0, if_pos rfl, if_pos rfl]
    · unfold s_lock
      rw [dH_0, if_pos rfl, if_pos rfl]
  · refine ⟨_, add_eq hh e24 (opr_5 hq), fr _, hang_core ht H hh hc3 hcc ?_ (s_nn_n (by omega)).symm ?_ rfl rfl ?_ ?_⟩
    · left
      rw [dH_0, dH_1, dH_2, dH_3]
      exact ⟨Or.inr rfl, rfl, rfl, q, hq, rfl⟩
    · unfold s_opr
      rw [dH_0, dH_3, if_neg (show ¬ (5 : Int32) = 1 by decide), if_pos (show (5 : Int32) = 5 from rfl), nI_clamp (by omega)]
    · unfold s_cost
      rw [dH_0, if_pos rfl, if_neg (by decide), if_pos rfl]
    · unfold s_lock
      rw [dH_0, if_pos rfl, if_neg (by decide), if_pos rfl]
theorem s_cost_in {d : Nat → Int32} {i : Nat} : ∀ {h : Nat}, i < h → s_cost d h i = s_cost d (i + 1) i
  | 0, hi => absurd hi (by omega)
  | h + 1, hi => by
    by_cases c : i = h
    · subst c
      rfl
    · show (if i = h then _ else s_cost d h i) = _
      rw [if_neg c]
      exact s_cost_in (by omega)
theorem s_lock_in {d : Nat → Int32} {i : Nat} : ∀ {h : Nat}, i < h → s_lock d h i = s_lock d (i + 1) i
  | 0, hi => absurd hi (by omega)
  | h + 1, hi => by
    by_cases c : i = h
    · subst c
      rfl
    · show (if i = h then _ else s_lock d h i) = _
      rw [if_neg c]
      exact s_lock_in (by omega)
theorem cl_eq (H : Rel0 t n l m h c1 c2 c3 M) {i : Nat} (hi : i < h) {K a1 a2 a3 : Int32} : M.1 30 i = s_cost (dH (M.1 60) h K a1 a2 a3) h i ∧ M.1 31 i = s_lock (dH (M.1 60) h K a1 a2 a3) h i := by
  have q := H.2.2.1.2 i hi
  rw [s_cost_cong dH_ag, s_lock_cong dH_ag, s_cost_in hi, s_lock_in hi]
  exact q.2.2.2.2.2
theorem chain_core {t' : Nat} (ht : t ≤ t') (H : Rel0 t n l m h c1 c2 c3 M) (hh : h < 40) (hc3 : c3 + 1 ≤ 1000 * t') (hcc : c1 + c3 + 1 < 2 ^ 31) {i j : Nat} (hi : i < h) (hj : j < h) {K w : Int32} (hK : (K = 2 ∧ w = 1) ∨ (K = 3 ∧ w = 2)) : ∃ A, f_X4_add K 0 (nI i) (nI j) (w + M.1 30 i + M.1 30 j) (M.1 31 i + M.1 31 j) M = some (nI h, A) ∧ g_fr [25, 26, 27, 28, 29, 30, 31] [(24, 0), (24, 1)] M A ∧ Rel0 t' n l m (h + 1) c1 c2 (c3 + 1) (mH2 h K (nI i) (nI j) (-1) A) := by
  have e24 := H.2.2.1.1
  have n1 : K ≠ 1 := by rcases hK with ⟨rfl, -⟩ | ⟨rfl, -⟩ <;> decide
  have n5 : K ≠ 5 := by rcases hK with ⟨rfl, -⟩ | ⟨rfl, -⟩ <;> decide
  have n4 : K ≠ 4 := by rcases hK with ⟨rfl, -⟩ | ⟨rfl, -⟩ <;> decide
  have qi := cl_eq H hi (K := K) (a1 := nI i) (a2 := nI j) (a3 := -1)
  have qj := cl_eq H hj (K := K) (a1 := nI i) (a2 := nI j) (a3 := -1)
  refine ⟨_, add_eq hh e24 (opr_else n1 n5), ((((((((g_fr.rfl.uS (by decide)).uS (by decide)).uS (by decide)).uS (by decide)).uS (by decide)).uS (by decide)).uS (by decide)).uT (by decide)).uT (by decide), hang_core ht H hh hc3 hcc ?_ rfl ?_ (s_nn_n (by omega)).symm (s_nn_n (by omega)).symm ?_ ?_⟩
  · right
    left
    rw [dH_0, dH_1, dH_2, dH_3]
    exact ⟨by rcases hK with ⟨rfl, -⟩ | ⟨rfl, -⟩; exact Or.inl rfl; exact Or.inr rfl, ⟨i, hi, rfl⟩, ⟨j, hj, rfl⟩, rfl⟩
  · unfold s_opr
    rw [dH_0, if_neg n1, if_neg n5]
  · unfold s_cost
    rw [dH_0, dH_1, dH_2, if_pos rfl, if_neg n1, if_neg n5, if_neg n4, nI_clamp (by omega), nI_clamp (by omega), ← qi.1, ← qj.1]
    rcases hK with ⟨rfl, rfl⟩ | ⟨rfl, rfl⟩
    · rw [if_neg (by decide)]
    · rw [if_pos rfl]
  · unfold s_lock
    rw [dH_0, dH_1, dH_2, if_pos rfl, if_neg n1, if_neg n5, if_neg n4, nI_clamp (by omega), nI_clamp (by omega), ← qi.2, ← qj.2]
theorem box_core {t' : Nat} (ht : t ≤ t') (H : Rel0 t n l m h c1 c2 c3 M) (hh : h < 40) (hc3 : c3 + 1 ≤ 1000 * t') (hcc : c1 + c3 + 1 < 2 ^ 31) {i q : Nat} (hi : i < h) (hq : q < 24) : ∃ A, f_X4_add 4 (nI q) (nI i) 0 (4 + M.1 30 i) (M.1 31 i) M = some (nI h, A) ∧ g_fr [25, 26, 27, 28, 29, 30, 31] [(24, 0), (24, 1)] M A ∧ Rel0 t' n l m (h + 1) c1 c2 (c3 + 1) (mH2 h 4 (nI i) (-1) (nI q) A) := by
  have e24 := H.2.2.1.1
  have qi := cl_eq H hi (K := 4) (a1 := nI i) (a2 := -1) (a3 := nI q)
  refine ⟨_, add_eq hh e24 (opr_else (by decide) (by decide)), ((((((((g_fr.rfl.uS (by decide)).uS (by decide)).uS (by decide)).uS (by decide)).uS (by decide)).uS (by decide)).uS (by decide)).uT (by decide)).uT (by decide), hang_core ht H hh hc3 hcc ?_ (s_nn_n (by omega)).symm ?_ (s_nn_n (by omega)).symm rfl ?_ ?_⟩
  · right
    right
    rw [dH_0, dH_1, dH_2, dH_3]
    exact ⟨rfl, ⟨i, hi, rfl⟩, rfl, q, hq, rfl⟩
  · unfold s_opr
    rw [dH_0, if_neg (by decide), if_neg (by decide)]
  · unfold s_cost
    rw [dH_0, dH_1, if_pos rfl, if_neg (by decide), if_neg (by decide), if_pos rfl, nI_clamp (by omega), ← qi.1]
  · unfold s_lock
    rw [dH_0, dH_1, if_pos rfl, if_neg (by decide), if_neg (by decide), if_pos rfl, nI_clamp (by omega), ← qi.2]
end HANG
