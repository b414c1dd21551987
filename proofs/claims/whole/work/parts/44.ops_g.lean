section OPSG
variable {t n l m h c1 c2 c3 : Nat} {M : g_M}
theorem fill_go (o : Nat) (v : Int64) : ∀ (k f i : Nat) (M : g_M), i + k = 40 → k < f → ∃ M' : g_M, g_lp3 (F_J7_fill_d0a16_6 o (fun (M : g_M) => some M)) f v (nI i) 40 M = some M' ∧ g_fr [55 + o] [] M M' ∧ (∀ j, j < i → M'.2 (55 + o) j = M.2 (55 + o) j) ∧ ∀ j, i ≤ j → j < 40 → M'.2 (55 + o) j = v
  | 0, f, i, M, hi, hf => by
    obtain ⟨f, rfl⟩ : ∃ f', f = f' + 1 := ⟨f - 1, by omega⟩
    refine ⟨M, ?_, g_fr.rfl, fun j _ => rfl, fun j a b => absurd b (by omega)⟩
    have : i = 40 := by omega
    subst this
    rw [lp3_s, F_J7_fill_d0a16_6, if_pos (by decide)]
  | k + 1, f, i, M, hi, hf => by
    obtain ⟨f, rfl⟩ : ∃ f', f = f' + 1 := ⟨f - 1, by omega⟩
    obtain ⟨M', m1, m2, m3, m4⟩ := fill_go o v k f (i + 1) (g_ul M (55 + o) i v) (by omega) (by omega)
    have rw1 : (g_ul M (55 + o) i v).2 (55 + o) = vp_updL (M.2 (55 + o)) i v := g_rowl_eq
    refine ⟨M', ?_, (g_fr.rfl.ulS (List.mem_cons_self ..)).trans m2, fun j hj => ?_, fun j a b => ?_⟩
    · rw [lp3_s, F_J7_fill_d0a16_6, if_neg (show ¬ (40 : Int32) ≤ nI i from nI_ge (b := 40) (by omega) (by omega)), e_stl (by omega) (by omega), Option.bind_some, nI_1, m1]
    · rw [m3 j (by omega), rw1, pk_uLn (by omega)]
    · by_cases c : j = i
      · subst c
        rw [m3 j (by omega), rw1, pk_uLs]
      · exact m4 j (by omega) b
theorem sh_go (K : Int32 → g_M → Option (Int32 × g_M)) {o : Nat} (ho : o < 4) : ∀ (k f i : Nat) (M : g_M), i + k = 40 → k < f → ∃ M' : g_M, g_lp2 (F_X12_sheet_83 K) f (nI o) (nI i) M = K (nI o) M' ∧ g_fr [75] [] M M' ∧ ∀ j, M'.2 75 j = if 40 * o + i ≤ j ∧ j < 40 * o + 40 then 0 else M.2 75 j
  | 0, f, i, M, hi, hf => by
    obtain ⟨f, rfl⟩ : ∃ f', f = f' + 1 := ⟨f - 1, by omega⟩
    refine ⟨M, ?_, g_fr.rfl, fun j => by rw [if_neg (by omega)]⟩
    have : i = 40 := by omega
    subst this
    rw [lp2_s, F_X12_sheet_83, if_pos (by decide)]
  | k + 1, f, i, M, hi, hf => by
    obtain ⟨f, rfl⟩ : ∃ f', f = f' + 1 := ⟨f - 1, by omega⟩
    obtain ⟨M', m1, m2, m3⟩ := sh_go K ho k f (i + 1) (g_ul M 75 (40 * o + i) 0) (by omega) (by omega)
    refine ⟨M', ?_, (g_fr.rfl.ulS (by decide)).trans m2, fun j => ?_⟩
    · rw [lp2_s, F_X12_sheet_83, if_neg (show ¬ (40 : Int32) ≤ nI i from nI_ge (b := 40) (by omega) (by omega)), show (40 : Int32) * nI o + nI i = nI (40 * o + i) by rw [show (40 : Int32) * nI o = nI (40 * o) from pk_mul 40 o, nI_add], e_stl (by omega) (by omega), Option.bind_some, nI_1, m1]
    · rw [m3 j, show (g_ul M 75 (40 * o + i) 0).2 75 = vp_updL (M.2 75) (40 * o + i) 0 from rfl]
      by_cases c : j = 40 * o + i
      · subst c
        rw [if_neg (by omega), if_pos (by omega), pk_uLs]
      · rw [pk_uLn c]
        by_cases d : 40 * o + (i + 1) ≤ j ∧ j < 40 * o + 40
        · rw [if_pos d, if_pos (by omega)]
        · rw [if_neg d, if_neg (by omega)]
/-- a sheet laid anew, on both sides -/
theorem sheet_new (H : Rel0 t n l m h c1 c2 c3 M) {o : Nat} (ho : o < 4) {b z : Int32} {zn : Nat} (hz : z = nI zn) (hz40 : zn ≤ 40) (hb : b = 0 ∨ b = 8 ∨ b = 16 ∨ b = 64) (hb0 : b = 0 → zn = 0) {M1 M2 : g_M} (f1 : g_fr [55 + o] [] (g_u (g_u M (51 + o) 0 b) (51 + o) 1 z) M1) (v1 : ∀ j, j < 40 → M1.2 (55 + o) j = 0) (f2 : g_fr [75] [] (g_u (g_u M1 73 o b) 74 o z) M2) (v2 : ∀ j, M2.2 75 j = if 40 * o ≤ j ∧ j < 40 * o + 40 then 0 else M1.2 75 j) : Rel0 (t + 1) n l m h c1 c2 c3 M2 := by
  have fr : g_fr [55, 56, 57, 58, 73, 74, 75, 76] [(51, 0), (51, 1), (52, 0), (52, 1), (53, 0), (53, 1), (54, 0), (54, 1)] M M2 := ((((((g_fr.rfl.uT (mem510 o ho).1).uT (mem510 o ho).2).trans (f1.mono (fun k hk => by rw [List.mem_singleton.mp hk]; exact mem55 o ho) (by simp))).uS (by decide)).uS (by decide)).trans (f2.mono (by decide) (by decide)))
  refine sheet_core H fr (fun s hs => ?_)
  have h8 := H.2.2.2.2.2.2.2.1 s hs
  obtain ⟨q, q1, q2, q3, q4, q5, q6, q7⟩ := h8
  have a0 : ∀ i, M2.1 (51 + s) i = (g_u (g_u M (51 + o) 0 b) (51 + o) 1 z).1 (51 + s) i := fun i => by
    rw [f2.at (by simp; omega) (by simp), g_row_ne (by omega), g_row_ne (by omega), f1.at (by simp; omega) (by simp)]
  have a1 : M2.1 73 = upd (M1.1 73) o b := (f2.row (by decide) (by simp)).1
  have a2 : M2.1 74 = upd (M1.1 74) o z := (f2.row (by decide) (by simp)).1
  have a3 : M1.1 73 = M.1 73 := by rw [(f1.row (k := 73) (by simp; omega) (by simp)).1, g_row_ne (by omega), g_row_ne (by omega)]
  have a4 : M1.1 74 = M.1 74 := by rw [(f1.row (k := 74) (by simp; omega) (by simp)).1, g_row_ne (by omega), g_row_ne (by omega)]
  have a5 : M2.2 (55 + s) = M1.2 (55 + s) := (f2.row (k := 55 + s) (by simp; omega) (by simp)).2
  have a6 : M1.2 75 = M.2 75 := (f1.row (k := 75) (by simp; omega) (by simp)).2
  rw [a0, a0, a1, a2, a3, a4, a5]
  by_cases c : s = o
  · subst c
    refine ⟨zn, hz40, ?_, ?_, ?_, by rw [upd_eq]; exact hb, by rw [upd_eq]; exact hb0, fun k hk => ?_⟩
    · rw [g_row_eq, upd_eq, hz]
    · rw [upd_eq, hz]
    · rw [g_row_eq, upd_ne (by omega), g_row_eq, upd_eq, upd_eq]
    · rw [v1 k hk, v2, if_pos (by omega)]
  · rw [g_row_ne (by omega), g_row_ne (by omega), upd_ne c, upd_ne c, (f1.row (k := 55 + s) (by simp; omega) (by simp)).2]
    refine ⟨q, q1, q2, q3, q4, q5, q6, fun k hk => ?_⟩
    rw [v2, if_neg (by omega), a6]
    exact q7 k hk
theorem sheet_ok (H : Rel0 t n l m h c1 c2 c3 M) {o : Nat} (ho : o < 4) {b : Int32} (hb : b = 0 ∨ b = 8 ∨ b = 16 ∨ b = 64) (z : Int32) (hc : f_X11_sheet (nI o) b z M = f_X11_sheet_39 (nI o) b z M) (hm : ∀ M', f_X12_sheet (nI o) b z M' = f_X12_sheet_35 (nI o) b z M') : Op (f_X11_sheet (nI o) b z) (f_X12_sheet (nI o) b z) t M := by
  by_cases n0 : 0 ≤ z
  · by_cases n4 : z ≤ 40
    · obtain ⟨zn, hz, rfl⟩ : ∃ k, k ≤ 40 ∧ z = nI k := by
        obtain ⟨k, k1, rfl⟩ := nI_of (x := z) (fun c => by
          rw [i_lt] at c
          rw [i_le] at n0
          omega)
        have := (nI_leI (b := 40) k1 (by omega)).mp n4
        exact ⟨k, this, rfl⟩
      have step : ∀ (y : Nat), y ≤ 40 → (b = 0 → y = 0) → (if b = 0 then (0 : Int32) else nI zn) = nI y → Op (f_X11_sheet (nI o) b (nI zn)) (f_X12_sheet (nI o) b (nI zn)) t M := by
        intro y hy hb0 hyz
        obtain ⟨M1, u1, u2, u3, u4⟩ := fill_go o 0 40 20000000 0 (g_u (g_u M (51 + o) 0 b) (51 + o) 1 (nI y)) (by omega) (by omega)
        obtain ⟨M2, w1, w2, w3⟩ := sh_go (fun (x1 : Int32) (M : g_M) => (g_ld M 74 4 x1).bind fun v8 => some (v8, M)) ho 40 20000000 0 (g_u (g_u M1 73 o b) 74 o (nI y)) (by omega) (by omega)
        have k1 : M1.1 (51 + o) 1 = nI y := by
          rw [u2.at (by simp) (by simp), g_row_eq, upd_eq]
        have k2 : M2.1 74 o = nI y := by
          rw [w2.at (by decide) (by simp), g_row_eq, upd_eq]
        refine ⟨(nI y, M1), (nI y, M2), ?_, ?_, rfl, n, l, m, h, c1, c2, c3, sheet_new H ho rfl hy hb hb0 u2 (fun j hj => u4 j (by omega) hj) w2 w3⟩
        · have u5 : f_X7_clear_15 o (nI y) (g_u M (51 + o) 0 b) = some (nI y, M1) := by
            unfold f_X7_clear_15
            rw [Option.bind_some, show f_J7_fill_d0a16 o 0 (g_u (g_u M (51 + o) 0 b) (51 + o) 1 (nI y)) = some M1 from u1, Option.bind_some, k1]
          have u6 : f_X7_clear o b (nI zn) M = some (nI y, M1) := by
            rw [← u5]
            unfold f_X7_clear
            rw [Option.bind_some, ← hyz]
            split <;> rfl
          rw [hc]
          unfold f_X11_sheet_39
          rw [if_pos n0, if_pos n4, e_in ho (by omega), Option.bind_some, u6, Option.bind_some]
        · have w4 : ∀ z, z = nI y → ((g_st (g_u M1 73 o b) 74 4 (nI o) z).bind fun M4 => g_lp2 (F_X12_sheet_83 (fun (x1 : Int32) (M : g_M) => (g_ld M 74 4 x1).bind fun v6 => some (v6, M))) 20000000 (nI o) 0 M4) = some (nI y, M2) := by
            intro z hz
            rw [hz, e_st ho (by omega), Option.bind_some]
            refine Eq.trans w1 ?_
            rw [e_ld ho (by omega), Option.bind_some, k2]
          dsimp only
          rw [hm]
          unfold f_X12_sheet_35
          rw [if_pos n0, if_pos n4, e_st ho (by omega), Option.bind_some]
          by_cases c : b = 0
          · rw [if_pos c] at hyz ⊢
            exact w4 0 hyz
          · rw [if_neg c] at hyz ⊢
            exact w4 _ hyz
      by_cases c : b = 0
      · exact step 0 (by omega) (fun _ => rfl) (by rw [if_pos c]; rfl)
      · exact step zn hz (fun q => absurd q c) (by rw [if_neg c])
    · refine Op.t0 H ?_ ?_
      · rw [hc]
        unfold f_X11_sheet_39
        rw [if_pos n0, if_neg n4]
      · rw [hm]
        unfold f_X12_sheet_35
        rw [if_pos n0, if_neg n4]
  · refine Op.t6 H ?_ ?_
    · rw [hc]
      unfold f_X11_sheet_39
      rw [if_neg n0]
    · rw [hm]
      unfold f_X12_sheet_35
      rw [if_neg n0]
theorem op_sheet (H : Rel0 t n l m h c1 c2 c3 M) (x b z : Int32) : Op (f_X11_sheet x b z) (f_X12_sheet x b z) t M := by
  rcases ix x (n := 4) (by omega) with ho | ⟨o, ho, rfl⟩
  · refine Op.t0 H ?_ ?_
    · unfold f_X11_sheet
      rw [is_out ho, Option.bind_some, if_pos rfl]
      rfl
    · unfold f_X12_sheet
      rw [ms_out ho, Option.bind_some, if_pos rfl]
      rfl
  by_cases b0 : b = 0
  · refine sheet_ok H ho (Or.inl b0) z ?_ (fun M' => ?_)
    · unfold f_X11_sheet
      rw [is_in ho, Option.bind_some, if_neg (by decide), if_pos b0]
    · unfold f_X12_sheet
      rw [ms_in ho, Option.bind_some, if_neg (by decide), if_pos b0]
  by_cases b8 : b = 8
  · refine sheet_ok H ho (Or.inr (Or.inl b8)) z ?_ (fun M' => ?_)
    · unfold f_X11_sheet
      rw [is_in ho, Option.bind_some, if_neg (by decide), if_neg b0, if_pos b8]
    · unfold f_X12_sheet
      rw [ms_in ho, Option.bind_some, if_neg (by decide), if_neg b0, if_pos b8]
  by_cases b16 : b = 16
  · refine sheet_ok H ho (Or.inr (Or.inr (Or.inl b16))) z ?_ (fun M' => ?_)
    · unfold f_X11_sheet
      rw [is_in ho, Option.bind_some, if_neg (by decide), if_neg b0, if_neg b8, if_pos b16]
    · unfold f_X12_sheet
      rw [ms_in ho, Option.bind_some, if_neg (by decide), if_neg b0, if_neg b8, if_pos b16]
  by_cases b64 : b = 64
  · refine sheet_ok H ho (Or.inr (Or.inr (Or.inr b64))) z ?_ (fun M' => ?_)
    · unfold f_X11_sheet
      rw [is_in ho, Option.bind_some, if_neg (by decide), if_neg b0, if_neg b8, if_neg b16, if_pos b64]
    · unfold f_X12_sheet
      rw [ms_in ho, Option.bind_some, if_neg (by decide), if_neg b0, if_neg b8, if_neg b16, if_pos b64]
  · refine Op.t0 H ?_ ?_
    · unfold f_X11_sheet
      rw [is_in ho, Option.bind_some, if_neg (by decide), if_neg b0, if_neg b8, if_neg b16, if_neg b64]
      rfl
    · unfold f_X12_sheet
      rw [ms_in ho, Option.bind_some, if_neg (by decide), if_neg b0, if_neg b8, if_neg b16, if_neg b64]
      rfl
end OPSG
