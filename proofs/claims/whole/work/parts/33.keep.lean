def SC : List Nat := [35, 42, 44, 45, 47, 48, 49, 64, 65, 66, 67, 68, 69, 70, 71, 72, 76, 77, 78, 79]
def ST : List (Nat × Nat) := [(32, 2), (32, 3), (32, 4), (32, 5), (32, 6), (32, 7), (41, 1), (41, 2), (43, 1), (46, 3), (46, 4), (59, 6), (59, 7), (59, 8), (59, 9), (59, 10), (59, 11), (59, 12), (59, 13), (59, 14), (59, 15), (59, 16), (59, 26)]
theorem X_T.cong {d : Nat → Int32} {m : Nat} {o0 o1 : Int32} {ln : Nat → Int32} {cd cd' : Nat → Nat → Int32} (h : X_T d m o0 o1 ln cd) (e : ∀ t, t < m → cd' t = cd t) : X_T d m o0 o1 ln cd' := by
  refine ⟨h.1, h.2.1, fun t ht L c hL h1 h2 => ?_⟩
  rw [e t ht]
  exact h.2.2 t ht L c hL h1 h2
def g_ok (S : List Nat) (T : List (Nat × Nat)) (rows : List Nat) (flds : List (Nat × Nat)) : Bool := rows.all (fun k => !S.contains k && T.all (fun q => q.1 != k)) && flds.all (fun q => !S.contains q.1 && !T.contains q)
theorem g_ok.row {S : List Nat} {T : List (Nat × Nat)} {rows : List Nat} {flds : List (Nat × Nat)} (h : g_ok S T rows flds = true) {M M' : g_M} (fr : g_fr S T M M') {k : Nat} (hk : k ∈ rows) : M'.1 k = M.1 k ∧ M'.2 k = M.2 k := by
  unfold g_ok at h
  rw [Bool.and_eq_true] at h
  have h1 := List.all_eq_true.mp h.1 k hk
  rw [Bool.and_eq_true] at h1
  refine fr.row (fun z => ?_) (fun q hq e => ?_)
  · simp [z] at h1
  · have := List.all_eq_true.mp h1.2 q hq
    simp [e] at this
theorem g_ok.at {S : List Nat} {T : List (Nat × Nat)} {rows : List Nat} {flds : List (Nat × Nat)} (h : g_ok S T rows flds = true) {M M' : g_M} (fr : g_fr S T M M') {k i : Nat} (hk : (k, i) ∈ flds) : M'.1 k i = M.1 k i := by
  unfold g_ok at h
  rw [Bool.and_eq_true] at h
  have h1 := List.all_eq_true.mp h.2 (k, i) hk
  rw [Bool.and_eq_true] at h1
  refine fr.at (fun z => ?_) (fun z => ?_)
  · simp [z] at h1
  · have := h1.2
    simp [z] at this
theorem keep1 {h l m n : Nat} {M M' : g_M} {S : List Nat} {T : List (Nat × Nat)} (fr : g_fr S T M M') (hk : g_ok S T [60] [] = true) (H : W_D (M.1 60) n l m h) : W_D (M'.1 60) n l m h := by
  rw [(g_ok.row hk fr (k := 60) (by decide)).1]
  exact H
theorem keep2 {l n : Nat} {M M' : g_M} {S : List Nat} {T : List (Nat × Nat)} (fr : g_fr S T M M') (hk : g_ok S T [60, 4, 5, 6, 7] [(3, 0), (3, 1), (3, 2)] = true) (H : X_E (M.1 60) n l (M.1 3 0) (M.1 3 1) (M.1 3 2) (M.1 4) (M.1 5) (M.1 6) (M.1 7)) : X_E (M'.1 60) n l (M'.1 3 0) (M'.1 3 1) (M'.1 3 2) (M'.1 4) (M'.1 5) (M'.1 6) (M'.1 7) := by
  rw [(g_ok.row hk fr (k := 60) (by decide)).1, g_ok.at hk fr (k := 3) (i := 0) (by decide), g_ok.at hk fr (k := 3) (i := 1) (by decide), g_ok.at hk fr (k := 3) (i := 2) (by decide), (g_ok.row hk fr (k := 4) (by decide)).1, (g_ok.row hk fr (k := 5) (by decide)).1, (g_ok.row hk fr (k := 6) (by decide)).1, (g_ok.row hk fr (k := 7) (by decide)).1]
  exact H
theorem keep3 {h : Nat} {M M' : g_M} {S : List Nat} {T : List (Nat × Nat)} (fr : g_fr S T M M') (hk : g_ok S T [60, 25, 26, 27, 28, 29, 30, 31] [(24, 0)] = true) (H : X_H (M.1 60) h (M.1 24 0) (M.1 25) (M.1 26) (M.1 27) (M.1 28) (M.1 29) (M.1 30) (M.1 31)) : X_H (M'.1 60) h (M'.1 24 0) (M'.1 25) (M'.1 26) (M'.1 27) (M'.1 28) (M'.1 29) (M'.1 30) (M'.1 31) := by
  rw [(g_ok.row hk fr (k := 60) (by decide)).1, g_ok.at hk fr (k := 24) (i := 0) (by decide), (g_ok.row hk fr (k := 25) (by decide)).1, (g_ok.row hk fr (k := 26) (by decide)).1, (g_ok.row hk fr (k := 27) (by decide)).1, (g_ok.row hk fr (k := 28) (by decide)).1, (g_ok.row hk fr (k := 29) (by decide)).1, (g_ok.row hk fr (k := 30) (by decide)).1, (g_ok.row hk fr (k := 31) (by decide)).1]
  exact H
theorem keep5 {h m : Nat} {M M' : g_M} {S : List Nat} {T : List (Nat × Nat)} (fr : g_fr S T M M') (hk : g_ok S T [60, 61, 9, 10, 11, 12] [(59, 2), (0, 4), (0, 6), (0, 7), (0, 8), (8, 0), (8, 1), (8, 2)] = true) (H : X_K (M.1 60) (M.1 61) m h (M.1 59 2) (M.1 0 4) (M.1 0 6) (M.1 0 7) (M.1 0 8) (M.1 8 0) (M.1 8 1) (M.1 8 2) (M.1 9) (M.1 10) (M.1 11) (M.1 12)) : X_K (M'.1 60) (M'.1 61) m h (M'.1 59 2) (M'.1 0 4) (M'.1 0 6) (M'.1 0 7) (M'.1 0 8) (M'.1 8 0) (M'.1 8 1) (M'.1 8 2) (M'.1 9) (M'.1 10) (M'.1 11) (M'.1 12) := by
  rw [(g_ok.row hk fr (k := 60) (by decide)).1, (g_ok.row hk fr (k := 61) (by decide)).1, g_ok.at hk fr (k := 59) (i := 2) (by decide), g_ok.at hk fr (k := 0) (i := 4) (by decide), g_ok.at hk fr (k := 0) (i := 6) (by decide), g_ok.at hk fr (k := 0) (i := 7) (by decide), g_ok.at hk fr (k := 0) (i := 8) (by decide), g_ok.at hk fr (k := 8) (i := 0) (by decide), g_ok.at hk fr (k := 8) (i := 1) (by decide), g_ok.at hk fr (k := 8) (i := 2) (by decide), (g_ok.row hk fr (k := 9) (by decide)).1, (g_ok.row hk fr (k := 10) (by decide)).1, (g_ok.row hk fr (k := 11) (by decide)).1, (g_ok.row hk fr (k := 12) (by decide)).1]
  exact H
theorem keep6 {M M' : g_M} {S : List Nat} {T : List (Nat × Nat)} (fr : g_fr S T M M') (hk : g_ok S T [34, 62] [(33, 1), (59, 4)] = true) (H : X_P (M.1 33 1) (M.1 59 4) (M.1 34) (M.1 62)) : X_P (M'.1 33 1) (M'.1 59 4) (M'.1 34) (M'.1 62) := by
  rw [g_ok.at hk fr (k := 33) (i := 1) (by decide), g_ok.at hk fr (k := 59) (i := 4) (by decide), (g_ok.row hk fr (k := 34) (by decide)).1, (g_ok.row hk fr (k := 62) (by decide)).1]
  exact H
theorem keep7 {t : Nat} {M M' : g_M} {S : List Nat} {T : List (Nat × Nat)} (fr : g_fr S T M M') (hk : g_ok S T [2, 63] [(1, 1)] = true) (H : X_F t (M.1 1 1) (M.1 2) (M.1 63)) : X_F t (M'.1 1 1) (M'.1 2) (M'.1 63) := by
  rw [g_ok.at hk fr (k := 1) (i := 1) (by decide), (g_ok.row hk fr (k := 2) (by decide)).1, (g_ok.row hk fr (k := 63) (by decide)).1]
  exact H
theorem keep9 {c1 c2 c3 t : Nat} {M M' : g_M} {S : List Nat} {T : List (Nat × Nat)} (fr : g_fr S T M M') (hk : g_ok S T [] [(3, 3), (13, 2), (24, 1)] = true) (H : X_C t (M.1 3 3) (M.1 13 2) (M.1 24 1) c1 c2 c3) : X_C t (M'.1 3 3) (M'.1 13 2) (M'.1 24 1) c1 c2 c3 := by
  rw [g_ok.at hk fr (k := 3) (i := 3) (by decide), g_ok.at hk fr (k := 13) (i := 2) (by decide), g_ok.at hk fr (k := 24) (i := 1) (by decide)]
  exact H
theorem keep10 {cc h n : Nat} {M M' : g_M} {S : List Nat} {T : List (Nat × Nat)} (fr : g_fr S T M M') (hk : g_ok S T [60, 37, 38] [(36, 2)] = true) (H : X_O (M.1 60) n h cc (M.1 36 2) (M.1 37) (M.2 38)) : X_O (M'.1 60) n h cc (M'.1 36 2) (M'.1 37) (M'.2 38) := by
  rw [(g_ok.row hk fr (k := 60) (by decide)).1, g_ok.at hk fr (k := 36) (i := 2) (by decide), (g_ok.row hk fr (k := 37) (by decide)).1, (g_ok.row hk fr (k := 38) (by decide)).2]
  exact H
theorem keep11 {cc n : Nat} {M M' : g_M} {S : List Nat} {T : List (Nat × Nat)} (fr : g_fr S T M M') (hk : g_ok S T [60, 40] [(39, 1), (39, 2)] = true) (H : X_A (M.1 60) n cc (M.1 39 1) (M.1 39 2) (M.1 40)) : X_A (M'.1 60) n cc (M'.1 39 1) (M'.1 39 2) (M'.1 40) := by
  rw [(g_ok.row hk fr (k := 60) (by decide)).1, g_ok.at hk fr (k := 39) (i := 1) (by decide), g_ok.at hk fr (k := 39) (i := 2) (by decide), (g_ok.row hk fr (k := 40) (by decide)).1]
  exact H
theorem keep4 {m : Nat} {M M' : g_M} {S : List Nat} {T : List (Nat × Nat)} (fr : g_fr S T M M') (hk : g_ok S T [60, 14, 16, 17, 18, 19, 20, 21, 22, 23] [(13, 0), (13, 1)] = true) (hm : m ≤ 8) (H : X_T (M.1 60) m (M.1 13 0) (M.1 13 1) (M.1 14) (fun t => M.1 (16 + t))) : X_T (M'.1 60) m (M'.1 13 0) (M'.1 13 1) (M'.1 14) (fun t => M'.1 (16 + t)) := by
  rw [(g_ok.row hk fr (k := 60) (by decide)).1, g_ok.at hk fr (k := 13) (i := 0) (by decide), g_ok.at hk fr (k := 13) (i := 1) (by decide), (g_ok.row hk fr (k := 14) (by decide)).1]
  refine H.cong (fun q hq => (g_ok.row hk fr (k := 16 + q) ?_).1)
  have hq8 : q < 8 := by omega
  revert hq8
  clear hq
  revert q
  decide
theorem keep8 {M M' : g_M} {S : List Nat} {T : List (Nat × Nat)} (fr : g_fr S T M M') (hk : g_ok S T [73, 74, 75, 55, 56, 57, 58] [(51, 0), (51, 1), (52, 0), (52, 1), (53, 0), (53, 1), (54, 0), (54, 1)] = true) (H : X_S M) : X_S M' := by
  intro q hq
  have h9 := H q hq
  rw [(g_ok.row hk fr (k := 73) (by decide)).1, (g_ok.row hk fr (k := 74) (by decide)).1, (g_ok.row hk fr (k := 75) (by decide)).2]
  rcases (show q = 0 ∨ q = 1 ∨ q = 2 ∨ q = 3 by omega) with rfl | rfl | rfl | rfl
  · rw [g_ok.at hk fr (k := 51 + 0) (i := 0) (by decide), g_ok.at hk fr (k := 51 + 0) (i := 1) (by decide), (g_ok.row hk fr (k := 55 + 0) (by decide)).2]; exact h9
  · rw [g_ok.at hk fr (k := 51 + 1) (i := 0) (by decide), g_ok.at hk fr (k := 51 + 1) (i := 1) (by decide), (g_ok.row hk fr (k := 55 + 1) (by decide)).2]; exact h9
  · rw [g_ok.at hk fr (k := 51 + 2) (i := 0) (by decide), g_ok.at hk fr (k := 51 + 2) (i := 1) (by decide), (g_ok.row hk fr (k := 55 + 2) (by decide)).2]; exact h9
  · rw [g_ok.at hk fr (k := 51 + 3) (i := 0) (by decide), g_ok.at hk fr (k := 51 + 3) (i := 1) (by decide), (g_ok.row hk fr (k := 55 + 3) (by decide)).2]; exact h9
/-- what only scratch cells tell apart is alike -/
theorem Rel0.keep {t n l m h c1 c2 c3 : Nat} {M M' : g_M} (H : Rel0 t n l m h c1 c2 c3 M) {S : List Nat} {T : List (Nat × Nat)} (fr0 : g_fr S T M M') (hS : ∀ k ∈ S, k ∈ SC) (hT : ∀ q ∈ T, q ∈ ST) : Rel0 t n l m h c1 c2 c3 M' := by
  have fr := fr0.mono hS hT
  obtain ⟨h1, h2, h3, h4, h5, h6, h7, h8, h9, h10, h11⟩ := H
  exact ⟨keep1 fr (by decide) h1, keep2 fr (by decide) h2, keep3 fr (by decide) h3, keep4 fr (by decide) h1.2.2.1 h4, keep5 fr (by decide) h5, keep6 fr (by decide) h6, keep7 fr (by decide) h7, keep8 fr (by decide) h8, keep9 fr (by decide) h9, keep10 fr (by decide) h10, keep11 fr (by decide) h11⟩
theorem X_F.mono {t t' : Nat} {a : Int32} {x y : Nat → Int32} (h : X_F t a x y) (ht : t ≤ t') : X_F t' a x y := by
  obtain ⟨f, h1, h2, h3⟩ := h
  exact ⟨f, h1, h2, by omega⟩
theorem X_C.mono {t t' : Nat} {x1 x2 x3 : Int32} {c1 c2 c3 : Nat} (h : X_C t x1 x2 x3 c1 c2 c3) (ht : t ≤ t') : X_C t' x1 x2 x3 c1 c2 c3 := by
  obtain ⟨a, b, c, d, e, f⟩ := h
  exact ⟨a, b, c, by omega, by omega, by omega⟩
theorem Rel0.mono {t t' n l m h c1 c2 c3 : Nat} {M : g_M} (H : Rel0 t n l m h c1 c2 c3 M) (ht : t ≤ t') : Rel0 t' n l m h c1 c2 c3 M := by
  obtain ⟨h1, h2, h3, h4, h5, h6, h7, h8, h9, h10, h11⟩ := H
  exact ⟨h1, h2, h3, h4, h5, h6, h7.mono ht, h8, h9.mono ht, h10, h11⟩
/-! ===== findings ===== -/
def tellM (c : Nat) (M : g_M) : g_M := g_u (g_u M 2 c (M.1 2 c + 1)) 1 1 ((g_u M 2 c (M.1 2 c + 1)).1 1 1 + 1)
def findM (c : Nat) (M : g_M) : g_M := g_u M 63 c (M.1 63 c + 1)
theorem tell_eq {c : Nat} (hc : c < 7) {x : Int32} (hx : (-1000000001) - x = nI c) (M : g_M) : f_X2_tell x M = some (x, tellM c M) := by
  unfold f_X2_tell
  rw [hx, if_neg (nI_pos (by omega)), if_neg (by rw [show (7 : Int32) = nI 7 from rfl, nI_leI (by omega) (by omega)]; omega), e_ld (by omega) (by omega), Option.bind_some, e_st (by omega) (by omega)]
  rfl
theorem find_eq {c : Nat} (hc : c < 7) (M : g_M) : f_X12_finding (nI c) M = some ((-1000000001) - nI c, findM c M) := by
  unfold f_X12_finding
  rw [e_ld (by omega) (by omega), Option.bind_some, e_st (by omega) (by omega)]
  rfl
theorem tell_fr {c : Nat} {M : g_M} : g_fr [2, 63] [(1, 1)] M (findM c (tellM c M)) := by
  intro k i a b
  simp only [findM, tellM, g_u_at, g_row_2]
  refine ⟨?_, trivial⟩
  rw [if_neg (by rintro ⟨rfl, -⟩; exact a (by decide)), if_neg (by rintro ⟨rfl, rfl⟩; exact b (by decide)), if_neg (by rintro ⟨rfl, -⟩; exact a (by decide))]
theorem X_F.tell {t : Nat} {a : Int32} {x y : Nat → Int32} (h : X_F t a x y) {c : Nat} (hc : c < 7) : X_F (t + 1) (a + 1) (upd x c (x c + 1)) (upd y c (y c + 1)) := by
  obtain ⟨f, h1, h2, h3⟩ := h
  refine ⟨fun k => if k = c then f k + 1 else f k, fun k hk => ?_, ?_, ?_⟩
  · by_cases e : k = c
    · subst e
      dsimp only
      rw [upd_eq, upd_eq, if_pos rfl, (h1 k hk).1, (h1 k hk).2, nI_1]
      exact ⟨rfl, rfl⟩
    · dsimp only
      rw [upd_ne e, upd_ne e, if_neg e]
      exact h1 k hk
  · rw [h2, nI_1]
    congr 1
    rcases (show c = 0 ∨ c = 1 ∨ c = 2 ∨ c = 3 ∨ c = 4 ∨ c = 5 ∨ c = 6 by omega) with rfl | rfl | rfl | rfl | rfl | rfl | rfl <;> simp <;> omega
  · rcases (show c = 0 ∨ c = 1 ∨ c = 2 ∨ c = 3 ∨ c = 4 ∨ c = 5 ∨ c = 6 by omega) with rfl | rfl | rfl | rfl | rfl | rfl | rfl <;> simp <;> omega
theorem Rel0.tell {t n l m h c1 c2 c3 : Nat} {M : g_M} (H : Rel0 t n l m h c1 c2 c3 M) {c : Nat} (hc : c < 7) : Rel0 (t + 1) n l m h c1 c2 c3 (findM c (tellM c M)) := by
  have fr := tell_fr (c := c) (M := M)
  obtain ⟨h1, h2, h3, h4, h5, h6, h7, h8, h9, h10, h11⟩ := H
  exact ⟨keep1 fr (by decide) h1, keep2 fr (by decide) h2, keep3 fr (by decide) h3, keep4 fr (by decide) h1.2.2.1 h4, keep5 fr (by decide) h5, keep6 fr (by decide) h6, h7.tell hc, keep8 fr (by decide) h8, (keep9 fr (by decide) h9).mono (by omega), keep10 fr (by decide) h10, keep11 fr (by decide) h11⟩
/-- what a step's row says: both answer alike, and the relation holds behind it -/
def RE (t : Nat) (M : g_M) : Prop := ∃ n l m h c1 c2 c3 : Nat, Rel0 t n l m h c1 c2 c3 M
def Op (a b : g_M → Option (Int32 × g_M)) (t : Nat) (M : g_M) : Prop := ∃ p1 p2, a M = some p1 ∧ b p1.2 = some p2 ∧ p1.1 = p2.1 ∧ RE (t + 1) p2.2
/-- both tell the same finding, perhaps behind some scratch work -/
theorem Op.tell {a b : g_M → Option (Int32 × g_M)} {t n l m h c1 c2 c3 : Nat} {M M1 : g_M} (H : Rel0 t n l m h c1 c2 c3 M1) {c : Nat} (hc : c < 7) (ha : a M = some ((-1000000001) - nI c, tellM c M1)) (hb : b (tellM c M1) = some ((-1000000001) - nI c, findM c (tellM c M1))) : Op a b t M :=
  ⟨_, _, ha, hb, rfl, _, _, _, _, _, _, _, H.tell hc⟩
