theorem n_arrV {c : ClassId} {n : Nat} {f g : Nat → Value} (h : ∀ j, j < n → f j = g j) : arrV c n f = arrV c n g := by
  unfold arrV
  congr 1
  apply congrArg
  funext j
  exact h j.val j.isLt
/-- a row of references by its first n places -/
theorem n_rows {D : va_G} {H : Heap} {a n : Nat} {c : ClassId} {f g : Nat → Option Nat} (h : va_at D vwCl (a, .inl (c, n, .inr (.inr (.inr (.inr f))))) H) (e : ∀ j, j < n → f j = g j) : va_at D vwCl (a, .inl (c, n, .inr (.inr (.inr (.inr g))))) H := by
  have h1 : H[a]? = some (vp_cell c (n, .inr (.inr (.inr (.inr f))))) := h
  show H[a]? = some (vp_cell c (n, .inr (.inr (.inr (.inr g)))))
  rw [h1, vp_cell_q, vp_cell_q, n_arrV (fun j hj => by rw [e j hj])]
def pmL : List Nat := [0, 1, 2, 3, 4, 5, 6, 7, 27, 28, 29, 30, 31, 8, 9, 10, 11, 12, 13, 14, 15, 16, 17, 18, 19, 20, 21, 22, 23, 24, 25, 26, 32, 33, 34, 35, 39, 40, 41, 42, 43, 44, 45, 46, 47, 48, 49, 50, 51, 52, 53, 54, 56, 58, 60, 55, 57, 59, 61, 62, 63, 64, 65, 66, 67, 68, 69, 70, 71, 72, 73, 74, 75, 76, 77, 78, 79, 36, 37, 38]
theorem pm_inj : ∀ i, i < 80 → ∀ j, j < 80 → pmL.getD i 0 = pmL.getD j 0 → i = j := by decide +kernel
set_option maxRecDepth 20000 in
theorem n_world {D : va_G} {cy : Nat → ClassId} {h1 h2 : Nat} {w1 w2 : va_W} {H : Heap} {A : Nat → Prop} {S1 S2 : Nat → Nat} (a1 : at_X11 cy h1 w1) (a2 : at_X12 cy h2 w2) (hP : va_P D vwCl (w1 ++ w2) H) (hD : va_D A (w1 ++ w2)) : ∃ ad : Nat → Nat, ad 0 = h1 ∧ ad 59 = h2 ∧ g_inj (D, cy, ad, S1, S2) ∧ (∀ k, k < 80 → A (ad k)) ∧ va_P D vwCl (g_w (D, cy, ad, S1, S2) M0) H := by
  obtain ⟨q1, q2, q3, q4, q5, q6, q7, q8, q9, q10, q11, q12, q13, q14, q15, q16, q17, q18, q19, q20, q21, q22, q23, q24, q25, q26, q27, q28, q29, q30, q31, q32, q33, q34, q35, q36, q37, q38, q39, q40, q41, q42, q43, q44, q45, q46, q47, q48, q49, q50, q51, q52, q53, rfl⟩ := a1
  obtain ⟨r1, r2, r3, r4, r5, r6, r7, r8, r9, r10, r11, r12, r13, r14, r15, r16, r17, rfl⟩ := a2
  generalize hw : (_ ++ _ : va_W) = w at hP hD
  have key : ∀ k, k < 80 → ∃ e, w[pmL.getD k 0]? = some (([h1, q1, q2, q3, q4, q5, q6, q7, q19, q20, q21, q22, q23, q8, q9, q10, q10 + 1 + 0, q10 + 1 + 1, q10 + 1 + 2, q10 + 1 + 3, q10 + 1 + 4, q10 + 1 + 5, q10 + 1 + 6, q10 + 1 + 7, q11, q12, q13, q14, q15, q16, q17, q18, q24, q25, q26, q27, q31, q32, q33, q34, q35, q36, q37, q38, q39, q40, q41, q42, q43, q44, q45, q46, q48, q50, q52, q47, q49, q51, q53, h2, r1, r2, r3, r4, r5, r6, r7, r8, r9, r10, r11, r12, r13, r14, r15, r16, r17, q28, q29, q30] : List Nat).getD k 0, e) := by
    intro k hk
    rw [← hw]
    match k, hk with
    | 0, _ => exact ⟨_, rfl⟩
    | 1, _ => exact ⟨_, rfl⟩
    | 2, _ => exact ⟨_, rfl⟩
    | 3, _ => exact ⟨_, rfl⟩
    | 4, _ => exact ⟨_, rfl⟩
    | 5, _ => exact ⟨_, rfl⟩
    | 6, _ => exact ⟨_, rfl⟩
    | 7, _ => exact ⟨_, rfl⟩
    | 8, _ => exact ⟨_, rfl⟩
    | 9, _ => exact ⟨_, rfl⟩
    | 10, _ => exact ⟨_, rfl⟩
    | 11, _ => exact ⟨_, rfl⟩
    | 12, _ => exact ⟨_, rfl⟩
    | 13, _ => exact ⟨_, rfl⟩
    | 14, _ => exact ⟨_, rfl⟩
    | 15, _ => exact ⟨_, rfl⟩
    | 16, _ => exact ⟨_, rfl⟩
    | 17, _ => exact ⟨_, rfl⟩
    | 18, _ => exact ⟨_, rfl⟩
    | 19, _ => exact ⟨_, rfl⟩
    | 20, _ => exact ⟨_, rfl⟩
    | 21, _ => exact ⟨_, rfl⟩
    | 22, _ => exact ⟨_, rfl⟩
    | 23, _ => exact ⟨_, rfl⟩
    | 24, _ => exact ⟨_, rfl⟩
    | 25, _ => exact ⟨_, rfl⟩
    | 26, _ => exact ⟨_, rfl⟩
    | 27, _ => exact ⟨_, rfl⟩
    | 28, _ => exact ⟨_, rfl⟩
    | 29, _ => exact ⟨_, rfl⟩
    | 30, _ => exact ⟨_, rfl⟩
    | 31, _ => exact ⟨_, rfl⟩
    | 32, _ => exact ⟨_, rfl⟩
    | 33, _ => exact ⟨_, rfl⟩
    | 34, _ => exact ⟨_, rfl⟩
    | 35, _ => exact ⟨_, rfl⟩
    | 36, _ => exact ⟨_, rfl⟩
    | 37, _ => exact ⟨_, rfl⟩
    | 38, _ => exact ⟨_, rfl⟩
    | 39, _ => exact ⟨_, rfl⟩
    | 40, _ => exact ⟨_, rfl⟩
    | 41, _ => exact ⟨_, rfl⟩
    | 42, _ => exact ⟨_, rfl⟩
    | 43, _ => exact ⟨_, rfl⟩
    | 44, _ => exact ⟨_, rfl⟩
    | 45, _ => exact ⟨_, rfl⟩
    | 46, _ => exact ⟨_, rfl⟩
    | 47, _ => exact ⟨_, rfl⟩
    | 48, _ => exact ⟨_, rfl⟩
    | 49, _ => exact ⟨_, rfl⟩
    | 50, _ => exact ⟨_, rfl⟩
    | 51, _ => exact ⟨_, rfl⟩
    | 52, _ => exact ⟨_, rfl⟩
    | 53, _ => exact ⟨_, rfl⟩
    | 54, _ => exact ⟨_, rfl⟩
    | 55, _ => exact ⟨_, rfl⟩
    | 56, _ => exact ⟨_, rfl⟩
    | 57, _ => exact ⟨_, rfl⟩
    | 58, _ => exact ⟨_, rfl⟩
    | 59, _ => exact ⟨_, rfl⟩
    | 60, _ => exact ⟨_, rfl⟩
    | 61, _ => exact ⟨_, rfl⟩
    | 62, _ => exact ⟨_, rfl⟩
    | 63, _ => exact ⟨_, rfl⟩
    | 64, _ => exact ⟨_, rfl⟩
    | 65, _ => exact ⟨_, rfl⟩
    | 66, _ => exact ⟨_, rfl⟩
    | 67, _ => exact ⟨_, rfl⟩
    | 68, _ => exact ⟨_, rfl⟩
    | 69, _ => exact ⟨_, rfl⟩
    | 70, _ => exact ⟨_, rfl⟩
    | 71, _ => exact ⟨_, rfl⟩
    | 72, _ => exact ⟨_, rfl⟩
    | 73, _ => exact ⟨_, rfl⟩
    | 74, _ => exact ⟨_, rfl⟩
    | 75, _ => exact ⟨_, rfl⟩
    | 76, _ => exact ⟨_, rfl⟩
    | 77, _ => exact ⟨_, rfl⟩
    | 78, _ => exact ⟨_, rfl⟩
    | 79, _ => exact ⟨_, rfl⟩
    | n + 80, h => exact absurd h (by omega)
  refine ⟨fun k => ([h1, q1, q2, q3, q4, q5, q6, q7, q19, q20, q21, q22, q23, q8, q9, q10, q10 + 1 + 0, q10 + 1 + 1, q10 + 1 + 2, q10 + 1 + 3, q10 + 1 + 4, q10 + 1 + 5, q10 + 1 + 6, q10 + 1 + 7, q11, q12, q13, q14, q15, q16, q17, q18, q24, q25, q26, q27, q31, q32, q33, q34, q35, q36, q37, q38, q39, q40, q41, q42, q43, q44, q45, q46, q48, q50, q52, q47, q49, q51, q53, h2, r1, r2, r3, r4, r5, r6, r7, r8, r9, r10, r11, r12, r13, r14, r15, r16, r17, q28, q29, q30] : List Nat).getD k 0, rfl, rfl, fun i j hi hj e => ?_, fun k hk => ?_, fun k x hx => ?_⟩
  · obtain ⟨e1, k1⟩ := key i hi
    obtain ⟨e2, k2⟩ := key j hj
    exact pm_inj i hi j hj (hD.1 _ _ _ _ k1 k2 e)
  · obtain ⟨e1, k1⟩ := key k hk
    exact hD.2 _ _ k1
  · have hk : k < 80 := by
      have h := (List.getElem?_eq_some_iff.mp hx).1
      rwa [g_w_len] at h
    rw [g_w_at hk] at hx
    cases hx
    rw [← hw] at hP
    match k, hk with
    | 0, _ => exact hP 0 _ rfl
    | 1, _ => exact hP 1 _ rfl
    | 2, _ => exact hP 2 _ rfl
    | 3, _ => exact hP 3 _ rfl
    | 4, _ => exact hP 4 _ rfl
    | 5, _ => exact hP 5 _ rfl
    | 6, _ => exact hP 6 _ rfl
    | 7, _ => exact hP 7 _ rfl
    | 8, _ => exact hP 27 _ rfl
    | 9, _ => exact hP 28 _ rfl
    | 10, _ => exact hP 29 _ rfl
    | 11, _ => exact hP 30 _ rfl
    | 12, _ => exact hP 31 _ rfl
    | 13, _ => exact hP 8 _ rfl
    | 14, _ => exact hP 9 _ rfl
    | 15, _ => exact n_rows (hP 10 _ rfl) (fun j hj => by rcases (show j = 0 ∨ j = 1 ∨ j = 2 ∨ j = 3 ∨ j = 4 ∨ j = 5 ∨ j = 6 ∨ j = 7 by omega) with rfl | rfl | rfl | rfl | rfl | rfl | rfl | rfl <;> rfl)
    | 16, _ => exact hP 11 _ rfl
    | 17, _ => exact hP 12 _ rfl
    | 18, _ => exact hP 13 _ rfl
    | 19, _ => exact hP 14 _ rfl
    | 20, _ => exact hP 15 _ rfl
    | 21, _ => exact hP 16 _ rfl
    | 22, _ => exact hP 17 _ rfl
    | 23, _ => exact hP 18 _ rfl
    | 24, _ => exact hP 19 _ rfl
    | 25, _ => exact hP 20 _ rfl
    | 26, _ => exact hP 21 _ rfl
    | 27, _ => exact hP 22 _ rfl
    | 28, _ => exact hP 23 _ rfl
    | 29, _ => exact hP 24 _ rfl
    | 30, _ => exact hP 25 _ rfl
    | 31, _ => exact hP 26 _ rfl
    | 32, _ => exact hP 32 _ rfl
    | 33, _ => exact hP 33 _ rfl
    | 34, _ => exact hP 34 _ rfl
    | 35, _ => exact hP 35 _ rfl
    | 36, _ => exact hP 39 _ rfl
    | 37, _ => exact hP 40 _ rfl
    | 38, _ => exact hP 41 _ rfl
    | 39, _ => exact hP 42 _ rfl
    | 40, _ => exact hP 43 _ rfl
    | 41, _ => exact hP 44 _ rfl
    | 42, _ => exact hP 45 _ rfl
    | 43, _ => exact hP 46 _ rfl
    | 44, _ => exact hP 47 _ rfl
    | 45, _ => exact hP 48 _ rfl
    | 46, _ => exact hP 49 _ rfl
    | 47, _ => exact hP 50 _ rfl
    | 48, _ => exact hP 51 _ rfl
    | 49, _ => exact hP 52 _ rfl
    | 50, _ => exact n_rows (hP 53 _ rfl) (fun j hj => by rcases (show j = 0 ∨ j = 1 ∨ j = 2 ∨ j = 3 by omega) with rfl | rfl | rfl | rfl <;> rfl)
    | 51, _ => exact hP 54 _ rfl
    | 52, _ => exact hP 56 _ rfl
    | 53, _ => exact hP 58 _ rfl
    | 54, _ => exact hP 60 _ rfl
    | 55, _ => exact hP 55 _ rfl
    | 56, _ => exact hP 57 _ rfl
    | 57, _ => exact hP 59 _ rfl
    | 58, _ => exact hP 61 _ rfl
    | 59, _ => exact hP 62 _ rfl
    | 60, _ => exact hP 63 _ rfl
    | 61, _ => exact hP 64 _ rfl
    | 62, _ => exact hP 65 _ rfl
    | 63, _ => exact hP 66 _ rfl
    | 64, _ => exact hP 67 _ rfl
    | 65, _ => exact hP 68 _ rfl
    | 66, _ => exact hP 69 _ rfl
    | 67, _ => exact hP 70 _ rfl
    | 68, _ => exact hP 71 _ rfl
    | 69, _ => exact hP 72 _ rfl
    | 70, _ => exact hP 73 _ rfl
    | 71, _ => exact hP 74 _ rfl
    | 72, _ => exact hP 75 _ rfl
    | 73, _ => exact hP 76 _ rfl
    | 74, _ => exact hP 77 _ rfl
    | 75, _ => exact hP 78 _ rfl
    | 76, _ => exact hP 79 _ rfl
    | 77, _ => exact hP 36 _ rfl
    | 78, _ => exact hP 37 _ rfl
    | 79, _ => exact hP 38 _ rfl
    | n + 80, h => exact absurd h (by omega)
