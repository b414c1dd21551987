section NEXTM
variable {b : Nat → Int32} {L : Nat} {M : g_M} {t : s_T}
/-- the model's token against the spec's -/
def MK (b : Nat → Int32) (m v : Int32) (t : s_T) : Prop := (m = 0 ↔ t.2.2.1 = 0) ∧ (∀ j, j < 11 → ((m = 1 ∧ s_is b t.1 t.2.1 j = true) ↔ t.2.2.1 = nI (7 + j))) ∧ ((m = 3 ∧ v = 40) ↔ t.2.2.1 = 3) ∧ ((m = 3 ∧ v = 41) ↔ t.2.2.1 = 4) ∧ ((m = 3 ∧ v = 91) ↔ t.2.2.1 = 5) ∧ ((m = 3 ∧ v = 93) ↔ t.2.2.1 = 6) ∧ (t.2.2.1 = 2 → m = 2 ∧ v = t.2.2.2 ∧ ∃ q, q ≤ 99 ∧ t.2.2.2 = nI q) ∧ (t.2.2.1 ≠ 2 → m = 2 → 99 < v)
def MT (b : Nat → Int32) (L : Nat) (M : g_M) (t : s_T) : Prop := M.1 59 12 = nI t.1 ∧ M.1 59 13 = nI t.2.1 ∧ MK b (M.1 59 11) (M.1 59 14) t
theorem word_1 : ∀ j, j < 11 → ∀ i, i < 11 → g_slen.getD j 0 = g_slen.getD i 0 → (∀ k, k < g_slen.getD j 0 → (g_sbyt.getD j []).getD k 0 = (g_sbyt.getD i []).getD k 0) → j = i := by decide +kernel
theorem s_is_1 {s e j : Nat} : s_is b s e j = true ↔ e - s = g_slen.getD j 0 ∧ ∀ k, k < g_slen.getD j 0 → b (s + k) = (g_sbyt.getD j []).getD k 0 := by
  unfold s_is
  rw [Bool.and_eq_true, decide_eq_true_eq, List.all_eq_true]
  constructor
  · rintro ⟨h1, h2⟩
    exact ⟨h1, fun k hk => beq_iff_eq.mp (h2 k (List.mem_range.mpr hk))⟩
  · rintro ⟨h1, h2⟩
    exact ⟨h1, fun k hk => beq_iff_eq.mpr (h2 k (List.mem_range.mp hk))⟩
theorem s_is_u {s e j i : Nat} (hj : j < 11) (hi : i < 11) (h1 : s_is b s e j = true) (h2 : s_is b s e i = true) : j = i := by
  rw [s_is_1] at h1 h2
  refine word_1 j hj i hi (h1.1.symm.trans h2.1) (fun k hk => ?_)
  rw [← h1.2 k hk, h2.2 k (by rw [← h2.1, h1.1]; exact hk)]
theorem wrdF_r {s e : Nat} : ∀ l : List Nat, s_wrdF b s e l = 1 ∨ ∃ j, j ∈ l ∧ s_is b s e j = true ∧ s_wrdF b s e l = nI (7 + j)
  | [] => Or.inl rfl
  | j :: l => by
    unfold s_wrdF
    cases c : s_is b s e j
    · rw [if_neg (by decide)]
      rcases wrdF_r l with h | ⟨i, h1, h2, h3⟩
      · exact Or.inl h
      · exact Or.inr ⟨i, List.mem_cons_of_mem _ h1, h2, h3⟩
    · rw [if_pos rfl]
      exact Or.inr ⟨j, List.mem_cons_self, c, rfl⟩
theorem wrdF_m {s e j : Nat} (hj : j < 11) (h : s_is b s e j = true) : ∀ l : List Nat, (∀ i ∈ l, i < 11) → j ∈ l → s_wrdF b s e l = nI (7 + j)
  | [], _, hm => by cases hm
  | i :: l, hl, hm => by
    unfold s_wrdF
    cases c : s_is b s e i
    · rw [if_neg (by decide)]
      refine wrdF_m hj h l (fun k hk => hl k (List.mem_cons_of_mem _ hk)) ?_
      rcases List.mem_cons.mp hm with rfl | q
      · rw [h] at c
        exact absurd c (by decide)
      · exact q
    · rw [if_pos rfl, s_is_u (hl i List.mem_cons_self) hj c h]
theorem mem11 : ∀ j, j < 11 → j ∈ [0, 1, 2, 3, 4, 5, 6, 7, 8, 9, 10] := by decide
theorem mem11' : ∀ j, j ∈ [0, 1, 2, 3, 4, 5, 6, 7, 8, 9, 10] → j < 11 := by decide
theorem wrd_iff {s e j : Nat} (hj : j < 11) : s_is b s e j = true ↔ s_wrd b s e = nI (7 + j) := by
  unfold s_wrd
  constructor
  · intro h
    exact wrdF_m hj h _ mem11' (mem11 j hj)
  · intro h
    rcases wrdF_r (b := b) (s := s) (e := e) [0, 1, 2, 3, 4, 5, 6, 7, 8, 9, 10] with q | ⟨i, h1, h2, h3⟩
    · rw [q] at h
      have := nI_inj (a := 1) (by omega) (by omega) h
      omega
    · rw [h3] at h
      have hi := mem11' i h1
      have := nI_inj (by omega) (by omega) h
      rw [show j = i by omega]
      exact h2
theorem wrd_no {s e : Nat} {x : Int32} (hx : x = 0 ∨ x = 2 ∨ x = 3 ∨ x = 4 ∨ x = 5 ∨ x = 6) : ¬ s_wrd b s e = x := by
  unfold s_wrd
  rcases wrdF_r (b := b) (s := s) (e := e) [0, 1, 2, 3, 4, 5, 6, 7, 8, 9, 10] with q | ⟨i, h1, h2, h3⟩
  · rw [q]
    rcases hx with rfl | rfl | rfl | rfl | rfl | rfl <;> decide
  · rw [h3]
    have hi := mem11' i h1
    clear h3 h2 h1
    revert i
    rcases hx with rfl | rfl | rfl | rfl | rfl | rfl <;> decide
theorem no_w {x : Int32} (hx : x = 0 ∨ x = 1 ∨ x = 2 ∨ x = 3 ∨ x = 4 ∨ x = 5 ∨ x = 6) {j : Nat} (hj : j < 11) : ¬ x = nI (7 + j) := by
  revert j
  rcases hx with rfl | rfl | rfl | rfl | rfl | rfl | rfl <;> decide
theorem MK_end {s : Nat} {v : Int32} : MK b 0 v (s, s, 0, 0) :=
  ⟨⟨fun _ => rfl, fun _ => rfl⟩, fun j hj => ⟨fun q => absurd q.1 (by decide), fun q => absurd q (no_w (Or.inl rfl) hj)⟩, ⟨fun q => absurd q.1 (by decide), fun q => Bool.noConfusion (show false = true from absurd q (show ¬ (0 : Int32) = 3 by decide))⟩, ⟨fun q => absurd q.1 (by decide), fun q => absurd q (show ¬ (0 : Int32) = 4 by decide)⟩, ⟨fun q => absurd q.1 (by decide), fun q => absurd q (show ¬ (0 : Int32) = 5 by decide)⟩, ⟨fun q => absurd q.1 (by decide), fun q => absurd q (show ¬ (0 : Int32) = 6 by decide)⟩, fun q => absurd q (show ¬ (0 : Int32) = 2 by decide), fun _ q => absurd q (by decide)⟩
theorem MK_word {s e : Nat} {v : Int32} : MK b 1 v (s, e, s_wrd b s e, 0) :=
  ⟨⟨fun q => absurd q (by decide), fun q => absurd q (wrd_no (Or.inl rfl))⟩, fun j hj => ⟨fun q => (wrd_iff hj).mp q.2, fun q => ⟨rfl, (wrd_iff hj).mpr q⟩⟩, ⟨fun q => absurd q.1 (by decide), fun q => absurd q (wrd_no (by decide))⟩, ⟨fun q => absurd q.1 (by decide), fun q => absurd q (wrd_no (by decide))⟩, ⟨fun q => absurd q.1 (by decide), fun q => absurd q (wrd_no (by decide))⟩, ⟨fun q => absurd q.1 (by decide), fun q => absurd q (wrd_no (by decide))⟩, fun q => absurd q (wrd_no (by decide)), fun _ q => absurd q (by decide)⟩
theorem MK_num {s e : Nat} {v w : Int32} (h : nR v w) : MK b 2 w (s, e, (if v ≤ 99 then 2 else 1), v) := by
  have k : (if v ≤ 99 then 2 else 1 : Int32) = 2 ∨ (if v ≤ 99 then 2 else 1 : Int32) = 1 := by
    split
    · exact Or.inl rfl
    · exact Or.inr rfl
  have ne : ∀ x : Int32, x ≠ 2 → x ≠ 1 → ¬ (if v ≤ 99 then 2 else 1 : Int32) = x := fun x h2 h1 q => by
    rcases k with k | k <;> rw [k] at q
    · exact h2 q.symm
    · exact h1 q.symm
  refine ⟨⟨fun q => absurd q (by decide), fun q => absurd q (ne 0 (by decide) (by decide))⟩, fun j hj => ⟨fun q => absurd q.1 (by decide), fun q => absurd q (ne _ (fun z => no_w (x := 2) (by decide) hj z.symm) (fun z => no_w (x := 1) (by decide) hj z.symm))⟩, ⟨fun q => absurd q.1 (by decide), fun q => absurd q (ne 3 (by decide) (by decide))⟩, ⟨fun q => absurd q.1 (by decide), fun q => absurd q (ne 4 (by decide) (by decide))⟩, ⟨fun q => absurd q.1 (by decide), fun q => absurd q (ne 5 (by decide) (by decide))⟩, ⟨fun q => absurd q.1 (by decide), fun q => absurd q (ne 6 (by decide) (by decide))⟩, fun q => ?_, fun q _ => ?_⟩
  · have q' : (if v ≤ 99 then 2 else 1 : Int32) = 2 := q
    rcases h with ⟨z, hz, rfl, rfl⟩ | ⟨rfl, hw⟩
    · exact ⟨rfl, rfl, z, hz, rfl⟩
    · rw [if_neg (by decide)] at q'
      exact absurd q' (by decide)
  · have q' : ¬ (if v ≤ 99 then 2 else 1 : Int32) = 2 := q
    rcases h with ⟨z, hz, rfl, rfl⟩ | ⟨rfl, hw⟩
    · exact absurd (if_pos (show nI z ≤ 99 from nI_le (b := 99) hz (by omega))) q'
    · exact hw
theorem s_sgn_v (c : Int32) : (c = 40 ∧ s_sgn c = 3) ∨ (c = 41 ∧ s_sgn c = 4) ∨ (c = 91 ∧ s_sgn c = 5) ∨ (c = 93 ∧ s_sgn c = 6) ∨ (c ≠ 40 ∧ c ≠ 41 ∧ c ≠ 91 ∧ c ≠ 93 ∧ s_sgn c = 1) := by
  unfold s_sgn
  by_cases c1 : c = 40
  · exact Or.inl ⟨c1, if_pos c1⟩
  by_cases c2 : c = 41
  · exact Or.inr (Or.inl ⟨c2, by rw [if_neg c1, if_pos c2]⟩)
  by_cases c3 : c = 91
  · exact Or.inr (Or.inr (Or.inl ⟨c3, by rw [if_neg c1, if_neg c2, if_pos c3]⟩))
  by_cases c4 : c = 93
  · exact Or.inr (Or.inr (Or.inr (Or.inl ⟨c4, by rw [if_neg c1, if_neg c2, if_neg c3, if_pos c4]⟩)))
  exact Or.inr (Or.inr (Or.inr (Or.inr ⟨c1, c2, c3, c4, by rw [if_neg c1, if_neg c2, if_neg c3, if_neg c4]⟩)))
theorem MK_of {m v k x : Int32} {s e : Nat} (hk : k = 1 ∨ k = 3 ∨ k = 4 ∨ k = 5 ∨ k = 6) (hm : m ≠ 0 ∧ m ≠ 1 ∧ m ≠ 2) (h3 : (m = 3 ∧ v = 40) ↔ k = 3) (h4 : (m = 3 ∧ v = 41) ↔ k = 4) (h5 : (m = 3 ∧ v = 91) ↔ k = 5) (h6 : (m = 3 ∧ v = 93) ↔ k = 6) : MK b m v (s, e, k, x) := by
  refine ⟨⟨fun q => absurd q hm.1, fun q => ?_⟩, fun j hj => ⟨fun q => absurd q.1 hm.2.1, fun q => ?_⟩, h3, h4, h5, h6, fun q => ?_, fun _ q => absurd q hm.2.2⟩
  · have q' : k = 0 := q
    rcases hk with rfl | rfl | rfl | rfl | rfl <;> exact absurd q' (by decide)
  · have q' : k = nI (7 + j) := q
    exact absurd q' (no_w (by rcases hk with rfl | rfl | rfl | rfl | rfl <;> decide) hj)
  · have q' : k = 2 := q
    rcases hk with rfl | rfl | rfl | rfl | rfl <;> exact absurd q' (by decide)
theorem MK_sgn {s e : Nat} {c : Int32} : MK b (if c = 40 then 3 else if c = 41 then 3 else if c = 91 then 3 else if c = 93 then 3 else 4) c (s, e, s_sgn c, 0) := by
  rcases s_sgn_v c with ⟨rfl, h⟩ | ⟨rfl, h⟩ | ⟨rfl, h⟩ | ⟨rfl, h⟩ | ⟨h1, h2, h3, h4, h⟩
  · rw [h]
    exact MK_of (by decide) (by decide) (by decide) (by decide) (by decide) (by decide)
  · rw [h]
    exact MK_of (by decide) (by decide) (by decide) (by decide) (by decide) (by decide)
  · rw [h]
    exact MK_of (by decide) (by decide) (by decide) (by decide) (by decide) (by decide)
  · rw [h]
    exact MK_of (by decide) (by decide) (by decide) (by decide) (by decide) (by decide)
  · rw [h, if_neg h1, if_neg h2, if_neg h3, if_neg h4]
    exact MK_of (by decide) (by decide) ⟨fun q => absurd q.1 (by decide), fun q => absurd q (by decide)⟩ ⟨fun q => absurd q.1 (by decide), fun q => absurd q (by decide)⟩ ⟨fun q => absurd q.1 (by decide), fun q => absurd q (by decide)⟩ ⟨fun q => absurd q.1 (by decide), fun q => absurd q (by decide)⟩
abbrev F4 (M M' : g_M) : Prop := g_fr [] [(59, 11), (59, 12), (59, 13), (59, 14)] M M'
theorem next_m (tp : BA b L M) {a : Nat} (ha : a ≤ L) (e13 : M.1 59 13 = nI a) : ∃ M' : g_M, f_X12_next M = some M' ∧ F4 M M' ∧ MT b L M' (s_tk b L a) := by
  have hL := tp.1
  have sb := s_skip_b (b := b) L a ha
  obtain ⟨M2, m1, m2, m3⟩ := mk_go (fun (M : g_M) => (some (g_u M 59 12 (M.1 59 13))).bind fun M3 => (f_X12_byteAt (M3.1 59 13) M3).bind fun p4 => (if 0 ≤ p4 then ((f_X12_isLetter p4 M3).bind fun p5 => (if p5 = 0 then ((f_X12_isDigit p4 M3).bind fun p6 => (if p6 = 0 then ((if p4 = 40 then (f_X12_next_207 p4 3 M3) else ((if p4 = 41 then (f_X12_next_207 p4 3 M3) else ((if p4 = 91 then (f_X12_next_207 p4 3 M3) else ((if p4 = 93 then (f_X12_next_207 p4 3 M3) else (f_X12_next_207 p4 4 M3))))))))) else ((some (g_u M3 59 11 2)).bind fun M10 => (some (g_u M10 59 14 0)).bind fun M11 => g_lp0 (F_X12_next_111 (fun (M : g_M) => some M)) 20000000 M11))) else ((some (g_u M3 59 11 1)).bind fun M17 => g_lp0 (F_X12_next_67 (fun (M : g_M) => some M)) 20000000 M17))) else ((some (g_u M3 59 11 0)).bind fun M21 => some M21))) L 20000000 a M tp ha (by omega) (by omega) e13
  have fr2 : F4 M M2 := m2.mono (by decide) (by decide)
  have fr3 : F4 M2 (g_u M2 59 12 (M2.1 59 13)) := g_fr.rfl.uT (by decide)
  have key : f_X12_next M = _ := m1
  rw [key, Option.bind_some]
  unfold s_tk
  generalize s_skip b L L a = s at m3 sb
  have q13 : (g_u M2 59 12 (M2.1 59 13)).1 59 13 = nI s := m3
  have q12 : (g_u M2 59 12 (M2.1 59 13)).1 59 12 = nI s := m3
  have fr3' : F4 M (g_u M2 59 12 (M2.1 59 13)) := fr2.trans fr3
  have tp3 := tp.fr fr3' (by decide)
  generalize g_u M2 59 12 (M2.1 59 13) = M3 at q13 q12 fr3' tp3
  rw [q13, tp3.at (by omega), Option.bind_some]
  unfold s_tk0
  by_cases c : s < L
  · obtain ⟨z, hz, ez⟩ := tp3.2.2.2 s c
    have p0 : (0 : Int32) ≤ b s := by rw [ez]; exact nI_pos' (by omega)
    rw [bat_in c, if_pos c, if_pos p0, let_m, Option.bind_some]
    cases lt : s_let (b s)
    · rw [if_pos (show bi false = 0 from rfl), dig_m, Option.bind_some, if_neg (show ¬ false = true by decide)]
      cases dt : s_dig (b s)
      · rw [if_pos (show bi false = 0 from rfl), if_neg (show ¬ false = true by decide)]
        have e7 : ∀ k, f_X12_next_207 (b s) k M3 = some (g_u (g_u (g_u M3 59 11 k) 59 14 (b s)) 59 13 (nI (s + 1))) := fun k => by
          unfold f_X12_next_207
          rw [Option.bind_some, Option.bind_some, Option.bind_some, ← nI_1, ← q13]
          rfl
        have e8 : (if b s = 40 then (f_X12_next_207 (b s) 3 M3) else ((if b s = 41 then (f_X12_next_207 (b s) 3 M3) else ((if b s = 91 then (f_X12_next_207 (b s) 3 M3) else ((if b s = 93 then (f_X12_next_207 (b s) 3 M3) else (f_X12_next_207 (b s) 4 M3)))))))) = some (g_u (g_u (g_u M3 59 11 (if b s = 40 then 3 else if b s = 41 then 3 else if b s = 91 then 3 else if b s = 93 then 3 else 4)) 59 14 (b s)) 59 13 (nI (s + 1))) := by
          rw [e7, e7]
          split
          · rfl
          · split
            · rfl
            · split
              · rfl
              · split <;> rfl
        rw [e8]
        exact ⟨_, rfl, ((fr3'.uT (by decide)).uT (by decide)).uT (by decide), q12, rfl, MK_sgn⟩
      · rw [if_neg (show ¬ bi true = 0 by decide), if_pos rfl, Option.bind_some, Option.bind_some]
        have fr5 : F4 M3 (g_u (g_u M3 59 11 2) 59 14 0) := (g_fr.rfl.uT (by decide)).uT (by decide)
        obtain ⟨M7, n1, n2, n3, n4⟩ := mn_go L 20000000 s (g_u (g_u M3 59 11 2) 59 14 0) 0 (tp3.fr fr5 (by decide)) (by omega) (by omega) (by omega) q13 rfl
        refine ⟨M7, n1, (fr3'.trans fr5).trans (n2.mono (by decide) (by decide)), (n2.at (by decide) (by decide)).trans q12, n3, ?_⟩
        have e11 : M7.1 59 11 = 2 := (n2.at (by decide) (by decide)).trans rfl
        rw [e11, n4]
        exact MK_num (nR_run L s 0 0 (Or.inl ⟨0, by omega, rfl, rfl⟩) (by omega))
    · rw [if_neg (show ¬ bi true = 0 by decide), if_pos rfl, Option.bind_some]
      have fr5 : F4 M3 (g_u M3 59 11 1) := g_fr.rfl.uT (by decide)
      obtain ⟨M7, n1, n2, n3⟩ := ml_go L 20000000 s (g_u M3 59 11 1) (tp3.fr fr5 (by decide)) (by omega) (by omega) (by omega) q13
      refine ⟨M7, n1, (fr3'.trans fr5).trans (n2.mono (by decide) (by decide)), (n2.at (by decide) (by decide)).trans q12, n3, ?_⟩
      have e11 : M7.1 59 11 = 1 := (n2.at (by decide) (by decide)).trans rfl
      rw [e11]
      exact MK_word
  · rw [bat_out c, if_neg c, if_neg (by decide), Option.bind_some]
    exact ⟨_, rfl, fr3'.uT (by decide), q12, q13, MK_end⟩
end NEXTM
