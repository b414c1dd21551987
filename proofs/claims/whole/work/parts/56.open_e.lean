section OPENE
variable {h : Nat} {d : Nat → Int32}
def CR (d : Nat → Int32) (h : Nat) (K : Int32) (f r : Nat) (M : g_M) : Prop := ∃ M' : g_M, g_lp3 (F_X12_comesOf_32 (fun (x2 : Int32) (M : g_M) => some (x2, M))) f (s_kr d h K r) 1 (nI (r + 1)) M = some (s_end d h K, M') ∧ g_fr [68, 69] [] M M' ∧ ∀ j, j < h → d (40 + 4 * j) = 4 → M'.1 69 j = nI (s_rd d h K j)
theorem s_mk_end (wk : KB d h) (K : Int32) {r : Nat} (e : s_kr d h K (r + 1) = s_kr d h K r) (j : Nat) : s_mk d h K (r + 1) j = s_rd d h K j := by
  have a : ∀ q, r ≤ q → s_opn d (s_kr d h K q) h j = s_opn d (s_kr d h K r) h j := fun q hq => by
    have := s_kr_fix e (q - r)
    rw [show r + (q - r) = q by omega] at this
    rw [this]
  have b : ∀ q, 24 ≤ q → s_opn d (s_kr d h K q) h j = s_opn d (s_kr d h K 24) h j := fun q hq => by rw [s_kr_end wk K hq, s_kr_end wk K (Nat.le_refl 24)]
  unfold s_mk s_rd
  by_cases c : r ≤ 24
  · have := s_fst_ext (f := fun q => s_opn d (s_kr d h K q) h j) a (24 - r)
    rw [show r + 1 + (24 - r) = 25 by omega] at this
    exact this.symm
  · have := s_fst_ext (f := fun q => s_opn d (s_kr d h K q) h j) b (r - 24)
    rw [show 24 + 1 + (r - 24) = r + 1 by omega] at this
    exact this
theorem cr_step (hh : h ≤ 40) (e3 : d 3 = nI h) (w : ∀ i, i < h → W_H d i) (K : Int32) {f r : Nat} {M : g_M} (hr : r < 100) (ed : M.1 60 = d) (h69 : ∀ j, j < h → d (40 + 4 * j) = 4 → M.1 69 j = nI (s_mk d h K r j)) (next : r < 25 → ∀ M2 : g_M, M2.1 60 = d → (∀ j, j < h → d (40 + 4 * j) = 4 → M2.1 69 j = nI (s_mk d h K (r + 1) j)) → CR d h K (f + 1) (r + 1) M2) : CR d h K (f + 2) r M := by
  have wk := W_H.KB w
  obtain ⟨M1, a1, a2, a3⟩ := om_eq hh e3 w (s_kr d h K r) M ed
  have ed1 : M1.1 60 = d := (a2.row (by decide) (by simp)).1.trans ed
  have r69 : M1.1 69 = M.1 69 := (a2.row (by decide) (by simp)).1
  obtain ⟨fl, M2, m1, m2, m3, m4, m5, m6⟩ := ci_go hh e3 wk K hr (fun (x2 : Int32) (x3 : Int32) (x4 : Int32) (M : g_M) => g_lp3 (F_X12_comesOf_32 (fun (x2 : Int32) (M : g_M) => some (x2, M))) (f + 1) x2 x3 (x4 + 1) M) h 20000000 0 0 M1 (by omega) (by omega) ed1 a3 (fun j hj a => by
    rw [r69, h69 j hj a, if_neg (by omega)]) (Or.inl rfl) (fun _ j hj => absurd hj (by omega)) (fun c => absurd c (by decide))
  have ed2 : M2.1 60 = d := (m2.row (by decide) (by simp)).1.trans ed1
  have fr : g_fr [68, 69] [] M M2 := (a2.mono (by decide) (by simp)).trans (m2.mono (by decide) (by simp))
  have z0 : s_kr d h K r ||| s_box d (fun i => s_opn d (s_kr d h K r) h i && decide (s_mk d h K r i = 0)) 0 = s_kr d h K r := b_ext (fun j _ => by rw [b_or, show s_box d (fun i => s_opn d (s_kr d h K r) h i && decide (s_mk d h K r i = 0)) 0 = 0 from rfl, b_0, Bool.or_false])
  have go : g_lp3 (F_X12_comesOf_32 (fun (x2 : Int32) (M : g_M) => some (x2, M))) (f + 2) (s_kr d h K r) 1 (nI (r + 1)) M = g_lp3 (F_X12_comesOf_32 (fun (x2 : Int32) (M : g_M) => some (x2, M))) (f + 1) (s_kr d h K (r + 1)) fl (nI (r + 1) + 1) M2 := by
    rw [z0] at m1
    rw [lp3_s, F_X12_comesOf_32, if_neg (by decide), a1, Option.bind_some]
    exact m1
  rcases m4 with rfl | rfl
  · have e : s_kr d h K (r + 1) = s_kr d h K r := by
      rw [← s_kr_new wk K r, s_box_new_0 (fun i hi a => by
        cases q : s_opn d (s_kr d h K r) h i
        · rfl
        · rw [decide_eq_false (m5 rfl i hi a q)]
          rfl)]
      exact b_ext (fun j _ => by rw [b_or, b_0, Bool.or_false])
    refine ⟨M2, ?_, fr, fun j hj a => ?_⟩
    · rw [go, lp3_s, F_X12_comesOf_32, if_pos rfl, e, s_kr_end' wk K e]
    · rw [m3 j hj a, s_mk_end wk K e]
  · have c : r < 25 := by
      apply Classical.byContradiction
      intro no
      obtain ⟨j, hj, a, b, z⟩ := m6 rfl
      have := s_fst_0.mp z (r - 1) (by omega)
      rw [s_kr_end wk K (by omega)] at this b
      rw [this] at b
      exact absurd b (by decide)
    obtain ⟨M', n1, n2, n3⟩ := next c M2 ed2 m3
    exact ⟨M', by rw [go, nI_1]; exact n1, fr.trans n2, n3⟩
theorem cr_go (hh : h ≤ 40) (e3 : d 3 = nI h) (w : ∀ i, i < h → W_H d i) (K : Int32) : ∀ (k r : Nat), r + k = 25 → ∀ (f : Nat) (M : g_M), k < f → M.1 60 = d → (∀ j, j < h → d (40 + 4 * j) = 4 → M.1 69 j = nI (s_mk d h K r j)) → CR d h K (f + 1) r M
  | 0, r, hr, f, M, hf, ed, h69 => by
    obtain ⟨f, rfl⟩ : ∃ f', f = f' + 1 := ⟨f - 1, by omega⟩
    exact cr_step hh e3 w K (by omega) ed h69 (fun c => absurd c (by omega))
  | k + 1, r, hr, f, M, hf, ed, h69 => by
    obtain ⟨f, rfl⟩ : ∃ f', f = f' + 1 := ⟨f - 1, by omega⟩
    exact cr_step hh e3 w K (by omega) ed h69 (fun _ M2 q1 q2 => cr_go hh e3 w K k (r + 1) (by omega) f M2 (by omega) q1 q2)
theorem cz_go (hh : h ≤ 40) (e3 : d 3 = nI h) (kk : Int32 → g_M → Option (Int32 × g_M)) (K : Int32) : ∀ (k f i : Nat) (M : g_M), i + k = h → k < f → M.1 60 = d → (∀ j, j < i → M.1 69 j = 0) → ∃ M' : g_M, g_lp2 (F_X12_comesOf_4 kk) f K (nI i) M = kk K M' ∧ g_fr [69] [] M M' ∧ ∀ j, j < h → M'.1 69 j = 0
  | 0, f, i, M, hi, hf, ed, hj => by
    obtain ⟨f, rfl⟩ : ∃ f', f = f' + 1 := ⟨f - 1, by omega⟩
    have : i = h := by omega
    subst this
    refine ⟨M, ?_, g_fr.rfl, hj⟩
    rw [lp2_s, F_X12_comesOf_4, ld_3, Option.bind_some, ed, e3, if_pos (nI_le (Nat.le_refl _) (by omega))]
  | k + 1, f, i, M, hi, hf, ed, hj => by
    obtain ⟨f, rfl⟩ : ∃ f', f = f' + 1 := ⟨f - 1, by omega⟩
    obtain ⟨M', m1, m2, m3⟩ := cz_go hh e3 kk K k f (i + 1) (g_u M 69 i 0) (by omega) (by omega) ed (fun j hj2 => by
      by_cases c : j = i
      · subst c
        exact upd_eq
      · exact (upd_ne c).trans (hj j (by omega)))
    refine ⟨M', ?_, (g_fr.rfl.uS (by decide)).trans m2, m3⟩
    rw [lp2_s, F_X12_comesOf_4, ld_3, Option.bind_some, ed, e3, if_neg (nI_ge (by omega) (by omega)), e_st (by omega) (by omega), Option.bind_some, nI_1, m1]
theorem co_eq (hh : h ≤ 40) (e3 : d 3 = nI h) (w : ∀ i, i < h → W_H d i) (K : Int32) {M : g_M} (ed : M.1 60 = d) : ∃ M' : g_M, f_X12_comesOf K M = some (s_end d h K, M') ∧ g_fr [68, 69] [] M M' ∧ ∀ j, j < h → d (40 + 4 * j) = 4 → M'.1 69 j = nI (s_rd d h K j) := by
  obtain ⟨M1, a1, a2, a3⟩ := cz_go hh e3 (fun (x2 : Int32) (M : g_M) => g_lp3 (F_X12_comesOf_32 (fun (x2 : Int32) (M : g_M) => some (x2, M))) 20000000 x2 1 1 M) K h 20000000 0 M (by omega) (by omega) ed (fun j hj => absurd hj (by omega))
  obtain ⟨M', n1, n2, n3⟩ := cr_go hh e3 w K 25 0 (by omega) 19999999 M1 (by omega) ((a2.row (by decide) (by simp)).1.trans ed) (fun j hj _ => a3 j hj)
  exact ⟨M', a1.trans n1, (a2.mono (by decide) (by simp)).trans n2, n3⟩
theorem ob_eq (hh : h ≤ 40) (e3 : d 3 = nI h) (w : ∀ i, i < h → W_H d i) (K : Int32) {M : g_M} (ed : M.1 60 = d) {i : Nat} (hi : i < h) : ∃ M' : g_M, f_X12_opensBy (nI i) K M = some (bi (s_opens d h K i), M') ∧ g_fr [68, 69] [] M M' := by
  obtain ⟨M1, a1, a2, -⟩ := co_eq hh e3 w K ed
  obtain ⟨M2, c1, c2, c3⟩ := om_eq hh e3 w (s_end d h K) M1 ((a2.row (by decide) (by simp)).1.trans ed)
  refine ⟨M2, ?_, a2.trans (c2.mono (by decide) (by simp))⟩
  unfold f_X12_opensBy
  rw [a1, Option.bind_some, c1, Option.bind_some, e_ld (by omega) (by omega), Option.bind_some, c3 i hi, bi_bz, Option.bind_some]
  rfl
end OPENE
section SETS
variable {n : Nat} {M : g_M}
theorem set_ix (hn : n ≤ 10) (x : Int32) : (∃ i, n ≤ i ∧ i < 32 ∧ bt x i = true) ∨ ∃ s, s < 2 ^ n ∧ x = nI s := by
  by_cases c : ∃ i, n ≤ i ∧ i < 32 ∧ bt x i = true
  · exact Or.inl c
  · right
    refine b_small (fun i hi => ?_)
    by_cases q : i < 32
    · cases e : bt x i
      · rfl
      · exact absurd ⟨i, hi, q, e⟩ c
    · exact b_big (by omega)
theorem p1024 (hn : n ≤ 10) : 2 ^ n ≤ 1024 := Nat.pow_le_pow_right (n := 2) (j := 10) (by omega) hn
theorem sc_in (hn : n ≤ 10) (e : M.1 3 0 = nI n) {s : Nat} (hs : s < 2 ^ n) : f_X0_hasSet (nI s) M = some 1 := by
  have := p1024 hn
  unfold f_X0_hasSet
  rw [e, pw_m1 n (by omega), if_pos]
  rw [b_eq0]
  intro i hi
  rw [b_and, bt_not _ hi, bt_nI (by omega), bt_nI (by omega), Nat.testBit_two_pow_sub_one]
  by_cases c : i < n
  · rw [decide_eq_true c]
    simp
  · rw [Nat.testBit_lt_two_pow (Nat.lt_of_lt_of_le hs (Nat.pow_le_pow_right (by omega) (by omega)))]
    rfl
theorem sc_out (hn : n ≤ 10) (e : M.1 3 0 = nI n) {x : Int32} (hx : ∃ i, n ≤ i ∧ i < 32 ∧ bt x i = true) : f_X0_hasSet x M = some 0 := by
  have := p1024 hn
  obtain ⟨i, hi, h32, hb⟩ := hx
  unfold f_X0_hasSet
  rw [e, pw_m1 n (by omega), if_neg]
  intro q
  rw [b_eq0] at q
  have := q i h32
  rw [b_and, hb, bt_not _ h32, bt_nI (by omega), Nat.testBit_two_pow_sub_one, decide_eq_false (by omega)] at this
  exact absurd this (by decide)
theorem sm_in (hn : n ≤ 10) (e : M.1 60 0 = nI n) {s : Nat} (hs : s < 2 ^ n) : f_X12_isSet (nI s) M = some 1 := by
  have := p1024 hn
  unfold f_X12_isSet
  rw [if_neg (nI_pos (by omega)), ld_0, Option.bind_some, e, pk_shrN (by omega) _ n (s_l n (by omega)), Nat.div_eq_of_lt hs, if_pos (show nI 0 = 0 from rfl)]
theorem sm_out (hn : n ≤ 10) (e : M.1 60 0 = nI n) {x : Int32} (hx : ∃ i, n ≤ i ∧ i < 32 ∧ bt x i = true) : f_X12_isSet x M = some 0 := by
  obtain ⟨i, hi, h32, hb⟩ := hx
  unfold f_X12_isSet
  by_cases q : x < 0
  · rw [if_pos q]
  · obtain ⟨j, hj, rfl⟩ := nI_of q
    rw [if_neg q, ld_0, Option.bind_some, e, pk_shrN hj _ n (s_l n (by omega)), if_neg]
    have : j / 2 ^ n < 2 ^ 31 := Nat.lt_of_le_of_lt (Nat.div_le_self _ _) hj
    refine nI_ne0 ?_ this
    apply Nat.pos_of_ne_zero
    intro z
    have jl : j < 2 ^ n := by
      rcases (Nat.div_eq_zero_iff).mp z with w | w
      · exact absurd w (Nat.ne_of_gt (Nat.two_pow_pos n))
      · exact w
    rw [b_high jl (by omega) hi] at hb
    exact absurd hb (by decide)
end SETS
section OPSO
variable {t n l m h c1 c2 c3 : Nat} {M : g_M}
theorem op_opens (H : Rel0 t n l m h c1 c2 c3 M) (x y : Int32) : Op (f_X11_opens x y) (f_X12_opens_ x y) t M := by
  obtain ⟨h1, h2, h3, h4, h5, h6, h7, h8, h9, h10, h11⟩ := id H
  obtain ⟨b1, b2, b3, b4, e0, e4, e1, e3, eu, wA, wL, wH, wT⟩ := id h1
  rcases ix x (n := h) (by omega) with ho | ⟨i, hi, rfl⟩
  · refine Op.t0 H ?_ ?_
    · unfold f_X11_opens
      rw [hh_out h3.1 ho, Option.bind_some, if_pos rfl]
      rfl
    · unfold f_X12_opens_
      rw [mh_out (n := h) (M := tellM 0 M) e3 (by omega) ho, Option.bind_some, if_pos rfl]
      rfl
  rcases set_ix b1 y with ho | ⟨s, hs, rfl⟩
  · refine Op.t0 H ?_ ?_
    · unfold f_X11_opens
      rw [hh_in h3.1 hi (by omega), Option.bind_some, if_neg (by decide), sc_out b1 h2.1 ho, Option.bind_some, if_pos rfl]
      rfl
    · unfold f_X12_opens_
      rw [mh_in (n := h) (M := tellM 0 M) e3 (by omega) hi, Option.bind_some, if_neg (by decide), sm_out (M := tellM 0 M) b1 e0 ho, Option.bind_some, if_pos rfl]
      rfl
  obtain ⟨M2, m1, m2⟩ := ob_eq b4 e3 wH (s_keys (M.1 60) (nI s) n) (M := M) rfl hi
  refine Op.say' (v := bi (s_opens (M.1 60) h (s_keys (M.1 60) (nI s) n) i)) H ?_ ?_ m2 (by decide) (by simp)
  · unfold f_X11_opens
    rw [hh_in h3.1 hi (by omega), Option.bind_some, if_neg (by decide), sc_in b1 h2.1 hs, Option.bind_some, if_neg (by decide), kc_eq h1 h2, Option.bind_some, isO_eq h3 wH b4 _ hi, Option.bind_some]
    cases s_opens (M.1 60) h (s_keys (M.1 60) (nI s) n) i <;> rfl
  · unfold f_X12_opens_
    rw [mh_in (n := h) e3 (by omega) hi, Option.bind_some, if_neg (by decide), sm_in b1 e0 hs, Option.bind_some, if_neg (by decide), km_eq h1, Option.bind_some, m1, Option.bind_some]
    cases s_opens (M.1 60) h (s_keys (M.1 60) (nI s) n) i <;> rfl
theorem op_had (H : Rel0 t n l m h c1 c2 c3 M) (y : Int32) : Op (f_X11_had y) (f_X12_had y) t M := by
  obtain ⟨h1, h2, h3, h4, h5, h6, h7, h8, h9, h10, h11⟩ := id H
  obtain ⟨b1, b2, b3, b4, e0, e4, e1, e3, eu, wA, wL, wH, wT⟩ := id h1
  rcases set_ix b1 y with ho | ⟨s, hs, rfl⟩
  · refine Op.t0 H ?_ ?_
    · unfold f_X11_had
      rw [sc_out b1 h2.1 ho, Option.bind_some, if_pos rfl]
    · unfold f_X12_had
      rw [sm_out (M := tellM 0 M) b1 e0 ho, Option.bind_some, if_pos rfl]
  obtain ⟨M2, m1, m2, -⟩ := co_eq b4 e3 wH (s_keys (M.1 60) (nI s) n) (M := M) rfl
  refine Op.say' (v := s_end (M.1 60) h (s_keys (M.1 60) (nI s) n)) H ?_ ?_ m2 (by decide) (by simp)
  · unfold f_X11_had
    rw [sc_in b1 h2.1 hs, Option.bind_some, if_neg (by decide), kc_eq h1 h2, Option.bind_some, ke_eq h3 wH b4, Option.bind_some]
  · unfold f_X12_had
    rw [sm_in b1 e0 hs, Option.bind_some, if_neg (by decide), km_eq h1, Option.bind_some, m1, Option.bind_some]
theorem op_round (H : Rel0 t n l m h c1 c2 c3 M) (x y : Int32) : Op (f_X11_round x y) (f_X12_round x y) t M := by
  obtain ⟨h1, h2, h3, h4, h5, h6, h7, h8, h9, h10, h11⟩ := id H
  obtain ⟨b1, b2, b3, b4, e0, e4, e1, e3, eu, wA, wL, wH, wT⟩ := id h1
  rcases ix x (n := h) (by omega) with ho | ⟨i, hi, rfl⟩
  · refine Op.t0 H ?_ ?_
    · unfold f_X11_round
      rw [hh_out h3.1 ho, Option.bind_some, if_pos rfl]
      rfl
    · unfold f_X12_round
      rw [mh_out (n := h) (M := tellM 0 M) e3 (by omega) ho, Option.bind_some, if_pos rfl]
      rfl
  rcases set_ix b1 y with ho | ⟨s, hs, rfl⟩
  · refine Op.t0 H ?_ ?_
    · unfold f_X11_round
      rw [hh_in h3.1 hi (by omega), Option.bind_some, if_neg (by decide), sc_out b1 h2.1 ho, Option.bind_some, if_pos rfl]
      rfl
    · unfold f_X12_round
      rw [mh_in (n := h) (M := tellM 0 M) e3 (by omega) hi, Option.bind_some, if_neg (by decide), sm_out (M := tellM 0 M) b1 e0 ho, Option.bind_some, if_pos rfl]
      rfl
  have i4 : isOf (M.1 60 (40 + 4 * i)) 4 = decide (M.1 60 (40 + 4 * i) = 4) := by
    unfold isOf
    simp
  by_cases k4 : M.1 60 (40 + 4 * i) = 4
  · obtain ⟨M2, m1, m2, m3⟩ := co_eq b4 e3 wH (s_keys (M.1 60) (nI s) n) (M := M) rfl
    refine Op.say' (v := nI (s_rd (M.1 60) h (s_keys (M.1 60) (nI s) n) i)) H ?_ ?_ m2 (by decide) (by simp)
    · unfold f_X11_round
      rw [hh_in h3.1 hi (by omega), Option.bind_some, if_neg (by decide), sc_in b1 h2.1 hs, Option.bind_some, if_neg (by decide), isOf_c (by omega) (h3.2 i hi).1, Option.bind_some, i4, decide_eq_true k4, if_pos rfl, if_neg (by decide), kc_eq h1 h2, Option.bind_some, ro_eq h3 wH b4 _ hi, Option.bind_some]
    · unfold f_X12_round
      rw [mh_in (n := h) e3 (by omega) hi, Option.bind_some, if_neg (by decide), sm_in b1 e0 hs, Option.bind_some, if_neg (by decide), ld_h (by omega) (j := 0) (x := 0) (by omega) rfl, Option.bind_some, Nat.add_zero, if_pos k4, km_eq h1, Option.bind_some, m1, Option.bind_some, e_ld (by omega) (by omega), Option.bind_some, m3 i hi k4]
  · refine Op.t2 H ?_ ?_
    · unfold f_X11_round
      rw [hh_in h3.1 hi (by omega), Option.bind_some, if_neg (by decide), sc_in b1 h2.1 hs, Option.bind_some, if_neg (by decide), isOf_c (by omega) (h3.2 i hi).1, Option.bind_some, i4, decide_eq_false k4, if_neg (show ¬ false = true by decide), if_pos rfl]
    · unfold f_X12_round
      rw [mh_in (n := h) (M := tellM 2 M) e3 (by omega) hi, Option.bind_some, if_neg (by decide), sm_in (M := tellM 2 M) b1 e0 hs, Option.bind_some, if_neg (by decide), ld_h (by omega) (j := 0) (x := 0) (by omega) rfl, Option.bind_some, Nat.add_zero, if_neg (show ¬ (tellM 2 M).1 60 (40 + 4 * i) = 4 from k4)]
end OPSO
