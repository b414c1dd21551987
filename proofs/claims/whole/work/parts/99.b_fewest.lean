section FEWEST
variable {t n l m h c1 c2 c3 : Nat} {M : g_M}
/-- the class's formulas are in order -/
def FXE (M : g_M) : Prop := ∃ k, k ≤ 16 ∧ FX M k
theorem FX.keep {S : List Nat} {T : List (Nat × Nat)} {M M' : g_M} {k : Nat} (h : FX M k) (fr : g_fr S T M M') (hk : g_ok S T [47, 48, 49] [(46, 3), (46, 4)] = true) : FX M' k := by
  obtain ⟨a, ⟨b1, b2, b3, b4⟩, d⟩ := h
  have r47 := (g_ok.row hk fr (k := 47) (by decide)).1
  have r48 := (g_ok.row hk fr (k := 48) (by decide)).1
  have r49 := (g_ok.row hk fr (k := 49) (by decide)).2
  refine ⟨(g_ok.at hk fr (k := 46) (i := 4) (by decide)).trans a, ⟨(g_ok.at hk fr (k := 46) (i := 3) (by decide)).trans b1, b2, fun i hi => by rw [r47]; exact b3 i hi, fun w hw b hb => by rw [r49]; exact b4 w hw b hb⟩, fun i hi => by rw [r48]; exact d i hi⟩
theorem FXE.keep {S : List Nat} {T : List (Nat × Nat)} {M M' : g_M} (h : FXE M) (fr : g_fr S T M M') (hk : g_ok S T [47, 48, 49] [(46, 3), (46, 4)] = true) : FXE M' := by
  obtain ⟨k, hk16, hx⟩ := h
  exact ⟨k, hk16, hx.keep fr hk⟩
/-- what is known of a table that rises -/
theorem fin_of {c due : Nat} (h1 : 1 ≤ c) (h4 : c ≤ 4) (hd : due < 2 ^ 2 ^ c) (mo : ∀ f, f < 2 ^ c → due.testBit f = true → ∀ k, k < c → due.testBit (f ||| 2 ^ k) = true) : fin c due = true := by
  have all_of : ∀ (p : Nat → Bool) (n : Nat), (∀ k, k < n → p k = true) → allN p n = true := fun p n => by
    induction n with
    | zero => intro _; rfl
    | succ n ih =>
      intro q
      show (p n && allN p n) = true
      rw [q n (by omega), ih (fun k hk => q k (by omega))]
      rfl
  have mb : ∀ (c due : Nat), (∀ f, f < 2 ^ c → due.testBit f = true → ∀ k, k < c → due.testBit (f ||| 2 ^ k) = true) → mono c due = true := fun c due mo => by
    unfold mono
    refine all_of _ _ (fun f hf => ?_)
    cases q : due.testBit f
    · rfl
    · rw [Bool.not_true, Bool.false_or]
      exact all_of _ _ (fun k hk => mo f hf q k hk)
  have mt := mb c due mo
  by_cases c4 : c = 4
  · subst c4
    have lo3 : mono 3 (due % 256) = true := mb 3 _ (fun f hf q k hk => by
      have e : ∀ x, x < 8 → (due % 256).testBit x = due.testBit x := fun x hx => by
        rw [show (256 : Nat) = 2 ^ 8 from rfl, Nat.testBit_mod_two_pow, decide_eq_true hx, Bool.true_and]
      have lt : f ||| 2 ^ k < 2 ^ 3 := Nat.or_lt_two_pow hf (Nat.pow_lt_pow_right (by omega) hk)
      rw [e f hf] at q
      rw [e _ lt]
      exact mo f (by omega) q k (by omega))
    have hi3 : mono 3 (due / 256) = true := mb 3 _ (fun f hf q k hk => by
      have e : ∀ x, (due / 256).testBit x = due.testBit (x + 8) := fun x => by
        rw [show (256 : Nat) = 2 ^ 8 from rfl, Nat.testBit_div_two_pow]
      have sh : ∀ f, f < 8 → ∀ k, k < 3 → (f + 8) ||| 2 ^ k = (f ||| 2 ^ k) + 8 := by decide
      rw [e f] at q
      rw [e, ← sh f hf k hk]
      exact mo (f + 8) (by omega) q k (by omega))
    have in3 : ∀ x, x < 256 → mono 3 x = true → x ∈ m3 := fun x hx q => by
      have := allN_1 m3_all x hx
      rw [q, Bool.not_true, Bool.false_or] at this
      exact List.contains_iff_mem.mp this
    have hd' : due < 65536 := hd
    have f4 := List.all_eq_true.mp (List.all_eq_true.mp fin_a4 (due % 256) (in3 _ (by omega) lo3)) (due / 256) (in3 _ (by omega) hi3)
    rw [show due % 256 + 256 * (due / 256) = due by omega, mt, Bool.not_true, Bool.false_or] at f4
    exact f4
  · have := allN_1 (orN h1 (allN_1 fin_a3 c (by omega))) due hd
    rw [mt, Bool.not_true, Bool.false_or] at this
    exact this
theorem op_fewest (ht : t < 64) (H : Rel0 t n l m h c1 c2 c3 M) (HF : FXE M) : ∃ p1 p2, f_X11_fewest M = some p1 ∧ f_X12_fewest p1.2 = some p2 ∧ p1.1 = p2.1 ∧ RE (t + 1) p2.2 ∧ FXE p2.2 := by
  obtain ⟨h1, h2, h3, h4, h5, h6, h7, h8, h9, h10, h11⟩ := id H
  obtain ⟨b1, b2, b3, b4, e0, e4, e1, e3, eu, wA, wL, wH, wT⟩ := id h1
  have hA := all_1024 (M.1 60) b1
  have al0 : ∀ M' : g_M, M'.1 60 = M.1 60 → f_X12_all M' = some (nI (s_all (M.1 60) n)) := fun M' e => by rw [all_eq b1 (by rw [e]; exact e0), e]
  have easy : Op f_X11_fewest f_X12_fewest t M → (∀ p, f_X11_fewest M = some p → FXE p.2) → ∃ p1 p2, f_X11_fewest M = some p1 ∧ f_X12_fewest p1.2 = some p2 ∧ p1.1 = p2.1 ∧ RE (t + 1) p2.2 ∧ FXE p2.2 := fun o q => by
    obtain ⟨p1, p2, a, b, c, d⟩ := o
    exact ⟨p1, p2, a, b, c, d, (q p1 a).keep (r_X12_fewest b) (by decide)⟩
  have tk : ∀ (c : Nat) (M1 : g_M), FXE M1 → FXE (tellM c M1) := fun c M1 q => q.keep (S := [2]) (T := [(1, 1)]) ((g_fr.rfl.uS (by decide)).uT (by decide)) (by decide)
  rcases eu with ⟨-, eu⟩ | ⟨u, hu, eu⟩
  · have cls : f_X11_fewest M = (f_X2_tell (-1000000005) M).bind fun p => some (p.1, p.2) := by
      unfold f_X11_fewest
      rw [h4.2.1, eu, if_neg (by decide)]
    refine easy (Op.t4 H cls ?_) (fun p q => ?_)
    · unfold f_X12_fewest
      rw [ld_2, Option.bind_some, show (tellM 4 M).1 60 2 = -1 from eu, if_neg (by decide)]
    · rw [cls, tell4, Option.bind_some] at q
      rw [← Option.some.inj q]
      exact tk 4 M HF
  have p0 : (0 : Int32) ≤ nI u := nI_pos' (by omega)
  have ep : s_pop (nI (s_all (M.1 60) n)) 24 = pt (s_all (M.1 60) n) 24 := s_pop_pt (by omega) 24
  have pl : pt (s_all (M.1 60) n) 24 ≤ 24 := by rw [← ep]; exact ct_le _
  by_cases zs : pt (s_all (M.1 60) n) 24 = 0 ∨ 4 < pt (s_all (M.1 60) n) 24
  · have cls : f_X11_fewest M = (f_X2_tell (-1000000007) M).bind fun p => some (p.1, p.2) := by
      unfold f_X11_fewest f_X11_fewest_40
      rw [h4.2.1, eu, if_pos p0, present_eq h1 h2, Option.bind_some, bitc (by omega), Option.bind_some, ep]
      by_cases z : pt (s_all (M.1 60) n) 24 = 0
      · rw [z, if_pos (show nI 0 = 0 from rfl)]
      · rw [if_neg (nI_ne0 (by omega) (by omega)), if_neg (show ¬ nI (pt (s_all (M.1 60) n) 24) ≤ 4 from nI_ge (a := 4) (by omega) (by omega))]
    refine easy (Op.t6 H cls ?_) (fun p q => ?_)
    · unfold f_X12_fewest f_X12_fewest_34
      rw [ld_2, Option.bind_some, show (tellM 6 M).1 60 2 = nI u from eu, if_pos p0, al0 (tellM 6 M) rfl, Option.bind_some, many_eq, Option.bind_some, ep]
      by_cases z : pt (s_all (M.1 60) n) 24 = 0
      · rw [z, if_pos (show nI 0 = 0 from rfl)]
      · rw [if_neg (nI_ne0 (by omega) (by omega)), if_neg (show ¬ nI (pt (s_all (M.1 60) n) 24) ≤ 4 from nI_ge (a := 4) (by omega) (by omega))]
    · rw [cls, tell6, Option.bind_some] at q
      rw [← Option.some.inj q]
      exact tk 6 M HF
  have c1' : 1 ≤ pt (s_all (M.1 60) n) 24 := by omega
  have c4' : pt (s_all (M.1 60) n) 24 ≤ 4 := by omega
  have nz : ¬ nI (pt (s_all (M.1 60) n) 24) = 0 := nI_ne0 (by omega) (by omega)
  have le4 : nI (pt (s_all (M.1 60) n) 24) ≤ 4 := nI_le (b := 4) c4' (by omega)
  obtain ⟨M0, o1, o2, o3, o4⟩ := as_eq H ht hu eu
  have HF0 : FXE M0 := HF.keep o3 (by decide)
  have e60 : M0.1 60 = M.1 60 := (o3.row (by decide) (by decide)).1
  have ff := ff_eq o4 hA
  have mdl0 : ∀ M', M'.1 60 = M.1 60 → ∃ M2 : g_M, f_X12_findMay M' = some M2 ∧ g_fr [64] T9 M' M2 ∧ FM M2 (s_all (M.1 60) n) (pM (M.1 60) n u) ∧ f_X12_firstThatLoses M2 = some (loI (ffn (fal (pM (M.1 60) n u) (s_all (M.1 60) n)) (s_all (M.1 60) n + 1) 0)) := fun M' ed => by
    obtain ⟨M2, f1, f2, f3⟩ := fm_eq h1 hu eu ed
    have ed2 : M2.1 60 = M.1 60 := (f2.row (by decide) (by decide)).1.trans ed
    exact ⟨M2, f1, f2, f3, fl_eq f3 hA (al0 M2 ed2)⟩
  have cls0 : f_X11_fewest M = (if mrI (pM (M.1 60) n u) (s_all (M.1 60) n) (ffn (fal (pM (M.1 60) n u) (s_all (M.1 60) n)) (s_all (M.1 60) n + 1) 0) < 0 then ((f_X1_truth M0).bind fun p6 => (f_X3_locksFor p6 M0).bind fun p7 => (if p7.1 = 0 then ((f_X2_tell (-1000000004) p7.2).bind fun p8 => some (p8.1, p8.2)) else (some (p7.1, p7.2)))) else ((f_X2_tell (-1000000003) M0).bind fun p9 => some (p9.1, p9.2))) := by
    unfold f_X11_fewest
    rw [h4.2.1, eu, if_pos p0, present_eq h1 h2, Option.bind_some, bitc (by omega), Option.bind_some, ep, if_neg nz, if_pos le4, o1, Option.bind_some, ff, Option.bind_some]
  cases hr : ffn (fal (pM (M.1 60) n u) (s_all (M.1 60) n)) (s_all (M.1 60) n + 1) 0 with
  | some s =>
    obtain ⟨i1, i2, i3, i4⟩ := ffn_in hr
    have hz : (lo (pM (M.1 60) n u) (s_all (M.1 60) n) s).getD 0 < 10 := by
      cases q : lo (pM (M.1 60) n u) (s_all (M.1 60) n) s with
      | none => show (0 : Nat) < 10; omega
      | some e => exact lo_lt q
    rw [hr, if_neg (show ¬ mrI (pM (M.1 60) n u) (s_all (M.1 60) n) (some s) < 0 from nI_pos (by omega))] at cls0
    obtain ⟨M2, g1, g2, g3, g4⟩ := mdl0 (tellM 2 M0) e60
    rw [hr] at g4
    refine easy (Op.t2' o2 cls0 ?_ g2 (by decide) (by decide)) (fun p q => ?_)
    · unfold f_X12_fewest
      rw [ld_2, Option.bind_some, show (tellM 2 M0).1 60 2 = nI u from by rw [show (tellM 2 M0).1 60 = M0.1 60 from rfl, e60]; exact eu, if_pos p0, al0 (tellM 2 M0) e60, Option.bind_some, many_eq, Option.bind_some, ep, if_neg nz, if_pos le4, g1, Option.bind_some, g4, Option.bind_some, if_neg (show ¬ loI (some s) < 0 from nI_pos (by omega))]
    · rw [cls0, tell2, Option.bind_some] at q
      rw [← Option.some.inj q]
      exact tk 2 M0 HF0
  | none =>
    have mo := mono_eq hA c4' hr
    have db := dF_b (p := pM (M.1 60) n u) (A := s_all (M.1 60) n) (2 ^ pt (s_all (M.1 60) n) 24)
    have fo := fin_of c1' c4' db.1 mo
    have ex := ext_eq (p := pM (M.1 60) n u) hA c4' 16 (by omega)
    have d16 := (dF_b (p := pM (M.1 60) n u) (A := s_all (M.1 60) n) 16).1
    have p16 : 2 ^ pt (s_all (M.1 60) n) 24 ≤ 2 ^ 4 := Nat.pow_le_pow_right (by omega) c4'
    have p65 : 2 ^ 2 ^ pt (s_all (M.1 60) n) 24 ≤ 2 ^ 16 := Nat.pow_le_pow_right (by omega) p16
    rw [hr, if_pos (show mrI (pM (M.1 60) n u) (s_all (M.1 60) n) none < 0 by show (-1 : Int32) < 0; decide), tru_eq o4 hA c4', Option.bind_some] at cls0
    obtain ⟨k0, k16, kx⟩ := HF0
    obtain ⟨M1, dn', y1, y2, y3, y4⟩ := lf_eq (t := dF (pM (M.1 60) n u) (s_all (M.1 60) n) 16) d16 k16 kx
    rw [y1, Option.bind_some] at cls0
    have r1 : Rel0 t n l m h c1 c2 c3 M1 := o2.keep y2 (by decide) (by decide)
    have r60 : M1.1 60 = M.1 60 := (y2.row (by decide) (by decide)).1.trans e60
    have HF1 : FXE M1 := ⟨dn', y3, y4⟩
    unfold fin at fo
    rw [ex] at fo
    have shl : (1 : Int32) <<< (nI (pt (s_all (M.1 60) n) 24) &&& 31) = nI (2 ^ pt (s_all (M.1 60) n) 24) := pw_shl _ (by omega)
    have full : ((1 : Int32) <<< (nI (2 ^ pt (s_all (M.1 60) n) 24) &&& 31)) - 1 = nI (2 ^ 2 ^ pt (s_all (M.1 60) n) 24 - 1) := by
      have pp : 1 ≤ 2 ^ 2 ^ pt (s_all (M.1 60) n) 24 := Nat.one_le_two_pow
      rw [pw_shl _ (by omega), show (1 : Int32) = nI 1 from rfl, pk_sub pp]
    have mdl1 : ∀ M', M'.1 60 = M.1 60 → ∃ M2 : g_M, g_fr [64] T9 M' M2 ∧ f_X12_fewest M' = (if nI (dF (pM (M.1 60) n u) (s_all (M.1 60) n) (2 ^ pt (s_all (M.1 60) n) 24)) = 0 then (f_X12_fewest_122 M2) else ((if nI (dF (pM (M.1 60) n u) (s_all (M.1 60) n) (2 ^ pt (s_all (M.1 60) n) 24)) = nI (2 ^ 2 ^ pt (s_all (M.1 60) n) 24 - 1) then (f_X12_fewest_122 M2) else (g_lp4 (F_X12_fewest_136 (fun (x4 : Int32) (M : g_M) => g_lp2 (F_X12_fewest_191 (fun (x4 : Int32) (M : g_M) => (f_X12_sizeOf x4 M).bind fun p23 => some (p23, M))) 20000000 x4 2 M)) 20000000 (nI (pt (s_all (M.1 60) n) 24)) (nI (2 ^ pt (s_all (M.1 60) n) 24)) (nI (dF (pM (M.1 60) n u) (s_all (M.1 60) n) (2 ^ pt (s_all (M.1 60) n) 24))) 0 (g_u M2 59 26 0))))) := fun M' ed => by
      obtain ⟨M2, g1, g2, g3, g4⟩ := mdl0 M' ed
      rw [hr] at g4
      refine ⟨M2, g2, ?_⟩
      unfold f_X12_fewest
      rw [ld_2, Option.bind_some, ed, eu, if_pos p0, al0 M' ed, Option.bind_some, many_eq, Option.bind_some, ep, if_neg nz, if_pos le4, g1, Option.bind_some, g4, Option.bind_some, if_pos (show loI none < 0 by decide), shl]
      refine (due_go g3 hA c4' (by omega) _ (nI (pt (s_all (M.1 60) n) 24)) (2 ^ pt (s_all (M.1 60) n) 24) 20000000 0 (by omega) (by omega)).trans ?_
      rw [full, Option.bind_some]
    by_cases tr : dF (pM (M.1 60) n u) (s_all (M.1 60) n) (2 ^ pt (s_all (M.1 60) n) 24) = 0 ∨ dF (pM (M.1 60) n u) (s_all (M.1 60) n) (2 ^ pt (s_all (M.1 60) n) 24) = 2 ^ 2 ^ pt (s_all (M.1 60) n) 24 - 1
    · rw [if_pos tr, beq_iff_eq] at fo
      rw [fo, if_pos (show nI 0 = 0 from rfl)] at cls0
      obtain ⟨M2, g1, g2⟩ := mdl1 (tellM 3 M1) r60
      have g2' : f_X12_fewest (tellM 3 M1) = f_X12_fewest_122 M2 := by
        rw [g2]
        rcases tr with q | q
        · rw [q, if_pos (show nI 0 = 0 from rfl)]
        · rw [if_pos (show nI (dF (pM (M.1 60) n u) (s_all (M.1 60) n) (2 ^ pt (s_all (M.1 60) n) 24)) = nI (2 ^ 2 ^ pt (s_all (M.1 60) n) 24 - 1) by rw [q])]
          split <;> rfl
      refine easy (Op.t3' r1 cls0 g2' g1 (by decide) (by decide)) (fun p q => ?_)
      rw [cls0, tell3, Option.bind_some] at q
      rw [← Option.some.inj q]
      exact tk 3 M1 HF1
    · rw [if_neg tr, Bool.and_eq_true, bne_iff_ne, beq_iff_eq] at fo
      obtain ⟨f1, f2⟩ := fo
      have il := mI_le c1' c4' db.1 f1
      have mz := mI_at c1' c4' (i := mI (pt (s_all (M.1 60) n) 24) (dF (pM (M.1 60) n u) (s_all (M.1 60) n) (2 ^ pt (s_all (M.1 60) n) 24)) - 1) (by omega)
      rw [← f2, if_neg (nI_ne0 (by omega) (by omega))] at cls0
      obtain ⟨M2, g1, g2⟩ := mdl1 M1 r60
      have ini := orN c1' (allN_1 mini (pt (s_all (M.1 60) n) 24) (by omega))
      rw [Bool.and_eq_true, beq_iff_eq] at ini
      obtain ⟨M3, z1, z2, z3⟩ := in_go c1' c4' (fun (x4 : Int32) (M : g_M) => g_lp2 (F_X12_fewest_191 (fun (x4 : Int32) (M : g_M) => (f_X12_sizeOf x4 M).bind fun p23 => some (p23, M))) 20000000 x4 2 M) (nI (dF (pM (M.1 60) n u) (s_all (M.1 60) n) (2 ^ pt (s_all (M.1 60) n) 24))) (pt (s_all (M.1 60) n) 24) 20000000 0 (g_u M2 59 26 0) (by omega) (by omega) ⟨rfl, by omega, fun i hi => absurd hi (by omega)⟩
      obtain ⟨M4, v1, v2⟩ := lv_go c1' c4' db.1 (by omega) f1 7 20000000 1 M3 (by omega) (by omega) (by omega) (by rw [ini.2]; exact z3)
      rw [if_neg (fun q => tr (Or.inl (by have := (nI_eq (b := 0) (by omega) (by omega)).mp q; exact this))), if_neg (fun q => tr (Or.inr ((nI_eq (by omega) (by omega)).mp q)))] at g2
      have g2' := g2.trans (z1.trans v1)
      have fr : g_fr [64, 71, 72] [(59, 6), (59, 7), (59, 8), (59, 9), (59, 10), (59, 11), (59, 12), (59, 13), (59, 14), (59, 15), (59, 16), (59, 26)] M1 M4 := (((g1.mono (by decide) (by decide)).uT (by decide)).trans (z2.mono (by decide) (by decide))).trans (v2.mono (by decide) (by decide))
      refine easy (Op.say' r1 cls0 g2' fr (by decide) (by decide)) (fun p q => ?_)
      rw [cls0] at q
      rw [← Option.some.inj q]
      exact HF1
end FEWEST
