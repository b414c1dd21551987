/-! both sides may leave scratch behind -/
theorem g_fr.find {S : List Nat} {T : List (Nat × Nat)} {A B : g_M} (h : g_fr S T A B) (c : Nat) (h63 : 63 ∉ S) (hT : (63, c) ∉ T) : g_fr S T (findM c A) (findM c B) := by
  intro k i a b
  have e := h 63 c h63 hT
  have q := h k i a b
  unfold findM
  rw [g_u_at, g_u_at, g_row_2, g_row_2, e.1]
  refine ⟨?_, q.2⟩
  split
  · rfl
  · exact q.1
theorem SC_63 {S : List Nat} (hS : ∀ k ∈ S, k ∈ SC) : 63 ∉ S := fun h => absurd (hS 63 h) (by decide)
theorem ST_63 {T : List (Nat × Nat)} (hT : ∀ q ∈ T, q ∈ ST) {c : Nat} (hc : c < 7) : (63, c) ∉ T := fun h => by
  have := hT _ h
  revert this
  rcases (show c = 0 ∨ c = 1 ∨ c = 2 ∨ c = 3 ∨ c = 4 ∨ c = 5 ∨ c = 6 by omega) with rfl | rfl | rfl | rfl | rfl | rfl | rfl <;> decide
section TELLS2
variable {a b : g_M → Option (Int32 × g_M)} {t n l m h c1 c2 c3 : Nat} {M M1 M2 : g_M} {S : List Nat} {T : List (Nat × Nat)}
theorem Op.say' {v : Int32} (H : Rel0 t n l m h c1 c2 c3 M1) (ha : a M = some (v, M1)) (hb : b M1 = some (v, M2)) (fr : g_fr S T M1 M2) (hS : ∀ k ∈ S, k ∈ SC) (hT : ∀ q ∈ T, q ∈ ST) : Op a b t M := ⟨_, _, ha, hb, rfl, _, _, _, _, _, _, _, (H.keep fr hS hT).mono (by omega)⟩
theorem Op.t0' (H : Rel0 t n l m h c1 c2 c3 M1) (ha : a M = (f_X2_tell (-1000000001) M1).bind fun p => some (p.1, p.2)) (hb : b (tellM 0 M1) = (f_X12_finding 0 M2).bind fun p => some (p.1, p.2)) (fr : g_fr S T (tellM 0 M1) M2) (hS : ∀ k ∈ S, k ∈ SC) (hT : ∀ q ∈ T, q ∈ ST) : Op a b t M := ⟨(-1000000001, tellM 0 M1), (-1000000001, findM 0 M2), ha.trans (by rw [tell0, Option.bind_some]), hb.trans (by rw [find0, Option.bind_some]), rfl, _, _, _, _, _, _, _, (H.tell (c := 0) (by omega)).keep (fr.find 0 (SC_63 hS) (ST_63 hT (by omega))) hS hT⟩
theorem Op.t1' (H : Rel0 t n l m h c1 c2 c3 M1) (ha : a M = (f_X2_tell (-1000000002) M1).bind fun p => some (p.1, p.2)) (hb : b (tellM 1 M1) = (f_X12_finding 1 M2).bind fun p => some (p.1, p.2)) (fr : g_fr S T (tellM 1 M1) M2) (hS : ∀ k ∈ S, k ∈ SC) (hT : ∀ q ∈ T, q ∈ ST) : Op a b t M := ⟨(-1000000002, tellM 1 M1), (-1000000002, findM 1 M2), ha.trans (by rw [tell1, Option.bind_some]), hb.trans (by rw [find1, Option.bind_some]), rfl, _, _, _, _, _, _, _, (H.tell (c := 1) (by omega)).keep (fr.find 1 (SC_63 hS) (ST_63 hT (by omega))) hS hT⟩
theorem Op.t2' (H : Rel0 t n l m h c1 c2 c3 M1) (ha : a M = (f_X2_tell (-1000000003) M1).bind fun p => some (p.1, p.2)) (hb : b (tellM 2 M1) = (f_X12_finding 2 M2).bind fun p => some (p.1, p.2)) (fr : g_fr S T (tellM 2 M1) M2) (hS : ∀ k ∈ S, k ∈ SC) (hT : ∀ q ∈ T, q ∈ ST) : Op a b t M := ⟨(-1000000003, tellM 2 M1), (-1000000003, findM 2 M2), ha.trans (by rw [tell2, Option.bind_some]), hb.trans (by rw [find2, Option.bind_some]), rfl, _, _, _, _, _, _, _, (H.tell (c := 2) (by omega)).keep (fr.find 2 (SC_63 hS) (ST_63 hT (by omega))) hS hT⟩
theorem Op.t3' (H : Rel0 t n l m h c1 c2 c3 M1) (ha : a M = (f_X2_tell (-1000000004) M1).bind fun p => some (p.1, p.2)) (hb : b (tellM 3 M1) = (f_X12_finding 3 M2).bind fun p => some (p.1, p.2)) (fr : g_fr S T (tellM 3 M1) M2) (hS : ∀ k ∈ S, k ∈ SC) (hT : ∀ q ∈ T, q ∈ ST) : Op a b t M := ⟨(-1000000004, tellM 3 M1), (-1000000004, findM 3 M2), ha.trans (by rw [tell3, Option.bind_some]), hb.trans (by rw [find3, Option.bind_some]), rfl, _, _, _, _, _, _, _, (H.tell (c := 3) (by omega)).keep (fr.find 3 (SC_63 hS) (ST_63 hT (by omega))) hS hT⟩
theorem Op.t4' (H : Rel0 t n l m h c1 c2 c3 M1) (ha : a M = (f_X2_tell (-1000000005) M1).bind fun p => some (p.1, p.2)) (hb : b (tellM 4 M1) = (f_X12_finding 4 M2).bind fun p => some (p.1, p.2)) (fr : g_fr S T (tellM 4 M1) M2) (hS : ∀ k ∈ S, k ∈ SC) (hT : ∀ q ∈ T, q ∈ ST) : Op a b t M := ⟨(-1000000005, tellM 4 M1), (-1000000005, findM 4 M2), ha.trans (by rw [tell4, Option.bind_some]), hb.trans (by rw [find4, Option.bind_some]), rfl, _, _, _, _, _, _, _, (H.tell (c := 4) (by omega)).keep (fr.find 4 (SC_63 hS) (ST_63 hT (by omega))) hS hT⟩
theorem Op.t5' (H : Rel0 t n l m h c1 c2 c3 M1) (ha : a M = (f_X2_tell (-1000000006) M1).bind fun p => some (p.1, p.2)) (hb : b (tellM 5 M1) = (f_X12_finding 5 M2).bind fun p => some (p.1, p.2)) (fr : g_fr S T (tellM 5 M1) M2) (hS : ∀ k ∈ S, k ∈ SC) (hT : ∀ q ∈ T, q ∈ ST) : Op a b t M := ⟨(-1000000006, tellM 5 M1), (-1000000006, findM 5 M2), ha.trans (by rw [tell5, Option.bind_some]), hb.trans (by rw [find5, Option.bind_some]), rfl, _, _, _, _, _, _, _, (H.tell (c := 5) (by omega)).keep (fr.find 5 (SC_63 hS) (ST_63 hT (by omega))) hS hT⟩
theorem Op.t6' (H : Rel0 t n l m h c1 c2 c3 M1) (ha : a M = (f_X2_tell (-1000000007) M1).bind fun p => some (p.1, p.2)) (hb : b (tellM 6 M1) = (f_X12_finding 6 M2).bind fun p => some (p.1, p.2)) (fr : g_fr S T (tellM 6 M1) M2) (hS : ∀ k ∈ S, k ∈ SC) (hT : ∀ q ∈ T, q ∈ ST) : Op a b t M := ⟨(-1000000007, tellM 6 M1), (-1000000007, findM 6 M2), ha.trans (by rw [tell6, Option.bind_some]), hb.trans (by rw [find6, Option.bind_some]), rfl, _, _, _, _, _, _, _, (H.tell (c := 6) (by omega)).keep (fr.find 6 (SC_63 hS) (ST_63 hT (by omega))) hS hT⟩
end TELLS2
section OPSK
variable {t n l m h c1 c2 c3 : Nat} {M : g_M}
theorem op_lock (ht : t < 64) (H : Rel0 t n l m h c1 c2 c3 M) (x y : Int32) : Op (f_X11_lock x y) (f_X12_lock x y) t M := by
  obtain ⟨h1, h2, h3, h4, h5, h6, h7, h8, h9, h10, h11⟩ := id H
  obtain ⟨b1, b2, b3, b4, e0, e4, e1, e3, eu, wA, wL, wH, wT⟩ := id h1
  have hc := h9.lt ht
  have hc3 : c3 + 1 ≤ 1000 * (t + 1) := by have := h9.2.2.2.2.2; omega
  rcases ix x (n := 24) (by omega) with ho | ⟨q, hq, rfl⟩
  · refine Op.t0 H ?_ ?_
    · unfold f_X11_lock
      rw [ik_out ho, Option.bind_some, if_pos rfl]
    · unfold f_X12_lock
      rw [mk_out ho, Option.bind_some, if_pos rfl]
  have mod : ∀ M' : g_M, f_X12_lock (nI q) y M' = (f_X12_hangs (if y = 0 then 1 else 5) (-1) (-1) (nI q) M').bind fun p3 => some (p3.1, p3.2) := fun M' => by
    unfold f_X12_lock f_X12_lock_17
    rw [mk_in hq, Option.bind_some, if_neg (by decide)]
    split <;> rfl
  by_cases hh : h = 40
  · refine Op.t1 H ?_ ?_
    · unfold f_X11_lock
      rw [ik_in hq, Option.bind_some, if_neg (by decide), show f_X4_hasRoomFor 1 M = some (if h + 1 ≤ 40 then 1 else 0) from room_eq b4 h3.1 (k := 1) (by omega), Option.bind_some, if_neg (show ¬ h + 1 ≤ 40 by omega), if_pos rfl]
    · rw [mod, hangs_full (M := tellM 1 M) (by rw [← hh]; exact e3), find1, Option.bind_some]
      rfl
  have hh2 : h < 40 := by omega
  have cls : f_X11_lock (nI q) y M = (f_X4_add (if y = 0 then 1 else 5) (nI q) 0 0 (if y = 0 then 3 else 2) 1 M).bind fun p3 => some (p3.1, p3.2) := by
    unfold f_X11_lock f_X4_addLock f_X4_addLock_10 f_X4_addLock_22
    rw [ik_in hq, Option.bind_some, if_neg (by decide), show f_X4_hasRoomFor 1 M = some (if h + 1 ≤ 40 then 1 else 0) from room_eq b4 h3.1 (k := 1) (by omega), Option.bind_some, if_pos (show h + 1 ≤ 40 by omega), if_neg (by decide)]
    by_cases c : y = 0
    · rw [if_pos c, if_pos c, if_pos c, if_pos c]
      cases f_X4_add 1 (nI q) 0 0 3 1 M <;> rfl
    · rw [if_neg c, if_neg c, if_neg c, if_neg c]
      cases f_X4_add 5 (nI q) 0 0 2 1 M <;> rfl
  obtain ⟨A, a1, a2, a3⟩ := lock_core (t' := t + 1) (by omega) H hh2 hc3 (by omega) hq (K := if y = 0 then 1 else 5) (co := if y = 0 then 3 else 2) (by
    by_cases c : y = 0
    · rw [if_pos c, if_pos c]
      exact Or.inl ⟨rfl, rfl⟩
    · rw [if_neg c, if_neg c]
      exact Or.inr ⟨rfl, rfl⟩)
  have e3' : A.1 60 3 = nI h := (a2.at (by decide) (by decide)).trans e3
  exact ⟨(nI h, A), (nI h, mH2 h (if y = 0 then 1 else 5) (-1) (-1) (nI q) A), by rw [cls, a1]; rfl, by rw [mod, hangs_eq hh2 e3']; rfl, rfl, n, l, m, h + 1, c1, c2, c3 + 1, a3⟩
theorem op_chain (ht : t < 64) (H : Rel0 t n l m h c1 c2 c3 M) (x z y : Int32) : Op (f_X11_chain x z y) (f_X12_chain x z y) t M := by
  obtain ⟨h1, h2, h3, h4, h5, h6, h7, h8, h9, h10, h11⟩ := id H
  obtain ⟨b1, b2, b3, b4, e0, e4, e1, e3, eu, wA, wL, wH, wT⟩ := id h1
  have hc := h9.lt ht
  have hc3 : c3 + 1 ≤ 1000 * (t + 1) := by have := h9.2.2.2.2.2; omega
  rcases ix x (n := h) (by omega) with ho | ⟨i, hi, rfl⟩
  · refine Op.t0 H ?_ ?_
    · unfold f_X11_chain
      rw [hh_out h3.1 ho, Option.bind_some, if_pos rfl]
      rfl
    · unfold f_X12_chain
      rw [mh_out (n := h) (M := tellM 0 M) e3 (by omega) ho, Option.bind_some, if_pos rfl]
      rfl
  rcases ix z (n := h) (by omega) with ho | ⟨j, hj, rfl⟩
  · refine Op.t0 H ?_ ?_
    · unfold f_X11_chain
      rw [hh_in h3.1 hi (by omega), Option.bind_some, if_neg (by decide), hh_out h3.1 ho, Option.bind_some, if_pos rfl]
      rfl
    · unfold f_X12_chain
      rw [mh_in (n := h) (M := tellM 0 M) e3 (by omega) hi, Option.bind_some, if_neg (by decide), mh_out (n := h) (M := tellM 0 M) e3 (by omega) ho, Option.bind_some, if_pos rfl]
      rfl
  have mod : ∀ M' : g_M, M'.1 60 = M.1 60 → f_X12_chain (nI i) (nI j) y M' = (f_X12_hangs (if y = 0 then 2 else 3) (nI i) (nI j) (-1) M').bind fun p3 => some (p3.1, p3.2) := fun M' e => by
    unfold f_X12_chain f_X12_chain_26
    rw [mh_in (n := h) (M := M') (by rw [e]; exact e3) (by omega) hi, Option.bind_some, if_neg (by decide), mh_in (n := h) (M := M') (by rw [e]; exact e3) (by omega) hj, Option.bind_some, if_neg (by decide)]
    split <;> rfl
  by_cases hh : h = 40
  · refine Op.t1 H ?_ ?_
    · unfold f_X11_chain
      rw [hh_in h3.1 hi (by omega), Option.bind_some, if_neg (by decide), hh_in h3.1 hj (by omega), Option.bind_some, if_neg (by decide), show f_X4_hasRoomFor 1 M = some (if h + 1 ≤ 40 then 1 else 0) from room_eq b4 h3.1 (k := 1) (by omega), Option.bind_some, if_neg (show ¬ h + 1 ≤ 40 by omega), if_pos rfl]
    · rw [mod (tellM 1 M) rfl, hangs_full (M := tellM 1 M) (by rw [← hh]; exact e3), find1, Option.bind_some]
      rfl
  have hh2 : h < 40 := by omega
  have cls : f_X11_chain (nI i) (nI j) y M = (f_X4_add (if y = 0 then 2 else 3) 0 (nI i) (nI j) ((if y = 0 then 1 else 2) + M.1 30 i + M.1 30 j) (M.1 31 i + M.1 31 j) M).bind fun p3 => some (p3.1, p3.2) := by
    unfold f_X11_chain f_X4_addChain f_X4_addChain_9 f_X4_addChain_35
    rw [hh_in h3.1 hi (by omega), Option.bind_some, if_neg (by decide), hh_in h3.1 hj (by omega), Option.bind_some, if_neg (by decide), show f_X4_hasRoomFor 1 M = some (if h + 1 ≤ 40 then 1 else 0) from room_eq b4 h3.1 (k := 1) (by omega), Option.bind_some, if_pos (show h + 1 ≤ 40 by omega), if_neg (by decide), e_ld (by omega) (by omega), e_ld (by omega) (by omega), e_ld (by omega) (by omega), e_ld (by omega) (by omega)]
    simp only [Option.bind_some]
    by_cases c : y = 0
    · rw [if_pos c, if_pos c, if_pos c, if_pos c]
      cases f_X4_add 2 0 (nI i) (nI j) (1 + M.1 30 i + M.1 30 j) (M.1 31 i + M.1 31 j) M <;> rfl
    · rw [if_neg c, if_neg c, if_neg c, if_neg c]
      cases f_X4_add 3 0 (nI i) (nI j) (2 + M.1 30 i + M.1 30 j) (M.1 31 i + M.1 31 j) M <;> rfl
  obtain ⟨A, a1, a2, a3⟩ := chain_core (t' := t + 1) (by omega) H hh2 hc3 (by omega) hi hj (K := if y = 0 then 2 else 3) (w := if y = 0 then 1 else 2) (by
    by_cases c : y = 0
    · rw [if_pos c, if_pos c]
      exact Or.inl ⟨rfl, rfl⟩
    · rw [if_neg c, if_neg c]
      exact Or.inr ⟨rfl, rfl⟩)
  have r60 : A.1 60 = M.1 60 := (a2.row (by decide) (by decide)).1
  have e3' : A.1 60 3 = nI h := by rw [r60]; exact e3
  exact ⟨(nI h, A), (nI h, mH2 h (if y = 0 then 2 else 3) (nI i) (nI j) (-1) A), by rw [cls, a1]; rfl, by rw [mod A r60, hangs_eq hh2 e3']; rfl, rfl, n, l, m, h + 1, c1, c2, c3 + 1, a3⟩
theorem op_box (ht : t < 64) (H : Rel0 t n l m h c1 c2 c3 M) (x z : Int32) : Op (f_X11_box x z) (f_X12_box x z) t M := by
  obtain ⟨h1, h2, h3, h4, h5, h6, h7, h8, h9, h10, h11⟩ := id H
  obtain ⟨b1, b2, b3, b4, e0, e4, e1, e3, eu, wA, wL, wH, wT⟩ := id h1
  have hc := h9.lt ht
  have hc3 : c3 + 1 ≤ 1000 * (t + 1) := by have := h9.2.2.2.2.2; omega
  rcases ix x (n := h) (by omega) with ho | ⟨i, hi, rfl⟩
  · refine Op.t0 H ?_ ?_
    · unfold f_X11_box
      rw [hh_out h3.1 ho, Option.bind_some, if_pos rfl]
      rfl
    · unfold f_X12_box
      rw [mh_out (n := h) (M := tellM 0 M) e3 (by omega) ho, Option.bind_some, if_pos rfl]
      rfl
  rcases ix z (n := 24) (by omega) with ho | ⟨q, hq, rfl⟩
  · refine Op.t0 H ?_ ?_
    · unfold f_X11_box
      rw [hh_in h3.1 hi (by omega), Option.bind_some, if_neg (by decide), ik_out ho, Option.bind_some, if_pos rfl]
      rfl
    · unfold f_X12_box
      rw [mh_in (n := h) (M := tellM 0 M) e3 (by omega) hi, Option.bind_some, if_neg (by decide), mk_out ho, Option.bind_some, if_pos rfl]
      rfl
  have mod : ∀ M' : g_M, M'.1 60 = M.1 60 → f_X12_box (nI i) (nI q) M' = (f_X12_hangs 4 (nI i) (-1) (nI q) M').bind fun p3 => some (p3.1, p3.2) := fun M' e => by
    unfold f_X12_box
    rw [mh_in (n := h) (M := M') (by rw [e]; exact e3) (by omega) hi, Option.bind_some, if_neg (by decide), mk_in hq, Option.bind_some, if_neg (by decide)]
  by_cases hh : h = 40
  · refine Op.t1 H ?_ ?_
    · unfold f_X11_box
      rw [hh_in h3.1 hi (by omega), Option.bind_some, if_neg (by decide), ik_in hq, Option.bind_some, if_neg (by decide), show f_X4_hasRoomFor 1 M = some (if h + 1 ≤ 40 then 1 else 0) from room_eq b4 h3.1 (k := 1) (by omega), Option.bind_some, if_neg (show ¬ h + 1 ≤ 40 by omega), if_pos rfl]
    · rw [mod (tellM 1 M) rfl, hangs_full (M := tellM 1 M) (by rw [← hh]; exact e3), find1, Option.bind_some]
      rfl
  have hh2 : h < 40 := by omega
  have cls : f_X11_box (nI i) (nI q) M = (f_X4_add 4 (nI q) (nI i) 0 (4 + M.1 30 i) (M.1 31 i) M).bind fun p3 => some (p3.1, p3.2) := by
    unfold f_X11_box f_X4_addBox
    rw [hh_in h3.1 hi (by omega), Option.bind_some, if_neg (by decide), ik_in hq, Option.bind_some, if_neg (by decide), show f_X4_hasRoomFor 1 M = some (if h + 1 ≤ 40 then 1 else 0) from room_eq b4 h3.1 (k := 1) (by omega), Option.bind_some, if_pos (show h + 1 ≤ 40 by omega), if_neg (by decide), e_ld (by omega) (by omega), e_ld (by omega) (by omega)]
    simp only [Option.bind_some]
    cases f_X4_add 4 (nI q) (nI i) 0 (4 + M.1 30 i) (M.1 31 i) M <;> rfl
  obtain ⟨A, a1, a2, a3⟩ := box_core (t' := t + 1) (by omega) H hh2 hc3 (by omega) hi hq
  have r60 : A.1 60 = M.1 60 := (a2.row (by decide) (by decide)).1
  have e3' : A.1 60 3 = nI h := by rw [r60]; exact e3
  exact ⟨(nI h, A), (nI h, mH2 h 4 (nI i) (-1) (nI q) A), by rw [cls, a1]; rfl, by rw [mod A r60, hangs_eq hh2 e3']; rfl, rfl, n, l, m, h + 1, c1, c2, c3 + 1, a3⟩
end OPSK
