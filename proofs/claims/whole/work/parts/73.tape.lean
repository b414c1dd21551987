section TAPE
variable {b : Nat → Int32} {L N : Nat} {M : g_M} {t : s_T}
def rtv : List Int32 ⊕ Nat → Int32
  | .inl _ => -1
  | .inr p => nI p
abbrev FT (M M' : g_M) : Prop := g_fr [35, 77, 78, 79] [(32, 2), (32, 6), (32, 7)] M M'
theorem FE.wide {M M' : g_M} (h : FE M M') : FT M M' := g_fr.mono h (by decide) (by decide)
/-- what reading the tape leaves -/
def RT (b : Nat → Int32) (L : Nat) (M M' : g_M) (r : List Int32 ⊕ Nat) : Prop := FT M M' ∧ (∀ c, r = .inl c → c.length ≤ 120 ∧ M'.1 32 2 = nI c.length ∧ ∀ i, i < c.length → M'.1 35 i = c.getD i 0) ∧ ∀ p, r = .inr p → p ≤ L
theorem RT.bad {M' : g_M} (fe : FT M M') (ot : OT L t) : RT b L M M' (.inr t.1) := by
  have o1 := ot.1
  have o2 := ot.2.1
  refine ⟨fe, fun c q => ?_, fun p q => ?_⟩
  · cases q
  · have : t.1 = p := Sum.inr.inj q
    omega
theorem rt72 {M' : g_M} (tp : TB b L N M') (ct : CT b L N M' t) : f_X9_readTape_72 0 M' = some (rtv (.inr t.1), M') := by
  unfold f_X9_readTape_72
  rw [if_pos rfl, ldp tp ct, Option.bind_some]
  rfl
theorem rt35 {M' : g_M} (tp : TB b L N M') (ct : CT b L N M' t) : f_X9_readTape_35 M' = some (rtv (.inr t.1), M') := by
  unfold f_X9_readTape_35 f_X9_readTape_36
  rw [if_pos rfl, rt72 tp ct]
theorem rt_c (tp0 : TP b L M) : ∃ M' : g_M, f_X9_readTape M = some (rtv (s_text b L), M') ∧ RT b L M M' (s_text b L) := by
  have hL := tp0.1
  obtain ⟨M00, N, z1, z2, tp00⟩ := ft_c tp0
  have fr0 : FE M00 (g_u (g_u M00 32 2 0) 32 6 0) := (g_fr.rfl.uT (by decide)).uT (by decide)
  have fe0 : FT M (g_u (g_u M00 32 2 0) 32 6 0) := (g_fr.mono z2 (by decide) (by simp)).trans fr0.wide
  have tp1 := fr0.tp tp00
  have ot1 := (OT.tk (b := b) (L := L) (a := 0) (by omega)).1
  have a3 : CT b L N (g_u (g_u M00 32 2 0) 32 6 0) (s_tk b L 0) := ⟨0, Nat.zero_le _, rfl, rfl⟩
  have l1 : (g_u (g_u M00 32 2 0) 32 6 0).1 32 2 = nI 0 := rfl
  unfold f_X9_readTape s_text
  rw [z1, Option.bind_some, Option.bind_some, Option.bind_some]
  generalize s_tk b L 0 = t0 at a3 ot1
  generalize g_u (g_u M00 32 2 0) 32 6 0 = M1 at fr0 fe0 tp1 a3 l1
  have fe1 : FT M M1 := fe0
  by_cases c7 : t0.2.2.1 = 7
  · obtain ⟨M2, b1, b2, b3, b7⟩ := cpass tp1 a3 c7 (by decide)
    have ot2 := (OT.adv (b := b) ot1).1
    have lt2 := OT.adv1 (b := b) ot1 (by rw [c7]; decide)
    rw [if_pos c7, b1, Option.bind_some, if_neg (show ¬ (1 : Int32) = 0 by decide)]
    dsimp only
    have fe2 : FT M M2 := fe1.trans b2.e.wide
    have tp2 := b2.tp tp1
    obtain ⟨M3, d1, d2, d3, d4, d5, d6⟩ := either_c (b := b) (L := L) 8 0 (by omega) (by omega) M2 (s_adv b L t0) 0 tp2 b3 ot2 (by omega) (b2.len.trans l1)
    have d1' : f_X9_readEither 8 0 M2 = some (bi (s_either b L 8 0 (s_adv b L t0)).1, M3) := d1
    rw [d1', Option.bind_some]
    dsimp only
    have fe3 : FT M M3 := fe2.trans (FE.wide d2)
    have tp3 : TB b L N M3 := FE.tp d2 tp2
    rcases hr : s_either b L 8 0 (s_adv b L t0) with ⟨ok, c, t1⟩
    rw [hr] at d3 d4 d6
    cases ok
    · rw [if_pos (show bi (false, c, t1).1 = 0 from rfl), rt35 tp3 d3]
      exact ⟨M3, rfl, RT.bad fe3 d4⟩
    · rw [if_neg (show ¬ bi (true, c, t1).1 = 0 from show ¬ bi true = 0 by decide)]
      obtain ⟨d6a, d6b⟩ := d6 rfl
      have d6b' : (s_adv b L t0).1 + c.length ≤ t1.1 := d6b
      have m1 : t1.1 ≤ t1.2.1 := d4.1
      have m2 : t1.2.1 ≤ L := d4.2.1
      have d3' : CT b L N M3 t1 := d3
      unfold f_X9_readTape_36
      rw [if_neg (show ¬ (1 : Int32) = 0 by decide)]
      dsimp only
      by_cases c8 : t1.2.2.1 = 8
      · rw [if_pos c8]
        obtain ⟨M4, e1, e2, e3, e7⟩ := cpass tp3 d3' c8 (by decide)
        have tp4 := e2.tp tp3
        have ot4 : OT L (s_adv b L t1) := (OT.adv (b := b) d4).1
        have lt4 : t1.1 + 1 ≤ (s_adv b L t1).1 := OT.adv1 (b := b) d4 (by
          have : (true, c, t1).2.2.2.2.1 = t1.2.2.1 := rfl
          rw [this, c8]
          decide)
        rw [e1, Option.bind_some, if_neg (show ¬ (1 : Int32) = 0 by decide)]
        dsimp only
        have k4 : M4.1 32 2 = nI c.length := e2.len.trans (d6a.1.trans (by rw [Nat.zero_add]))
        obtain ⟨M5, f1, f2, f3, f4, f5, f6⟩ := either_c (b := b) (L := L) 8 0 (by omega) (by omega) M4 (s_adv b L t1) c.length tp4 e3 ot4 (by omega) k4
        have f1' : f_X9_readEither 8 0 M4 = some (bi (s_either b L 8 0 (s_adv b L t1)).1, M5) := f1
        rw [f1', Option.bind_some]
        dsimp only
        have fe5 : FT M M5 := (fe3.trans e2.e.wide).trans (FE.wide f2)
        have tp5 : TB b L N M5 := FE.tp f2 tp4
        rcases hr2 : s_either b L 8 0 (s_adv b L t1) with ⟨ok, c2, t2⟩
        rw [hr2] at f3 f4 f6
        cases ok
        · obtain ⟨q, q1, q2⟩ := f5
          obtain ⟨M6, g1, g2, q', q3, q4⟩ := em_any q1 q2 4 0 0
          obtain ⟨M7, h1, h2, -⟩ := em_any q3 q4 5 0 0
          rw [g1, Option.bind_some]
          dsimp only
          rw [h1, Option.bind_some]
          have ct7 : CT b L N M7 t2 := (CT.em f3 g2).em h2
          have tp7 : TB b L N M7 := (tp5.fr g2 (by decide)).fr h2 (by decide)
          have z : f_X9_readTape_72 (bi (false, c2, t2).1) M7 = some (rtv (.inr t2.1), M7) := rt72 tp7 ct7
          rw [z]
          exact ⟨M7, rfl, RT.bad ((fe5.trans (g2.mono (by decide) (by decide))).trans (h2.mono (by decide) (by decide))) f4⟩
        · obtain ⟨f6a, f6b⟩ := f6 rfl
          have f6b' : (s_adv b L t1).1 + c2.length ≤ t2.1 := f6b
          have n1 : t2.1 ≤ t2.2.1 := f4.1
          have n2 : t2.2.1 ≤ L := f4.2.1
          have cdA : CD M2 M5 0 (c ++ c2) := (d6a.post e2).trans (by rw [Nat.zero_add]; exact f6a)
          have len5 : M5.1 32 2 = nI (c.length + c2.length) := f6a.1
          have cdB := cdA.emit (s_stp 4 0 0)
          rw [List.length_append, Nat.zero_add] at cdB
          have cdC := cdB.emit (s_stp 5 0 0)
          rw [em_ok (k := c.length + c2.length) (by omega) len5, Option.bind_some]
          dsimp only
          rw [em_ok (k := c.length + c2.length + 1) (by omega) rfl, Option.bind_some]
          dsimp only
          rw [List.length_append, List.length_append, Nat.zero_add, show c.length + c2.length + [s_stp 4 0 0].length = c.length + c2.length + 1 from rfl] at cdC
          have fe7 := (((fe5.uS (c := 35) (i := c.length + c2.length) (v := s_stp 4 0 0) (by decide)).uT (c := 32) (i := 2) (v := nI (c.length + c2.length + 1)) (by decide)).uS (c := 35) (i := c.length + c2.length + 1) (v := s_stp 5 0 0) (by decide)).uT (c := 32) (i := 2) (v := nI (c.length + c2.length + 1 + 1)) (by decide)
          have ct7 : CT b L N (g_u (g_u (g_u (g_u M5 35 (c.length + c2.length) (s_stp 4 0 0)) 32 2 (nI (c.length + c2.length + 1))) 35 (c.length + c2.length + 1) (s_stp 5 0 0)) 32 2 (nI (c.length + c2.length + 1 + 1))) t2 := (CT.em f3 ((g_fr.rfl.uS (by decide)).uT (by decide))).em ((g_fr.rfl.uS (by decide)).uT (by decide))
          have tp7 := tp5.fr (M' := g_u (g_u (g_u (g_u M5 35 (c.length + c2.length) (s_stp 4 0 0)) 32 2 (nI (c.length + c2.length + 1))) 35 (c.length + c2.length + 1) (s_stp 5 0 0)) 32 2 (nI (c.length + c2.length + 1 + 1))) (S := [35]) (T := [(32, 2)]) ((((g_fr.rfl.uS (by decide)).uT (by decide)).uS (by decide)).uT (by decide)) (by decide)
          generalize (g_u (g_u (g_u (g_u M5 35 (c.length + c2.length) (s_stp 4 0 0)) 32 2 (nI (c.length + c2.length + 1))) 35 (c.length + c2.length + 1) (s_stp 5 0 0)) 32 2 (nI (c.length + c2.length + 1 + 1))) = M7 at cdC fe7 ct7 tp7
          unfold f_X9_readTape_72
          rw [if_neg (show ¬ bi true = 0 by decide), ldk tp7 ct7, Option.bind_some]
          by_cases c0 : t2.2.2.1 = 0
          · rw [if_pos c0, if_pos c0]
            refine ⟨M7, rfl, fe7, fun cc q => ?_, fun p q => by cases q⟩
            have q' := Sum.inl.inj q
            subst q'
            have len : (c ++ c2 ++ [s_stp 4 0 0, s_stp 5 0 0]).length = c.length + c2.length + 2 := by
              rw [List.length_append, List.length_append]
              rfl
            have ap : c ++ c2 ++ [s_stp 4 0 0, s_stp 5 0 0] = c ++ c2 ++ [s_stp 4 0 0] ++ [s_stp 5 0 0] := by
              rw [List.append_assoc (c ++ c2) [s_stp 4 0 0] [s_stp 5 0 0]]
              rfl
            refine ⟨by rw [len]; omega, ?_, fun i hi => ?_⟩
            · rw [ap, cdC.1, Nat.zero_add]
            · rw [ap] at hi ⊢
              have := cdC.2.2 i hi
              rw [Nat.zero_add] at this
              exact this
          · rw [if_neg c0, if_neg c0]
            refine ⟨M7, ?_, RT.bad fe7 f4⟩
            rw [ldp tp7 ct7, Option.bind_some]
            rfl
      · rw [if_neg c8, cpass0 tp3 d3' c8, Option.bind_some, if_pos rfl]
        dsimp only
        unfold f_X9_readTape_72
        rw [if_neg (show ¬ (1 : Int32) = 0 by decide), ldk tp3 d3', Option.bind_some]
        by_cases c0 : t1.2.2.1 = 0
        · rw [if_pos c0, if_pos c0]
          refine ⟨M3, rfl, fe3, fun cc q => ?_, fun p q => by cases q⟩
          have q' := Sum.inl.inj q
          subst q'
          refine ⟨by omega, by rw [d6a.1, Nat.zero_add], fun i hi => ?_⟩
          have := d6a.2.2 i hi
          rw [Nat.zero_add] at this
          exact this
        · rw [if_neg c0, if_neg c0]
          refine ⟨M3, ?_, RT.bad fe3 d4⟩
          rw [ldp tp3 d3', Option.bind_some]
          rfl
  · rw [if_neg c7, cpass0 tp1 a3 c7, Option.bind_some, if_pos rfl, rt35 tp1 a3]
    exact ⟨M1, rfl, RT.bad fe1 ot1⟩
end TAPE
