section READD
variable {b : Nat → Int32} {L N : Nat} {M : g_M} {t : s_T}
theorem one_c {kE : Int32 → g_M → Option (Int32 × g_M)} {fE : Nat → s_T → s_R} {o : Nat} (ho : o ≤ 6) (hE : o < 6 → CRd b L N (kE (nI (o + 1))) (fE (o + 1))) : CRd b L N (f_X9_readOne kE (nI o)) (s_one b L fE o) := by
  intro M t k tp ct ot hk e2
  have hL := tp.1
  have o1 := ot.1
  have o2 := ot.2.1
  unfold f_X9_readOne s_one
  by_cases c12 : t.2.2.1 = 12
  · have c3 : ¬ t.2.2.1 = 3 := by rw [c12]; decide
    rw [if_neg c3, if_pos c12]
    obtain ⟨M1, a1, a2, a3, a7⟩ := cpass tp ct c12 (by decide)
    have tp1 := a2.tp tp
    have ot1 := (OT.adv (b := b) ot).1
    have lt1 := OT.adv1 (b := b) ot (by rw [c12]; decide)
    obtain ⟨v, v1, v2⟩ := ldv tp1 a3
    rw [a1, Option.bind_some, if_neg (show ¬ (1 : Int32) = 0 by decide)]
    dsimp only
    rw [v1, Option.bind_some]
    by_cases k2 : (s_adv b L t).2.2.1 = 2
    · have hv := v2 k2
      subst hv
      obtain ⟨M2, b1, b2, b3, b7⟩ := cpass tp1 a3 k2 (by decide)
      have tp2 := b2.tp tp1
      have ot2 := (OT.adv (b := b) ot1).1
      have lt2 := OT.adv1 (b := b) ot1 (by rw [k2]; decide)
      rw [if_pos k2, b1, Option.bind_some, if_neg (show ¬ (1 : Int32) = 0 by decide)]
      dsimp only
      by_cases k13 : (s_adv b L (s_adv b L t)).2.2.1 = 13
      · obtain ⟨M3, d1, d2, d3, d7⟩ := cpass tp2 b3 k13 (by decide)
        have ot3 := (OT.adv (b := b) ot2).1
        have lt3 := OT.adv1 (b := b) ot2 (by rw [k13]; decide)
        rw [if_pos k13, d1, Option.bind_some, if_neg (show ¬ (1 : Int32) = 0 by decide)]
        dsimp only
        have tp3 := d2.tp tp2
        obtain ⟨M4, f1, f2, f3, f4, f5⟩ := part_c tp3 d3 ot3
        have fa4 : FA M M4 := ((a2.trans b2).trans d2).trans f2
        rw [f1, Option.bind_some]
        rcases hr : s_part b L (s_adv b L (s_adv b L (s_adv b L t))) with ⟨ok, p, t1⟩
        rw [hr] at f3 f4 f5
        cases ok
        · rw [if_pos (show bi false = 0 from rfl)]
          exact ⟨M4, rfl, fin_fail fa4 e2 (by omega) f3 f4⟩
        · rw [if_neg (show ¬ bi true = 0 by decide)]
          have f5' := f5 rfl
          obtain ⟨M5, g1, g2⟩ := fin_emit (t := t) hL fa4 e2 hk (by have := f5'.2; omega) f3 f4 0 (s_adv b L t).2.2.2 p
          dsimp only
          rw [f5'.1, g1, Option.bind_some, if_neg (show ¬ (1 : Int32) = 0 by decide)]
          exact ⟨M5, rfl, g2⟩
      · rw [if_neg k13, cpass0 tp2 b3 k13, Option.bind_some, if_pos rfl]
        exact ⟨M2, rfl, fin_fail (a2.trans b2) e2 (by omega) b3 ot2⟩
    · rw [if_neg k2, cpass0 tp1 a3 k2, Option.bind_some, if_pos rfl]
      exact ⟨M1, rfl, fin_fail a2 e2 (by omega) a3 ot1⟩
  rw [if_neg (c := t.2.2.1 = 12) c12, cpass0 tp ct c12, Option.bind_some, if_pos rfl]
  dsimp only
  by_cases c14 : t.2.2.1 = 14
  · have c3 : ¬ t.2.2.1 = 3 := by rw [c14]; decide
    rw [if_neg c3, if_pos c14]
    obtain ⟨M1, a1, a2, a3, a7⟩ := cpass tp ct c14 (by decide)
    have tp1 := a2.tp tp
    have ot1 := (OT.adv (b := b) ot).1
    have lt1 := OT.adv1 (b := b) ot (by rw [c14]; decide)
    rw [a1, Option.bind_some, if_neg (show ¬ (1 : Int32) = 0 by decide)]
    dsimp only
    obtain ⟨M4, f1, f2, f3, f4, f5⟩ := part_c tp1 a3 ot1
    have fa4 : FA M M4 := a2.trans f2
    rw [f1, Option.bind_some]
    rcases hr : s_part b L (s_adv b L t) with ⟨ok, p, t1⟩
    rw [hr] at f3 f4 f5
    cases ok
    · rw [if_pos (show bi false = 0 from rfl)]
      exact ⟨M4, rfl, fin_fail fa4 e2 (by omega) f3 f4⟩
    · rw [if_neg (show ¬ bi true = 0 by decide)]
      have f5' := f5 rfl
      obtain ⟨M5, g1, g2⟩ := fin_emit (t := t) hL fa4 e2 hk (by have := f5'.2; omega) f3 f4 1 0 p
      dsimp only
      rw [f5'.1, g1, Option.bind_some, if_neg (show ¬ (1 : Int32) = 0 by decide)]
      exact ⟨M5, rfl, g2⟩
  rw [if_neg (c := t.2.2.1 = 14) c14, cpass0 tp ct c14, Option.bind_some, if_pos rfl]
  dsimp only
  by_cases c15 : t.2.2.1 = 15
  · have c3 : ¬ t.2.2.1 = 3 := by rw [c15]; decide
    rw [if_neg c3, if_pos c15]
    obtain ⟨M1, a1, a2, a3, a7⟩ := cpass tp ct c15 (by decide)
    have tp1 := a2.tp tp
    have ot1 := (OT.adv (b := b) ot).1
    have lt1 := OT.adv1 (b := b) ot (by rw [c15]; decide)
    rw [a1, Option.bind_some, if_neg (show ¬ (1 : Int32) = 0 by decide)]
    dsimp only
    obtain ⟨M4, f1, f2, f3, f4, f5⟩ := part_c tp1 a3 ot1
    have fa4 : FA M M4 := a2.trans f2
    rw [f1, Option.bind_some]
    rcases hr : s_part b L (s_adv b L t) with ⟨ok, p, t1⟩
    rw [hr] at f3 f4 f5
    cases ok
    · rw [if_pos (show bi false = 0 from rfl)]
      exact ⟨M4, rfl, fin_fail fa4 e2 (by omega) f3 f4⟩
    · rw [if_neg (show ¬ bi true = 0 by decide)]
      have f5' := f5 rfl
      obtain ⟨M5, g1, g2⟩ := fin_emit (t := t) hL fa4 e2 hk (by have := f5'.2; omega) f3 f4 2 0 p
      dsimp only
      rw [f5'.1, g1, Option.bind_some, if_neg (show ¬ (1 : Int32) = 0 by decide)]
      exact ⟨M5, rfl, g2⟩
  rw [if_neg (c := t.2.2.1 = 15) c15, cpass0 tp ct c15, Option.bind_some, if_pos rfl]
  dsimp only
  by_cases c16 : t.2.2.1 = 16
  · have c3 : ¬ t.2.2.1 = 3 := by rw [c16]; decide
    rw [if_neg c3, if_pos c16]
    obtain ⟨M1, a1, a2, a3, a7⟩ := cpass tp ct c16 (by decide)
    have tp1 := a2.tp tp
    have ot1 := (OT.adv (b := b) ot).1
    have lt1 := OT.adv1 (b := b) ot (by rw [c16]; decide)
    obtain ⟨v, v1, v2⟩ := ldv tp1 a3
    rw [a1, Option.bind_some, if_neg (show ¬ (1 : Int32) = 0 by decide)]
    dsimp only
    rw [v1, Option.bind_some]
    by_cases k2 : (s_adv b L t).2.2.1 = 2
    · have hv := v2 k2
      subst hv
      obtain ⟨M2, b1, b2, b3, b7⟩ := cpass tp1 a3 k2 (by decide)
      have ot2 := (OT.adv (b := b) ot1).1
      have lt2 := OT.adv1 (b := b) ot1 (by rw [k2]; decide)
      rw [if_pos k2, b1, Option.bind_some, if_neg (show ¬ (1 : Int32) = 0 by decide)]
      obtain ⟨M5, g1, g2⟩ := fin_emit (t := t) hL (a2.trans b2) e2 hk (by omega) b3 ot2 3 (s_adv b L t).2.2.2 0
      dsimp only
      rw [g1, Option.bind_some, if_neg (show ¬ (1 : Int32) = 0 by decide)]
      exact ⟨M5, rfl, g2⟩
    · rw [if_neg k2, cpass0 tp1 a3 k2, Option.bind_some, if_pos rfl]
      exact ⟨M1, rfl, fin_fail a2 e2 (by omega) a3 ot1⟩
  rw [if_neg (c := t.2.2.1 = 16) c16, cpass0 tp ct c16, Option.bind_some, if_pos rfl]
  dsimp only
  by_cases c3 : t.2.2.1 = 3
  · rw [if_pos c3]
    by_cases c6 : o < 6
    · rw [if_neg (show ¬ (6 : Int32) ≤ nI o from nI_ge (b := 6) c6 (by omega)), if_pos c6]
      obtain ⟨M1, a1, a2, a3, a7⟩ := cpass tp ct c3 (by decide)
      have tp1 := a2.tp tp
      have ot1 := (OT.adv (b := b) ot).1
      have lt1 := OT.adv1 (b := b) ot (by rw [c3]; decide)
      obtain ⟨M2, d1, d2, d3, d4, d5, d6⟩ := hE c6 M1 (s_adv b L t) k tp1 a3 ot1 (by omega) (a2.len.trans e2)
      rw [a1, Option.bind_some, if_neg (show ¬ (1 : Int32) = 0 by decide)]
      dsimp only
      rw [nI_1, d1, Option.bind_some]
      rcases hr : fE (o + 1) (s_adv b L t) with ⟨ok, c, t1⟩
      rw [hr] at d3 d4 d6
      cases ok
      · rw [if_pos (show bi false = 0 from rfl)]
        exact ⟨M2, rfl, a2.e.trans d2, d3, d4, d5, fun q => Bool.noConfusion q⟩
      · rw [if_neg (show ¬ bi true = 0 by decide)]
        dsimp only
        obtain ⟨d6a, d6b⟩ := d6 rfl
        have d6b' : (s_adv b L t).1 + c.length ≤ t1.1 := d6b
        have tp2 := d2.tp tp1
        by_cases c4 : t1.2.2.1 = 4
        · obtain ⟨M3, f1, f2, f3, f7⟩ := cpass tp2 d3 c4 (by decide)
          rw [f1, Option.bind_some, if_neg (show ¬ (1 : Int32) = 0 by decide), if_pos c4]
          have lt3 := (OT.adv (b := b) d4).2
          have l3 := d4.1
          refine ⟨M3, rfl, (a2.e.trans d2).trans f2.e, f3, d4.adv.1, ?_, fun _ => ⟨(d6a.pre a2).post f2, ?_⟩⟩
          · obtain ⟨q, q1, q2⟩ := d5
            exact ⟨q, q1, f2.len.trans q2⟩
          · have l4 : t1.2.1 ≤ (s_adv b L t1).1 := lt3
            have l5 : t1.1 ≤ t1.2.1 := l3
            show t.1 + c.length ≤ (s_adv b L t1).1
            omega
        · rw [cpass0 tp2 d3 c4, Option.bind_some, if_pos rfl, if_neg c4]
          exact ⟨M2, rfl, a2.e.trans d2, d3, d4, d5, fun q => Bool.noConfusion q⟩
    · rw [if_pos (show (6 : Int32) ≤ nI o from nI_le (a := 6) (by omega) (by omega)), if_neg c6]
      exact ⟨M, rfl, fin_fail g_fr.rfl e2 (by omega) ct ot⟩
  rw [if_neg c3]
  refine ⟨M, ?_, fin_fail g_fr.rfl e2 (by omega) ct ot⟩
  split
  · rfl
  · rw [cpass0 tp ct c3, Option.bind_some, if_pos rfl]
    rfl
theorem CRr.bd {M' : g_M} {k : Nat} {r : s_R} (h : CRr b L N M M' k t r) : OT L r.2.2 := h.2.2.1
theorem not_c {kE : Int32 → g_M → Option (Int32 × g_M)} {fE : Nat → s_T → s_R} : ∀ (n o : Nat), 7 ≤ n + o → o ≤ 6 → (∀ o', o < o' → o' ≤ 6 → CRd b L N (kE (nI o')) (fE o')) → CRd b L N (g_lp1 (F_X9_readNot kE) n (nI o)) (s_not b L fE n o)
  | 0, o, h7, ho, hE => by omega
  | n + 1, o, h7, ho, hE => by
    intro M t k tp ct ot hk e2
    have hL := tp.1
    have o1 := ot.1
    have o2 := ot.2.1
    unfold s_not
    rw [lp1_s, F_X9_readNot, ldk tp ct, Option.bind_some]
    by_cases c11 : t.2.2.1 = 11
    · rw [if_pos c11, if_pos c11]
      by_cases c6 : o < 6
      · rw [if_pos (show nI o < 6 from nI_lt (b := 6) c6 (by omega)), if_pos c6]
        obtain ⟨a2, a3⟩ := cadv tp ct (by rw [c11]; decide)
        rw [Option.bind_some]
        generalize g_u M 32 6 (M.1 32 6 + 1) = M1 at a2 a3
        have ot1 := (OT.adv (b := b) ot).1
        have lt1 := OT.adv1 (b := b) ot (by rw [c11]; decide)
        obtain ⟨M2, d1, d2, d3, d4, d5, d6⟩ := not_c n (o + 1) (by omega) (by omega) (fun o' h1 h2 => hE o' (by omega) h2) M1 (s_adv b L t) k (a2.tp tp) a3 ot1 (by omega) (a2.len.trans e2)
        rw [nI_1, d1, Option.bind_some]
        dsimp only
        rcases hr : s_not b L fE n (o + 1) (s_adv b L t) with ⟨ok, c, t1⟩
        rw [hr] at d3 d4 d6
        cases ok
        · obtain ⟨q, q1, q2⟩ := d5
          obtain ⟨M3, g1, g2, g3⟩ := em_any q1 q2 4 0 0
          rw [g1, Option.bind_some, bi_bz, Option.bind_some]
          exact ⟨M3, rfl, (a2.e.trans d2).trans (g2.mono (by decide) (by decide)), d3.em g2, d4, g3, fun q => Bool.noConfusion q⟩
        · obtain ⟨d6a, d6b⟩ := d6 rfl
          have d6b' : (s_adv b L t).1 + c.length ≤ t1.1 := d6b
          have l1 : t1.1 ≤ t1.2.1 := d4.1
          have l2 : t1.2.1 ≤ L := d4.2.1
          have q2 : M2.1 32 2 = nI (k + c.length) := d6a.1
          rw [em_ok (k := k + c.length) (by omega) q2, Option.bind_some, bi_bz, Option.bind_some]
          refine ⟨_, rfl, ((a2.e.trans d2).uS (by decide)).uT (by decide), d3.em ((g_fr.rfl.uS (by decide)).uT (by decide)), d4, ⟨k + c.length + 1, by omega, rfl⟩, fun _ => ⟨(d6a.pre a2).emit _, ?_⟩⟩
          show t.1 + (c ++ [s_stp 4 0 0]).length ≤ t1.1
          rw [List.length_append]
          show t.1 + (c.length + 1) ≤ t1.1
          omega
      · rw [if_neg (show ¬ nI o < 6 from nI_nlt (a := o) (b := 6) (by omega) (by omega)), if_neg c6]
        exact ⟨M, rfl, fin_fail g_fr.rfl e2 (by omega) ct ot⟩
    · rw [if_neg c11, if_neg c11]
      obtain ⟨M', m1, m2⟩ := one_c ho (fun h => hE (o + 1) (by omega) (by omega)) M t k tp ct ot hk e2
      rw [m1, Option.bind_some, bi_bz, Option.bind_some]
      exact ⟨M', rfl, m2⟩
/-- one turn of a chain -/
def GC (W A : Int32) (g : Int32 → g_M → Option (Int32 × g_M)) (k51 : Int32 → g_M → Option (Int32 × g_M)) (k : Int32 → Int32 → Int32 → g_M → Option (Int32 × g_M)) (x1 : Int32) (x2 : Int32) (x3 : Int32) (M : g_M) : Option (Int32 × g_M) :=
  (if x2 = 0 then (k51 x2 M) else ((if 120 ≤ x3 then (k51 x2 M) else ((f_X9_pass W M).bind fun p2 => (if p2.1 = 0 then (k51 x2 p2.2) else ((g x1 p2.2).bind fun p3 => (f_X9_emit A 0 0 p3.2).bind fun p4 => k x1 p3.1 (x3 + 1) p4.2))))))
theorem GCb {kE : Int32 → g_M → Option (Int32 × g_M)} : F_X9_readBoth_8 kE = GC 10 5 (f_X9_readNot kE 8) := rfl
theorem GCe {kE : Int32 → g_M → Option (Int32 × g_M)} : F_X9_readEither_8 kE = GC 9 6 (f_X9_readBoth kE) := rfl
def KB5 (x2 : Int32) (M : g_M) : Option (Int32 × g_M) := (g_bz x2).bind fun z5 => some (z5, M)
theorem KB5_bi (c : Bool) : KB5 (bi c) M = some (bi c, M) := by
  unfold KB5
  rw [bi_bz, Option.bind_some]
theorem s_chain_s {W A : Int32} {f : s_T → s_R} {n : Nat} {c : List Int32} : s_chain b L W A f (n + 1) c t = if t.2.2.1 = W then (match f (s_adv b L t) with | (true, c2, t1) => s_chain b L W A f n (c ++ c2 ++ [s_stp A 0 0]) t1 | (false, _, t1) => (false, [], t1)) else (true, c, t) := rfl
theorem ch_c {W A : Int32} {g : Int32 → g_M → Option (Int32 × g_M)} {f : s_T → s_R} {o : Nat} (hg : CRd b L N (g (nI o)) f) (hW : W ≠ 0) {M0 : g_M} {t0 : s_T} {k : Nat} (hk : k ≤ t0.1) : ∀ (n fu i : Nat) (M : g_M) (t : s_T) (c : List Int32), TB b L N M → CT b L N M t → OT L t → i + n = 120 → n + 1 < fu → FE M0 M → CD M0 M k c → t0.1 + c.length ≤ t.1 → ∃ M' : g_M, g_lp3 (GC W A g KB5) fu (nI o) 1 (nI i) M = some (bi (s_chain b L W A f n c t).1, M') ∧ CRr b L N M0 M' k t0 (s_chain b L W A f n c t)
  | 0, fu, i, M, t, c, tp, ct, ot, hi, hf, fe, cd, hc => by
    obtain ⟨fu, rfl⟩ : ∃ f', fu = f' + 1 := ⟨fu - 1, by omega⟩
    have hL := tp.1
    have o1 := ot.1
    have o2 := ot.2.1
    have : i = 120 := by omega
    subst this
    refine ⟨M, ?_, fe, ct, ot, ⟨k + c.length, by omega, cd.1⟩, fun _ => ⟨cd, hc⟩⟩
    have e : KB5 1 M = some (bi true, M) := KB5_bi true
    rw [lp3_s, GC, if_neg (by decide), if_pos (by decide)]
    exact e
  | n + 1, fu, i, M, t, c, tp, ct, ot, hi, hf, fe, cd, hc => by
    obtain ⟨fu, rfl⟩ : ∃ f', fu = f' + 1 := ⟨fu - 1, by omega⟩
    have hL := tp.1
    have o1 := ot.1
    have o2 := ot.2.1
    rw [s_chain_s, lp3_s, GC, if_neg (by decide), if_neg (show ¬ (120 : Int32) ≤ nI i from nI_ge (b := 120) (by omega) (by omega))]
    by_cases cW : t.2.2.1 = W
    · rw [if_pos cW]
      obtain ⟨M1, a1, a2, a3, a7⟩ := cpass tp ct cW hW
      have ot1 := (OT.adv (b := b) ot).1
      have lt1 := OT.adv1 (b := b) ot (by rw [cW]; exact hW)
      obtain ⟨M2, d1, d2, d3, d4, d5, d6⟩ := hg M1 (s_adv b L t) (k + c.length) (a2.tp tp) a3 ot1 (by omega) (a2.len.trans cd.1)
      rw [a1, Option.bind_some, if_neg (show ¬ (1 : Int32) = 0 by decide)]
      dsimp only
      rw [d1, Option.bind_some]
      dsimp only
      rcases hr : f (s_adv b L t) with ⟨ok, c2, t1⟩
      rw [hr] at d3 d4 d6
      cases ok
      · obtain ⟨q, q1, q2⟩ := d5
        obtain ⟨M3, g1, g2, g3⟩ := em_any q1 q2 A 0 0
        rw [g1, Option.bind_some]
        obtain ⟨fu, rfl⟩ : ∃ f', fu = f' + 1 := ⟨fu - 1, by omega⟩
        rw [lp3_s, GC, if_pos (show bi (false, c2, t1).1 = 0 from rfl)]
        exact ⟨M3, KB5_bi false, (fe.trans (a2.e.trans d2)).trans (g2.mono (by decide) (by decide)), d3.em g2, d4, g3, fun q => Bool.noConfusion q⟩
      · obtain ⟨d6a, d6b⟩ := d6 rfl
        have d6b' : (s_adv b L t).1 + c2.length ≤ t1.1 := d6b
        have l1 : t1.1 ≤ t1.2.1 := d4.1
        have l2 : t1.2.1 ≤ L := d4.2.1
        have q2 : M2.1 32 2 = nI (k + c.length + c2.length) := d6a.1
        rw [em_ok (k := k + c.length + c2.length) (by omega) q2, Option.bind_some, nI_1]
        have cd3 : CD M0 M2 k (c ++ c2) := (cd.post a2).trans d6a
        have cd4 := cd3.emit (s_stp A 0 0)
        rw [List.length_append, ← Nat.add_assoc] at cd4
        have fe3 : FE M1 (g_u (g_u M2 35 (k + c.length + c2.length) (s_stp A 0 0)) 32 2 (nI (k + c.length + c2.length + 1))) := (g_fr.uS d2 (by decide)).uT (by decide)
        refine ch_c hg hW hk n fu (i + 1) _ t1 (c ++ c2 ++ [s_stp A 0 0]) (fe3.tp (a2.tp tp)) (d3.em ((g_fr.rfl.uS (by decide)).uT (by decide))) d4 (by omega) (by omega) (fe.trans (a2.e.trans fe3)) cd4 ?_
        rw [List.length_append, List.length_append]
        show t0.1 + (c.length + c2.length + 1) ≤ t1.1
        omega
    · rw [if_neg cW, cpass0 tp ct cW, Option.bind_some, if_pos rfl]
      exact ⟨M, KB5_bi true, fe, ct, ot, ⟨k + c.length, by omega, cd.1⟩, fun _ => ⟨cd, hc⟩⟩
theorem seq_c {W A : Int32} {g : Int32 → g_M → Option (Int32 × g_M)} {f : s_T → s_R} {o : Nat} (hg : CRd b L N (g (nI o)) f) (hW : W ≠ 0) : CRd b L N (fun M => (g (nI o) M).bind fun p1 => g_lp3 (GC W A g KB5) 20000000 (nI o) p1.1 0 p1.2) (s_seq b L W A f) := by
  intro M t k tp ct ot hk e2
  obtain ⟨M2, d1, d2, d3, d4, d5, d6⟩ := hg M t k tp ct ot hk e2
  unfold s_seq
  dsimp only
  rw [d1, Option.bind_some]
  dsimp only
  rcases hr : f t with ⟨ok, c, t1⟩
  rw [hr] at d3 d4 d6
  cases ok
  · refine ⟨M2, ?_, d2, d3, d4, d5, fun q => Bool.noConfusion q⟩
    show g_lp3 (GC W A g KB5) (19999999 + 1) (nI o) 0 0 M2 = _
    rw [lp3_s, GC, if_pos rfl]
    exact KB5_bi false
  · obtain ⟨d6a, d6b⟩ := d6 rfl
    exact ch_c hg hW hk 120 20000000 0 M2 t1 c (d2.tp tp) d3 d4 (by omega) (by omega) d2 d6a d6b
theorem both_c {kE : Int32 → g_M → Option (Int32 × g_M)} {fE : Nat → s_T → s_R} {o : Nat} (ho : o ≤ 6) (hE : ∀ o', o < o' → o' ≤ 6 → CRd b L N (kE (nI o')) (fE o')) : CRd b L N (f_X9_readBoth kE (nI o)) (s_both b L fE o) := seq_c (W := 10) (A := 5) (g := f_X9_readNot kE 8) (not_c 8 o (by omega) ho hE) (by decide)
theorem either_c : ∀ (n o : Nat), 7 ≤ n + o → o ≤ 6 → CRd b L N (g_lp1 F_X9_readEither n (nI o)) (s_either b L n o)
  | 0, o, h7, ho => by omega
  | n + 1, o, h7, ho => seq_c (W := 9) (A := 6) (g := f_X9_readBoth (g_lp1 F_X9_readEither n)) (both_c (fE := s_either b L n) ho (fun o' h1 h2 => either_c n o' (by omega) h2)) (by decide)
end READD
