section ONEM
variable {b : Nat → Int32} {L : Nat} {M : g_M} {t : s_T} {A al w : Int32} {o K : Nat}
def MRr (K : Nat) (b : Nat → Int32) (L : Nat) (A al w : Int32) (o : Nat) (M' : g_M) (v : Bool) (p : Nat) (r : s_R) : Prop := (r.1 = true → MS b L A al w o M' r.2.2 ∧ VAL K A al w r.2.1 v ∧ p ≤ r.2.2.1) ∧ (r.1 = false → MB M' r.2.2.1)
def MRd (K : Nat) (b : Nat → Int32) (L : Nat) (A al w : Int32) (o : Nat) (g : g_M → Option (Int32 × g_M)) (f : s_T → s_R) : Prop := ∀ (M : g_M) (t : s_T), MS b L A al w o M t → ∃ (M' : g_M) (v : Bool), g M = some (bi v, M') ∧ F6 M M' ∧ MRr K b L A al w o M' v t.1 (f t)
theorem MRr.no {M' : g_M} {v : Bool} {p : Nat} {t4 : s_T} (h : MB M' t4.1) : MRr K b L A al w o M' v p (false, [], t4) := ⟨fun q => Bool.noConfusion q, fun _ => h⟩
theorem MRr.yes {M' : g_M} {v : Bool} {p : Nat} {c : List Int32} {t4 : s_T} (h : MS b L A al w o M' t4) (h2 : VAL K A al w c v) (h3 : p ≤ t4.1) : MRr K b L A al w o M' v p (true, c, t4) := ⟨fun _ => ⟨h, h2, h3⟩, fun q => Bool.noConfusion q⟩
theorem and_sub {A al r p : Int32} (hA : A &&& al = A) (h : r &&& al = p &&& al) : A &&& r = A &&& (p &&& al) := by
  refine b_ext (fun i hi => ?_)
  have h1 : bt (A &&& al) i = bt A i := by rw [hA]
  have h2 : bt (r &&& al) i = bt (p &&& al) i := by rw [h]
  rw [b_and] at h1 h2
  rw [b_and, b_and, h2.symm]
  cases c : bt A i
  · rfl
  · rw [c, Bool.true_and] at h1
    rw [h1, Bool.and_true]
def hAl (A al : Int32) : Prop := (∃ a, a < 1024 ∧ al = nI a) ∧ A &&& al = A
theorem hAl.hi (h : hAl A al) (x : Int32) {i : Nat} (hi : 24 ≤ i) : bt (A &&& x) i = false := by
  obtain ⟨⟨a, ha, rfl⟩, h2⟩ := h
  have : bt A i = false := by
    rw [← h2, b_and, b_high (n := a) (m := 10) ha (by omega) (by omega), Bool.and_false]
  rw [b_and, this, Bool.false_and]
theorem one_m (hal : hAl A al) {kE : g_M → Option (Int32 × g_M)} {fE : Nat → s_T → s_R} (ho : o ≤ 6) (hE : o < 6 → MRd K b L A al w (o + 1) kE (fE (o + 1))) : MRd K b L A al w o (f_X12_one kE) (s_one b L fE o) := by
  intro M t ms
  have ot := ms.2.2.1
  have o1 := ot.1
  have adv := (OT.adv (b := b) ot).2
  unfold f_X12_one s_one
  by_cases c12 : t.2.2.1 = 12
  · rw [if_neg (show ¬ t.2.2.1 = 3 by rw [c12]; decide), if_pos c12, isW_t ms (j := 5) (by omega) c12, Option.bind_some, if_neg (show ¬ (1 : Int32) = 0 by decide)]
    obtain ⟨M1, a1, a2, a3⟩ := mnext ms
    rw [a1, Option.bind_some]
    have ot1 := a3.2.2.1
    have l1 := ot1.1
    by_cases k2 : (s_adv b L t).2.2.1 = 2
    · have mk := a3.2.1.2.2.2.2.2.2.2.2.1 k2
      obtain ⟨z, hz, ez⟩ := mk.2.2
      obtain ⟨M2, b1, b2, b3⟩ := num_1 a3 k2 (mo := 99) (by rw [ez]; exact nI_nlt (a := 99) hz (by omega))
      rw [if_pos k2, b1, Option.bind_some]
      have ot2 := b3.2.2.1
      have l2 := ot2.1
      have adv2 := (OT.adv (b := b) ot1).2
      by_cases k13 : (s_adv b L (s_adv b L t)).2.2.1 = 13
      · obtain ⟨M3, d1, d2, d3⟩ := need_1 b3
        rw [if_pos k13, isW_t b3 (j := 6) (by omega) k13, Option.bind_some, d1, Option.bind_some]
        have adv3 := (OT.adv (b := b) ot2).2
        obtain ⟨M4, r, f1, f2, f3, f4⟩ := part_m d3 hal.1
        dsimp only
        rw [f1, Option.bind_some, d3.2.2.2.2.2.1, many_eq, Option.bind_some, bi_n]
        refine ⟨M4, _, rfl, ((a2.six.trans b2).trans d2).trans f2, ?_⟩
        rcases hr : s_part b L (s_adv b L (s_adv b L (s_adv b L t))) with ⟨ok, p, t4⟩
        rw [hr] at f3 f4
        cases ok
        · exact MRr.no (f4 rfl)
        · obtain ⟨g1, g2, ⟨q, hq, eq⟩, g4⟩ := f3 rfl
          have g2' : r &&& al = p &&& al := g2
          have g4' : (s_adv b L (s_adv b L (s_adv b L t))).1 ≤ t4.1 := g4
          have eq' : p = nI q := eq
          refine MRr.yes g1 ?_ (by omega)
          rw [and_sub hal.2 g2', ← pop_32 (fun i hi => hal.hi _ hi), ez, eq']
          exact VAL.least (by omega) hq
      · rw [if_neg k13, isW_f b3 (j := 6) (by omega) k13, Option.bind_some, need_0, Option.bind_some]
        obtain ⟨M4, r, f1, f2, f3⟩ := part_b b3.bad
        dsimp only
        rw [f1, Option.bind_some, many_eq, Option.bind_some, bi_n]
        exact ⟨M4, _, rfl, ((a2.six.trans b2).uT (by decide)).trans f2, MRr.no f3⟩
    · rw [if_neg k2, num_0 a3 (Or.inr rfl) (fun q => k2 q.1), Option.bind_some]
      dsimp only
      rw [isW_b rfl, Option.bind_some, need_0, Option.bind_some]
      obtain ⟨M4, r, f1, f2, f3⟩ := part_b a3.bad.bad
      dsimp only
      rw [f1, Option.bind_some, many_eq, Option.bind_some, bi_n]
      exact ⟨M4, _, rfl, ((a2.six.uT (by decide)).uT (by decide)).trans f2, MRr.no f3⟩
  rw [isW_f ms (j := 5) (by omega) c12, Option.bind_some, if_pos rfl]
  by_cases c14 : t.2.2.1 = 14
  · rw [if_neg (show ¬ t.2.2.1 = 3 by rw [c14]; decide), if_neg c12, if_pos c14, isW_t ms (j := 7) (by omega) c14, Option.bind_some, if_neg (show ¬ (1 : Int32) = 0 by decide)]
    obtain ⟨M1, a1, a2, a3⟩ := mnext ms
    rw [a1, Option.bind_some]
    have l1 := a3.2.2.1.1
    obtain ⟨M4, r, f1, f2, f3, f4⟩ := part_m a3 hal.1
    rw [f1, Option.bind_some, bi_p]
    refine ⟨M4, _, rfl, a2.six.trans f2, ?_⟩
    rcases hr : s_part b L (s_adv b L t) with ⟨ok, p, t4⟩
    rw [hr] at f3 f4
    cases ok
    · exact MRr.no (f4 rfl)
    · obtain ⟨g1, g2, ⟨q, hq, eq⟩, g4⟩ := f3 rfl
      have g2' : r &&& al = p &&& al := g2
      have g4' : (s_adv b L t).1 ≤ t4.1 := g4
      have eq' : p = nI q := eq
      refine MRr.yes g1 ?_ (by omega)
      dsimp only
      rw [g1.2.2.2.2.2.1, g1.2.2.2.2.2.2.1, g2', eq']
      exact VAL.all hq
  rw [isW_f ms (j := 7) (by omega) c14, Option.bind_some, if_pos rfl]
  by_cases c15 : t.2.2.1 = 15
  · rw [if_neg (show ¬ t.2.2.1 = 3 by rw [c15]; decide), if_neg c12, if_neg c14, if_pos c15, isW_t ms (j := 8) (by omega) c15, Option.bind_some, if_neg (show ¬ (1 : Int32) = 0 by decide)]
    obtain ⟨M1, a1, a2, a3⟩ := mnext ms
    rw [a1, Option.bind_some]
    have l1 := a3.2.2.1.1
    obtain ⟨M4, r, f1, f2, f3, f4⟩ := part_m a3 hal.1
    rw [f1, Option.bind_some, bi_n]
    refine ⟨M4, _, rfl, a2.six.trans f2, ?_⟩
    rcases hr : s_part b L (s_adv b L t) with ⟨ok, p, t4⟩
    rw [hr] at f3 f4
    cases ok
    · exact MRr.no (f4 rfl)
    · obtain ⟨g1, g2, ⟨q, hq, eq⟩, g4⟩ := f3 rfl
      have g2' : r &&& al = p &&& al := g2
      have g4' : (s_adv b L t).1 ≤ t4.1 := g4
      have eq' : p = nI q := eq
      refine MRr.yes g1 ?_ (by omega)
      dsimp only
      rw [g1.2.2.2.2.2.1, Int32.and_comm r A, and_sub hal.2 g2', eq']
      exact VAL.any hq
  rw [isW_f ms (j := 8) (by omega) c15, Option.bind_some, if_pos rfl]
  by_cases c16 : t.2.2.1 = 16
  · rw [if_neg (show ¬ t.2.2.1 = 3 by rw [c16]; decide), if_neg c12, if_neg c14, if_neg c15, if_pos c16, isW_t ms (j := 9) (by omega) c16, Option.bind_some, if_neg (show ¬ (1 : Int32) = 0 by decide)]
    obtain ⟨M1, a1, a2, a3⟩ := mnext ms
    rw [a1, Option.bind_some, a3.2.2.2.2.2.2.2]
    have ot1 := a3.2.2.1
    have l1 := ot1.1
    by_cases k2 : (s_adv b L t).2.2.1 = 2
    · have mk := a3.2.1.2.2.2.2.2.2.2.2.1 k2
      obtain ⟨z, hz, ez⟩ := mk.2.2
      obtain ⟨M2, b1, b2, b3⟩ := num_1 a3 k2 (mo := 99) (by rw [ez]; exact nI_nlt (a := 99) hz (by omega))
      have adv2 := (OT.adv (b := b) ot1).2
      rw [if_pos k2, b1, Option.bind_some, bi_n]
      refine ⟨M2, _, rfl, a2.six.trans b2, MRr.yes b3 ?_ (by omega)⟩
      rw [ez]
      exact VAL.weigh (by omega)
    · rw [if_neg k2, num_0 a3 (Or.inr rfl) (fun q => k2 q.1), Option.bind_some, bi_n]
      exact ⟨_, _, rfl, a2.six.uT (by decide), MRr.no a3.bad⟩
  rw [isW_f ms (j := 9) (by omega) c16, Option.bind_some, if_pos rfl]
  by_cases c3 : t.2.2.1 = 3
  · rw [if_pos c3, isS_t ms.2.2.2.1 (ms.2.1.2.2.2.2.1.mpr c3), Option.bind_some, if_neg (show ¬ (1 : Int32) = 0 by decide)]
    unfold f_X12_opens
    rw [ms.2.2.2.2.1]
    by_cases c6 : o < 6
    · have ms1 : MS b L A al w (o + 1) (g_u M 59 15 (nI o + 1)) t := ms.u15 (o + 1) (nI_1 o)
      obtain ⟨M1, a1, a2, a3⟩ := mnext ms1
      rw [if_pos c6, if_neg (show ¬ nI o = 6 from fun q => by have := nI_inj (b := 6) (by omega) (by omega) q; omega), Option.bind_some, a1, Option.bind_some, Option.bind_some, if_neg (show ¬ (1 : Int32) = 0 by decide)]
      have l1 := a3.2.2.1.1
      obtain ⟨M2, v, d1, d2, d3⟩ := hE c6 M1 (s_adv b L t) a3
      have fr2 : F6 M M2 := ((g_fr.rfl.uT (by decide)).trans a2.six).trans d2
      dsimp only
      rw [d1, Option.bind_some]
      dsimp only
      rcases hr : fE (o + 1) (s_adv b L t) with ⟨ok, c, t1⟩
      rw [hr] at d3
      cases ok
      · have mb : MB M2 t1.1 := d3.2 rfl
        rw [isS_b mb.1, Option.bind_some, need_0, Option.bind_some, Option.bind_some, bi_bz, Option.bind_some]
        exact ⟨_, v, rfl, (fr2.uT (by decide)).uT (by decide), MRr.no (t4 := t1) ⟨rfl, mb.2⟩⟩
      · obtain ⟨g1, g2, g3⟩ := d3.1 rfl
        have g1' : MS b L A al w (o + 1) M2 t1 := g1
        have g3' : (s_adv b L t).1 ≤ t1.1 := g3
        by_cases k4 : t1.2.2.1 = 4
        · obtain ⟨M3, e1, e2, e3⟩ := need_1 g1'
          have l2 := g1'.2.2.1.1
          have adv2 := (OT.adv (b := b) g1'.2.2.1).2
          dsimp only
          rw [if_pos k4, isS_t g1'.2.2.2.1 (g1'.2.1.2.2.2.2.2.1.mpr k4), Option.bind_some, e1, Option.bind_some, Option.bind_some, bi_bz, Option.bind_some]
          exact ⟨_, v, rfl, (fr2.trans e2).uT (by decide), MRr.yes (e3.u15 o (by rw [e3.2.2.2.2.1, nI_pred])) g2 (by omega)⟩
        · dsimp only
          rw [if_neg k4, isS_f g1'.2.2.2.1 (fun q => k4 (g1'.2.1.2.2.2.2.2.1.mp q)), Option.bind_some, need_0, Option.bind_some, Option.bind_some, bi_bz, Option.bind_some]
          exact ⟨_, v, rfl, (fr2.uT (by decide)).uT (by decide), MRr.no (t4 := t1) ⟨rfl, g1'.2.1.1⟩⟩
    · have : o = 6 := by omega
      subst this
      rw [if_neg c6, if_pos (show nI 6 = 6 from rfl), Option.bind_some, Option.bind_some, if_pos rfl, Option.bind_some]
      exact ⟨_, false, rfl, (g_fr.rfl.uT (by decide)).uT (by decide), MRr.no ms.bad.bad⟩
  · rw [if_neg c3, if_neg c12, if_neg c14, if_neg c15, if_neg c16, isS_f ms.2.2.2.1 (fun q => c3 (ms.2.1.2.2.2.2.1.mp q)), Option.bind_some, if_pos rfl, Option.bind_some]
    exact ⟨_, false, rfl, g_fr.rfl.uT (by decide), MRr.no ms.bad⟩
end ONEM
