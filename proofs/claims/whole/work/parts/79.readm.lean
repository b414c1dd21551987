section READM
variable {b : Nat → Int32} {L : Nat} {M : g_M} {t : s_T} {A al w : Int32} {o K : Nat}
theorem turned_m (hal : hAl A al) {kE : g_M → Option (Int32 × g_M)} {fE : Nat → s_T → s_R} : ∀ (n o : Nat), 7 ≤ n + o → o ≤ 6 → (∀ o', o < o' → o' ≤ 6 → MRd K b L A al w o' kE (fE o')) → MRd K b L A al w o (g_lp0 (F_X12_turned kE) n) (s_not b L fE n o)
  | 0, o, h7, ho, hE => by omega
  | n + 1, o, h7, ho, hE => by
    intro M t ms
    have ot := ms.2.2.1
    have o1 := ot.1
    have adv := (OT.adv (b := b) ot).2
    unfold s_not
    rw [lp0_s, F_X12_turned]
    by_cases c11 : t.2.2.1 = 11
    · rw [if_pos c11, isW_t ms (j := 4) (by omega) c11, Option.bind_some, if_neg (show ¬ (1 : Int32) = 0 by decide)]
      unfold f_X12_opens
      rw [ms.2.2.2.2.1]
      by_cases c6 : o < 6
      · have ms1 : MS b L A al w (o + 1) (g_u M 59 15 (nI o + 1)) t := ms.u15 (o + 1) (nI_1 o)
        obtain ⟨M1, a1, a2, a3⟩ := mnext ms1
        rw [if_pos c6, if_neg (show ¬ nI o = 6 from fun q => by have := nI_inj (b := 6) (by omega) (by omega) q; omega), Option.bind_some, a1, Option.bind_some, Option.bind_some, if_neg (show ¬ (1 : Int32) = 0 by decide)]
        obtain ⟨M2, v, d1, d2, d3⟩ := turned_m hal n (o + 1) (by omega) (by omega) (fun o' h1 h2 => hE o' (by omega) h2) M1 (s_adv b L t) a3
        have fr2 : F6 M M2 := ((g_fr.rfl.uT (by decide)).trans a2.six).trans d2
        dsimp only
        rw [d1, Option.bind_some]
        dsimp only
        rw [Option.bind_some]
        have l1 := a3.2.2.1.1
        have ev : ∀ M4 : g_M, (if bi v = 0 then some ((1 : Int32), M4) else some (0, M4)) = some (bi (!v), M4) := fun M4 => by cases v <;> rfl
        rw [ev]
        rcases hr : s_not b L fE n (o + 1) (s_adv b L t) with ⟨ok, c, t1⟩
        rw [hr] at d3
        cases ok
        · have mb : MB M2 t1.1 := d3.2 rfl
          exact ⟨_, _, rfl, fr2.uT (by decide), MRr.no (t4 := t1) ⟨mb.1, mb.2⟩⟩
        · obtain ⟨g1, g2, g3⟩ := d3.1 rfl
          have g1' : MS b L A al w (o + 1) M2 t1 := g1
          have g3' : (s_adv b L t).1 ≤ t1.1 := g3
          exact ⟨_, _, rfl, fr2.uT (by decide), MRr.yes (g1'.u15 o (by rw [g1'.2.2.2.2.1, nI_pred])) g2.not (by omega)⟩
      · have : o = 6 := by omega
        subst this
        rw [if_neg c6, if_pos (show nI 6 = 6 from rfl), Option.bind_some, Option.bind_some, if_pos rfl]
        exact ⟨_, false, rfl, g_fr.rfl.uT (by decide), MRr.no ms.bad⟩
    · rw [if_neg c11, isW_f ms (j := 4) (by omega) c11, Option.bind_some, if_pos rfl]
      obtain ⟨M', v, m1, m2, m3⟩ := one_m hal ho (fun h => hE (o + 1) (by omega) (by omega)) M t ms
      rw [m1, Option.bind_some, bi_bz, Option.bind_some]
      exact ⟨M', v, rfl, m2, m3⟩
theorem cm_go {F : (Int32 → g_M → Option (Int32 × g_M)) → Int32 → g_M → Option (Int32 × g_M)} {g : g_M → Option (Int32 × g_M)} {f : s_T → s_R} {act : Int32} {j : Nat} {cb : Bool → Bool → Bool} (hj : j < 11)
    (h0 : ∀ k v M, f_X12_isWord_59 j M = some 0 → F k (bi v) M = some (bi v, M))
    (h1 : ∀ k v v2 M M1 M2, f_X12_isWord_59 j M = some 1 → f_X12_next M = some M1 → g M1 = some (bi v2, M2) → F k (bi v) M = k (bi (cb v v2)) M2)
    (hV : ∀ c c2 v v2, VAL (K + 1) A al w c v → VAL K A al w c2 v2 → VAL (K + 1) A al w (c ++ c2 ++ [s_stp act 0 0]) (cb v v2)) (hg : MRd K b L A al w o g f) :
    ∀ (n fu : Nat) (M : g_M) (t : s_T) (c : List Int32) (v : Bool) (p : Nat), MS b L A al w o M t → VAL (K + 1) A al w c v → p ≤ t.1 → L ≤ t.1 + n → n + 1 < fu → ∃ (M' : g_M) (v' : Bool), g_lp1 F fu (bi v) M = some (bi v', M') ∧ F6 M M' ∧ MRr (K + 1) b L A al w o M' v' p (s_chain b L (nI (7 + j)) act f n c t)
  | 0, fu, M, t, c, v, p, ms, hv, hp, hn, hf => by
    obtain ⟨fu, rfl⟩ : ∃ f', fu = f' + 1 := ⟨fu - 1, by omega⟩
    have k0 := ms.2.2.1.past (by omega)
    refine ⟨M, v, ?_, g_fr.rfl, MRr.yes ms hv hp⟩
    rw [lp1_s]
    exact h0 _ v M (isW_f ms hj (by rw [k0]; exact no_w (Or.inl rfl) hj))
  | n + 1, fu, M, t, c, v, p, ms, hv, hp, hn, hf => by
    obtain ⟨fu, rfl⟩ : ∃ f', fu = f' + 1 := ⟨fu - 1, by omega⟩
    rw [s_chain_s, lp1_s]
    by_cases cW : t.2.2.1 = nI (7 + j)
    · obtain ⟨M1, a1, a2, a3⟩ := mnext ms
      obtain ⟨M2, v2, d1, d2, d3⟩ := hg M1 (s_adv b L t) a3
      rw [if_pos cW, h1 _ v v2 M M1 M2 (isW_t ms hj cW) a1 d1]
      have lt1 := OT.adv1 (b := b) ms.2.2.1 (fun q => by rw [q] at cW; exact no_w (Or.inl rfl) hj cW)
      rcases hr : f (s_adv b L t) with ⟨ok, c2, t1⟩
      rw [hr] at d3
      cases ok
      · have mb : MB M2 t1.1 := d3.2 rfl
        obtain ⟨fu, rfl⟩ : ∃ f', fu = f' + 1 := ⟨fu - 1, by omega⟩
        rw [lp1_s, h0 _ (cb v v2) M2 (isW_b mb.1 j)]
        exact ⟨M2, _, rfl, a2.six.trans d2, MRr.no mb⟩
      · obtain ⟨g1, g2, g3⟩ := d3.1 rfl
        have g1' : MS b L A al w o M2 t1 := g1
        have g3' : (s_adv b L t).1 ≤ t1.1 := g3
        obtain ⟨M', v', m1, m2, m3⟩ := cm_go hj h0 h1 hV hg n fu M2 t1 (c ++ c2 ++ [s_stp act 0 0]) (cb v v2) p g1' (hV c c2 v v2 hv g2) (by omega) (by omega) (by omega)
        exact ⟨M', v', m1, (a2.six.trans d2).trans m2, m3⟩
    · rw [if_neg cW, h0 _ v M (isW_f ms hj cW)]
      exact ⟨M, v, rfl, g_fr.rfl, MRr.yes ms hv hp⟩
theorem seq_m {F : (Int32 → g_M → Option (Int32 × g_M)) → Int32 → g_M → Option (Int32 × g_M)} {g : g_M → Option (Int32 × g_M)} {f : s_T → s_R} {act : Int32} {j : Nat} {cb : Bool → Bool → Bool} (hj : j < 11)
    (h0 : ∀ k v M, f_X12_isWord_59 j M = some 0 → F k (bi v) M = some (bi v, M))
    (h1 : ∀ k v v2 M M1 M2, f_X12_isWord_59 j M = some 1 → f_X12_next M = some M1 → g M1 = some (bi v2, M2) → F k (bi v) M = k (bi (cb v v2)) M2)
    (hV : ∀ c c2 v v2, VAL (K + 1) A al w c v → VAL K A al w c2 v2 → VAL (K + 1) A al w (c ++ c2 ++ [s_stp act 0 0]) (cb v v2)) (hg : MRd K b L A al w o g f) : MRd (K + 1) b L A al w o (fun M => (g M).bind fun p1 => g_lp1 F 20000000 p1.1 p1.2) (s_seq b L (nI (7 + j)) act f) := by
  intro M t ms
  have hL := ms.1.1
  obtain ⟨M2, v, d1, d2, d3⟩ := hg M t ms
  unfold s_seq
  dsimp only
  rw [d1, Option.bind_some]
  dsimp only
  rcases hr : f t with ⟨ok, c, t1⟩
  rw [hr] at d3
  cases ok
  · have mb : MB M2 t1.1 := d3.2 rfl
    refine ⟨M2, v, ?_, d2, MRr.no mb⟩
    show g_lp1 F (19999999 + 1) (bi v) M2 = _
    rw [lp1_s, h0 _ v M2 (isW_b mb.1 j)]
  · obtain ⟨g1, g2, g3⟩ := d3.1 rfl
    have g1' : MS b L A al w o M2 t1 := g1
    have g3' : t.1 ≤ t1.1 := g3
    obtain ⟨M', v', m1, m2, m3⟩ := cm_go hj h0 h1 hV hg 120 20000000 M2 t1 c v t.1 g1' (g2.mono (by omega)) g3' (by omega) (by omega)
    exact ⟨M', v', m1, d2.trans m2, m3⟩
abbrev KM5 : Int32 → g_M → Option (Int32 × g_M) := fun (x1 : Int32) (M : g_M) => (g_bz x1).bind fun z5 => some (z5, M)
theorem both_m (hK : K + 1 ≤ 29) (hal : hAl A al) {kE : g_M → Option (Int32 × g_M)} {fE : Nat → s_T → s_R} (ho : o ≤ 6) (hE : ∀ o', o < o' → o' ≤ 6 → MRd K b L A al w o' kE (fE o')) : MRd (K + 1) b L A al w o (f_X12_both kE) (s_both b L fE o) := by
  refine seq_m (F := F_X12_both_5 kE KM5) (g := f_X12_turned kE 8) (j := 3) (act := 5) (cb := fun a b => a && b) (by omega) (fun k v M e => ?_) (fun k v v2 M M1 M2 e1 e2 e3 => ?_) (fun c c2 v v2 h1 h2 => VAL.and hK h1 h2) (turned_m hal 8 o (by omega) ho hE)
  · rw [F_X12_both_5, e, Option.bind_some, if_pos rfl]
    show (g_bz (bi v)).bind _ = _
    rw [bi_bz, Option.bind_some]
  · rw [F_X12_both_5, e1, Option.bind_some, if_neg (show ¬ (1 : Int32) = 0 by decide), e2, Option.bind_some, e3, Option.bind_some]
    cases v <;> cases v2 <;> rfl
theorem either_m (hal : hAl A al) : ∀ (n o : Nat), n ≤ 8 → 7 ≤ n + o → o ≤ 6 → MRd (2 * n) b L A al w o (g_lp0 F_X12_either n) (s_either b L n o)
  | 0, o, h8, h7, ho => by omega
  | n + 1, o, h8, h7, ho => by
    refine seq_m (K := 2 * n + 1) (F := F_X12_either_5 (g_lp0 F_X12_either n) KM5) (g := f_X12_both (g_lp0 F_X12_either n)) (f := s_both b L (s_either b L n) o) (j := 2) (act := 6) (cb := fun a b => a || b) (by omega) (fun k v M e => ?_) (fun k v v2 M M1 M2 e1 e2 e3 => ?_) (fun c c2 v v2 h1 h2 => VAL.or (by omega) h1 h2) (both_m (by omega) hal ho (fun o' h1 h2 => either_m hal n o' (by omega) (by omega) h2))
    · rw [F_X12_either_5, e, Option.bind_some, if_pos rfl]
      show (g_bz (bi v)).bind _ = _
      rw [bi_bz, Option.bind_some]
    · rw [F_X12_either_5, e1, Option.bind_some, if_neg (show ¬ (1 : Int32) = 0 by decide), e2, Option.bind_some, e3, Option.bind_some]
      cases v <;> cases v2 <;> rfl
theorem rw_go {n : Nat} {d : Nat → Int32} (hn : n ≤ 10) (e0 : d 0 = nI n) (K : g_M → Option (Int32 × g_M)) : ∀ (k f i : Nat) (M : g_M), i + k = n → k < f → M.1 60 = d → M.1 59 8 = A → M.1 59 9 = s_wgt d A i → ∃ M' : g_M, g_lp1 (F_X12_reads_36 K) f (nI i) M = K M' ∧ g_fr [] [(59, 9)] M M' ∧ M'.1 59 9 = s_wgt d A n
  | 0, f, i, M, hi, hf, ed, e8, e9 => by
    obtain ⟨f, rfl⟩ : ∃ f', f = f' + 1 := ⟨f - 1, by omega⟩
    have : i = n := by omega
    subst this
    refine ⟨M, ?_, g_fr.rfl, e9⟩
    rw [lp1_s, F_X12_reads_36, ld_0, Option.bind_some, ed, e0, if_pos (nI_le (Nat.le_refl _) (by omega))]
  | k + 1, f, i, M, hi, hf, ed, e8, e9 => by
    obtain ⟨f, rfl⟩ : ∃ f', f = f' + 1 := ⟨f - 1, by omega⟩
    have fr : g_fr [] [(59, 9)] M (g_u M 59 9 (s_wgt d A (i + 1))) := g_fr.rfl.uT (by decide)
    obtain ⟨M', m1, m2, m3⟩ := rw_go hn e0 K k f (i + 1) (g_u M 59 9 (s_wgt d A (i + 1))) (by omega) (by omega) ((fr.row (by decide) (by decide)).1.trans ed) e8 rfl
    refine ⟨M', ?_, fr.trans m2, m3⟩
    rw [lp1_s, F_X12_reads_36, ld_0, Option.bind_some, ed, e0, if_neg (nI_ge (by omega) (by omega)), e8, b_bit A (by omega), ld_10 (by omega), Option.bind_some, Option.bind_some, Option.bind_some, nI_1, ed, e9, ← m1]
    show _ = g_lp1 (F_X12_reads_36 K) f (nI (i + 1)) (g_u M 59 9 (s_wgt d A i + (if bt A i = true then d (10 + i) else 0)))
    cases bt A i
    · rw [if_neg (show ¬ (if false = true then (1 : Int32) else 0) = 1 by decide), if_neg (show ¬ false = true by decide)]
    · rw [if_pos (show (if true = true then (1 : Int32) else 0) = 1 by decide), if_pos rfl]
theorem r176_b (mb : M.1 59 16 = 1) (v : Bool) : f_X12_reads_176 (bi v) M = some (bi v, g_u M 59 16 1) := by
  unfold f_X12_reads_176
  rw [mb, if_neg (by decide), Option.bind_some, bi_bz, Option.bind_some]
theorem r176_0 (h16 : M.1 59 16 = 0) (h11 : M.1 59 11 = 0) (v : Bool) : f_X12_reads_176 (bi v) M = some (bi v, g_u M 59 16 0) := by
  unfold f_X12_reads_176
  rw [h16, if_pos rfl, h11, if_pos rfl, Option.bind_some, bi_bz, Option.bind_some]
theorem r176_1 (h16 : M.1 59 16 = 0) (h11 : ¬ M.1 59 11 = 0) (v : Bool) : f_X12_reads_176 (bi v) M = some (bi v, g_u M 59 16 1) := by
  unfold f_X12_reads_176
  rw [h16, if_pos rfl, if_neg h11, Option.bind_some, bi_bz, Option.bind_some]
/-- what the model's reading tells -/
def RM (A al w : Int32) (M' : g_M) (v : Bool) (r : List Int32 ⊕ Nat) : Prop := (∀ c, r = .inl c → M'.1 59 16 = 0 ∧ VAL 17 A al w c v) ∧ ∀ p, r = .inr p → MB M' p
theorem RM.no {M' : g_M} {v : Bool} {p : Nat} (h : MB M' p) : RM A al w M' v (.inr p) := by
  refine ⟨fun c q => ?_, fun p' q => ?_⟩
  · cases q
  · have := Sum.inr.inj q
    subst this
    exact h
theorem RM.yes {M' : g_M} {v : Bool} {c : List Int32} (h : M'.1 59 16 = 0) (h2 : VAL 17 A al w c v) : RM A al w M' v (.inl c) := by
  refine ⟨fun c' q => ?_, fun p q => ?_⟩
  · have := Sum.inl.inj q
    subst this
    exact ⟨h, h2⟩
  · cases q
theorem fin_176 (ms : MS b L A al w o M t) {v : Bool} {c : List Int32} (hv : VAL 17 A al w c v) : ∃ M' : g_M, f_X12_reads_176 (bi v) M = some (bi v, M') ∧ F6 M M' ∧ RM A al w M' v (if t.2.2.1 = 0 then .inl c else .inr t.1) := by
  by_cases c0 : t.2.2.1 = 0
  · rw [if_pos c0]
    exact ⟨_, r176_0 ms.2.2.2.1 (ms.2.1.2.2.1.mpr c0) v, g_fr.rfl.uT (by decide), RM.yes rfl hv⟩
  · rw [if_neg c0]
    exact ⟨_, r176_1 ms.2.2.2.1 (fun q => c0 (ms.2.1.2.2.1.mp q)) v, g_fr.rfl.uT (by decide), RM.no ms.bad⟩
def KR : g_M → Option (Int32 × g_M) := (fun (M : g_M) => (some (g_u M 59 13 0)).bind fun M11 => (some (g_u M11 59 15 0)).bind fun M12 => (some (g_u M12 59 16 0)).bind fun M13 => (f_X12_next M13).bind fun p14 => (f_X12_isWord_59 0 p14).bind fun p15 => (f_X12_need p15 p14).bind fun p16 => (if (p16.2.1 59 16) = 0 then ((f_X12_either 8 p16.2).bind fun p26 => (if p26.1 = 0 then (f_X12_reads_137 p26.2) else (f_X12_reads_138 1 p26.2))) else (f_X12_reads_137 p16.2)))
theorem b138 {p : Nat} (mb : MB M p) (v : Bool) : f_X12_reads_138 (bi v) M = some (bi v, g_u M 59 16 1) := by
  unfold f_X12_reads_138
  rw [isW_b mb.1, Option.bind_some, if_pos rfl, r176_b mb.1]
theorem kr_m (hal : hAl A al) (tp : BA b L M) (e8 : M.1 59 8 = A) (e10 : M.1 59 10 = al) (e9 : M.1 59 9 = w) : ∃ (M' : g_M) (v : Bool), KR M = some (bi v, M') ∧ F6 M M' ∧ RM A al w M' v (s_text b L) := by
  have fr0 : F6 M (g_u (g_u (g_u M 59 13 0) 59 15 0) 59 16 0) := ((g_fr.rfl.uT (by decide)).uT (by decide)).uT (by decide)
  have tp0 := tp.fr fr0 (by decide)
  obtain ⟨M1, a1, a2, a3⟩ := next_m tp0 (a := 0) (by omega) rfl
  have fr1 := fr0.trans a2.six
  have ot0 := (OT.tk (b := b) (L := L) (a := 0) (by omega)).1
  have ms : MS b L A al w 0 M1 (s_tk b L 0) := ⟨tp0.fr a2 (by decide), a3, ot0, (a2.at (by decide) (by decide)).trans rfl, (a2.at (by decide) (by decide)).trans rfl, (fr1.at (by decide) (by decide)).trans e8, (fr1.at (by decide) (by decide)).trans e10, (fr1.at (by decide) (by decide)).trans e9⟩
  unfold KR s_text
  rw [Option.bind_some, Option.bind_some, Option.bind_some, a1, Option.bind_some]
  generalize s_tk b L 0 = t0 at ms
  by_cases c7 : t0.2.2.1 = 7
  · obtain ⟨M2, b1, b2, b3⟩ := need_1 ms
    rw [if_pos c7, isW_t ms (j := 0) (by omega) c7, Option.bind_some, b1, Option.bind_some]
    dsimp only
    rw [if_pos b3.2.2.2.1]
    obtain ⟨M3, v, d1, d2, d3⟩ := either_m hal 8 0 (by omega) (by omega) (by omega) M2 (s_adv b L t0) b3
    have d1' : f_X12_either 8 M2 = some (bi v, M3) := d1
    have fr3 : F6 M M3 := (fr1.trans b2).trans d2
    have e138 : (if bi v = 0 then f_X12_reads_137 M3 else f_X12_reads_138 1 M3) = f_X12_reads_138 (bi v) M3 := by cases v <;> rfl
    rw [d1', Option.bind_some]
    dsimp only
    rw [e138]
    rcases hr : s_either b L 8 0 (s_adv b L t0) with ⟨ok, c, t1⟩
    rw [hr] at d3
    cases ok
    · have mb : MB M3 t1.1 := d3.2 rfl
      rw [b138 mb]
      exact ⟨_, v, rfl, fr3.uT (by decide), RM.no mb.bad⟩
    · obtain ⟨g1, g2, g3⟩ := d3.1 rfl
      have g1' : MS b L A al w 0 M3 t1 := g1
      have g2' : VAL 17 A al w c v := VAL.mono g2 (by omega)
      dsimp only
      unfold f_X12_reads_138
      by_cases c8 : t1.2.2.1 = 8
      · obtain ⟨M4, h1, h2, h3⟩ := mnext g1'
        rw [if_pos c8, isW_t g1' (j := 1) (by omega) c8, Option.bind_some, if_neg (show ¬ (1 : Int32) = 0 by decide), h1, Option.bind_some]
        obtain ⟨M5, v2, k1, k2, k3⟩ := either_m hal 8 0 (by omega) (by omega) (by omega) M4 (s_adv b L t1) h3
        have k1' : f_X12_either 8 M4 = some (bi v2, M5) := k1
        have fr5 : F6 M M5 := (fr3.trans h2.six).trans k2
        rw [k1', Option.bind_some]
        dsimp only
        have e176 : (if bi v = 0 then f_X12_reads_173 M5 else if bi v2 = 0 then f_X12_reads_174 1 M5 else f_X12_reads_173 M5) = f_X12_reads_176 (bi (v && !v2)) M5 := by cases v <;> cases v2 <;> rfl
        rw [e176]
        rcases hr2 : s_either b L 8 0 (s_adv b L t1) with ⟨ok, c2, t2⟩
        rw [hr2] at k3
        cases ok
        · have mb : MB M5 t2.1 := k3.2 rfl
          rw [r176_b mb.1]
          exact ⟨_, _, rfl, fr5.uT (by decide), RM.no mb.bad⟩
        · obtain ⟨m1, m2, m3⟩ := k3.1 rfl
          have m1' : MS b L A al w 0 M5 t2 := m1
          have m2' : VAL 16 A al w c2 v2 := m2
          have hv : VAL 17 A al w (c ++ c2 ++ [s_stp 4 0 0, s_stp 5 0 0]) (v && !v2) := by
            have := VAL.and (by omega) g2' m2'.not
            have e : c ++ (c2 ++ [s_stp 4 0 0]) ++ [s_stp 5 0 0] = c ++ c2 ++ [s_stp 4 0 0, s_stp 5 0 0] := by simp
            rw [e] at this
            exact this
          obtain ⟨M6, n1, n2, n3⟩ := fin_176 m1' hv
          exact ⟨M6, _, n1, fr5.trans n2, n3⟩
      · rw [if_neg c8, isW_f g1' (j := 1) (by omega) c8, Option.bind_some, if_pos rfl]
        obtain ⟨M6, n1, n2, n3⟩ := fin_176 g1' g2'
        exact ⟨M6, _, n1, fr3.trans n2, n3⟩
  · rw [if_neg c7, isW_f ms (j := 0) (by omega) c7, Option.bind_some, need_0, Option.bind_some]
    dsimp only
    rw [if_neg (show ¬ (g_u M1 59 16 1).1 59 16 = 0 from show ¬ (1 : Int32) = 0 by decide)]
    have e : f_X12_reads_137 (g_u M1 59 16 1) = some (bi false, g_u (g_u M1 59 16 1) 59 16 1) := b138 ms.bad false
    rw [e]
    exact ⟨_, false, rfl, (fr1.uT (by decide)).uT (by decide), RM.no ms.bad.bad⟩
theorem rd_m {n : Nat} {d : Nat → Int32} (hn : n ≤ 10) (e0 : d 0 = nI n) (ed : M.1 60 = d) {x1 x2 x3 : Int32} (tp : BA b L (g_u (g_u M 59 6 x1) 59 7 x2)) : ∃ (M' : g_M) (v : Bool), f_X12_reads x1 x2 x3 M = some (bi v, M') ∧ g_fr [] [(59, 6), (59, 7), (59, 8), (59, 9), (59, 10), (59, 11), (59, 12), (59, 13), (59, 14), (59, 15), (59, 16)] M M' ∧ RM (x3 &&& nI (s_all d n)) (nI (s_all d n)) (s_wgt d (x3 &&& nI (s_all d n)) n) M' v (s_text b L) := by
  have hal : hAl (x3 &&& nI (s_all d n)) (nI (s_all d n)) := ⟨⟨_, all_1024 d hn, rfl⟩, by rw [Int32.and_assoc, Int32.and_self]⟩
  have al2 : f_X12_all (g_u (g_u M 59 6 x1) 59 7 x2) = some (nI (s_all d n)) := by
    rw [← ed]
    exact all_eq (M := g_u (g_u M 59 6 x1) 59 7 x2) hn (by show M.1 60 0 = nI n; rw [ed]; exact e0)
  have frA : g_fr [] [(59, 6), (59, 7), (59, 8), (59, 9), (59, 10), (59, 11), (59, 12), (59, 13), (59, 14), (59, 15), (59, 16)] M (g_u (g_u M 59 6 x1) 59 7 x2) := (g_fr.rfl.uT (by decide)).uT (by decide)
  unfold f_X12_reads
  rw [Option.bind_some, Option.bind_some, al2, Option.bind_some, Option.bind_some, Option.bind_some, Option.bind_some]
  have r60 : (g_u (g_u M 59 6 x1) 59 7 x2).1 60 = d := ed
  generalize g_u (g_u M 59 6 x1) 59 7 x2 = M2 at tp frA r60
  have frB : g_fr [] [(59, 8), (59, 9), (59, 10)] M2 (g_u (g_u (g_u M2 59 10 (nI (s_all d n))) 59 8 (x3 &&& (g_u M2 59 10 (nI (s_all d n))).1 59 10)) 59 9 0) := ((g_fr.rfl.uT (by decide)).uT (by decide)).uT (by decide)
  obtain ⟨M3, m1, m2, m3⟩ := rw_go (A := x3 &&& nI (s_all d n)) hn e0 KR n 20000000 0 (g_u (g_u (g_u M2 59 10 (nI (s_all d n))) 59 8 (x3 &&& (g_u M2 59 10 (nI (s_all d n))).1 59 10)) 59 9 0) (by omega) (by omega) r60 rfl rfl
  have frC := frB.trans (m2.mono (S' := []) (T' := [(59, 8), (59, 9), (59, 10)]) (by decide) (by decide))
  obtain ⟨M4, v, k1, k2, k3⟩ := kr_m hal (tp.fr frC (by decide)) ((m2.at (by decide) (by decide)).trans rfl) ((m2.at (by decide) (by decide)).trans rfl) m3
  exact ⟨M4, v, Eq.trans m1 k1, (frA.trans (frC.mono (by decide) (by decide))).trans (g_fr.mono k2 (by decide) (by decide)), k3⟩
end READM
