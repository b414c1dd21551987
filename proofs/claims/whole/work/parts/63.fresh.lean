/-! ===== openings made fresh ===== -/
section CLOS2
variable {d : Nat → Int32} {h : Nat}
theorem s_rnd_mono (w : KB d h) {K K' : Int32} (a : bsub K K') : bsub (s_rnd d h K) (s_rnd d h K') := fun i hi e => by
  unfold s_rnd at e ⊢
  rw [b_or, Bool.or_eq_true] at e ⊢
  exact e.imp (a i hi) (s_box_mono (f := s_opn d K h) (g := s_opn d K' h) w (fun j _ => s_opn_mono a h j) i hi)
theorem s_kr_mono (w : KB d h) {K K' : Int32} (a : bsub K K') : ∀ r, bsub (s_kr d h K r) (s_kr d h K' r)
  | 0 => a
  | r + 1 => s_rnd_mono w (s_kr_mono w a r)
theorem s_end_mono (w : KB d h) {K K' : Int32} (a : bsub K K') : bsub (s_end d h K) (s_end d h K') := s_kr_mono w a 24
theorem s_end_ext (K : Int32) : bsub K (s_end d h K) := s_kr_le (r := 0) (by omega)
theorem s_end_idem (w : KB d h) (K : Int32) : s_end d h (s_end d h K) = s_end d h K := by
  have : ∀ r, s_kr d h (s_end d h K) r = s_end d h K := by
    intro r
    induction r with
    | zero => rfl
    | succ n ih =>
      show s_rnd d h (s_kr d h (s_end d h K) n) = _
      rw [ih, s_end_rnd w]
  exact this 24
theorem or_l {x y : Int32} : bsub x (x ||| y) := fun i _ e => by rw [b_or, e, Bool.true_or]
theorem or_r {x y : Int32} : bsub y (x ||| y) := fun i _ e => by rw [b_or, e, Bool.or_true]
theorem or_b {x y z : Int32} (a : bsub x z) (b : bsub y z) : bsub (x ||| y) z := fun i hi e => by
  rw [b_or, Bool.or_eq_true] at e
  exact e.elim (a i hi) (b i hi)
theorem s_end_add (w : KB d h) (K r : Int32) : s_end d h (s_end d h K ||| r) = s_end d h (K ||| r) := by
  refine bsub.eq ?_ (s_end_mono w (or_b ((s_end_ext K).trans or_l) or_r))
  have : bsub (s_end d h K ||| r) (s_end d h (K ||| r)) := or_b (s_end_mono w or_l) (or_r.trans (s_end_ext _))
  have := s_end_mono w this
  rw [s_end_idem w] at this
  exact this
theorem s_opn_z : ∀ (n i : Nat), s_opn d 0 n i = false
  | 0, _ => rfl
  | n + 1, i => by
    show (if i = n then s_op1 d 0 (s_opn d 0 n) n else s_opn d 0 n i) = false
    split
    · unfold s_op1
      simp only [b_0, s_opn_z n]
      simp
    · exact s_opn_z n i
theorem s_end_z : s_end d h 0 = 0 := by
  have : ∀ r, s_kr d h 0 r = 0 := by
    intro r
    induction r with
    | zero => rfl
    | succ n ih =>
      show s_rnd d h (s_kr d h 0 n) = 0
      rw [ih]
      unfold s_rnd
      rw [s_box_new_0 (fun i _ _ => s_opn_z h i)]
      rfl
  exact this 24
theorem s_keys_z : ∀ n, s_keys d 0 n = 0
  | 0 => rfl
  | n + 1 => by
    unfold s_keys
    rw [s_keys_z n, if_neg (fun p => by rw [b_0] at p; exact absurd p.1 (by decide))]
    rfl
theorem s_keys_bt {S : Int32} {k : Nat} : ∀ {n : Nat}, bt (s_keys d S n) k = true ↔ ∃ e, e < n ∧ bt S e = true ∧ d (20 + e) = 0 ∧ bt (d (30 + e)) k = true
  | 0 => by
    constructor
    · intro e
      rw [show s_keys d S 0 = 0 from rfl, b_0] at e
      exact absurd e (by decide)
    · rintro ⟨e, he, -⟩
      omega
  | n + 1 => by
    have ih := s_keys_bt (S := S) (k := k) (n := n)
    show bt (s_keys d S n ||| _) k = true ↔ _
    rw [b_or, Bool.or_eq_true, ih]
    constructor
    · rintro (⟨e, he, a⟩ | a)
      · exact ⟨e, by omega, a⟩
      · by_cases c : bt S n = true ∧ d (20 + n) = 0
        · rw [if_pos c] at a
          exact ⟨n, by omega, c.1, c.2, a⟩
        · rw [if_neg c, b_0] at a
          exact absurd a (by decide)
    · rintro ⟨e, he, a1, a2, a3⟩
      by_cases c : e = n
      · subst c
        right
        rw [if_pos ⟨a1, a2⟩]
        exact a3
      · exact Or.inl ⟨e, by omega, a1, a2, a3⟩
theorem all_bit {n s i : Nat} (hs : sb s (s_all d n) = true) (hi : s.testBit i = true) : i < n ∧ d (20 + i) = 0 := by
  have := sb_iff.mp hs i hi
  rw [s_all_bit, Bool.and_eq_true] at this
  exact ⟨of_decide_eq_true this.1, of_decide_eq_true this.2⟩
theorem s_keys_lb {n s : Nat} (hs2 : s < 1024) (hs : sb s (s_all d n) = true) (h0 : s ≠ 0) : s_keys d (nI s) n = s_keys d (nI (s ^^^ 2 ^ lb s)) n ||| d (30 + lb s) := by
  have r := lb_row s hs2 h0
  have hx := all_bit hs r.2.1
  refine b_ext (fun k hk => bool_iff ?_)
  rw [b_or, Bool.or_eq_true, s_keys_bt, s_keys_bt]
  constructor
  · rintro ⟨e, he, a1, a2, a3⟩
    rw [bt_nI (by omega)] at a1
    by_cases c : lb s = e
    · right
      rw [c]
      exact a3
    · left
      refine ⟨e, he, ?_, a2, a3⟩
      rw [bt_nI (by omega), xb, a1, decide_eq_false c]
      rfl
  · rintro (⟨e, he, a1, a2, a3⟩ | a)
    · refine ⟨e, he, ?_, a2, a3⟩
      rw [bt_nI (by omega)] at a1 ⊢
      exact sb_iff.mp (sb_xor r.2.1).1 e a1
    · exact ⟨lb s, hx.1, by rw [bt_nI (by omega)]; exact r.2.1, hx.2, a⟩
end CLOS2
section FRESH
variable {t n l m h c1 c2 c3 : Nat} {M : g_M}
/-- at a set the openings are right -/
def VO (M : g_M) (d : Nat → Int32) (n h q : Nat) : Prop := M.1 37 q = s_end d h (s_keys d (nI q) n) ∧ ∀ i, i < 64 → bl (M.2 38 q) i = s_opens d h (s_keys d (nI q) n) i
theorem fill_eq {d : Nat → Int32} (x : XH M d h) (w : ∀ i, i < h → W_H d i) (hh : h ≤ 40) {s : Nat} (hs2 : s < 1024) (hs : sb s (s_all d n) = true) (h0 : s ≠ 0) (v : VO M d n h (s ^^^ 2 ^ lb s)) : ∃ M' : g_M, f_X5_fill_36_24 (nI s) (d (30 + lb s)) M = some M' ∧ g_fr [37, 38] [] M M' ∧ VO M' d n h s ∧ ∀ q, q ≠ s → M'.1 37 q = M.1 37 q ∧ M'.2 38 q = M.2 38 q := by
  have wk := W_H.KB w
  have r := lb_row s hs2 h0
  have ks := s_keys_lb hs2 hs h0
  have hx : s ^^^ 2 ^ lb s < 1024 := by have := r.2.2.2.2; omega
  have ke : s_end d h (s_end d h (s_keys d (nI (s ^^^ 2 ^ lb s)) n) ||| d (30 + lb s)) = s_end d h (s_keys d (nI s) n) := by rw [s_end_add wk, ks]
  unfold f_X5_fill_36_24
  rw [r.2.2.2.1, e_ld hx (by omega), Option.bind_some, Option.bind_some, v.1]
  by_cases c : s_end d h (s_keys d (nI (s ^^^ 2 ^ lb s)) n) ||| d (30 + lb s) = s_end d h (s_keys d (nI (s ^^^ 2 ^ lb s)) n)
  · rw [if_pos c, e_st hs2 (by omega), Option.bind_some, e_ldl hx (by omega), Option.bind_some, e_stl hs2 (by omega), Option.bind_some]
    rw [c, s_end_idem wk] at ke
    refine ⟨_, rfl, (g_fr.rfl.uS (by decide)).ulS (by decide), ⟨?_, fun i hi => ?_⟩, fun q hq => ⟨upd_ne hq, pk_uLn hq⟩⟩
    · refine (show upd (M.1 37) s _ s = _ from upd_eq).trans ?_
      rw [c]
      exact ke
    · refine (congrArg (fun z => bl z i) (show vp_updL (M.2 38) s _ s = _ from pk_uLs)).trans ?_
      refine (v.2 i hi).trans ?_
      unfold s_opens
      rw [ke]
  · obtain ⟨z, z1, z2⟩ := oe_eq x w hh (s_end d h (s_keys d (nI (s ^^^ 2 ^ lb s)) n) ||| d (30 + lb s))
    rw [if_neg c, z1, Option.bind_some, e_stl hs2 (by omega), Option.bind_some, e_ldl hs2 (by omega), Option.bind_some]
    have e2 : (g_ul M 38 s z).2 38 s = z := (show vp_updL (M.2 38) s z s = z from pk_uLs)
    have x' : XH (g_ul M 38 s z) d h := x
    rw [e2, kb_eq x' wk hh (g := s_opn d (s_end d h (s_end d h (s_keys d (nI (s ^^^ 2 ^ lb s)) n) ||| d (30 + lb s))) h) (fun j hj => z2 j (by omega)), Option.bind_some, s_end_box wk, e_st hs2 (by omega), Option.bind_some, ke]
    refine ⟨_, rfl, (g_fr.rfl.ulS (by decide)).uS (by decide), ⟨upd_eq, fun i hi => ?_⟩, fun q hq => ⟨upd_ne hq, pk_uLn hq⟩⟩
    refine (congrArg (fun z => bl z i) (show vp_updL (M.2 38) s z s = _ from pk_uLs)).trans ?_
    rw [z2 i hi]
    unfold s_opens
    rw [ke]
theorem rf_go {d : Nat → Int32} {M0 : g_M} (x : XH M0 d h) (w : ∀ i, i < h → W_H d i) (hh : h ≤ 40) (hn : n ≤ 10) (hr : ∀ e, e < n → M0.1 5 e = d (30 + e)) : ∀ (k f s : Nat) (M : g_M), s + k = s_all d n + 1 → k < f → 1 ≤ s → g_fr [37, 38] [(36, 2)] M0 M → (∀ q, q < s → sb q (s_all d n) = true → VO M d n h q) → ∃ M' : g_M, g_lp2 (F_X5_refresh_36_3_24_33 (fun (M : g_M) => some M)) f (nI (s_all d n)) (nI s) M = some M' ∧ g_fr [37, 38] [] M M' ∧ (∀ q, sb q (s_all d n) = true → VO M' d n h q) ∧ M'.1 37 0 = M.1 37 0 ∧ M'.2 38 0 = M.2 38 0
  | 0, f, s, M, hs, hf, h1, fr, hV => by
    obtain ⟨f, rfl⟩ : ∃ f', f = f' + 1 := ⟨f - 1, by omega⟩
    have hA := all_1024 d hn
    refine ⟨M, ?_, g_fr.rfl, fun q hq => hV q (by have := sb_le hq; omega) hq, rfl, rfl⟩
    rw [lp2_s, F_X5_refresh_36_3_24_33, if_pos (nI_lt (by omega) (by omega))]
  | k + 1, f, s, M, hs, hf, h1, fr, hV => by
    obtain ⟨f, rfl⟩ : ∃ f', f = f' + 1 := ⟨f - 1, by omega⟩
    have hA := all_1024 d hn
    have hs2 : s < 1024 := by omega
    by_cases cs : sb s (s_all d n) = true
    · have xM : XH M d h := by
        have e : ∀ c, c ≠ 36 → c ≠ 37 → c ≠ 38 → M.1 c = M0.1 c := fun c a b z => (fr.row (by simp; omega) (by simp; omega)).1
        unfold XH
        rw [e 24 (by omega) (by omega) (by omega), e 25 (by omega) (by omega) (by omega), e 26 (by omega) (by omega) (by omega), e 27 (by omega) (by omega) (by omega), e 28 (by omega) (by omega) (by omega), e 29 (by omega) (by omega) (by omega), e 30 (by omega) (by omega) (by omega), e 31 (by omega) (by omega) (by omega)]
        exact x
      have r := lb_row s hs2 (by omega)
      have hx := all_bit cs r.2.1
      have xs := sb_xor r.2.1
      have r5 : M.1 5 (lb s) = d (30 + lb s) := (fr.at (by decide) (by simp)).trans (hr _ hx.1)
      obtain ⟨M2, a1, a2, a3, a4⟩ := fill_eq xM w hh hs2 cs (by omega) (hV _ r.2.2.2.2 (sb_trans xs.1 cs))
      obtain ⟨M', m1, m2, m3, m4, m5⟩ := rf_go x w hh hn hr k f (s + 1) M2 (by omega) (by omega) (by omega) (fr.trans (a2.mono (by decide) (by simp))) (fun q hq hqA => by
        by_cases c : q = s
        · subst c
          exact a3
        · have v := hV q (by omega) hqA
          have e := a4 q c
          exact ⟨e.1.trans v.1, fun i hi => by rw [e.2]; exact v.2 i hi⟩)
      refine ⟨M', ?_, a2.trans m2, m3, m4.trans (a4 0 (by omega)).1, m5.trans (a4 0 (by omega)).2⟩
      rw [lp2_s, F_X5_refresh_36_3_24_33, if_neg (nI_nlt (by omega) (by omega)), if_pos ((sb_I hs2 hA).mpr cs), ntz_eq hs2 (by omega), Option.bind_some, e_ld (by omega) (by omega), Option.bind_some, r5, a1, Option.bind_some, nI_1, m1]
    · obtain ⟨M', m1, m2, m3, m4, m5⟩ := rf_go x w hh hn hr k f (s + 1) M (by omega) (by omega) (by omega) fr (fun q hq hqA => by
        by_cases c : q = s
        · subst c
          exact absurd hqA cs
        · exact hV q (by omega) hqA)
      refine ⟨M', ?_, m2, m3, m4, m5⟩
      rw [lp2_s, F_X5_refresh_36_3_24_33, if_neg (nI_nlt (by omega) (by omega)), if_neg (fun q => cs ((sb_I hs2 hA).mp q)), nI_1, m1]
theorem fresh_eq (H : Rel0 t n l m h c1 c2 c3 M) (ht : t < 64) : ∃ M' : g_M, f_X5_refresh_36_3_24 M = some M' ∧ g_fr [37, 38] [(36, 2)] M M' ∧ Rel0 t n l m h c1 c2 c3 M' ∧ ∀ q, sb q (s_all (M.1 60) n) = true → VO M' (M.1 60) n h q := by
  obtain ⟨h1, h2, h3, h4, h5, h6, h7, h8, h9, h10, h11⟩ := id H
  obtain ⟨b1, b2, b3, b4, e0, e4, e1, e3, eu, wA, wL, wH, wT⟩ := id h1
  have hA := all_1024 (M.1 60) b1
  have hc := h9.lt ht
  unfold f_X5_refresh_36_3_24
  rw [h9.1, h9.2.2.1, nI_add]
  by_cases c : M.1 36 2 = nI (c1 + c3)
  · refine ⟨M, if_pos c, g_fr.rfl, H, fun q hq => ?_⟩
    have := h10.2.1 c q (by have := sb_le hq; omega) (by unfold sb at hq; rw [beq_iff_eq] at hq; exact hq)
    exact this
  · have fr0 : g_fr [37, 38] [(36, 2)] M (g_u M 36 2 (nI (c1 + c3))) := g_fr.rfl.uT (by decide)
    obtain ⟨M', m1, m2, m3, m4, m5⟩ := rf_go (n := n) (M0 := M) h3 wH b4 b1 (fun e he => (h2.2.2.2.2.1 e he).2.1) (s_all (M.1 60) n) 20000000 1 (g_u M 36 2 (nI (c1 + c3))) (by omega) (by omega) (by omega) fr0 (fun q hq _ => by
      have : q = 0 := by omega
      subst this
      refine ⟨?_, fun i hi => ?_⟩
      · show M.1 37 0 = _
        rw [h10.2.2.1, show nI 0 = 0 from rfl, s_keys_z, s_end_z]
      · show bl (M.2 38 0) i = _
        rw [h10.2.2.2, bl_0, show nI 0 = 0 from rfl, s_keys_z]
        unfold s_opens
        rw [s_end_z]
        exact (s_opn_z h i).symm)
    have fr : g_fr [37, 38] [(36, 2)] M M' := fr0.trans (m2.mono (by decide) (by simp))
    have e36 : M'.1 36 2 = nI (c1 + c3) := (m2.at (by decide) (by simp)).trans rfl
    refine ⟨M', ?_, fr, ?_, m3⟩
    · rw [if_neg c, Option.bind_some, show f_X0_present (g_u M 36 2 (nI (c1 + c3))) = some (nI (s_all (M.1 60) n)) from present_eq (M := g_u M 36 2 (nI (c1 + c3))) h1 h2, Option.bind_some]
      exact m1
    · have r60 : M'.1 60 = M.1 60 := (fr.row (by decide) (by decide)).1
      exact ⟨keep1 fr (by decide) h1, keep2 fr (by decide) h2, keep3 fr (by decide) h3, keep4 fr (by decide) h1.2.2.1 h4, keep5 fr (by decide) h5, keep6 fr (by decide) h6, keep7 fr (by decide) h7, keep8 fr (by decide) h8, keep9 fr (by decide) h9, by
          rw [r60, e36]
          exact ⟨Or.inr ⟨c1 + c3, Nat.le_refl _, rfl⟩, fun _ q _ hq => m3 q (by unfold sb; rw [beq_iff_eq]; exact hq), m4.trans h10.2.2.1, m5.trans h10.2.2.2⟩, keep11 fr (by decide) h11⟩
end FRESH
