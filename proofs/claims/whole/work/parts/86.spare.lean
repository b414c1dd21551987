section SPARE
variable {t n l m h c1 c2 c3 : Nat} {M : g_M} {d : Nat → Int32}
theorem W_D.ring (W : W_D d n l m h) {e : Nat} (he : e < n) {v : Int32} (hv : ∃ q, q < 2 ^ 24 ∧ v = nI q) : W_D (upd d (30 + e) v) n l m h := by
  obtain ⟨b1, b2, b3, b4, e0, e4, e1, e3, eu, wA, wL, wH, wT⟩ := W
  have hd : ∀ k, k ≠ 30 + e → upd d (30 + e) v k = d k := fun k a => upd_ne a
  refine ⟨b1, b2, b3, b4, (hd 0 (by omega)).trans e0, (hd 4 (by omega)).trans e4, (hd 1 (by omega)).trans e1, (hd 3 (by omega)).trans e3, by rw [hd 2 (by omega)]; exact eu, fun i hi => ?_, fun k hk => ?_, fun i hi => (wH i hi).agree (agH_u b4 (by omega)) hi, fun k hk => (wT k hk).agree (agT_u (m := m) (by omega)) hk⟩
  · rw [hd (10 + i) (by omega), hd (20 + i) (by omega)]
    refine ⟨(wA i hi).1, (wA i hi).2.1, ?_⟩
    by_cases c : i = e
    · subst c
      rw [upd_eq]
      exact hv
    · rw [hd (30 + i) (by omega)]
      exact (wA i hi).2.2
  · rw [hd _ (by omega), hd _ (by omega)]
    exact wL k hk
theorem keys_out {e s : Nat} (hs : s < 1024) (he : s.testBit e = false) {v : Int32} : ∀ n, n ≤ 10 → s_keys (upd d (30 + e) v) (nI s) n = s_keys d (nI s) n := fun n hn => by
  refine b_ext (fun k hk => bool_iff ?_)
  rw [s_keys_bt, s_keys_bt]
  constructor
  · rintro ⟨z, hz, a1, a2, a3⟩
    have ne : z ≠ e := by
      rintro rfl
      rw [bt_nI (by omega), he] at a1
      exact absurd a1 (by decide)
    rw [upd_ne (by omega)] at a2 a3
    exact ⟨z, hz, a1, a2, a3⟩
  · rintro ⟨z, hz, a1, a2, a3⟩
    have ne : z ≠ e := by
      rintro rfl
      rw [bt_nI (by omega), he] at a1
      exact absurd a1 (by decide)
    exact ⟨z, hz, a1, by rw [upd_ne (by omega)]; exact a2, by rw [upd_ne (by omega)]; exact a3⟩
theorem keys_in {e s : Nat} (hs : s < 1024) (hn : n ≤ 10) (hA : sb s (s_all d n) = true) (he : s.testBit e = true) {v : Int32} : s_keys (upd d (30 + e) v) (nI s) n = s_keys d (nI (s ^^^ 2 ^ e)) n ||| v := by
  have hx := all_bit hA he
  have xs := sb_xor he
  have := sb_le xs.1
  refine b_ext (fun k hk => bool_iff ?_)
  rw [b_or, Bool.or_eq_true, s_keys_bt, s_keys_bt]
  constructor
  · rintro ⟨z, hz, a1, a2, a3⟩
    by_cases c : z = e
    · subst c
      rw [upd_eq] at a3
      exact Or.inr a3
    · left
      rw [upd_ne (by omega)] at a2 a3
      refine ⟨z, hz, ?_, a2, a3⟩
      rw [bt_nI (by omega)] at a1 ⊢
      rw [xb, a1, decide_eq_false (fun q => c q.symm)]
      rfl
  · rintro (⟨z, hz, a1, a2, a3⟩ | a)
    · rw [bt_nI (by omega)] at a1
      have ne : z ≠ e := by
        rintro rfl
        rw [xb, he, decide_eq_true rfl] at a1
        exact absurd a1 (by decide)
      exact ⟨z, hz, by rw [bt_nI (by omega)]; exact sb_iff.mp xs.1 z a1, by rw [upd_ne (by omega)]; exact a2, by rw [upd_ne (by omega)]; exact a3⟩
    · exact ⟨e, hx.1, by rw [bt_nI (by omega)]; exact he, by rw [upd_ne (by omega)]; exact hx.2, by rw [upd_eq]; exact a⟩
theorem pO_ring {e i s : Nat} (hh : h ≤ 40) (he : e < 10) {v : Int32} : pO (upd d (30 + e) v) n h i s = s_opens d h (s_keys (upd d (30 + e) v) (nI s) n) i := by
  unfold pO
  rw [s_opens_cong (agH_u hh (by omega))]
theorem s_opens_mono (w : KB d h) {K K' : Int32} (a : bsub K K') {i : Nat} (e : s_opens d h K i = true) : s_opens d h K' i = true := s_opn_mono (s_end_mono w a) h i e
theorem s_opens_end (w : KB d h) (K r : Int32) (i : Nat) : s_opens d h (s_end d h K ||| r) i = s_opens d h (K ||| r) i := by
  unfold s_opens
  rw [s_end_add w]
/-- where it matters that a ring becomes smaller -/
theorem ring_less (w : KB d h) (hh : h ≤ 40) (hn : n ≤ 10) {e i s : Nat} (he : e < n) (hs : s < 1024) (hA : sb s (s_all d n) = true) (hb : s.testBit e = true) {v : Int32} (hv : bsub v (d (30 + e))) : pO d n h i s = pO (upd d (30 + e) v) n h i s ↔ (pO d n h i s = true → pO d n h i (s ^^^ 2 ^ e) = false → s_opens d h (s_end d h (s_keys d (nI (s ^^^ 2 ^ e)) n) ||| v) i = true) := by
  have e1 : pO (upd d (30 + e) v) n h i s = s_opens d h (s_keys d (nI (s ^^^ 2 ^ e)) n ||| v) i := by rw [pO_ring hh (by omega), keys_in hs hn hA hb]
  have e2 : s_keys d (nI s) n = s_keys d (nI (s ^^^ 2 ^ e)) n ||| d (30 + e) := by
    have := keys_in (d := d) (v := d (30 + e)) hs hn hA hb
    rw [← this]
    congr 1
    funext k
    by_cases c : k = 30 + e
    · subst c
      rw [upd_eq]
    · rw [upd_ne c]
  rw [e1, s_opens_end w]
  have up : s_opens d h (s_keys d (nI (s ^^^ 2 ^ e)) n ||| v) i = true → pO d n h i s = true := fun q => by
    unfold pO
    rw [e2]
    exact s_opens_mono w (or_b or_l (hv.trans or_r)) q
  have lo : pO d n h i (s ^^^ 2 ^ e) = true → s_opens d h (s_keys d (nI (s ^^^ 2 ^ e)) n ||| v) i = true := fun q => s_opens_mono w or_l q
  constructor
  · intro q a _
    rw [← q]
    exact a
  · intro q
    apply bool_iff
    constructor
    · intro a
      cases c : pO d n h i (s ^^^ 2 ^ e)
      · exact q a c
      · exact lo c
    · exact up
/-- may the ring of e be v? -/
def spB (d : Nat → Int32) (n h i e : Nat) (v : Int32) : Bool := al (fun s => sb s (s_all d n) && pO d n h i s) (fun s => sb s (s_all d n) && pO (upd d (30 + e) v) n h i s) 1024
theorem spB_1 {e i : Nat} {v : Int32} (hn : n ≤ 10) : spB d n h i e v = true ↔ ∀ q, sb q (s_all d n) = true → pO d n h i q = pO (upd d (30 + e) v) n h i q := by
  have hA := all_1024 d hn
  unfold spB
  rw [al_1]
  constructor
  · intro a q c
    have := a q (by have := sb_le c; omega)
    rw [c, Bool.true_and, Bool.true_and] at this
    exact this
  · intro a q _
    cases c : sb q (s_all d n)
    · rw [Bool.false_and, Bool.false_and]
    · rw [a q c]
theorem less_I {s e : Nat} (hs : s < 1024) (he : e < 10) : nI s &&& (((1 : Int32) <<< (nI e &&& 31)) ^^^ (-1)) = nI (if s.testBit e = true then s ^^^ 2 ^ e else s) := by
  have lt : (if s.testBit e = true then s ^^^ 2 ^ e else s) < 2 ^ 32 := by
    split
    · rename_i c
      have := sb_le (sb_xor c).1
      omega
    · omega
  refine b_ext (fun k hk => ?_)
  rw [b_and, bt_not _ hk, bt_one (by omega), bt_nI (by omega), bt_nI lt]
  by_cases c : s.testBit e = true
  · rw [if_pos c, xb]
    by_cases q : k = e
    · subst q
      rw [c]
      simp
    · rw [decide_eq_false q, decide_eq_false (fun z => q z.symm)]
      simp
  · rw [if_neg c]
    by_cases q : k = e
    · subst q
      rw [Bool.eq_false_iff.mpr c]
      rfl
    · simp [q]
theorem is_go (x : XH M d h) (w : ∀ i, i < h → W_H d i) (hh : h ≤ 40) (hn : n ≤ 10) {e i : Nat} (he : e < n) (hi : i < h) {v : Int32} (hv : bsub v (d (30 + e))) (hO : ∀ q, q < 1024 → sb q (s_all d n) = true → f_X5_isOpen (nI i) (nI q) M = some (bi (pO d n h i q))) (hK : ∀ q, q < 1024 → sb q (s_all d n) = true → q.testBit e = false → M.1 37 q = s_end d h (s_keys d (nI q) n)) : ∀ (k fu s : Nat), s_all d n + 1 ≤ s + k → s ≤ 1024 → k < fu → (∀ q, q < s → sb q (s_all d n) = true → pO d n h i q = pO (upd d (30 + e) v) n h i q) → g_lq5 (F_X11_isSpare_35 M (some 0) (some 1)) fu (nI i) ((1 : Int32) <<< (nI e &&& 31)) (nI (s_all d n)) v (nI s) = some (bi (spB d n h i e v)) := by
  have wk := W_H.KB w
  have hA := all_1024 d hn
  have fin : ∀ s, s_all d n < s → (∀ q, q < s → sb q (s_all d n) = true → pO d n h i q = pO (upd d (30 + e) v) n h i q) → spB d n h i e v = true := fun s hs hq => (spB_1 hn).mpr (fun q c => hq q (by have := sb_le c; omega) c)
  have fin0 : ∀ s, sb s (s_all d n) = true → ¬ pO d n h i s = pO (upd d (30 + e) v) n h i s → spB d n h i e v = false := fun s cs ne => Bool.eq_false_iff.mpr (fun q => ne ((spB_1 hn).mp q s cs))
  generalize spB d n h i e v = S at fin fin0
  intro k
  induction k with
  | zero =>
    intro fu s hs h10 hf hq
    obtain ⟨fu, rfl⟩ : ∃ f', fu = f' + 1 := ⟨fu - 1, by omega⟩
    rw [lq5_s, F_X11_isSpare_35, if_pos (nI_lt (by omega) (by omega)), fin s (by omega) hq]
    rfl
  | succ k ih =>
    intro fu s hs h10 hf hq
    obtain ⟨fu, rfl⟩ : ∃ f', fu = f' + 1 := ⟨fu - 1, by omega⟩
    by_cases cA : s_all d n < s
    · rw [lq5_s, F_X11_isSpare_35, if_pos (nI_lt (by omega) (by omega)), fin s cA hq]
      rfl
    · have hs2 : s < 1024 := by omega
      have next : (sb s (s_all d n) = true → pO d n h i s = pO (upd d (30 + e) v) n h i s) → g_lq5 (F_X11_isSpare_35 M (some 0) (some 1)) fu (nI i) ((1 : Int32) <<< (nI e &&& 31)) (nI (s_all d n)) v (nI s + 1) = some (bi S) := fun q => by
        rw [nI_1]
        exact ih fu (s + 1) (by omega) (by omega) (by omega) (fun z hz hzA => by
          by_cases c : z = s
          · subst c
            exact q hzA
          · exact hq z (by omega) hzA)
      rw [lq5_s, F_X11_isSpare_35, if_neg (nI_nlt (by omega) (by omega)), less_I hs2 (by omega)]
      unfold f_X11_isSpare_98 f_X11_isSpare_99 f_X11_isSpare_99_b
      rw [if_pos (show (0 : Int32) = 0 from rfl), if_neg (show ¬ (1 : Int32) = 0 by decide)]
      by_cases cs : sb s (s_all d n) = true
      · rw [if_pos ((sb_I hs2 hA).mpr cs)]
        by_cases cb : s.testBit e = true
        · have xs := sb_xor cb
          have xl := sb_le xs.1
          have xt : (s ^^^ 2 ^ e).testBit e = false := by
            rw [xb, cb, decide_eq_true rfl]
            rfl
          have xl2 : s ^^^ 2 ^ e < 1024 := by omega
          have xA := sb_trans xs.1 cs
          have rl := ring_less wk hh hn he hs2 cs cb hv (i := i)
          rw [if_pos cb, if_neg (fun q => xs.2 ((nI_eq (by omega) (by omega)).mp q)), hO s hs2 cs, Option.bind_some, hO _ xl2 xA, Option.bind_some, e_ld xl2 (by omega), Option.bind_some, hK _ xl2 xA xt, isO_eq x w hh _ hi, Option.bind_some]
          cases p1 : pO d n h i s
          · rw [if_pos ((bi_0 false).mpr rfl)]
            exact next (fun _ => by
              refine rl.mpr (fun q => ?_)
              rw [p1] at q
              exact absurd q (by decide))
          · rw [if_neg (fun q => absurd ((bi_0 true).mp q) (by decide))]
            cases p2 : pO d n h i (s ^^^ 2 ^ e)
            · rw [if_pos ((bi_0 false).mpr rfl)]
              by_cases p3 : s_opens d h (s_end d h (s_keys d (nI (s ^^^ 2 ^ e)) n) ||| v) i = true
              · rw [if_pos p3, if_neg (show ¬ (1 : Int32) = 0 by decide)]
                exact next (fun _ => rl.mpr (fun _ _ => p3))
              · rw [if_neg p3, if_pos rfl]
                rw [fin0 s cs (fun q => p3 (rl.mp q p1 p2))]
                rfl
            · rw [if_neg (fun q => absurd ((bi_0 true).mp q) (by decide))]
              exact next (fun _ => rl.mpr (fun _ q => by rw [p2] at q; exact absurd q (by decide)))
        · rw [if_neg cb, if_pos rfl]
          exact next (fun _ => by
            rw [pO_ring hh (by omega), keys_out hs2 (Bool.eq_false_iff.mpr cb) n hn]
            rfl)
      · rw [if_neg (fun q => cs ((sb_I hs2 hA).mp q))]
        exact next (fun q => absurd q cs)
/-- a key off a ring -/
def offK (r : Int32) (k : Nat) : Int32 := r &&& (((1 : Int32) <<< (nI k &&& 31)) ^^^ (-1))
theorem offK_sub {r : Int32} {k : Nat} : bsub (offK r k) r := fun i hi q => by
  unfold offK at q
  rw [b_and, Bool.and_eq_true] at q
  exact q.1
theorem offK_lt {r : Int32} {k : Nat} (hr : ∃ q, q < 2 ^ 24 ∧ r = nI q) : ∃ q, q < 2 ^ 24 ∧ offK r k = nI q := by
  obtain ⟨q, hq, rfl⟩ := hr
  refine b_small (fun i hi => ?_)
  unfold offK
  rw [b_and, b_high hq (by omega) hi, Bool.false_and]
theorem offK_on {r : Int32} {k : Nat} (hk : k < 24) (hb : bt r k = true) : offK r k ||| ((1 : Int32) <<< (nI k &&& 31)) = r := by
  refine b_ext (fun i hi => ?_)
  unfold offK
  rw [b_or, b_and, bt_not _ hi, bt_one (by omega)]
  by_cases c : i = k
  · subst c
    rw [decide_eq_true rfl, hb]
    rfl
  · rw [decide_eq_false c]
    simp
theorem is_eq (x : XH M d h) (w : ∀ i, i < h → W_H d i) (hh : h ≤ 40) (hn : n ≤ 10) {e i k : Nat} (he : e < n) (hi : i < h) (pr : f_X0_present M = some (nI (s_all d n))) (r5 : M.1 5 e = d (30 + e)) (hO : ∀ q, q < 1024 → sb q (s_all d n) = true → f_X5_isOpen (nI i) (nI q) M = some (bi (pO d n h i q))) (hK : ∀ q, q < 1024 → sb q (s_all d n) = true → q.testBit e = false → M.1 37 q = s_end d h (s_keys d (nI q) n)) : f_X11_isSpare (nI i) (nI e) (nI k) M = some (bi (spB d n h i e (offK (d (30 + e)) k))) := by
  have hA := all_1024 d hn
  have p2 : 2 ^ e < 2 ^ 10 := Nat.pow_lt_pow_right (by omega) (by omega)
  have p1 : 0 < 2 ^ e := Nat.two_pow_pos e
  unfold f_X11_isSpare
  rw [pr, Option.bind_some, e_ld (by omega) (by omega), Option.bind_some, r5, Option.bind_some]
  have start := is_go x w hh hn he hi (v := offK (d (30 + e)) k) offK_sub hO hK 1024 20000000 (2 ^ e) (by omega) (by omega) (by omega) (fun q hq hqA => by
    have tb : q.testBit e = false := Nat.testBit_lt_two_pow hq
    rw [pO_ring hh (by omega), keys_out (by omega) tb n hn]
    rfl)
  rw [← pw_shl e (by omega)] at start
  exact start
/-- the model tries a ring without a key, and puts it back -/
theorem im_eq {N : g_M} (W : W_D d n l m h) (ed : N.1 60 = d) {e i k : Nat} (he : e < n) (hi : i < h) (hk : k < 24) (hb : bt (d (30 + e)) k = true) {g : Nat → Bool} (h65 : ∀ q, q < 1024 → N.1 65 q = bi (sb q (s_all d n) && g q)) (hg : ∀ q, sb q (s_all d n) = true → g q = pO d n h i q) : ∃ N' : g_M, f_X12_isSpare (nI i) (nI e) (nI k) N = some (bi (spB d n h i e (offK (d (30 + e)) k)), N') ∧ g_fr [64, 68, 69] [] N N' := by
  have b1 := W.1
  have W2 := W.ring he (v := offK (d (30 + e)) k) (offK_lt (W.2.2.2.2.2.2.2.2.2.1 e he).2.2)
  have sa : s_all (upd d (30 + e) (offK (d (30 + e)) k)) n = s_all d n := s_all_cong (fun z hz => upd_ne (by omega))
  obtain ⟨N1, f1, f2, f3⟩ := fo_eq (M := g_u N 60 (30 + e) (offK (d (30 + e)) k)) hi W2 (by rw [← ed]; rfl)
  rw [sa] at f3
  have r60 : N1.1 60 = upd d (30 + e) (offK (d (30 + e)) k) := by
    rw [(f2.row (k := 60) (by decide) (by simp)).1, ← ed]
    rfl
  have n65 : ∀ q, q < 1024 → N1.1 65 q = bi (sb q (s_all d n) && pO d n h i q) := fun q hq => by
    rw [(f2.row (k := 65) (by decide) (by simp)).1]
    show N.1 65 q = _
    rw [h65 q hq]
    cases c : sb q (s_all d n)
    · rfl
    · rw [hg q c]
  have io := io_eq n65 f3
  refine ⟨g_u N1 60 (30 + e) (d (30 + e)), ?_, ?_⟩
  · unfold f_X12_isSpare
    rw [ld_30 (by omega), Option.bind_some, ed, st_30 (by omega), Option.bind_some]
    rw [show nI k &&& 31 = nI k &&& 31 from rfl]
    rw [show d (30 + e) &&& ((1 : Int32) <<< (nI k &&& 31) ^^^ -1) = offK (d (30 + e)) k from rfl, f1, Option.bind_some, io, Option.bind_some, ld_30 (by omega), Option.bind_some, r60, upd_eq, offK_on hk hb, st_30 (by omega), Option.bind_some, bi_bz, Option.bind_some]
    rfl
  · intro c j hc hj
    have hc' := f2 c j hc hj
    refine ⟨?_, ?_⟩
    · by_cases z : c = 60
      · subst z
        show upd (N1.1 60) (30 + e) (d (30 + e)) j = _
        by_cases y : j = 30 + e
        · subst y
          rw [upd_eq, ed]
        · rw [upd_ne y, r60, upd_ne y, ed]
      · show (if c = 60 then _ else N1.1 c) j = _
        rw [if_neg z, hc'.1]
        show (if c = 60 then _ else N.1 c) j = _
        rw [if_neg z]
    · rw [show (g_u N1 60 (30 + e) (d (30 + e))).2 c j = N1.2 c j from rfl, hc'.2]
      rfl
theorem op_spare (ht : t < 64) (H : Rel0 t n l m h c1 c2 c3 M) (x y z : Int32) : Op (f_X11_spare x y z) (f_X12_spare x y z) t M := by
  obtain ⟨h1, h2, h3, h4, h5, h6, h7, h8, h9, h10, h11⟩ := id H
  obtain ⟨b1, b2, b3, b4, e0, e4, e1, e3, eu, wA, wL, wH, wT⟩ := id h1
  rcases ix x (n := h) (by omega) with ho | ⟨i, hi, rfl⟩
  · refine Op.t0 H ?_ ?_
    · unfold f_X11_spare
      rw [hh_out h3.1 ho, Option.bind_some, if_pos rfl]
      rfl
    · unfold f_X12_spare
      rw [mh_out (n := h) (M := tellM 0 M) e3 (by omega) ho, Option.bind_some, if_pos rfl]
      rfl
  rcases ix y (n := n) (by omega) with ho | ⟨e, he, rfl⟩
  · refine Op.t0 H ?_ ?_
    · unfold f_X11_spare
      rw [hh_in h3.1 hi (by omega), Option.bind_some, if_neg (by decide), has_out h2.1 ho, Option.bind_some, if_pos rfl]
      rfl
    · unfold f_X12_spare
      rw [mh_in (n := h) (M := tellM 0 M) e3 (by omega) hi, Option.bind_some, if_neg (by decide), me_out (n := n) (M := tellM 0 M) e0 (by omega) ho, Option.bind_some, if_pos rfl]
      rfl
  rcases ix z (n := 24) (by omega) with ho | ⟨k, hk, rfl⟩
  · refine Op.t0 H ?_ ?_
    · unfold f_X11_spare
      rw [hh_in h3.1 hi (by omega), Option.bind_some, if_neg (by decide), has_in h2.1 he (by omega), Option.bind_some, if_neg (by decide), ik_out ho, Option.bind_some, if_pos rfl]
      rfl
    · unfold f_X12_spare
      rw [mh_in (n := h) (M := tellM 0 M) e3 (by omega) hi, Option.bind_some, if_neg (by decide), me_in (n := n) (M := tellM 0 M) e0 (by omega) he, Option.bind_some, if_neg (by decide), mk_out ho, Option.bind_some, if_pos rfl]
      rfl
  have r5 : M.1 5 e = M.1 60 (30 + e) := (h2.2.2.2.2.1 e he).2.1
  have hkc : f_X0_hasKey (nI e) (nI k) M = some (bi (bt (M.1 60 (30 + e)) k)) := by
    unfold f_X0_hasKey
    rw [e_ld (by omega) (by omega), Option.bind_some, r5, b_bit _ (by omega)]
    cases bt (M.1 60 (30 + e)) k
    · rw [if_pos (show (if false = true then (1 : Int32) else 0) = 0 by decide)]
      rfl
    · rw [if_neg (show ¬ (if true = true then (1 : Int32) else 0) = 0 by decide)]
      rfl
  cases hb : bt (M.1 60 (30 + e)) k
  · refine Op.t3 H ?_ ?_
    · unfold f_X11_spare
      rw [hh_in h3.1 hi (by omega), Option.bind_some, if_neg (by decide), has_in h2.1 he (by omega), Option.bind_some, if_neg (by decide), ik_in hk, Option.bind_some, if_neg (by decide), hkc, hb, Option.bind_some, if_pos ((bi_0 false).mpr rfl)]
    · unfold f_X12_spare
      rw [mh_in (n := h) (M := tellM 3 M) e3 (by omega) hi, Option.bind_some, if_neg (by decide), me_in (n := n) (M := tellM 3 M) e0 (by omega) he, Option.bind_some, if_neg (by decide), mk_in hk, Option.bind_some, if_neg (by decide), ld_30 (by omega), Option.bind_some, b_bit _ (by omega), show bt ((tellM 3 M).1 60 (30 + e)) k = false from hb, if_pos (show (if false = true then (1 : Int32) else 0) = 0 by decide)]
  have hA := all_1024 (M.1 60) b1
  obtain ⟨M1, a1, a2, a3, a4⟩ := fresh_eq H ht
  have r60 : M1.1 60 = M.1 60 := (a2.row (by decide) (by decide)).1
  have pr := present_eq a3.1 a3.2.1
  rw [r60] at pr
  have x1 : XH M1 (M.1 60) h := by
    have := a3.2.2.1
    rw [r60] at this
    exact this
  have r51 : M1.1 5 e = M.1 60 (30 + e) := by
    rw [(a2.row (k := 5) (by decide) (by decide)).1]
    exact r5
  have ic := is_eq x1 wH b4 b1 he hi (k := k) pr r51 (fun q hq hA2 => isOpen_eq hq (by omega) (a4 q hA2)) (fun q _ hA2 _ => (a4 q hA2).1)
  obtain ⟨N1, f1, f2, f3⟩ := fo_eq hi h1 r60
  have s60 : N1.1 60 = M.1 60 := (f2.row (by decide) (by simp)).1.trans r60
  obtain ⟨N2, k1, k2, k3⟩ := ko_eq f3
  have t60 : N2.1 60 = M.1 60 := (k2.row (by decide) (by simp)).1.trans s60
  obtain ⟨N3, g1, g2⟩ := im_eq h1 t60 he hi hk hb k3 (fun _ _ => rfl)
  have fr : g_fr [64, 65, 68, 69] [] M1 N3 := ((f2.mono (by decide) (by simp)).trans (k2.mono (by decide) (by simp))).trans (g2.mono (by decide) (by simp))
  generalize spB (M.1 60) n h i e (offK (M.1 60 (30 + e)) k) = S at ic g1
  refine Op.say' (v := bi S) a3 ?_ ?_ fr (by decide) (by simp)
  · unfold f_X11_spare
    rw [hh_in h3.1 hi (by omega), Option.bind_some, if_neg (by decide), has_in h2.1 he (by omega), Option.bind_some, if_neg (by decide), ik_in hk, Option.bind_some, if_neg (by decide), hkc, hb, Option.bind_some, if_neg (fun q => absurd ((bi_0 true).mp q) (by decide)), a1, Option.bind_some, ic, Option.bind_some]
    cases S
    · rw [if_pos ((bi_0 false).mpr rfl)]
      rfl
    · rw [if_neg (fun q => absurd ((bi_0 true).mp q) (by decide))]
      rfl
  · unfold f_X12_spare
    rw [mh_in (n := h) (M := M1) (by rw [r60]; exact e3) (by omega) hi, Option.bind_some, if_neg (by decide), me_in (n := n) (M := M1) (by rw [r60]; exact e0) (by omega) he, Option.bind_some, if_neg (by decide), mk_in hk, Option.bind_some, if_neg (by decide), ld_30 (by omega), Option.bind_some, r60, b_bit _ (by omega), hb, if_neg (show ¬ (if true = true then (1 : Int32) else 0) = 0 by decide), f1, Option.bind_some, k1, Option.bind_some, g1, Option.bind_some]
    cases S
    · rw [if_pos ((bi_0 false).mpr rfl)]
      rfl
    · rw [if_neg (fun q => absurd ((bi_0 true).mp q) (by decide))]
      rfl
end SPARE
