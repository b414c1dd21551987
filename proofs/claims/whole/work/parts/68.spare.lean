section SPARE
variable {t n l m h c1 c2 c3 : Nat} {M : g_M} {d : Nat → Int32}
theorem W_D.ring (W : W_D d n l m h) {e : Nat} (he : e < n) {v : Int32} (hv : ∃ q, q < 2 ^ 24 ∧ v = nI q) : W_D (upd d (30 + e) v) n l m h := by
  obtain ⟨b1, b2, b3, b4, e0, e4, e1, e3, eu, wA, wL, wH, wT⟩ := W
  have hd : ∀ k, k ≠ 30 + e → upd d (30 + e) v k = d k := fun k a => upd_ne a
  refine ⟨b1, b2, b3, b4, (hd 0 (by omega)).trans e0, (hd 4 (by omega)).trans e4, (hd 1 (by omega)).trans e1, (hd 3 (by omega)).trans e3, by rw [hd 2 (by omega)]; exact eu, fun i hi => ?_, fun k hk => ?_, fun i hi => (wH i hi).agree (agH_u b4 (by omega)) hi, fun k hk => (wT k hk).agree (agT_u (m := m) (by omega)) hk⟩
  · rw [hd (10 + i) (by omega), hd (20 + i) (by omega)]
    refine ⟨(wA i hi).1, (wA i hi).2.1, ?_⟩
    by_cases c : i = e
    · subst c
      rw [upd_eq]
      exact hv
    · rw [hd (30 + i) (by omega)]
      exact (wA i hi).2.2
  · rw [hd _ (by omega), hd _ (by omega)]
    exact wL k hk
theorem keys_out {e s : Nat} (hs : s < 1024) (he : s.testBit e = false) {v : Int32} : ∀ n, n ≤ 10 → s_keys (upd d (30 + e) v) (nI s) n = s_keys d (nI s) n := fun n hn => by
  refine b_ext (fun k hk => bool_iff ?_)
  rw [s_keys_bt, s_keys_bt]
  constructor
  · rintro ⟨z, hz, a1, a2, a3⟩
    have ne : z ≠ e := by
      rintro rfl
      rw [bt_nI (by omega), he] at a1
      exact absurd a1 (by decide)
    rw [upd_ne (by omega)] at a2 a3
    exact ⟨z, hz, a1, a2, a3⟩
  · rintro ⟨z, hz, a1, a2, a3⟩
    have ne : z ≠ e := by
      rintro rfl
      rw [bt_nI (by omega), he] at a1
      exact absurd a1 (by decide)
    exact ⟨z, hz, a1, by rw [upd_ne (by omega)]; exact a2, by rw [upd_ne (by omega)]; exact a3⟩
theorem keys_in {e s : Nat} (hs : s < 1024) (hn : n ≤ 10) (hA : sb s (s_all d n) = true) (he : s.testBit e = true) {v : Int32} : s_keys (upd d (30 + e) v) (nI s) n = s_keys d (nI (s ^^^ 2 ^ e)) n ||| v := by
  have hx := all_bit hA he
  have xs := sb_xor he
  have := sb_le xs.1
  refine b_ext (fun k hk => bool_iff ?_)
  rw [b_or, Bool.or_eq_true, s_keys_bt, s_keys_bt]
  constructor
  · rintro ⟨z, hz, a1, a2, a3⟩
    by_cases c : z = e
    · subst c
      rw [upd_eq] at a3
      exact Or.inr a3
    · left
      rw [upd_ne (by omega)] at a2 a3
      refine ⟨z, hz, ?_, a2, a3⟩
      rw [bt_nI (by omega)] at a1 ⊢
      rw [xb, a1, decide_eq_false (fun q => c q.symm)]
      rfl
  · rintro (⟨z, hz, a1, a2, a3⟩ | a)
    · rw [bt_nI (by omega)] at a1
      have ne : z ≠ e := by
        rintro rfl
        rw [xb, he, decide_eq_true rfl] at a1
        exact absurd a1 (by decide)
      exact ⟨z, hz, by rw [bt_nI (by omega)]; exact sb_iff.mp xs.1 z a1, by rw [upd_ne (by omega)]; exact a2, by rw [upd_ne (by omega)]; exact a3⟩
    · exact ⟨e, hx.1, by rw [bt_nI (by omega)]; exact he, by rw [upd_ne (by omega)]; exact hx.2, by rw [upd_eq]; exact a⟩
theorem pO_ring {e i s : Nat} (hh : h ≤ 40) (he : e < 10) {v : Int32} : pO (upd d (30 + e) v) n h i s = s_opens d h (s_keys (upd d (30 + e) v) (nI s) n) i := by
  unfold pO
  rw [s_opens_cong (agH_u hh (by omega))]
theorem s_opens_mono (w : KB d h) {K K' : Int32} (a : bsub K K') {i : Nat} (e : s_opens d h K i = true) : s_opens d h K' i = true := s_opn_mono (s_end_mono w a) h i e
theorem s_opens_end (w : KB d h) (K r : Int32) (i : Nat) : s_opens d h (s_end d h K ||| r) i = s_opens d h (K ||| r) i := by
  unfold s_opens
  rw [s_end_add w]
/-- where it matters that a ring becomes smaller -/
theorem ring_less (w : KB d h) (hh : h ≤ 40) (hn : n ≤ 10) {e i s : Nat} (he : e < n) (hs : s < 1024) (hA : sb s (s_all d n) = true) (hb : s.testBit e = true) {v : Int32} (hv : bsub v (d (30 + e))) : pO d n h i s = pO (upd d (30 + e) v) n h i s ↔ (pO d n h i s = true → pO d n h i (s ^^^ 2 ^ e) = false → s_opens d h (s_end d h (s_keys d (nI (s ^^^ 2 ^ e)) n) ||| v) i = true) := by
  have e1 : pO (upd d (30 + e) v) n h i s = s_opens d h (s_keys d (nI (s ^^^ 2 ^ e)) n ||| v) i := by rw [pO_ring hh (by omega), keys_in hs hn hA hb]
  have e2 : s_keys d (nI s) n = s_keys d (nI (s ^^^ 2 ^ e)) n ||| d (30 + e) := by
    have := keys_in (d := d) (v := d (30 + e)) hs hn hA hb
    rw [← this]
    congr 1
    funext k
    by_cases c : k = 30 + e
    · subst c
      rw [upd_eq]
    · rw [upd_ne c]
  rw [e1, s_opens_end w]
  have up : s_opens d h (s_keys d (nI (s ^^^ 2 ^ e)) n ||| v) i = true → pO d n h i s = true := fun q => by
    unfold pO
    rw [e2]
    exact s_opens_mono w (or_b or_l (hv.trans or_r)) q
  have lo : pO d n h i (s ^^^ 2 ^ e) = true → s_opens d h (s_keys d (nI (s ^^^ 2 ^ e)) n ||| v) i = true := fun q => s_opens_mono w or_l q
  constructor
  · intro q a _
    rw [← q]
    exact a
  · intro q
    apply bool_iff
    constructor
    · intro a
      cases c : pO d n h i (s ^^^ 2 ^ e)
      · exact q a c
      · exact lo c
    · exact up
/-- may the ring of e be v? -/
def spB (d : Nat → Int32) (n h i e : Nat) (v : Int32) : Bool := al (fun s => sb s (s_all d n) && pO d n h i s) (fun s => sb s (s_all d n) && pO (upd d (30 + e) v) n h i s) 1024
theorem spB_1 {e i : Nat} {v : Int32} (hn : n ≤ 10) : spB d n h i e v = true ↔ ∀ q, sb q (s_all d n) = true → pO d n h i q = pO (upd d (30 + e) v) n h i q := by
  have hA := all_1024 d hn
  unfold spB
  rw [al_1]
  constructor
  · intro a q c
    have := a q (by have := sb_le c; omega)
    rw [c, Bool.true_and, Bool.true_and] at this
    exact this
  · intro a q _
    cases c : sb q (s_all d n)
    · rw [Bool.false_and, Bool.false_and]
    · rw [a q c]
theorem less_I {s e : Nat} (hs : s < 1024) (he : e < 10) : nI s &&& (((1 : Int32) <<< (nI e &&& 31)) ^^^ (-1)) = nI (if s.testBit e = true then s ^^^ 2 ^ e else s) := by
  have lt : (if s.testBit e = true then s ^^^ 2 ^ e else s) < 2 ^ 32 := by
    split
    · rename_i c
      have := sb_le (sb_xor c).1
      omega
    · omega
  refine b_ext (fun k hk => ?_)
  rw [b_and, bt_not _ hk, bt_one (by omega), bt_nI (by omega), bt_nI lt]
  by_cases c : s.testBit e = true
  · rw [if_pos c, xb]
    by_cases q : k = e
    · subst q
      rw [c]
      simp
    · rw [decide_eq_false q, decide_eq_false (fun z => q z.symm)]
      simp
  · rw [if_neg c]
    by_cases q : k = e
    · subst q
      rw [Bool.eq_false_iff.mpr c]
      rfl
    · simp [q]
theorem is_go (x : XH M d h) (w : ∀ i, i < h → W_H d i) (hh : h ≤ 40) (hn : n ≤ 10) {e i : Nat} (he : e < n) (hi : i < h) {v : Int32} (hv : bsub v (d (30 + e))) (hV : ∀ q, sb q (s_all d n) = true → VO M d n h q) : ∀ (k fu s : Nat), s_all d n + 1 ≤ s + k → s ≤ 1024 → k < fu → (∀ q, q < s → sb q (s_all d n) = true → pO d n h i q = pO (upd d (30 + e) v) n h i q) → g_lq5 (F_X11_isSpare_35 M (some 0) (some 1)) fu (nI i) ((1 : Int32) <<< (nI e &&& 31)) (nI (s_all d n)) v (nI s) = some (bi (spB d n h i e v)) := by
  have wk := W_H.KB w
  have hA := all_1024 d hn
  have fin : ∀ s, s_all d n < s → (∀ q, q < s → sb q (s_all d n) = true → pO d n h i q = pO (upd d (30 + e) v) n h i q) → spB d n h i e v = true := fun s hs hq => (spB_1 hn).mpr (fun q c => hq q (by have := sb_le c; omega) c)
  intro k
  induction k with
  | zero =>
    intro fu s hs h10 hf hq
    obtain ⟨fu, rfl⟩ : ∃ f', fu = f' + 1 := ⟨fu - 1, by omega⟩
    rw [lq5_s, F_X11_isSpare_35, if_pos (nI_lt (by omega) (by omega)), fin s (by omega) hq]
    rfl
  | succ k ih =>
    intro fu s hs h10 hf hq
    obtain ⟨fu, rfl⟩ : ∃ f', fu = f' + 1 := ⟨fu - 1, by omega⟩
    by_cases cA : s_all d n < s
    · rw [lq5_s, F_X11_isSpare_35, if_pos (nI_lt (by omega) (by omega)), fin s cA hq]
      rfl
    · have hs2 : s < 1024 := by omega
      have next : (sb s (s_all d n) = true → pO d n h i s = pO (upd d (30 + e) v) n h i s) → g_lq5 (F_X11_isSpare_35 M (some 0) (some 1)) fu (nI i) ((1 : Int32) <<< (nI e &&& 31)) (nI (s_all d n)) v (nI s + 1) = some (bi (spB d n h i e v)) := fun q => by
        rw [nI_1]
        exact ih fu (s + 1) (by omega) (by omega) (by omega) (fun z hz hzA => by
          by_cases c : z = s
          · subst c
            exact q hzA
          · exact hq z (by omega) hzA)
      rw [lq5_s, F_X11_isSpare_35, if_neg (nI_nlt (by omega) (by omega)), less_I hs2 (by omega)]
      unfold f_X11_isSpare_98 f_X11_isSpare_99 f_X11_isSpare_99_b
      rw [if_pos (show (0 : Int32) = 0 from rfl), if_neg (show ¬ (1 : Int32) = 0 by decide)]
      by_cases cs : sb s (s_all d n) = true
      · rw [if_pos ((sb_I hs2 hA).mpr cs)]
        by_cases cb : s.testBit e = true
        · have xs := sb_xor cb
          have xl := sb_le xs.1
          have rl := ring_less wk hh hn he hs2 cs cb hv (i := i)
          rw [if_pos cb, if_neg (fun q => xs.2 ((nI_eq (by omega) (by omega)).mp q)), isOpen_eq hs2 (by omega) (hV s cs), Option.bind_some, isOpen_eq (q := s ^^^ 2 ^ e) (by omega) (by omega) (hV _ (sb_trans xs.1 cs)), Option.bind_some, e_ld (by omega) (by omega), Option.bind_some, (hV _ (sb_trans xs.1 cs)).1, isO_eq x w hh _ hi, Option.bind_some]
          cases p1 : pO d n h i s
          · rw [if_pos ((bi_0 false).mpr rfl)]
            exact next (fun _ => by
              refine rl.mpr (fun q => ?_)
              rw [p1] at q
              exact absurd q (by decide))
          · rw [if_neg (fun q => absurd ((bi_0 true).mp q) (by decide))]
            cases p2 : pO d n h i (s ^^^ 2 ^ e)
            · rw [if_pos ((bi_0 false).mpr rfl)]
              cases p3 : s_opens d h (s_end d h (s_keys d (nI (s ^^^ 2 ^ e)) n) ||| v) i
              · rw [if_neg (show ¬ false = true by decide), if_pos rfl]
                have z : spB d n h i e v = false := Bool.eq_false_iff.mpr (fun q => by
                  have := rl.mp ((spB_1 hn).mp q s cs) p1 p2
                  rw [p3] at this
                  exact absurd this (by decide))
                rw [z]
                rfl
              · rw [if_pos rfl, if_neg (by decide)]
                exact next (fun _ => rl.mpr (fun _ _ => p3))
            · rw [if_neg (fun q => absurd ((bi_0 true).mp q) (by decide))]
              exact next (fun _ => rl.mpr (fun _ q => by rw [p2] at q; exact absurd q (by decide)))
        · rw [if_neg cb, if_pos rfl]
          exact next (fun _ => by
            rw [pO_ring hh (by omega), keys_out hs2 (Bool.eq_false_iff.mpr cb) n hn]
            rfl)
      · rw [if_neg (fun q => cs ((sb_I hs2 hA).mp q))]
        exact next (fun q => absurd q cs)
end SPARE
