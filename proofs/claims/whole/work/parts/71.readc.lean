section READC
variable {b : Nat → Int32} {L N : Nat} {M : g_M} {t : s_T}
/-- a token lies within the text -/
def OT (L : Nat) (t : s_T) : Prop := t.1 ≤ t.2.1 ∧ t.2.1 ≤ L ∧ (t.2.2.1 ≠ 0 → t.1 < t.2.1)
theorem OT.tk {a : Nat} (ha : a ≤ L) : OT L (s_tk b L a) ∧ a ≤ (s_tk b L a).1 := by
  unfold s_tk
  have sb := s_skip_b (b := b) L a ha
  generalize s_skip b L L a = s at sb
  unfold s_tk0
  by_cases c : s < L
  · rw [if_pos c]
    cases lt : s_let (b s)
    · rw [if_neg (show ¬ false = true by decide)]
      cases dt : s_dig (b s)
      · rw [if_neg (show ¬ false = true by decide)]
        exact ⟨⟨Nat.le_succ s, c, fun _ => Nat.lt_succ_self s⟩, sb.1⟩
      · rw [if_pos rfl]
        have := s_run_gt (b := b) (p := s_dig) (n := L) c dt (by omega)
        exact ⟨⟨Nat.le_of_lt this, (s_run_b (b := b) (L := L) (p := s_dig) L s (by omega)).2, fun _ => this⟩, sb.1⟩
    · rw [if_pos rfl]
      have := s_run_gt (b := b) (p := s_let) (n := L) c lt (by omega)
      exact ⟨⟨Nat.le_of_lt this, (s_run_b (b := b) (L := L) (p := s_let) L s (by omega)).2, fun _ => this⟩, sb.1⟩
  · rw [if_neg c]
    exact ⟨⟨Nat.le_refl _, sb.2, fun q => absurd rfl q⟩, sb.1⟩
theorem OT.adv (h : OT L t) : OT L (s_adv b L t) ∧ t.2.1 ≤ (s_adv b L t).1 := OT.tk h.2.1
theorem OT.adv1 (h : OT L t) (hk : t.2.2.1 ≠ 0) : t.1 + 1 ≤ (s_adv b L t).1 := by
  have := h.2.2 hk
  have := (OT.adv (b := b) h).2
  omega
abbrev FA (M M' : g_M) : Prop := g_fr [] [(32, 6), (32, 7)] M M'
abbrev FE (M M' : g_M) : Prop := g_fr [35] [(32, 2), (32, 6), (32, 7)] M M'
theorem FA.e {M M' : g_M} (h : FA M M') : FE M M' := g_fr.mono h (by decide) (by decide)
theorem FA.tp {M M' : g_M} (h : FA M M') (tp : TB b L N M) : TB b L N M' := tp.fr h (by decide)
theorem FE.tp {M M' : g_M} (h : FE M M') (tp : TB b L N M) : TB b L N M' := tp.fr h (by decide)
theorem FA.len {M M' : g_M} (h : FA M M') : M'.1 32 2 = M.1 32 2 := g_fr.at h (by decide) (by decide)
theorem FA.code {M M' : g_M} (h : FA M M') : M'.1 35 = M.1 35 := (g_fr.row h (by decide) (by decide)).1
/-- the token that is looked at -/
def CT (b : Nat → Int32) (L N : Nat) (M : g_M) (t : s_T) : Prop := ∃ k, k ≤ N ∧ tq b L k = t ∧ M.1 32 6 = nI k
theorem ldk (tp : TB b L N M) (ct : CT b L N M t) : g_ld M 77 121 (M.1 32 6) = some t.2.2.1 := by
  obtain ⟨k, k1, k2, k3⟩ := ct
  have := tp.2.1
  rw [k3, e_ld (by omega) (by omega), (tp.2.2.1 k (by omega)).1, k2]
theorem ldp (tp : TB b L N M) (ct : CT b L N M t) : g_ld M 78 121 (M.1 32 6) = some (nI t.1) := by
  obtain ⟨k, k1, k2, k3⟩ := ct
  have := tp.2.1
  rw [k3, e_ld (by omega) (by omega), (tp.2.2.1 k (by omega)).2.1, k2]
theorem ldv (tp : TB b L N M) (ct : CT b L N M t) : ∃ v, g_ld M 79 121 (M.1 32 6) = some v ∧ (t.2.2.1 = 2 → v = t.2.2.2) := by
  obtain ⟨k, k1, k2, k3⟩ := ct
  have := tp.2.1
  refine ⟨M.1 79 k, ?_, fun q => ?_⟩
  · rw [k3, e_ld (by omega) (by omega)]
  · rw [(tp.2.2.1 k (by omega)).2.2 (by rw [k2]; exact q), k2]
theorem cadv (tp : TB b L N M) (ct : CT b L N M t) (hk : t.2.2.1 ≠ 0) : FA M (g_u M 32 6 (M.1 32 6 + 1)) ∧ CT b L N (g_u M 32 6 (M.1 32 6 + 1)) (s_adv b L t) := by
  obtain ⟨k, k1, k2, k3⟩ := ct
  refine ⟨g_fr.rfl.uT (by decide), k + 1, ?_, ?_, ?_⟩
  · have : k ≠ N := fun q => hk (by rw [← k2, q]; exact tp.2.2.2.2)
    omega
  · show s_adv b L (tq b L k) = _
    rw [k2]
  · show M.1 32 6 + 1 = _
    rw [k3, nI_1]
theorem g_u_self {c i : Nat} : g_u M c i (M.1 c i) = M := by
  have h : (g_u M c i (M.1 c i)).1 = M.1 := by
    funext k j
    rw [g_u_at]
    by_cases d : k = c ∧ j = i
    · rw [if_pos d, d.1, d.2]
    · rw [if_neg d]
  exact Prod.ext h rfl
theorem cpass (tp : TB b L N M) (ct : CT b L N M t) {w : Int32} (hw : t.2.2.1 = w) (h0 : w ≠ 0) : ∃ M' : g_M, f_X9_pass w M = some (1, M') ∧ FA M M' ∧ CT b L N M' (s_adv b L t) ∧ M'.1 32 7 = M.1 32 7 := by
  obtain ⟨m2, m3⟩ := cadv tp ct (by rw [hw]; exact h0)
  refine ⟨g_u M 32 6 (M.1 32 6 + 1), ?_, m2, m3, rfl⟩
  unfold f_X9_pass f_X9_pass_18
  rw [ldk tp ct, Option.bind_some, if_pos hw, if_neg (show ¬ (1 : Int32) = 0 by decide), Option.bind_some]
  rfl
theorem cpass0 (tp : TB b L N M) (ct : CT b L N M t) {w : Int32} (hw : ¬ t.2.2.1 = w) : f_X9_pass w M = some (0, M) := by
  unfold f_X9_pass f_X9_pass_18
  rw [ldk tp ct, Option.bind_some, if_neg hw, if_pos rfl, Option.bind_some, Int32.add_zero, g_u_self]
  rfl
theorem s_nums_s {n : Nat} {p : Int32} : s_nums b L (n + 1) p t = if t.2.2.1 = 2 ∧ ¬ 10 ≤ t.2.2.2 then s_nums b L n (p ||| ((1 : Int32) <<< (t.2.2.2 &&& 31))) (s_adv b L t) else (p, t) := rfl
theorem CT.u7 (ct : CT b L N M t) (v : Int32) : CT b L N (g_u M 32 7 v) t := ct
theorem np_go (K : g_M → Option (Int32 × g_M)) : ∀ (n f i : Nat) (M : g_M) (t : s_T) (p : Int32), TB b L N M → CT b L N M t → OT L t → i + n = 120 → n < f → M.1 32 7 = p → ∃ M' : g_M, g_lp2 (F_X9_readPart_52 K) f (bi (decide (t.2.2.1 = 2))) (nI i) M = K M' ∧ FA M M' ∧ CT b L N M' (s_nums b L n p t).2 ∧ OT L (s_nums b L n p t).2 ∧ M'.1 32 7 = (s_nums b L n p t).1 ∧ t.1 ≤ (s_nums b L n p t).2.1
  | 0, f, i, M, t, p, tp, ct, ot, hi, hf, ep => by
    obtain ⟨f, rfl⟩ : ∃ f', f = f' + 1 := ⟨f - 1, by omega⟩
    refine ⟨M, ?_, g_fr.rfl, ct, ot, ep, Nat.le_refl _⟩
    have : i = 120 := by omega
    subst this
    rw [lp2_s, F_X9_readPart_52]
    split
    · rfl
    · rw [if_pos (by decide)]
  | n + 1, f, i, M, t, p, tp, ct, ot, hi, hf, ep => by
    obtain ⟨f, rfl⟩ : ∃ f', f = f' + 1 := ⟨f - 1, by omega⟩
    rw [s_nums_s]
    obtain ⟨v, v1, v2⟩ := ldv tp ct
    by_cases d : t.2.2.1 = 2
    · have hv := v2 d
      subst hv
      by_cases c : ¬ 10 ≤ t.2.2.2
      · have fr1 : FA M (g_u M 32 7 (p ||| ((1 : Int32) <<< (t.2.2.2 &&& 31)))) := g_fr.rfl.uT (by decide)
        have tp1 := fr1.tp tp
        have ct1 := ct.u7 (p ||| ((1 : Int32) <<< (t.2.2.2 &&& 31)))
        obtain ⟨a2, a3⟩ := cadv tp1 ct1 (by rw [d]; decide)
        have e7 : (g_u (g_u M 32 7 (p ||| ((1 : Int32) <<< (t.2.2.2 &&& 31)))) 32 6 ((g_u M 32 7 (p ||| ((1 : Int32) <<< (t.2.2.2 &&& 31)))).1 32 6 + 1)).1 32 7 = p ||| ((1 : Int32) <<< (t.2.2.2 &&& 31)) := rfl
        have tp2 := a2.tp tp1
        have l2 := ldk tp2 a3
        rw [if_pos ⟨d, c⟩, lp2_s, F_X9_readPart_52, decide_eq_true d, if_neg (show ¬ bi true = 0 by decide), if_neg (show ¬ (120 : Int32) ≤ nI i from nI_ge (b := 120) (by omega) (by omega)), v1, Option.bind_some, if_neg c, Option.bind_some, ep, Option.bind_some, Option.bind_some, l2, Option.bind_some]
        generalize g_u (g_u M 32 7 (p ||| ((1 : Int32) <<< (t.2.2.2 &&& 31)))) 32 6 ((g_u M 32 7 (p ||| ((1 : Int32) <<< (t.2.2.2 &&& 31)))).1 32 6 + 1) = M2 at a2 a3 e7 tp2
        obtain ⟨M', m1, m2, m3, m4, m5, m6⟩ := np_go K n f (i + 1) M2 (s_adv b L t) (p ||| ((1 : Int32) <<< (t.2.2.2 &&& 31))) tp2 a3 ot.adv.1 (by omega) (by omega) e7
        refine ⟨M', ?_, (fr1.trans a2).trans m2, m3, m4, m5, ?_⟩
        · rw [← m1, nI_1]
          by_cases z : (s_adv b L t).2.2.1 = 2
          · rw [if_pos z, decide_eq_true z]
            rfl
          · rw [if_neg z, decide_eq_false z]
            rfl
        · have := ot.1
          have := (OT.adv (b := b) ot).2
          omega
      · rw [if_neg (fun q => c q.2)]
        refine ⟨M, ?_, g_fr.rfl, ct, ot, ep, Nat.le_refl _⟩
        rw [lp2_s, F_X9_readPart_52, decide_eq_true d, if_neg (show ¬ bi true = 0 by decide), if_neg (show ¬ (120 : Int32) ≤ nI i from nI_ge (b := 120) (by omega) (by omega)), v1, Option.bind_some, if_pos (Classical.not_not.mp c)]
    · rw [if_neg (fun q => d q.1)]
      refine ⟨M, ?_, g_fr.rfl, ct, ot, ep, Nat.le_refl _⟩
      rw [lp2_s, F_X9_readPart_52, decide_eq_false d, if_pos (show bi false = 0 from rfl)]
theorem part_c (tp : TB b L N M) (ct : CT b L N M t) (ot : OT L t) : ∃ M' : g_M, f_X9_readPart M = some (bi (s_part b L t).1, M') ∧ FA M M' ∧ CT b L N M' (s_part b L t).2.2 ∧ OT L (s_part b L t).2.2 ∧ ((s_part b L t).1 = true → M'.1 32 7 = (s_part b L t).2.1 ∧ t.1 < (s_part b L t).2.2.1) := by
  unfold f_X9_readPart s_part
  by_cases c17 : t.2.2.1 = 17
  · obtain ⟨M2, a1, a2, a3, a7⟩ := cpass tp ct c17 (by decide)
    rw [if_pos c17, a1, Option.bind_some, if_neg (show ¬ (1 : Int32) = 0 by decide), Option.bind_some]
    exact ⟨g_u M2 32 7 1023, rfl, a2.uT (by decide), a3.u7 _, ot.adv.1, fun _ => ⟨rfl, ot.adv1 (by rw [c17]; decide)⟩⟩
  · rw [if_neg c17, cpass0 tp ct c17, Option.bind_some, if_pos rfl, Option.bind_some]
    have fr1 : FA M (g_u M 32 7 0) := g_fr.rfl.uT (by decide)
    have ct1 := ct.u7 0
    by_cases c5 : t.2.2.1 = 5
    · obtain ⟨M2, a1, a2, a3, a7⟩ := cpass (fr1.tp tp) ct1 c5 (by decide)
      have tp2 := a2.tp (fr1.tp tp)
      rw [if_pos c5, a1, Option.bind_some, if_neg (show ¬ (1 : Int32) = 0 by decide)]
      dsimp only
      rw [ldk tp2 a3, Option.bind_some]
      have e7 : M2.1 32 7 = 0 := a7.trans rfl
      have ot2 := (OT.adv (b := b) ot).1
      have lt2 := OT.adv1 (b := b) ot (by rw [c5]; decide)
      obtain ⟨M3, m1, m2, m3, m4, m5, m6⟩ := np_go (fun (M : g_M) => f_X9_readPart_131 M) 120 20000000 0 M2 (s_adv b L t) 0 tp2 a3 ot2 (by omega) (by omega) e7
      have m1' : (if (s_adv b L t).2.2.1 = 2 then (g_lp2 (F_X9_readPart_52 (fun (M : g_M) => f_X9_readPart_131 M)) 20000000 1 0 M2) else (g_lp2 (F_X9_readPart_52 (fun (M : g_M) => f_X9_readPart_131 M)) 20000000 0 0 M2)) = f_X9_readPart_131 M3 := by
        rw [← m1]
        by_cases z : (s_adv b L t).2.2.1 = 2
        · rw [if_pos z, decide_eq_true z]
          rfl
        · rw [if_neg z, decide_eq_false z]
          rfl
      rw [m1']
      unfold f_X9_readPart_131
      rw [m5]
      generalize s_nums b L 120 0 (s_adv b L t) = r at m3 m4 m5 m6
      have fr3 : FA M M3 := (fr1.trans a2).trans m2
      by_cases z : r.1 = 0
      · rw [if_pos z, if_pos z]
        exact ⟨M3, rfl, fr3, m3, m4, fun q => Bool.noConfusion q⟩
      · rw [if_neg z, if_neg z]
        by_cases c6 : r.2.2.2.1 = 6
        · obtain ⟨M4, b1, b2, b3, b7⟩ := cpass (fr3.tp tp) m3 c6 (by decide)
          rw [if_pos c6, b1, Option.bind_some, if_neg (show ¬ (1 : Int32) = 0 by decide)]
          refine ⟨M4, rfl, fr3.trans b2, b3, m4.adv.1, fun _ => ⟨b7.trans m5, ?_⟩⟩
          have := OT.adv1 (b := b) m4 (by rw [c6]; decide)
          show t.1 < (s_adv b L r.2).1
          omega
        · rw [if_neg c6, cpass0 (fr3.tp tp) m3 c6, Option.bind_some, if_pos rfl]
          exact ⟨M3, rfl, fr3, m3, m4, fun q => Bool.noConfusion q⟩
    · rw [if_neg c5, cpass0 (fr1.tp tp) ct1 c5, Option.bind_some, if_pos rfl]
      refine ⟨g_u M 32 7 0, ?_, fr1, ct1, ot, fun q => Bool.noConfusion q⟩
      show g_lp2 (F_X9_readPart_52 (fun (M : g_M) => f_X9_readPart_131 M)) (19999999 + 1) 0 0 (g_u M 32 7 0) = _
      rw [lp2_s, F_X9_readPart_52, if_pos rfl]
      unfold f_X9_readPart_131
      rw [if_pos (show (g_u M 32 7 0).1 32 7 = 0 from rfl)]
      rfl
/-- the code: what was emitted behind the k-th -/
def CD (M M' : g_M) (k : Nat) (c : List Int32) : Prop := M'.1 32 2 = nI (k + c.length) ∧ (∀ i, i < k → M'.1 35 i = M.1 35 i) ∧ ∀ i, i < c.length → M'.1 35 (k + i) = c.getD i 0
theorem CD.pre {M1 M2 : g_M} {k : Nat} {c : List Int32} (h : CD M1 M2 k c) (fr : FA M M1) : CD M M2 k c := ⟨h.1, fun i hi => (h.2.1 i hi).trans (by rw [fr.code]), h.2.2⟩
theorem CD.post {M2 M3 : g_M} {k : Nat} {c : List Int32} (h : CD M M2 k c) (fr : FA M2 M3) : CD M M3 k c := ⟨fr.len.trans h.1, fun i hi => by rw [fr.code]; exact h.2.1 i hi, fun i hi => by rw [fr.code]; exact h.2.2 i hi⟩
theorem CD.nil {k : Nat} (e : M.1 32 2 = nI k) : CD M M k [] := ⟨e, fun _ _ => rfl, fun i hi => absurd hi (Nat.not_lt_zero i)⟩
theorem CD.emit {M2 : g_M} {k : Nat} {c : List Int32} (h : CD M M2 k c) (v : Int32) : CD M (g_u (g_u M2 35 (k + c.length) v) 32 2 (nI (k + c.length + 1))) k (c ++ [v]) := by
  refine ⟨?_, fun i hi => ?_, fun i hi => ?_⟩
  · rw [List.length_append]
    rfl
  · show upd (M2.1 35) (k + c.length) v i = _
    rw [upd_ne (by omega)]
    exact h.2.1 i hi
  · show upd (M2.1 35) (k + c.length) v (k + i) = _
    rw [List.length_append] at hi
    have : i < c.length + 1 := hi
    by_cases d : i = c.length
    · subst d
      rw [upd_eq]
      simp
    · rw [upd_ne (by omega), h.2.2 i (by omega)]
      simp only [List.getD_eq_getElem?_getD]
      rw [List.getElem?_append_left (by omega)]
theorem CD.trans {M1 M2 : g_M} {k : Nat} {c c2 : List Int32} (h : CD M M1 k c) (h2 : CD M1 M2 (k + c.length) c2) : CD M M2 k (c ++ c2) := by
  refine ⟨?_, fun i hi => (h2.2.1 i (by omega)).trans (h.2.1 i hi), fun i hi => ?_⟩
  · rw [List.length_append, ← Nat.add_assoc]
    exact h2.1
  · rw [List.length_append] at hi
    by_cases d : i < c.length
    · rw [h2.2.1 (k + i) (by omega), h.2.2 i d]
      simp only [List.getD_eq_getElem?_getD]
      rw [List.getElem?_append_left d]
    · have := h2.2.2 (i - c.length) (by omega)
      rw [show k + c.length + (i - c.length) = k + i by omega] at this
      rw [this]
      simp only [List.getD_eq_getElem?_getD]
      rw [List.getElem?_append_right (by omega)]
theorem em_ok {k : Nat} (hk : k < 120) (e : M.1 32 2 = nI k) (a n p : Int32) : f_X9_emit a n p M = some (1, g_u (g_u M 35 k (s_stp a n p)) 32 2 (nI (k + 1))) := by
  unfold f_X9_emit f_X10_step
  rw [e, if_neg (show ¬ (120 : Int32) ≤ nI k from nI_ge (b := 120) hk (by omega)), Option.bind_some, e_st hk (by omega), Option.bind_some, Option.bind_some, ← nI_1, ← e]
  rfl
theorem em_any {q : Nat} (hq : q ≤ 120) (e : M.1 32 2 = nI q) (a n p : Int32) : ∃ M' : g_M, f_X9_emit a n p M = some (1, M') ∧ g_fr [35] [(32, 2)] M M' ∧ ∃ q', q' ≤ 120 ∧ M'.1 32 2 = nI q' := by
  by_cases c : q < 120
  · exact ⟨_, em_ok c e a n p, (g_fr.rfl.uS (by decide)).uT (by decide), q + 1, by omega, rfl⟩
  · refine ⟨M, ?_, g_fr.rfl, q, hq, e⟩
    unfold f_X9_emit
    rw [e, if_pos (show (120 : Int32) ≤ nI q from nI_le (a := 120) (by omega) (by omega))]
theorem CT.em {M M' : g_M} (ct : CT b L N M t) (fr : g_fr [35] [(32, 2)] M M') : CT b L N M' t := by
  obtain ⟨k, k1, k2, k3⟩ := ct
  exact ⟨k, k1, k2, (fr.at (by decide) (by decide)).trans k3⟩
/-- what a reading leaves -/
def CRr (b : Nat → Int32) (L N : Nat) (M M' : g_M) (k : Nat) (t : s_T) (r : s_R) : Prop := FE M M' ∧ CT b L N M' r.2.2 ∧ OT L r.2.2 ∧ (∃ q, q ≤ 120 ∧ M'.1 32 2 = nI q) ∧ (r.1 = true → CD M M' k r.2.1 ∧ t.1 + r.2.1.length ≤ r.2.2.1)
def CRd (b : Nat → Int32) (L N : Nat) (g : g_M → Option (Int32 × g_M)) (f : s_T → s_R) : Prop := ∀ (M : g_M) (t : s_T) (k : Nat), TB b L N M → CT b L N M t → OT L t → k ≤ t.1 → M.1 32 2 = nI k → ∃ M' : g_M, g M = some (bi (f t).1, M') ∧ CRr b L N M M' k t (f t)
theorem fin_fail {M4 : g_M} {k : Nat} {t4 : s_T} (fa : FA M M4) (e2 : M.1 32 2 = nI k) (hk : k ≤ 120) (ct : CT b L N M4 t4) (ot : OT L t4) : CRr b L N M M4 k t (false, [], t4) := ⟨fa.e, ct, ot, ⟨k, hk, fa.len.trans e2⟩, fun q => Bool.noConfusion q⟩
theorem fin_emit {M4 : g_M} {k : Nat} {t4 : s_T} (hL : L ≤ 120) (fa : FA M M4) (e2 : M.1 32 2 = nI k) (hk : k ≤ t.1) (hlt : t.1 < t4.1) (ct : CT b L N M4 t4) (ot : OT L t4) (a n p : Int32) : ∃ M5 : g_M, f_X9_emit a n p M4 = some (1, M5) ∧ CRr b L N M M5 k t (true, [s_stp a n p], t4) := by
  have o1 := ot.1
  have o2 := ot.2.1
  refine ⟨_, em_ok (k := k) (by omega) (fa.len.trans e2) a n p, ?_, ?_, ot, ⟨k + 1, by omega, rfl⟩, fun _ => ⟨?_, hlt⟩⟩
  · exact (fa.e.uS (by decide)).uT (by decide)
  · exact ct.em ((g_fr.rfl.uS (by decide)).uT (by decide))
  · have := ((CD.nil e2).post fa).emit (s_stp a n p)
    exact this
end READC
