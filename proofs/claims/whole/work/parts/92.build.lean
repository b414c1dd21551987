section BUILD
variable {t n l m h c1 c2 c3 : Nat} {M : g_M} {d : Nat → Int32}
theorem vu {c i : Nat} {v : Int32} (hc : c ≠ 60) : g_u (g_uR M 60 d) c i v = g_uR (g_u M c i v) 60 d := by
  refine Prod.ext ?_ rfl
  funext k
  show (if k = c then upd ((g_uR M 60 d).1 c) i v else (if k = 60 then d else M.1 k)) = (if k = 60 then d else (if k = c then upd (M.1 c) i v else M.1 k))
  by_cases z : k = c
  · subst z
    rw [if_pos rfl, if_neg hc, if_pos rfl, show (g_uR M 60 d).1 k = M.1 k from if_neg hc]
  · rw [if_neg z, if_neg z]
theorem vu60 {i : Nat} {v : Int32} : g_u (g_uR M 60 d) 60 i v = g_uR M 60 (upd d i v) := by
  refine Prod.ext ?_ rfl
  funext k
  show (if k = 60 then upd ((g_uR M 60 d).1 60) i v else (if k = 60 then d else M.1 k)) = (if k = 60 then upd d i v else M.1 k)
  by_cases z : k = 60
  · rw [if_pos z, if_pos z, show (g_uR M 60 d).1 60 = d from show (if (60 : Nat) = 60 then d else M.1 60) = d from if_pos rfl]
  · rw [if_neg z, if_neg z, if_neg z]
theorem vr_id : g_uR M 60 (M.1 60) = M := by
  refine Prod.ext ?_ rfl
  funext k
  show (if k = 60 then M.1 60 else M.1 k) = M.1 k
  split
  · rename_i z
    rw [z]
  · rfl
theorem vr_ne {k : Nat} (hk : k ≠ 60) : (g_uR M 60 d).1 k = M.1 k := if_neg hk
theorem vr_60 : (g_uR M 60 d).1 60 = d := show (if (60 : Nat) = 60 then d else M.1 60) = d from if_pos rfl
/-- rings become others, in one change -/
theorem rings_core {T : Nat} (H : Rel0 T n l m h c1 c2 c3 M) (hc : c1 + 1 ≤ 1000 * T) (hb : c1 + c2 + c3 + 1 < 2 ^ 31) {N : g_M} (fr : g_fr [5, 60] [(3, 3)] M N) (hd : ∀ k, k < 30 ∨ 40 ≤ k → N.1 60 k = M.1 60 k) (hr : ∀ e, e < n → N.1 5 e = N.1 60 (30 + e) ∧ ∃ q, q < 2 ^ 24 ∧ N.1 60 (30 + e) = nI q) (hz : ∀ e, n ≤ e → e < 10 → N.1 5 e = 0) (h33 : N.1 3 3 = M.1 3 3 + 1) : Rel0 T n l m h (c1 + 1) c2 c3 N := by
  obtain ⟨h1, h2, h3, h4, h5, h6, h7, h8, h9, h10, h11⟩ := id H
  obtain ⟨b1, b2, b3, b4, e0, e4, e1, e3, eu, wA, wL, wH, wT⟩ := id h1
  have aL : agL (M.1 60) (N.1 60) l := fun j _ => ⟨hd _ (by omega), hd _ (by omega)⟩
  have aH : agH (M.1 60) (N.1 60) h := fun j _ z _ => hd _ (by omega)
  have aT : agT (M.1 60) (N.1 60) m := fun j _ => ⟨hd _ (by omega), fun z _ => hd _ (by omega)⟩
  have e3' : ∀ j, j ≠ 3 → N.1 3 j = M.1 3 j := fun j hj => fr.at (by decide) (by simp; omega)
  exact ⟨⟨b1, b2, b3, b4, (hd 0 (by omega)).trans e0, (hd 4 (by omega)).trans e4, (hd 1 (by omega)).trans e1, (hd 3 (by omega)).trans e3, by rw [hd 2 (by omega)]; exact eu, fun e he => by
      rw [hd (10 + e) (by omega), hd (20 + e) (by omega)]
      exact ⟨(wA e he).1, (wA e he).2.1, (hr e he).2⟩, fun k hk => by
      rw [(aL k hk).1, (aL k hk).2]
      exact wL k hk, fun i hi => (wH i hi).agree aH hi, fun k hk => (wT k hk).agree aT hk⟩, (show X_E (N.1 60) n l (N.1 3 0) (N.1 3 1) (N.1 3 2) (N.1 4) (N.1 5) (N.1 6) (N.1 7) by
      rw [e3' 0 (by omega), e3' 1 (by omega), e3' 2 (by omega), (fr.row (k := 4) (by decide) (by decide)).1, (fr.row (k := 6) (by decide) (by decide)).1, (fr.row (k := 7) (by decide) (by decide)).1]
      refine ⟨h2.1, h2.2.1, fun e he => ?_, h2.2.2.2.1, fun e he => ?_, fun e he h10e => ?_⟩
      · rw [hd (20 + e) (by omega)]
        exact h2.2.2.1 e he
      · rw [s_lt_cong e aL, s_lk_cong e aL, hd (10 + e) (by omega)]
        have := h2.2.2.2.2.1 e he
        exact ⟨this.1, (hr e he).1, this.2.2⟩
      · have := h2.2.2.2.2.2 e he h10e
        exact ⟨hz e he h10e, this.2⟩), (show X_H (N.1 60) h (N.1 24 0) (N.1 25) (N.1 26) (N.1 27) (N.1 28) (N.1 29) (N.1 30) (N.1 31) by
      rw [(fr.row (k := 24) (by decide) (by decide)).1, (fr.row (k := 25) (by decide) (by decide)).1, (fr.row (k := 26) (by decide) (by decide)).1, (fr.row (k := 27) (by decide) (by decide)).1, (fr.row (k := 28) (by decide) (by decide)).1, (fr.row (k := 29) (by decide) (by decide)).1, (fr.row (k := 30) (by decide) (by decide)).1, (fr.row (k := 31) (by decide) (by decide)).1]
      exact h3.agree aH), keep4d fr (by decide) b3 h4 aT (by
      rw [(fr.row (k := 13) (by decide) (by decide)).1, hd 2 (by omega)]
      exact h4.2.1), (show X_K (N.1 60) (N.1 61) m h (N.1 59 2) (N.1 0 4) (N.1 0 6) (N.1 0 7) (N.1 0 8) (N.1 8 0) (N.1 8 1) (N.1 8 2) (N.1 9) (N.1 10) (N.1 11) (N.1 12) by
      rw [(fr.row (k := 61) (by decide) (by decide)).1, (fr.row (k := 59) (by decide) (by decide)).1, (fr.row (k := 0) (by decide) (by decide)).1, (fr.row (k := 8) (by decide) (by decide)).1, (fr.row (k := 9) (by decide) (by decide)).1, (fr.row (k := 10) (by decide) (by decide)).1, (fr.row (k := 11) (by decide) (by decide)).1, (fr.row (k := 12) (by decide) (by decide)).1]
      exact h5.agree aT aH (Nat.le_refl _) (Nat.le_refl _)), keep6 fr (by decide) h6, (keep7 fr (by decide) h7).mono (by omega), keep8 fr (by decide) h8, (show X_C T (N.1 3 3) (N.1 13 2) (N.1 24 1) (c1 + 1) c2 c3 by
      rw [(fr.row (k := 13) (by decide) (by decide)).1, (fr.row (k := 24) (by decide) (by decide)).1, h33]
      obtain ⟨x1, x2, x3, y1, y2, y3⟩ := h9
      exact ⟨by rw [x1, nI_1], x2, x3, hc, y2, y3⟩), (show X_O (N.1 60) n h (c1 + 1 + c3) (N.1 36 2) (N.1 37) (N.2 38) by
      rw [(fr.row (k := 36) (by decide) (by decide)).1, (fr.row (k := 37) (by decide) (by decide)).1, (fr.row (k := 38) (by decide) (by decide)).2]
      exact h10.bump (by omega) (by omega)), (show X_A (N.1 60) n (c1 + 1 + c2) (N.1 39 1) (N.1 39 2) (N.1 40) by
      rw [(fr.row (k := 39) (by decide) (by decide)).1, (fr.row (k := 40) (by decide) (by decide)).1]
      exact h11.bump (by omega) (by omega))⟩
/-- the class's cells against a row of its own -/
abbrev VR (T n l m h c1 c2 c3 : Nat) (M : g_M) (d : Nat → Int32) : Prop := Rel0 T n l m h c1 c2 c3 (g_uR M 60 d)
theorem VR.key {T : Nat} (H : VR T n l m h c1 c2 c3 M d) (hc : c1 + 1 ≤ 1000 * T) (hb : c1 + c2 + c3 + 1 < 2 ^ 31) {e : Nat} (he : e < n) {v : Int32} (hv : ∃ q, q < 2 ^ 24 ∧ v = nI q) : VR T n l m h (c1 + 1) c2 c3 (mK1 e v M) (upd d (30 + e) v) := by
  have h2 := H.2.1
  have b1 := H.1.1
  have h5 : ∀ z, z < n → M.1 5 z = d (30 + z) := fun z hz => by
    have := (h2.2.2.2.2.1 z hz).2.1
    rw [vr_ne (by decide), vr_60] at this
    exact this
  have hz : ∀ z, n ≤ z → z < 10 → M.1 5 z = 0 := fun z h1 h3 => by
    have := (h2.2.2.2.2.2 z h1 h3).1
    rw [vr_ne (by decide)] at this
    exact this
  have w30 : ∀ z, z < n → ∃ q, q < 2 ^ 24 ∧ d (30 + z) = nI q := fun z hz => by
    have := (H.1.2.2.2.2.2.2.2.2.2.1 z hz).2.2
    rw [vr_60] at this
    exact this
  refine rings_core H hc hb (N := g_uR (mK1 e v M) 60 (upd d (30 + e) v)) ?_ (fun k hk => ?_) (fun z hz2 => ?_) (fun z h1 h3 => ?_) ?_
  · have : g_uR (mK1 e v M) 60 (upd d (30 + e) v) = g_u (g_u (g_u (g_uR M 60 d) 5 e v) 3 3 ((g_uR M 60 d).1 3 3 + 1)) 60 (30 + e) v := by
      rw [vu (by decide), vu (by decide), vu60]
      rfl
    rw [this]
    exact ((g_fr.rfl.uS (by decide)).uT (by decide)).uS (by decide)
  · rw [vr_60, vr_60, upd_ne (by omega)]
  · rw [vr_60, vr_ne (by decide)]
    show upd (M.1 5) e v z = _ ∧ _
    by_cases y : z = e
    · subst y
      rw [upd_eq, upd_eq]
      exact ⟨rfl, hv⟩
    · rw [upd_ne y, upd_ne (by omega)]
      exact ⟨h5 z hz2, w30 z hz2⟩
  · rw [vr_ne (by decide)]
    show upd (M.1 5) e v z = 0
    rw [upd_ne (by omega)]
    exact hz z h1 h3
  · rw [vr_ne (by decide), vr_ne (by decide)]
    rfl
theorem mH_vr {K key op f s co lo a1 a2 a3 : Int32} : mH2 h K a1 a2 a3 (mH1 h K key op f s co lo (g_uR M 60 d)) = g_uR (mH1 h K key op f s co lo M) 60 (dH d h K a1 a2 a3) := by
  unfold mH1 mH2 dH
  rw [vu (by decide), vu (by decide), vu (by decide), vu (by decide), vu (by decide), vu (by decide), vu (by decide), vu (by decide), vu (by decide), vu60, vu60, vu60, vu60, vu60]
  rfl
theorem VR.lock {T : Nat} (H : VR T n l m h c1 c2 c3 M d) (hh : h < 40) (hc : c3 + 1 ≤ 1000 * T) (hb : c1 + c3 + 1 < 2 ^ 31) {q : Nat} (hq : q < 24) : ∃ A : g_M, f_X4_addLock (nI q) 0 M = some (nI h, A) ∧ g_fr [25, 26, 27, 28, 29, 30, 31] [(24, 0), (24, 1)] M A ∧ VR T n l m (h + 1) c1 c2 (c3 + 1) A (dH d h 1 (-1) (-1) (nI q)) := by
  have e24 : M.1 24 0 = nI h := by
    have := H.2.2.1.1
    rw [vr_ne (by decide)] at this
    exact this
  obtain ⟨A, a1, a2, a3⟩ := lock_core (Nat.le_refl _) H hh hc hb hq (K := 1) (co := 3) (Or.inl ⟨rfl, rfl⟩)
  have ev := add_eq (M := g_uR M 60 d) hh (by rw [vr_ne (by decide)]; exact e24) (K := 1) (key := nI q) (f := 0) (s := 0) (co := 3) (lo := 1) (opr_1 hq)
  rw [ev] at a1
  have eA := (Prod.mk.inj (Option.some.inj a1)).2
  rw [← eA, mH_vr] at a3
  refine ⟨_, ?_, ?_, a3⟩
  · unfold f_X4_addLock f_X4_addLock_10 f_X4_addLock_22
    rw [if_pos rfl, if_pos rfl, add_eq hh e24 (opr_1 hq), Option.bind_some]
  · exact ((((((((g_fr.rfl.uS (by decide)).uS (by decide)).uS (by decide)).uS (by decide)).uS (by decide)).uS (by decide)).uS (by decide)).uT (by decide)).uT (by decide)
theorem VR.row {T : Nat} (H : VR T n l m h c1 c2 c3 M d) (hh : h < 40) (hc : c3 + 1 ≤ 1000 * T) (hb : c1 + c3 + 1 < 2 ^ 31) {i j : Nat} (hi : i < h) (hj : j < h) : ∃ A : g_M, f_X4_addChain (nI i) (nI j) 1 M = some (nI h, A) ∧ g_fr [25, 26, 27, 28, 29, 30, 31] [(24, 0), (24, 1)] M A ∧ VR T n l m (h + 1) c1 c2 (c3 + 1) A (dH d h 3 (nI i) (nI j) (-1)) := by
  have e24 : M.1 24 0 = nI h := by
    have := H.2.2.1.1
    rw [vr_ne (by decide)] at this
    exact this
  obtain ⟨A, a1, a2, a3⟩ := chain_core (Nat.le_refl _) H hh hc hb hi hj (K := 3) (w := 2) (Or.inr ⟨rfl, rfl⟩)
  have ev := add_eq (M := g_uR M 60 d) hh (by rw [vr_ne (by decide)]; exact e24) (K := 3) (key := 0) (f := nI i) (s := nI j) (co := 2 + M.1 30 i + M.1 30 j) (lo := M.1 31 i + M.1 31 j) (opr_else (by decide) (by decide))
  rw [vr_ne (by decide), vr_ne (by decide), ev] at a1
  have eA := (Prod.mk.inj (Option.some.inj a1)).2
  rw [← eA, mH_vr] at a3
  refine ⟨_, ?_, ?_, a3⟩
  · unfold f_X4_addChain f_X4_addChain_9 f_X4_addChain_35
    rw [if_neg (by decide), e_ld (by omega) (by omega), Option.bind_some, e_ld (by omega) (by omega), Option.bind_some, if_neg (by decide), e_ld (by omega) (by omega), Option.bind_some, e_ld (by omega) (by omega), Option.bind_some, add_eq hh e24 (opr_else (by decide) (by decide)), Option.bind_some]
  · exact ((((((((g_fr.rfl.uS (by decide)).uS (by decide)).uS (by decide)).uS (by decide)).uS (by decide)).uS (by decide)).uS (by decide)).uT (by decide)).uT (by decide)
end BUILD
