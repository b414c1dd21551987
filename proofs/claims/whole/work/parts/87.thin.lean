section THIN
variable {t n l m h c1 c2 c3 : Nat} {M : g_M} {d : Nat → Int32}
/-- does a key go off a ring? -/
def tg (n h i e : Nat) (d : Nat → Int32) (k : Nat) : Bool := bt (d (30 + e)) k && spB d n h i e (offK (d (30 + e)) k)
def tk (n h i e : Nat) (d : Nat → Int32) (k : Nat) : Nat → Int32 := if tg n h i e d k = true then upd d (30 + e) (offK (d (30 + e)) k) else d
def tR (n h i e : Nat) (d : Nat → Int32) : Nat → (Nat → Int32) × Nat
  | 0 => (d, 0)
  | k + 1 => (tk n h i e (tR n h i e d k).1 k, (tR n h i e d k).2 + bN (tg n h i e (tR n h i e d k).1 k))
def tE (n h i : Nat) (d : Nat → Int32) : Nat → (Nat → Int32) × Nat
  | 0 => (d, 0)
  | e + 1 => ((tR n h i e (tE n h i d e).1 24).1, (tE n h i d e).2 + (tR n h i e (tE n h i d e).1 24).2)
/-- a row with thinner rings, that opens a hanging alike -/
def Sm (n h i : Nat) (d d' : Nat → Int32) : Prop := (∀ j, (∀ e, e < n → j ≠ 30 + e) → d' j = d j) ∧ (∀ e, e < n → ∃ q, q < 2 ^ 24 ∧ d' (30 + e) = nI q) ∧ ∀ q, sb q (s_all d n) = true → pO d n h i q = pO d' n h i q
theorem Sm.all {i : Nat} {d' : Nat → Int32} (hn : n ≤ 10) (s : Sm n h i d d') : s_all d' n = s_all d n := s_all_cong (fun e he => s.1 _ (fun z hz => by omega))
theorem Sm.agH {i : Nat} {d' : Nat → Int32} (hn : n ≤ 10) (s : Sm n h i d d') : agH d d' h := fun a _ j _ => s.1 _ (fun z hz => by omega)
theorem Sm.W {i : Nat} {d' : Nat → Int32} (W : W_D d n l m h) (s : Sm n h i d d') : W_D d' n l m h := by
  obtain ⟨b1, b2, b3, b4, e0, e4, e1, e3, eu, wA, wL, wH, wT⟩ := W
  have k : ∀ j, j < 30 ∨ 40 ≤ j → d' j = d j := fun j hj => s.1 j (fun z hz => by omega)
  refine ⟨b1, b2, b3, b4, (k 0 (by omega)).trans e0, (k 4 (by omega)).trans e4, (k 1 (by omega)).trans e1, (k 3 (by omega)).trans e3, by rw [k 2 (by omega)]; exact eu, fun e he => ?_, fun j hj => ?_, fun j hj => (wH j hj).agree (fun a _ b _ => k _ (by omega)) hj, fun j hj => (wT j hj).agree (m := m) (fun a _ => ⟨k _ (by omega), fun b _ => k _ (by omega)⟩) hj⟩
  · rw [k (10 + e) (by omega), k (20 + e) (by omega)]
    exact ⟨(wA e he).1, (wA e he).2.1, s.2.1 e he⟩
  · rw [k _ (by omega), k _ (by omega)]
    exact wL j hj
theorem Sm.stk {i e k : Nat} {d' : Nat → Int32} (hn : n ≤ 10) (he : e < n) (s : Sm n h i d d') : Sm n h i d (tk n h i e d' k) := by
  unfold tk
  cases c : tg n h i e d' k
  · rw [if_neg (by decide)]
    exact s
  · rw [if_pos rfl]
    unfold tg at c
    rw [Bool.and_eq_true, spB_1 hn] at c
    refine ⟨fun j hj => ?_, fun z hz => ?_, fun q hq => ?_⟩
    · rw [upd_ne (hj e he)]
      exact s.1 j hj
    · by_cases y : z = e
      · subst y
        rw [upd_eq]
        exact offK_lt (s.2.1 z hz)
      · rw [upd_ne (by omega)]
        exact s.2.1 z hz
    · rw [s.2.2 q hq]
      exact c.2 q (by rw [s.all hn]; exact hq)
theorem Sm.stR {i e : Nat} {d' : Nat → Int32} (hn : n ≤ 10) (he : e < n) (s : Sm n h i d d') : ∀ k, Sm n h i d (tR n h i e d' k).1
  | 0 => s
  | k + 1 => (s.stR hn he k).stk hn he
theorem tR_upd {i e : Nat} {d : Nat → Int32} : ∀ k, (tR n h i e d k).1 = upd d (30 + e) ((tR n h i e d k).1 (30 + e))
  | 0 => by
    funext j
    show d j = upd d (30 + e) (d (30 + e)) j
    by_cases c : j = 30 + e
    · subst c
      rw [upd_eq]
    · rw [upd_ne c]
  | k + 1 => by
    have ih := tR_upd (i := i) (e := e) (d := d) k
    funext j
    by_cases c : j = 30 + e
    · subst c
      rw [upd_eq]
    · rw [upd_ne c]
      show tk n h i e (tR n h i e d k).1 k j = _
      unfold tk
      split
      · rw [upd_ne c, ih, upd_ne c]
      · rw [ih, upd_ne c]
theorem tR_le {i e : Nat} {d : Nat → Int32} : ∀ k, (tR n h i e d k).2 ≤ k
  | 0 => Nat.le_refl _
  | k + 1 => by
    have := tR_le (i := i) (e := e) (d := d) k
    have := bN_le (tg n h i e (tR n h i e d k).1 k)
    show (tR n h i e d k).2 + _ ≤ _
    omega
theorem tR_0 {i e : Nat} {d : Nat → Int32} : ∀ k, (tR n h i e d k).2 = 0 → (tR n h i e d k).1 = d
  | 0, _ => rfl
  | k + 1, q => by
    have q' : (tR n h i e d k).2 + bN (tg n h i e (tR n h i e d k).1 k) = 0 := q
    have ih := tR_0 (i := i) (e := e) (d := d) k (by omega)
    show tk n h i e (tR n h i e d k).1 k = d
    unfold tk
    cases c : tg n h i e (tR n h i e d k).1 k
    · rw [if_neg (by decide), ih]
    · rw [c] at q'
      exact absurd q' (by show ¬ (tR n h i e d k).2 + 1 = 0; omega)
theorem Sm.rfl {i : Nat} (W : W_D d n l m h) : Sm n h i d d := ⟨fun _ _ => Eq.refl _, fun e he => (W.2.2.2.2.2.2.2.2.2.1 e he).2.2, fun _ _ => Eq.refl _⟩
theorem Sm.stE {i : Nat} (W : W_D d n l m h) : ∀ e, e ≤ n → Sm n h i d (tE n h i d e).1
  | 0, _ => Sm.rfl W
  | e + 1, he => (Sm.stE W e (by omega)).stR W.1 (by omega) 24
theorem tE_le {i : Nat} : ∀ e, (tE n h i d e).2 ≤ 24 * e
  | 0 => Nat.le_refl _
  | e + 1 => by
    have := tE_le (i := i) e
    have := tR_le (n := n) (h := h) (i := i) (e := e) (d := (tE n h i d e).1) 24
    show (tE n h i d e).2 + _ ≤ _
    omega
theorem tE_0 {i : Nat} : ∀ e, (tE n h i d e).2 = 0 → (tE n h i d e).1 = d
  | 0, _ => rfl
  | e + 1, q => by
    have q' : (tE n h i d e).2 + (tR n h i e (tE n h i d e).1 24).2 = 0 := q
    show (tR n h i e (tE n h i d e).1 24).1 = d
    rw [tR_0 24 (by omega), tE_0 e (by omega)]
/-- the class's cells against a row: a changes of elders, b of hangings -/
def TC (n h : Nat) (M : g_M) (d : Nat → Int32) (a b : Nat) : Prop := XH M d h ∧ (∀ e, e < n → M.1 5 e = d (30 + e)) ∧ M.1 3 0 = nI n ∧ f_X0_present M = some (nI (s_all d n)) ∧ M.1 3 3 = nI a ∧ M.1 24 1 = nI b ∧ (M.1 36 2 = -1 ∨ ∃ z, z ≤ a + b ∧ M.1 36 2 = nI z) ∧ (M.1 36 2 = nI (a + b) → ∀ q, sb q (s_all d n) = true → VO M d n h q) ∧ M.1 37 0 = 0 ∧ M.2 38 0 = 0
theorem xh_fr {S : List Nat} {T : List (Nat × Nat)} {M M' : g_M} (x : XH M d h) (fr : g_fr S T M M') (hk : g_ok S T [25, 26, 27, 28, 29, 30, 31] [(24, 0)] = true) : XH M' d h := by
  unfold XH
  rw [g_ok.at hk fr (k := 24) (i := 0) (by decide), (g_ok.row hk fr (k := 25) (by decide)).1, (g_ok.row hk fr (k := 26) (by decide)).1, (g_ok.row hk fr (k := 27) (by decide)).1, (g_ok.row hk fr (k := 28) (by decide)).1, (g_ok.row hk fr (k := 29) (by decide)).1, (g_ok.row hk fr (k := 30) (by decide)).1, (g_ok.row hk fr (k := 31) (by decide)).1]
  exact x
theorem pres_fr {M M' : g_M} (e0 : M'.1 3 0 = M.1 3 0) (e1 : M'.1 3 1 = M.1 3 1) : f_X0_present M' = f_X0_present M := by
  unfold f_X0_present
  rw [e0, e1]
theorem TC.fresh {a b : Nat} (tc : TC n h M d a b) (w : ∀ i, i < h → W_H d i) (hh : h ≤ 40) (hn : n ≤ 10) (hc : a + b < 2 ^ 31) : ∃ M' : g_M, f_X5_refresh_36_3_24 M = some M' ∧ g_fr [37, 38] [(36, 2)] M M' ∧ TC n h M' d a b ∧ ∀ q, sb q (s_all d n) = true → VO M' d n h q := by
  obtain ⟨x, r5, n0, pr, ca, cb, st, fresh, z1, z2⟩ := id tc
  have hA := all_1024 d hn
  unfold f_X5_refresh_36_3_24
  rw [ca, cb, nI_add]
  by_cases c : M.1 36 2 = nI (a + b)
  · exact ⟨M, if_pos c, g_fr.rfl, tc, fresh c⟩
  · have fr0 : g_fr [37, 38] [(36, 2)] M (g_u M 36 2 (nI (a + b))) := g_fr.rfl.uT (by decide)
    obtain ⟨M', m1, m2, m3, m4, m5⟩ := rf_go (n := n) (M0 := M) x w hh hn r5 (s_all d n) 20000000 1 (g_u M 36 2 (nI (a + b))) (by omega) (by omega) (by omega) fr0 (fun q hq _ => by
      have : q = 0 := by omega
      subst this
      refine ⟨?_, fun i hi => ?_⟩
      · show M.1 37 0 = _
        rw [z1, show nI 0 = 0 from rfl, s_keys_z, s_end_z]
      · show bl (M.2 38 0) i = _
        rw [z2, bl_0, show nI 0 = 0 from rfl, s_keys_z]
        unfold s_opens
        rw [s_end_z]
        exact (s_opn_z h i).symm)
    have fr : g_fr [37, 38] [(36, 2)] M M' := fr0.trans (m2.mono (by decide) (by simp))
    have e36 : M'.1 36 2 = nI (a + b) := (m2.at (by decide) (by simp)).trans rfl
    have e3 : M'.1 3 = M.1 3 := (fr.row (by decide) (by decide)).1
    refine ⟨M', ?_, fr, ⟨xh_fr x fr (by decide), fun e he => by rw [(fr.row (k := 5) (by decide) (by decide)).1]; exact r5 e he, by rw [e3]; exact n0, (pres_fr (by rw [e3]) (by rw [e3])).trans pr, by rw [e3]; exact ca, by rw [(fr.row (k := 24) (by decide) (by decide)).1]; exact cb, Or.inr ⟨a + b, Nat.le_refl _, e36⟩, fun _ => m3, m4.trans z1, m5.trans z2⟩, m3⟩
    rw [if_neg c, Option.bind_some, show f_X0_present (g_u M 36 2 (nI (a + b))) = some (nI (s_all d n)) from pr, Option.bind_some]
    exact m1
/-- a key goes off a ring, in the class -/
theorem TC.off {a b e : Nat} {v : Int32} (tc : TC n h M d a b) (hh : h ≤ 40) (hn : n ≤ 10) (he : e < n) (hc : a + b + 1 < 2 ^ 31) : TC n h (mK1 e v M) (upd d (30 + e) v) (a + 1) b := by
  obtain ⟨x, r5, n0, pr, ca, cb, st, fresh, z1, z2⟩ := tc
  have fr : g_fr [5] [(3, 3)] M (mK1 e v M) := (g_fr.rfl.uS (by decide)).uT (by decide)
  have sa : s_all (upd d (30 + e) v) n = s_all d n := s_all_cong (fun z hz => upd_ne (by omega))
  have ss := st_stale (cc := a + b) (cc' := a + 1 + b) st (by omega) (by omega)
  refine ⟨X_H.agree (xh_fr x fr (by decide)) (agH_u hh (by omega)), fun z hz => ?_, n0, by rw [sa]; exact (pres_fr (by rfl) (by rfl)).trans pr, ?_, cb, ss.1, fun q => absurd q ss.2, z1, z2⟩
  · show upd (M.1 5) e v z = _
    by_cases y : z = e
    · subst y
      rw [upd_eq, upd_eq]
    · rw [upd_ne y, upd_ne (by omega)]
      exact r5 z hz
  · show M.1 3 3 + 1 = _
    rw [ca, nI_1]
theorem hk_c {M : g_M} {e k : Nat} {r : Int32} (he : e < 10) (hk : k < 24) (r5 : M.1 5 e = r) : f_X0_hasKey (nI e) (nI k) M = some (bi (bt r k)) := by
  unfold f_X0_hasKey
  rw [e_ld (by omega) (by omega), Option.bind_some, r5, b_bit _ (by omega)]
  cases bt r k
  · rw [if_pos (show (if false = true then (1 : Int32) else 0) = 0 by decide)]
    rfl
  · rw [if_neg (show ¬ (if true = true then (1 : Int32) else 0) = 0 by decide)]
    rfl
theorem tr_go {d1 : Nat → Int32} {M1 : g_M} (W : W_D d1 n l m h) {e i a b : Nat} (he : e < n) (hi : i < h) (hV : ∀ q, sb q (s_all d1 n) = true → VO M1 d1 n h q) (K : Int32 → g_M → Option (Int32 × g_M)) (hc : a + b + 24 < 2 ^ 31) : ∀ (j f k : Nat) (M : g_M), k + j = 24 → j < f → g_fr [5] [(3, 3)] M1 M → TC n h M (tR n h i e d1 k).1 (a + (tR n h i e d1 k).2) b → ∃ M' : g_M, g_lp4 (F_X11_thinRing_5 K) f (nI i) (nI e) (nI (tR n h i e d1 k).2) (nI k) M = K (nI (tR n h i e d1 24).2) M' ∧ g_fr [5] [(3, 3)] M M' ∧ TC n h M' (tR n h i e d1 24).1 (a + (tR n h i e d1 24).2) b ∧ ∀ z, n ≤ z → M'.1 5 z = M.1 5 z
  | 0, f, k, M, hk, hf, fr, tc => by
    obtain ⟨f, rfl⟩ : ∃ f', f = f' + 1 := ⟨f - 1, by omega⟩
    have : k = 24 := by omega
    subst this
    refine ⟨M, ?_, g_fr.rfl, tc, fun _ _ => rfl⟩
    rw [lp4_s, F_X11_thinRing_5, if_pos (by decide)]
  | j + 1, f, k, M, hk, hf, fr, tc => by
    obtain ⟨f, rfl⟩ : ∃ f', f = f' + 1 := ⟨f - 1, by omega⟩
    have b1 := W.1
    have b4 := W.2.2.2.1
    have sm := (Sm.rfl (i := i) W).stR b1 he k
    have W' := sm.W W
    have hr := tR_le (n := n) (h := h) (i := i) (e := e) (d := d1) k
    have ud := tR_upd (n := n) (h := h) (i := i) (e := e) (d := d1) k
    have r37 : M.1 37 = M1.1 37 := (fr.row (by decide) (by decide)).1
    have r38 : M.2 38 = M1.2 38 := (fr.row (by decide) (by decide)).2
    have ic := is_eq (M := M) (d := (tR n h i e d1 k).1) tc.1 W'.2.2.2.2.2.2.2.2.2.2.2.1 b4 b1 he hi (k := k) tc.2.2.2.1 (tc.2.1 e he) (fun q hq hA2 => by
      rw [sm.all b1] at hA2
      have v := hV q hA2
      rw [← sm.2.2 q hA2]
      exact isOpen_eq hq (by omega) ⟨by rw [r37]; exact v.1, fun z hz => by rw [r38]; exact v.2 z hz⟩) (fun q hq hA2 hb => by
      rw [sm.all b1] at hA2
      rw [r37, (hV q hA2).1, s_end_cong (sm.agH b1), ud, keys_out hq hb n b1])
    have st2 : (tR n h i e d1 (k + 1)).2 = (tR n h i e d1 k).2 + bN (tg n h i e (tR n h i e d1 k).1 k) := rfl
    have st1 : (tR n h i e d1 (k + 1)).1 = tk n h i e (tR n h i e d1 k).1 k := rfl
    have no : tg n h i e (tR n h i e d1 k).1 k = false → ∃ M' : g_M, g_lp4 (F_X11_thinRing_5 K) f (nI i) (nI e) (nI (tR n h i e d1 k).2) (nI k + 1) M = K (nI (tR n h i e d1 24).2) M' ∧ g_fr [5] [(3, 3)] M M' ∧ TC n h M' (tR n h i e d1 24).1 (a + (tR n h i e d1 24).2) b ∧ ∀ z, n ≤ z → M'.1 5 z = M.1 5 z := fun c => by
      have e1 : (tR n h i e d1 (k + 1)).1 = (tR n h i e d1 k).1 := by
        rw [st1]
        unfold tk
        rw [c, if_neg (by decide)]
      have e2 : (tR n h i e d1 (k + 1)).2 = (tR n h i e d1 k).2 := by
        rw [st2, c]
        rfl
      obtain ⟨M', m1, m2, m3, m4⟩ := tr_go W he hi hV K hc j f (k + 1) M (by omega) (by omega) fr (by rw [e1, e2]; exact tc)
      rw [e2] at m1
      exact ⟨M', by rw [nI_1]; exact m1, m2, m3, m4⟩
    rw [lp4_s, F_X11_thinRing_5, if_neg (show ¬ (24 : Int32) ≤ nI k from nI_ge (b := 24) (by omega) (by omega)), hk_c (by omega) (by omega) (tc.2.1 e he), Option.bind_some]
    cases hb : bt ((tR n h i e d1 k).1 (30 + e)) k
    · rw [if_pos ((bi_0 false).mpr rfl)]
      exact no (by unfold tg; rw [hb, Bool.false_and])
    · rw [if_neg (fun q => absurd ((bi_0 true).mp q) (by decide)), ic, Option.bind_some]
      cases hs : spB (tR n h i e d1 k).1 n h i e (offK ((tR n h i e d1 k).1 (30 + e)) k)
      · rw [if_pos ((bi_0 false).mpr rfl)]
        exact no (by unfold tg; rw [hs, Bool.and_false])
      · have c : tg n h i e (tR n h i e d1 k).1 k = true := by
          unfold tg
          rw [hb, hs]
          rfl
        have e1 : (tR n h i e d1 (k + 1)).1 = upd (tR n h i e d1 k).1 (30 + e) (offK ((tR n h i e d1 k).1 (30 + e)) k) := by
          rw [st1]
          unfold tk
          rw [c, if_pos rfl]
        have e2 : (tR n h i e d1 (k + 1)).2 = (tR n h i e d1 k).2 + 1 := by
          rw [st2, c]
          rfl
        rw [if_neg (fun q => absurd ((bi_0 true).mp q) (by decide))]
        have sk : f_X0_setKey (nI e) (nI k) 0 M = some (if offK ((tR n h i e d1 k).1 (30 + e)) k = (tR n h i e d1 k).1 (30 + e) then 0 else 1, mK1 e (offK ((tR n h i e d1 k).1 (30 + e)) k) M) := by
          unfold f_X0_setKey
          rw [e_ld (by omega) (by omega), Option.bind_some, if_pos rfl, tc.2.1 e he]
          exact key_c (by omega)
        rw [sk, Option.bind_some]
        have tc2 := tc.off (v := offK ((tR n h i e d1 k).1 (30 + e)) k) b4 b1 he (by omega)
        have fr2 : g_fr [5] [(3, 3)] M (mK1 e (offK ((tR n h i e d1 k).1 (30 + e)) k) M) := (g_fr.rfl.uS (by decide)).uT (by decide)
        obtain ⟨M', m1, m2, m3, m4⟩ := tr_go W he hi hV K hc j f (k + 1) (mK1 e (offK ((tR n h i e d1 k).1 (30 + e)) k) M) (by omega) (by omega) (fr.trans fr2) (by rw [e1, e2, ← Nat.add_assoc]; exact tc2)
        rw [e2] at m1
        refine ⟨M', by rw [nI_1, nI_1]; exact m1, fr2.trans m2, m3, fun z hz => ?_⟩
        rw [m4 z hz]
        exact upd_ne (by omega)
theorem to_go (W : W_D d n l m h) {i a b : Nat} (hi : i < h) (hc : a + b + 240 < 2 ^ 31) : ∀ (j f e : Nat) (M : g_M), e + j = n → j < f → TC n h M (tE n h i d e).1 (a + (tE n h i d e).2) b → ∃ M' : g_M, g_lp3 (F_X11_thin_25 (fun (x2 : Int32) (M : g_M) => some (x2, M))) f (nI i) (nI (tE n h i d e).2) (nI e) M = some (nI (tE n h i d n).2, M') ∧ g_fr [5, 37, 38] [(3, 3), (36, 2)] M M' ∧ TC n h M' (tE n h i d n).1 (a + (tE n h i d n).2) b ∧ ∀ z, n ≤ z → M'.1 5 z = M.1 5 z
  | 0, f, e, M, he, hf, tc => by
    obtain ⟨f, rfl⟩ : ∃ f', f = f' + 1 := ⟨f - 1, by omega⟩
    have b1 := W.1
    have : e = n := by omega
    subst this
    refine ⟨M, ?_, g_fr.rfl, tc, fun _ _ => rfl⟩
    rw [lp3_s, F_X11_thin_25, tc.2.2.1, if_pos (nI_le (Nat.le_refl _) (by omega))]
  | j + 1, f, e, M, he, hf, tc => by
    obtain ⟨f, rfl⟩ : ∃ f', f = f' + 1 := ⟨f - 1, by omega⟩
    have b1 := W.1
    have b4 := W.2.2.2.1
    have sm := Sm.stE (i := i) W e (by omega)
    have W' := sm.W W
    have hl := tE_le (n := n) (h := h) (i := i) (d := d) e
    have hr := tR_le (n := n) (h := h) (i := i) (e := e) (d := (tE n h i d e).1) 24
    obtain ⟨M1, a1, a2, a3, a4⟩ := tc.fresh W'.2.2.2.2.2.2.2.2.2.2.2.1 b4 b1 (by omega)
    obtain ⟨M2, r1, r2, r3, r4⟩ := tr_go W' (show e < n by omega) hi a4 (fun (x3 : Int32) (M : g_M) => some (x3, M)) (a := a + (tE n h i d e).2) (b := b) (by omega) 24 20000000 0 M1 (by omega) (by omega) g_fr.rfl a3
    obtain ⟨M', m1, m2, m3, m4⟩ := to_go W hi hc j f (e + 1) M2 (by omega) (by omega) (by
      show TC n h M2 (tR n h i e (tE n h i d e).1 24).1 (a + ((tE n h i d e).2 + (tR n h i e (tE n h i d e).1 24).2)) b
      rw [← Nat.add_assoc]
      exact r3)
    refine ⟨M', ?_, ((a2.mono (by decide) (by decide)).trans (r2.mono (by decide) (by decide))).trans m2, m3, fun z hz => ?_⟩
    · rw [lp3_s, F_X11_thin_25, tc.2.2.1, if_neg (nI_ge (by omega) (by omega)), a1, Option.bind_some, show f_X11_thinRing (nI i) (nI e) M1 = some (nI (tR n h i e (tE n h i d e).1 24).2, M2) from r1, Option.bind_some, nI_add, nI_1]
      exact m1
    · rw [m4 z hz, r4 z hz, (a2.row (k := 5) (by decide) (by decide)).1]
theorem ti_go {d0 d1 : Nat → Int32} (W0 : W_D d0 n l m h) {e i : Nat} (he : e < n) (hi : i < h) (sm1 : Sm n h i d0 d1) (K : Int32 → Int32 → Int32 → g_M → Option (Int32 × g_M)) (c0 : Nat) : ∀ (j f k : Nat) (N : g_M), k + j = 24 → j < f → N.1 60 = (tR n h i e d1 k).1 → (∀ q, q < 1024 → N.1 65 q = bi (sb q (s_all d0 n) && pO d0 n h i q)) → ∃ N' : g_M, g_lp4 (F_X12_thin_40 K) f (nI i) (nI (c0 + (tR n h i e d1 k).2)) (nI e) (nI k) N = K (nI i) (nI (c0 + (tR n h i e d1 24).2)) (nI e) N' ∧ g_fr [60, 64, 68, 69] [] N N' ∧ N'.1 60 = (tR n h i e d1 24).1
  | 0, f, k, N, hk, hf, ed, h65 => by
    obtain ⟨f, rfl⟩ : ∃ f', f = f' + 1 := ⟨f - 1, by omega⟩
    have : k = 24 := by omega
    subst this
    refine ⟨N, ?_, g_fr.rfl, ed⟩
    rw [lp4_s, F_X12_thin_40, if_pos (by decide)]
  | j + 1, f, k, N, hk, hf, ed, h65 => by
    obtain ⟨f, rfl⟩ : ∃ f', f = f' + 1 := ⟨f - 1, by omega⟩
    have b1 := W0.1
    have sm := sm1.stR b1 he k
    have W' := sm.W W0
    have sa := sm.all b1
    have st2 : (tR n h i e d1 (k + 1)).2 = (tR n h i e d1 k).2 + bN (tg n h i e (tR n h i e d1 k).1 k) := rfl
    have st1 : (tR n h i e d1 (k + 1)).1 = tk n h i e (tR n h i e d1 k).1 k := rfl
    have no : ∀ N2 : g_M, g_fr [60, 64, 68, 69] [] N N2 → N2.1 60 = (tR n h i e d1 k).1 → tg n h i e (tR n h i e d1 k).1 k = false → ∃ N' : g_M, g_lp4 (F_X12_thin_40 K) f (nI i) (nI (c0 + (tR n h i e d1 k).2)) (nI e) (nI k + 1) N2 = K (nI i) (nI (c0 + (tR n h i e d1 24).2)) (nI e) N' ∧ g_fr [60, 64, 68, 69] [] N N' ∧ N'.1 60 = (tR n h i e d1 24).1 := fun N2 fr2 ed2 c => by
      have e1 : (tR n h i e d1 (k + 1)).1 = (tR n h i e d1 k).1 := by
        rw [st1]
        unfold tk
        rw [c, if_neg (by decide)]
      have e2 : (tR n h i e d1 (k + 1)).2 = (tR n h i e d1 k).2 := by
        rw [st2, c]
        rfl
      obtain ⟨N', m1, m2, m3⟩ := ti_go W0 he hi sm1 K c0 j f (k + 1) N2 (by omega) (by omega) (by rw [e1]; exact ed2) (fun q hq => by rw [(fr2.row (k := 65) (by decide) (by simp)).1]; exact h65 q hq)
      rw [e2] at m1
      exact ⟨N', by rw [nI_1]; exact m1, fr2.trans m2, m3⟩
    rw [lp4_s, F_X12_thin_40, if_neg (show ¬ (24 : Int32) ≤ nI k from nI_ge (b := 24) (by omega) (by omega)), ld_30 (by omega), Option.bind_some, ed, b_bit _ (by omega)]
    cases hb : bt ((tR n h i e d1 k).1 (30 + e)) k
    · rw [if_neg (show ¬ (if false = true then (1 : Int32) else 0) = 1 by decide)]
      exact no N g_fr.rfl ed (by unfold tg; rw [hb, Bool.false_and])
    · obtain ⟨N2, g1, g2⟩ := im_eq W' ed he hi (show k < 24 by omega) hb (g := pO d0 n h i) (by rw [sa]; exact h65) (fun q hq => sm.2.2 q (by rw [← sa]; exact hq))
      have ed2 : N2.1 60 = (tR n h i e d1 k).1 := (g2.row (by decide) (by simp)).1.trans ed
      rw [if_pos (show (if true = true then (1 : Int32) else 0) = 1 by decide), g1, Option.bind_some]
      dsimp only
      cases hs : spB (tR n h i e d1 k).1 n h i e (offK ((tR n h i e d1 k).1 (30 + e)) k)
      · rw [if_pos ((bi_0 false).mpr rfl)]
        exact no N2 (g2.mono (by decide) (by simp)) ed2 (by unfold tg; rw [hs, Bool.and_false])
      · have c : tg n h i e (tR n h i e d1 k).1 k = true := by
          unfold tg
          rw [hb, hs]
          rfl
        have e1 : (tR n h i e d1 (k + 1)).1 = upd (tR n h i e d1 k).1 (30 + e) (offK ((tR n h i e d1 k).1 (30 + e)) k) := by
          rw [st1]
          unfold tk
          rw [c, if_pos rfl]
        have e2 : (tR n h i e d1 (k + 1)).2 = (tR n h i e d1 k).2 + 1 := by
          rw [st2, c]
          rfl
        rw [if_neg (fun q => absurd ((bi_0 true).mp q) (by decide)), ld_30 (by omega), Option.bind_some, ed2, st_30 (by omega), Option.bind_some, nI_1, nI_1]
        have fr3 : g_fr [60, 64, 68, 69] [] N (g_u N2 60 (30 + e) (offK ((tR n h i e d1 k).1 (30 + e)) k)) := (g2.mono (by decide) (by simp)).uS (by decide)
        obtain ⟨N', m1, m2, m3⟩ := ti_go W0 he hi sm1 K c0 j f (k + 1) (g_u N2 60 (30 + e) (offK ((tR n h i e d1 k).1 (30 + e)) k)) (by omega) (by omega) (by
          rw [e1]
          show upd (N2.1 60) _ _ = _
          rw [ed2]) (fun q hq => by rw [(fr3.row (k := 65) (by decide) (by simp)).1]; exact h65 q hq)
        rw [e2, ← Nat.add_assoc] at m1
        exact ⟨N', m1, fr3.trans m2, m3⟩
theorem tu_go2 (W : W_D d n l m h) {i : Nat} (hi : i < h) : ∀ (j f e : Nat) (N : g_M), e + j = n → j < f → N.1 60 = (tE n h i d e).1 → (∀ q, q < 1024 → N.1 65 q = bi (sb q (s_all d n) && pO d n h i q)) → ∃ N' : g_M, g_lp3 (F_X12_thin_27 (fun (x2 : Int32) (M : g_M) => some (x2, M))) f (nI i) (nI (tE n h i d e).2) (nI e) N = some (nI (tE n h i d n).2, N') ∧ g_fr [60, 64, 68, 69] [] N N' ∧ N'.1 60 = (tE n h i d n).1
  | 0, f, e, N, he, hf, ed, h65 => by
    obtain ⟨f, rfl⟩ : ∃ f', f = f' + 1 := ⟨f - 1, by omega⟩
    have b1 := W.1
    have : e = n := by omega
    subst this
    have sm := Sm.stE (i := i) W e (by omega)
    refine ⟨N, ?_, g_fr.rfl, ed⟩
    rw [lp3_s, F_X12_thin_27, ld_0, Option.bind_some, ed, (sm.W W).2.2.2.2.1, if_pos (nI_le (Nat.le_refl _) (by omega))]
  | j + 1, f, e, N, he, hf, ed, h65 => by
    obtain ⟨f, rfl⟩ : ∃ f', f = f' + 1 := ⟨f - 1, by omega⟩
    have b1 := W.1
    have sm := Sm.stE (i := i) W e (by omega)
    obtain ⟨N2, r1, r2, r3⟩ := ti_go W (show e < n by omega) hi sm (fun (x1 : Int32) (x2 : Int32) (x3 : Int32) (M : g_M) => g_lp3 (F_X12_thin_27 (fun (x2 : Int32) (M : g_M) => some (x2, M))) f x1 x2 (x3 + 1) M) (tE n h i d e).2 24 20000000 0 N (by omega) (by omega) ed h65
    obtain ⟨N', m1, m2, m3⟩ := tu_go2 W hi j f (e + 1) N2 (by omega) (by omega) r3 (fun q hq => by rw [(r2.row (k := 65) (by decide) (by simp)).1]; exact h65 q hq)
    refine ⟨N', ?_, r2.trans m2, m3⟩
    rw [lp3_s, F_X12_thin_27, ld_0, Option.bind_some, ed, (sm.W W).2.2.2.2.1, if_neg (nI_ge (by omega) (by omega))]
    refine Eq.trans r1 ?_
    rw [nI_1]
    exact m1
theorem X_C.a1 {t : Nat} {x1 x2 x3 y : Int32} {c1 c2 c3 k : Nat} (h : X_C t x1 x2 x3 c1 c2 c3) (e : y = nI (c1 + k)) (hk : k ≤ 1000) : X_C (t + 1) y x2 x3 (c1 + k) c2 c3 := by
  obtain ⟨-, e2, e3, a, b, c⟩ := h
  exact ⟨e, e2, e3, by omega, by omega, by omega⟩
theorem thin_core (ht : t < 64) (H : Rel0 t n l m h c1 c2 c3 M) {N : g_M} {i cnt : Nat} {dF : Nat → Int32} (sm : Sm n h i (M.1 60) dF) (hcn : cnt ≤ 240) (h0 : cnt = 0 → dF = M.1 60) (fr : g_fr [5, 37, 38, 60, 64, 65, 68, 69] [(3, 3), (36, 2)] M N) (e60 : N.1 60 = dF) (tc : TC n h N dF (c1 + cnt) c3) (hz : ∀ z, n ≤ z → N.1 5 z = M.1 5 z) : Rel0 (t + 1) n l m h (c1 + cnt) c2 c3 N := by
  obtain ⟨h1, h2, h3, h4, h5, h6, h7, h8, h9, h10, h11⟩ := id H
  obtain ⟨b1, b2, b3, b4, e0, e4, e1, e3, eu, wA, wL, wH, wT⟩ := id h1
  have hc := h9.lt ht
  have k : ∀ j, j < 30 ∨ 40 ≤ j → dF j = M.1 60 j := fun j hj => sm.1 j (fun z hz => by omega)
  have aL : agL (M.1 60) (N.1 60) l := fun j _ => by rw [e60]; exact ⟨k _ (by omega), k _ (by omega)⟩
  have aH : agH (M.1 60) (N.1 60) h := fun j _ z _ => by rw [e60]; exact k _ (by omega)
  have aT : agT (M.1 60) (N.1 60) m := fun j _ => by rw [e60]; exact ⟨k _ (by omega), fun z _ => k _ (by omega)⟩
  have e3' : ∀ j, j ≠ 3 → N.1 3 j = M.1 3 j := fun j hj => fr.at (by decide) (by simp; omega)
  exact ⟨(by rw [e60]; exact sm.W h1), (show X_E (N.1 60) n l (N.1 3 0) (N.1 3 1) (N.1 3 2) (N.1 4) (N.1 5) (N.1 6) (N.1 7) by
      rw [e3' 0 (by omega), e3' 1 (by omega), e3' 2 (by omega), (fr.row (k := 4) (by decide) (by decide)).1, (fr.row (k := 6) (by decide) (by decide)).1, (fr.row (k := 7) (by decide) (by decide)).1]
      refine ⟨h2.1, h2.2.1, fun e he => ?_, h2.2.2.2.1, fun e he => ?_, fun e he h10e => ?_⟩
      · rw [e60, k (20 + e) (by omega)]
        exact h2.2.2.1 e he
      · rw [s_lt_cong e aL, s_lk_cong e aL, e60, k (10 + e) (by omega)]
        have := h2.2.2.2.2.1 e he
        exact ⟨this.1, tc.2.1 e he, this.2.2⟩
      · rw [hz e he]
        exact h2.2.2.2.2.2 e he h10e), (show X_H (N.1 60) h (N.1 24 0) (N.1 25) (N.1 26) (N.1 27) (N.1 28) (N.1 29) (N.1 30) (N.1 31) by
      rw [e60]
      exact tc.1), keep4d fr (by decide) b3 h4 aT (by
      rw [(fr.row (k := 13) (by decide) (by decide)).1, e60, k 2 (by omega)]
      exact h4.2.1), (show X_K (N.1 60) (N.1 61) m h (N.1 59 2) (N.1 0 4) (N.1 0 6) (N.1 0 7) (N.1 0 8) (N.1 8 0) (N.1 8 1) (N.1 8 2) (N.1 9) (N.1 10) (N.1 11) (N.1 12) by
      rw [(fr.row (k := 61) (by decide) (by decide)).1, (fr.row (k := 59) (by decide) (by decide)).1, (fr.row (k := 0) (by decide) (by decide)).1, (fr.row (k := 8) (by decide) (by decide)).1, (fr.row (k := 9) (by decide) (by decide)).1, (fr.row (k := 10) (by decide) (by decide)).1, (fr.row (k := 11) (by decide) (by decide)).1, (fr.row (k := 12) (by decide) (by decide)).1]
      exact h5.agree aT aH (Nat.le_refl _) (Nat.le_refl _)), keep6 fr (by decide) h6, (keep7 fr (by decide) h7).mono (by omega), keep8 fr (by decide) h8, (show X_C (t + 1) (N.1 3 3) (N.1 13 2) (N.1 24 1) (c1 + cnt) c2 c3 by
      rw [(fr.row (k := 13) (by decide) (by decide)).1, (fr.row (k := 24) (by decide) (by decide)).1]
      exact h9.a1 tc.2.2.2.2.1 (by omega)), (show X_O (N.1 60) n h (c1 + cnt + c3) (N.1 36 2) (N.1 37) (N.2 38) by
      rw [e60]
      exact ⟨tc.2.2.2.2.2.2.1, fun q z _ hz => tc.2.2.2.2.2.2.2.1 q z (by unfold sb; rw [beq_iff_eq]; exact hz), tc.2.2.2.2.2.2.2.2.1, tc.2.2.2.2.2.2.2.2.2⟩), (show X_A (N.1 60) n (c1 + cnt + c2) (N.1 39 1) (N.1 39 2) (N.1 40) by
      rw [(fr.row (k := 39) (by decide) (by decide)).1, (fr.row (k := 40) (by decide) (by decide)).1]
      by_cases z : cnt = 0
      · rw [e60, h0 z, z]
        exact h11
      · exact h11.bump (by omega) (by omega))⟩
theorem op_thin (ht : t < 64) (H : Rel0 t n l m h c1 c2 c3 M) (x : Int32) : Op (f_X11_thin x) (f_X12_thin x) t M := by
  obtain ⟨h1, h2, h3, h4, h5, h6, h7, h8, h9, h10, h11⟩ := id H
  obtain ⟨b1, b2, b3, b4, e0, e4, e1, e3, eu, wA, wL, wH, wT⟩ := id h1
  have hc := h9.lt ht
  rcases ix x (n := h) (by omega) with ho | ⟨i, hi, rfl⟩
  · refine Op.t0 H ?_ ?_
    · unfold f_X11_thin
      rw [hh_out h3.1 ho, Option.bind_some, if_pos rfl]
    · unfold f_X12_thin
      rw [mh_out (n := h) (M := tellM 0 M) e3 (by omega) ho, Option.bind_some, if_pos rfl]
  have tc : TC n h M (M.1 60) c1 c3 := ⟨h3, fun e he => (h2.2.2.2.2.1 e he).2.1, h2.1, present_eq h1 h2, h9.1, h9.2.2.1, h10.1, fun q z hz => h10.2.1 q z (by have := sb_le hz; have := all_1024 (M.1 60) b1; omega) (by unfold sb at hz; rw [beq_iff_eq] at hz; exact hz), h10.2.2.1, h10.2.2.2⟩
  obtain ⟨M1, m1, m2, m3, m4⟩ := to_go h1 hi (a := c1) (b := c3) (by omega) n 20000000 0 M (by omega) (by omega) tc
  have r60 : M1.1 60 = M.1 60 := (m2.row (by decide) (by decide)).1
  obtain ⟨N1, f1, f2, f3⟩ := fo_eq hi h1 r60
  have s60 : N1.1 60 = M.1 60 := (f2.row (by decide) (by simp)).1.trans r60
  obtain ⟨N2, k1, k2, k3⟩ := ko_eq f3
  have t60 : N2.1 60 = M.1 60 := (k2.row (by decide) (by simp)).1.trans s60
  obtain ⟨N, g1, g2, g3⟩ := tu_go2 h1 hi n 20000000 0 N2 (by omega) (by omega) t60 k3
  have cls : f_X11_thin (nI i) M = some (nI (tE n h i (M.1 60) n).2, M1) := by
    unfold f_X11_thin
    rw [hh_in h3.1 hi (by omega), Option.bind_some, if_neg (by decide)]
    exact m1
  have mdl : f_X12_thin (nI i) M1 = some (nI (tE n h i (M.1 60) n).2, N) := by
    unfold f_X12_thin
    rw [mh_in (n := h) (M := M1) (by rw [r60]; exact e3) (by omega) hi, Option.bind_some, if_neg (by decide), f1, Option.bind_some, k1, Option.bind_some]
    exact g1
  have frM : g_fr [60, 64, 65, 68, 69] [] M1 N := ((f2.mono (by decide) (by simp)).trans (k2.mono (by decide) (by simp))).trans (g2.mono (by decide) (by simp))
  have hl := tE_le (n := n) (h := h) (i := i) (d := M.1 60) n
  refine ⟨_, _, cls, mdl, rfl, n, l, m, h, c1 + (tE n h i (M.1 60) n).2, c2, c3, ?_⟩
  refine thin_core ht H (Sm.stE h1 n (Nat.le_refl _)) (by omega) (fun z => tE_0 n z) ((m2.mono (by decide) (by decide)).trans (frM.mono (by decide) (by simp))) g3 ?_ (fun z hz => ?_)
  · obtain ⟨x, r5, n0, pr, ca, cb, st, fresh, z1, z2⟩ := m3
    have q3 : N.1 3 = M1.1 3 := (frM.row (by decide) (by simp)).1
    have q36 : N.1 36 = M1.1 36 := (frM.row (by decide) (by simp)).1
    have q37 : N.1 37 = M1.1 37 := (frM.row (by decide) (by simp)).1
    have q38 : N.2 38 = M1.2 38 := (frM.row (by decide) (by simp)).2
    refine ⟨xh_fr x frM (by decide), fun e he => by rw [(frM.row (k := 5) (by decide) (by simp)).1]; exact r5 e he, by rw [q3]; exact n0, (pres_fr (by rw [q3]) (by rw [q3])).trans pr, by rw [q3]; exact ca, by rw [(frM.row (k := 24) (by decide) (by simp)).1]; exact cb, by rw [q36]; exact st, fun q z hz => ?_, by rw [q37]; exact z1, by rw [q38]; exact z2⟩
    rw [q36] at q
    have v := fresh q z hz
    exact ⟨by rw [q37]; exact v.1, fun y hy => by rw [q38]; exact v.2 y hy⟩
  · rw [(frM.row (k := 5) (by decide) (by simp)).1]
    exact m4 z hz
end THIN
