section BUILDB
variable {t n l m h c1 c2 c3 : Nat} {M : g_M} {d : Nat → Int32}
/-- a key on the rings of a set -/
def gR (S : Int32) (i : Nat) (d : Nat → Int32) : Nat → (Nat → Int32)
  | 0 => d
  | e + 1 => if bt S e = true then upd (gR S i d e) (30 + e) ((gR S i d e) (30 + e) ||| ((1 : Int32) <<< (nI i &&& 31))) else gR S i d e
theorem gR_ne {S : Int32} {i k : Nat} : ∀ {e : Nat}, (k < 30 ∨ 30 + e ≤ k) → gR S i d e k = d k
  | 0, _ => rfl
  | e + 1, h => by
    show (if bt S e = true then upd (gR S i d e) (30 + e) _ else gR S i d e) k = d k
    split
    · rw [upd_ne (by omega)]
      exact gR_ne (by omega)
    · exact gR_ne (by omega)
theorem VR.n0 {T : Nat} (H : VR T n l m h c1 c2 c3 M d) : M.1 3 0 = nI n := by
  have := H.2.1.1
  rw [vr_ne (by decide)] at this
  exact this
theorem VR.r5 {T : Nat} (H : VR T n l m h c1 c2 c3 M d) {e : Nat} (he : e < n) : M.1 5 e = d (30 + e) := by
  have := (H.2.1.2.2.2.2.1 e he).2.1
  rw [vr_ne (by decide), vr_60] at this
  exact this
theorem VR.W {T : Nat} (H : VR T n l m h c1 c2 c3 M d) : W_D d n l m h := by
  have := H.1
  rw [vr_60] at this
  exact this
theorem gk_go {T i : Nat} (hi : i < 24) {S : Int32} : ∀ (k f e : Nat) (M : g_M) (a : Nat), e + k = n → k < f → a + k ≤ 1000 * T → a + k + c2 + c3 < 2 ^ 31 → VR T n l m h a c2 c3 M (gR S i d e) → ∃ (M' : g_M) (a' : Nat), g_lp3 (F_X0_giveKey_2 (fun (M : g_M) => some M)) f S (nI i) (nI e) M = some M' ∧ g_fr [5] [(3, 3)] M M' ∧ a' ≤ a + k ∧ VR T n l m h a' c2 c3 M' (gR S i d n)
  | 0, f, e, M, a, he, hf, ha, hb, H => by
    obtain ⟨f, rfl⟩ : ∃ f', f = f' + 1 := ⟨f - 1, by omega⟩
    have b1 := H.1.1
    have : e = n := by omega
    subst this
    refine ⟨M, a, ?_, g_fr.rfl, Nat.le_refl _, H⟩
    rw [lp3_s, F_X0_giveKey_2, H.n0, if_pos (nI_le (Nat.le_refl _) (by omega))]
  | k + 1, f, e, M, a, he, hf, ha, hb, H => by
    obtain ⟨f, rfl⟩ : ∃ f', f = f' + 1 := ⟨f - 1, by omega⟩
    have b1 := H.1.1
    rw [lp3_s, F_X0_giveKey_2, H.n0, if_neg (nI_ge (by omega) (by omega)), b_bit S (by omega)]
    cases c : bt S e
    · have e1 : gR S i d (e + 1) = gR S i d e := if_neg (by rw [c]; decide)
      obtain ⟨M', a', m1, m2, m3, m4⟩ := gk_go (T := T) hi k f (e + 1) M a (by omega) (by omega) (by omega) (by omega) (by rw [e1]; exact H)
      rw [if_pos (show (if false = true then (1 : Int32) else 0) = 0 by decide), nI_1]
      exact ⟨M', a', m1, m2, by omega, m4⟩
    · have e1 : gR S i d (e + 1) = upd (gR S i d e) (30 + e) ((gR S i d e) (30 + e) ||| ((1 : Int32) <<< (nI i &&& 31))) := if_pos c
      obtain ⟨q, hq, eq⟩ := (H.W.2.2.2.2.2.2.2.2.2.1 e (by omega)).2.2
      obtain ⟨z, hz, ez⟩ := (key_val hq hi).2
      have H2 := VR.key H (e := e) (v := (gR S i d e) (30 + e) ||| ((1 : Int32) <<< (nI i &&& 31))) (by omega) (by omega) (by omega) ⟨z, hz, by rw [eq]; exact ez⟩
      have fr2 : g_fr [5] [(3, 3)] M (mK1 e ((gR S i d e) (30 + e) ||| ((1 : Int32) <<< (nI i &&& 31))) M) := (g_fr.rfl.uS (by decide)).uT (by decide)
      obtain ⟨M', a', m1, m2, m3, m4⟩ := gk_go (T := T) hi k f (e + 1) (mK1 e ((gR S i d e) (30 + e) ||| ((1 : Int32) <<< (nI i &&& 31))) M) (a + 1) (by omega) (by omega) (by omega) (by omega) (by rw [e1]; exact H2)
      have sk : f_X0_setKey (nI e) (nI i) 1 M = some (if (gR S i d e) (30 + e) ||| ((1 : Int32) <<< (nI i &&& 31)) = (gR S i d e) (30 + e) then 0 else 1, mK1 e ((gR S i d e) (30 + e) ||| ((1 : Int32) <<< (nI i &&& 31))) M) := by
        unfold f_X0_setKey
        rw [e_ld (by omega) (by omega), Option.bind_some, if_neg (by decide), H.r5 (show e < n by omega)]
        exact key_c (by omega)
      rw [if_neg (show ¬ (if true = true then (1 : Int32) else 0) = 0 by decide), sk, Option.bind_some, nI_1]
      exact ⟨M', a', m1, fr2.trans m2, by omega, m4⟩
theorem upd_id {f : Nat → Int32} {k : Nat} : upd f k (f k) = f := by
  funext j
  by_cases c : j = k
  · subst c
    exact upd_eq
  · exact upd_ne c
theorem shl_0 {i : Nat} (hi : i < 24) : (0 : Int32) <<< (nI i &&& 31) = 0 := b_ext (fun j hj => by rw [b_shl i (by omega) 0 hj, b_0, Bool.and_false, b_0])
theorem mg_go {i A q : Nat} (hn : n ≤ 10) (hi : i < 24) (e0 : d 0 = nI n) (K : Int32 → Int32 → Int32 → Int32 → g_M → Option (Int32 × g_M)) (x1 x2 : Int32) : ∀ (k f e : Nat) (N : g_M), e + k = n → k < f → N.1 70 i = nI q → N.1 60 = gR (nI A &&& (nI q ^^^ (-1))) i d e → ∃ N' : g_M, g_lp5 (F_X12_build_162 K) f x1 x2 (nI A) (nI i) (nI e) N = K x1 x2 (nI A) (nI i) N' ∧ g_fr [60] [] N N' ∧ N'.2 = N.2 ∧ N'.1 60 = gR (nI A &&& (nI q ^^^ (-1))) i d n
  | 0, f, e, N, he, hf, e70, ed => by
    obtain ⟨f, rfl⟩ : ∃ f', f = f' + 1 := ⟨f - 1, by omega⟩
    have : e = n := by omega
    subst this
    refine ⟨N, ?_, g_fr.rfl, rfl, ed⟩
    rw [lp5_s, F_X12_build_162, ld_0, Option.bind_some, ed, gR_ne (by omega), e0, if_pos (nI_le (Nat.le_refl _) (by omega))]
  | k + 1, f, e, N, he, hf, e70, ed => by
    obtain ⟨f, rfl⟩ : ∃ f', f = f' + 1 := ⟨f - 1, by omega⟩
    have row : upd (N.1 60) (30 + e) ((gR (nI A &&& (nI q ^^^ (-1))) i d e) (30 + e) ||| ((if bt (nI A &&& (nI q ^^^ (-1))) e = true then (1 : Int32) else 0) <<< (nI i &&& 31))) = gR (nI A &&& (nI q ^^^ (-1))) i d (e + 1) := by
      rw [ed]
      cases c : bt (nI A &&& (nI q ^^^ (-1))) e
      · have e1 : gR (nI A &&& (nI q ^^^ (-1))) i d (e + 1) = gR (nI A &&& (nI q ^^^ (-1))) i d e := if_neg (by rw [c]; decide)
        rw [e1, if_neg (by decide), shl_0 hi, Int32.or_zero, upd_id]
      · have e1 : gR (nI A &&& (nI q ^^^ (-1))) i d (e + 1) = upd (gR (nI A &&& (nI q ^^^ (-1))) i d e) (30 + e) ((gR (nI A &&& (nI q ^^^ (-1))) i d e) (30 + e) ||| ((1 : Int32) <<< (nI i &&& 31))) := if_pos c
        rw [e1, if_pos rfl]
    have fr : g_fr [60] [] N (g_u N 60 (30 + e) ((gR (nI A &&& (nI q ^^^ (-1))) i d e) (30 + e) ||| ((if bt (nI A &&& (nI q ^^^ (-1))) e = true then (1 : Int32) else 0) <<< (nI i &&& 31)))) := g_fr.rfl.uS (by decide)
    obtain ⟨N', m1, m2, m3, m4⟩ := mg_go hn hi e0 K x1 x2 k f (e + 1) (g_u N 60 (30 + e) ((gR (nI A &&& (nI q ^^^ (-1))) i d e) (30 + e) ||| ((if bt (nI A &&& (nI q ^^^ (-1))) e = true then (1 : Int32) else 0) <<< (nI i &&& 31)))) (by omega) (by omega) e70 row
    refine ⟨N', ?_, fr.trans m2, m3, m4⟩
    rw [lp5_s, F_X12_build_162, ld_0, Option.bind_some, ed, gR_ne (k := 0) (by omega), e0, if_neg (nI_ge (by omega) (by omega)), ld_30 (by omega), Option.bind_some, e_ld (by omega) (by omega), Option.bind_some, e70, b_bit _ (by omega), st_30 (by omega), Option.bind_some, nI_1, ed]
    exact m1
/-- locks with their keys -/
def bL (n h A : Nat) (L : List Nat) (d : Nat → Int32) : Nat → (Nat → Int32)
  | 0 => d
  | i + 1 => gR (nI A &&& (nI (L.getD i 0) ^^^ (-1))) i (dH (bL n h A L d i) (h + i) 1 (-1) (-1) (nI i)) n
theorem LX.keepB {M M' : g_M} {L : List Nat} (h : LX M L) (fr : g_fr [5, 25, 26, 27, 28, 29, 30, 31] [(3, 3), (24, 0), (24, 1)] M M') : LX M' L := ⟨(fr.at (by decide) (by decide)).trans h.1, fun i hi => (fr.at (by decide) (by simp)).trans (h.2 i hi)⟩
theorem hl_go {T A a0 : Nat} {L : List Nat} (hL : L.length ≤ 24) (hh : h + L.length ≤ 40) (hT : a0 + 10 * L.length + 10 ≤ 1000 * T) (hT3 : c3 + L.length ≤ 1000 * T) (hb : a0 + 500 + c2 + c3 < 2 ^ 31) (K : Int32 → g_M → Option (Int32 × g_M)) : ∀ (k f i : Nat) (M : g_M) (a : Nat), i + k = L.length → k < f → LX M L → a ≤ a0 + 10 * i → VR T n l m (h + i) a c2 (c3 + i) M (bL n h A L d i) → ∃ (M' : g_M) (a' : Nat), g_lp3 (F_X11_hangSideBySide_25 K) f (nI A) (nI h) (nI i) M = K (nI h) M' ∧ g_fr [5, 25, 26, 27, 28, 29, 30, 31] [(3, 3), (24, 0), (24, 1)] M M' ∧ a' ≤ a0 + 10 * L.length ∧ VR T n l m (h + L.length) a' c2 (c3 + L.length) M' (bL n h A L d L.length)
  | 0, f, i, M, a, hi, hf, lx, ha, H => by
    obtain ⟨f, rfl⟩ : ∃ f', f = f' + 1 := ⟨f - 1, by omega⟩
    have e : i = L.length := by omega
    refine ⟨M, a, ?_, g_fr.rfl, by omega, by rw [← e]; exact H⟩
    rw [lp3_s, F_X11_hangSideBySide_25, lx.1, if_pos (nI_le (by omega) (by omega))]
  | k + 1, f, i, M, a, hi, hf, lx, ha, H => by
    obtain ⟨f, rfl⟩ : ∃ f', f = f' + 1 := ⟨f - 1, by omega⟩
    have b1 := H.1.1
    obtain ⟨M1, a1, a2, a3⟩ := VR.lock H (by omega) (by omega) (by omega) (show i < 24 by omega)
    have fr1 : g_fr [5, 25, 26, 27, 28, 29, 30, 31] [(3, 3), (24, 0), (24, 1)] M M1 := a2.mono (by decide) (by decide)
    have lx1 := lx.keepB fr1
    obtain ⟨M2, a', g1, g2, g3, g4⟩ := gk_go (d := dH (bL n h A L d i) (h + i) 1 (-1) (-1) (nI i)) (show i < 24 by omega) (S := nI A &&& (nI (L.getD i 0) ^^^ (-1))) n 20000000 0 M1 a (by omega) (by omega) (by omega) (by omega) a3
    have fr2 : g_fr [5, 25, 26, 27, 28, 29, 30, 31] [(3, 3), (24, 0), (24, 1)] M1 M2 := g2.mono (by decide) (by decide)
    obtain ⟨M', a'', m1, m2, m3, m4⟩ := hl_go (T := T) (a0 := a0) hL hh hT hT3 hb K k f (i + 1) M2 a' (by omega) (by omega) (lx1.keepB fr2) (by omega) g4
    refine ⟨M', a'', ?_, (fr1.trans fr2).trans m2, m3, m4⟩
    rw [lp3_s, F_X11_hangSideBySide_25, lx.1, if_neg (nI_ge (by omega) (by omega)), a1, Option.bind_some]
    dsimp only
    rw [e_ld (by omega) (by omega), Option.bind_some, lx1.2 i (by omega), show f_X0_giveKey (nI A &&& (nI (L.getD i 0) ^^^ (-1))) (nI i) M1 = some M2 from g1, Option.bind_some, nI_1]
    exact m1
def lastI (h N : Nat) : Nat → Nat
  | 0 => h
  | j + 1 => h + N + j
/-- rows of the locks -/
def bC (h N : Nat) (d : Nat → Int32) : Nat → (Nat → Int32)
  | 0 => d
  | j + 1 => dH (bC h N d j) (h + N + j) 3 (nI (lastI h N j)) (nI (h + (j + 1))) (-1)
theorem lastI_lt {N j : Nat} (hN : 0 < N) : lastI h N j < h + N + j := by
  cases j with
  | zero => show h < h + N + 0; omega
  | succ j => show h + N + j < h + N + (j + 1); omega
theorem hc_go2 {T a : Nat} {L : List Nat} (h0 : 0 < L.length) (hL : L.length ≤ 24) (hh : h + 2 * L.length ≤ 41) (hT3 : c3 + 2 * L.length ≤ 1000 * T) (hb : a + 500 + c2 + c3 < 2 ^ 31) : ∀ (k f j : Nat) (M : g_M), j + 1 + k = L.length → k < f → LX M L → VR T n l m (h + L.length + j) a c2 (c3 + L.length + j) M (bC h L.length d j) → ∃ M' : g_M, g_lp3 (F_X11_hangSideBySide_78 (fun (x3 : Int32) (M : g_M) => some (x3, M))) f (nI h) (nI (lastI h L.length j)) (nI (j + 1)) M = some (nI (lastI h L.length (L.length - 1)), M') ∧ g_fr [5, 25, 26, 27, 28, 29, 30, 31] [(3, 3), (24, 0), (24, 1)] M M' ∧ VR T n l m (h + L.length + (L.length - 1)) a c2 (c3 + L.length + (L.length - 1)) M' (bC h L.length d (L.length - 1))
  | 0, f, j, M, hj, hf, lx, H => by
    obtain ⟨f, rfl⟩ : ∃ f', f = f' + 1 := ⟨f - 1, by omega⟩
    have e : L.length - 1 = j := by omega
    rw [e]
    refine ⟨M, ?_, g_fr.rfl, H⟩
    rw [lp3_s, F_X11_hangSideBySide_78, lx.1, if_pos (nI_le (by omega) (by omega))]
  | k + 1, f, j, M, hj, hf, lx, H => by
    obtain ⟨f, rfl⟩ : ∃ f', f = f' + 1 := ⟨f - 1, by omega⟩
    have ll := lastI_lt (h := h) (N := L.length) (j := j) h0
    obtain ⟨M1, a1, a2, a3⟩ := VR.row H (by omega) (by omega) (by omega) ll (show h + (j + 1) < h + L.length + j by omega)
    have fr1 : g_fr [5, 25, 26, 27, 28, 29, 30, 31] [(3, 3), (24, 0), (24, 1)] M M1 := a2.mono (by decide) (by decide)
    obtain ⟨M', m1, m2, m3⟩ := hc_go2 (T := T) (a := a) h0 hL hh hT3 hb k f (j + 1) M1 (by omega) (by omega) (lx.keepB fr1) a3
    refine ⟨M', ?_, fr1.trans m2, m3⟩
    rw [lp3_s, F_X11_hangSideBySide_78, lx.1, if_neg (nI_ge (by omega) (by omega)), nI_add, a1, Option.bind_some]
    dsimp only
    rw [nI_1]
    exact m1
theorem er_go : ∀ (k f e : Nat) (M : g_M), e + k = 10 → k < f → (∀ z, z < e → M.1 5 z = 0) → ∃ M' : g_M, g_lp3 (F_J7_fill_53178_5_5 (fun (M : g_M) => some M)) f 0 (nI e) 10 M = some M' ∧ g_fr [5] [] M M' ∧ ∀ z, z < 10 → M'.1 5 z = 0
  | 0, f, e, M, he, hf, hz => by
    obtain ⟨f, rfl⟩ : ∃ f', f = f' + 1 := ⟨f - 1, by omega⟩
    have : e = 10 := by omega
    subst this
    refine ⟨M, ?_, g_fr.rfl, hz⟩
    rw [lp3_s, F_J7_fill_53178_5_5, if_pos (by decide)]
  | k + 1, f, e, M, he, hf, hz => by
    obtain ⟨f, rfl⟩ : ∃ f', f = f' + 1 := ⟨f - 1, by omega⟩
    have fr1 : g_fr [5] [] M (g_u M 5 e 0) := g_fr.rfl.uS (by decide)
    obtain ⟨M', m1, m2, m3⟩ := er_go k f (e + 1) (g_u M 5 e 0) (by omega) (by omega) (fun z hz2 => by
      show upd (M.1 5) e 0 z = 0
      by_cases c : z = e
      · subst c
        exact upd_eq
      · exact (upd_ne c).trans (hz z (by omega)))
    refine ⟨M', ?_, fr1.trans m2, m3⟩
    rw [lp3_s, F_J7_fill_53178_5_5, if_neg (show ¬ (10 : Int32) ≤ nI e from nI_ge (b := 10) (by omega) (by omega)), e_st (by omega) (by omega), Option.bind_some, nI_1, m1]
/-- a row with empty rings -/
def zR (d : Nat → Int32) (e : Nat) : Nat → Int32 := fun k => if 30 ≤ k ∧ k < 30 + e then 0 else d k
theorem er_eq {T : Nat} (H : Rel0 T n l m h c1 c2 c3 M) (hc : c1 + 1 ≤ 1000 * T) (hb : c1 + c2 + c3 + 1 < 2 ^ 31) : ∃ M' : g_M, f_X0_emptyRings M = some M' ∧ g_fr [5] [(3, 3)] M M' ∧ VR T n l m h (c1 + 1) c2 c3 M' (zR (M.1 60) 10) := by
  have b1 := H.1.1
  obtain ⟨M1, m1, m2, m3⟩ := er_go 10 20000000 0 M (by omega) (by omega) (fun z hz => absurd hz (by omega))
  have fr : g_fr [5] [(3, 3)] M (g_u M1 3 3 (M1.1 3 3 + 1)) := (m2.mono (by decide) (by simp)).uT (by decide)
  refine ⟨g_u M1 3 3 (M1.1 3 3 + 1), ?_, fr, ?_⟩
  · unfold f_X0_emptyRings
    rw [show f_J7_fill_53178_5 0 M = some M1 from m1, Option.bind_some, Option.bind_some]
  · refine rings_core H hc hb (N := g_uR (g_u M1 3 3 (M1.1 3 3 + 1)) 60 (zR (M.1 60) 10)) (g_fr.uR (fr.mono (by decide) (by simp)) (by decide)) (fun k hk => ?_) (fun e he => ?_) (fun e h1 h2 => ?_) ?_
    · rw [vr_60]
      exact if_neg (by omega)
    · rw [vr_60, vr_ne (by decide)]
      have z : zR (M.1 60) 10 (30 + e) = 0 := if_pos (by omega)
      rw [z]
      exact ⟨m3 e (by omega), 0, by omega, rfl⟩
    · rw [vr_ne (by decide)]
      exact m3 e h2
    · rw [vr_ne (by decide)]
      show M1.1 3 3 + 1 = _
      rw [(m2.row (k := 3) (by decide) (by simp)).1]
end BUILDB
