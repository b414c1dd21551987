section LIST
variable {M : g_M} {A : Nat}
theorem lst_get {fn : Nat → Bool} {k k' i : Nat} (h : k ≤ k') (hi : i < (lst fn A k).length) : (lst fn A k').getD i 0 = (lst fn A k).getD i 0 ∧ i < (lst fn A k').length := by
  obtain ⟨r, hr⟩ := lst_mono (f := fn) (A := A) h
  rw [hr, List.getD_eq_getElem?_getD, List.getD_eq_getElem?_getD, List.getElem?_append_left hi, List.length_append]
  exact ⟨rfl, by omega⟩
theorem lst_le {fn : Nat → Bool} {k k' : Nat} (h : k ≤ k') : (lst fn A k).length ≤ (lst fn A k').length := by
  obtain ⟨r, hr⟩ := lst_mono (f := fn) (A := A) h
  rw [hr, List.length_append]
  omega
theorem lst_bd {fn : Nat → Bool} {k : Nat} : (lst fn A k).length ≤ k := by
  unfold lst
  have := List.length_filter_le (fun s => sb s A && fn s) (List.range k)
  rw [List.length_range] at this
  exact this
/-- the answer for an index, -1 for how many -/
def ans (L : List Nat) (x : Int32) : Option Int32 := if x = -1 then some (nI L.length) else if x.toNatClampNeg < L.length then some (nI (L.getD x.toNatClampNeg 0)) else some (-2)
theorem fi_go (fn : Nat → Bool) (hA : A < 1024) (x1 : Int32) (hfn : ∀ s, s < 1024 → sb s A = true → (x1 = 0 → f_X12_isLeast (nI s) M = some (bi (fn s))) ∧ (x1 ≠ 0 → f_X12_isMost (nI s) (nI A) M = some (bi (fn s)))) {x2 : Int32} (hx : x2 = -1 ∨ ∃ j, j < 2 ^ 31 ∧ x2 = nI j) : ∀ (k f s : Nat), s + k = 1024 → k < f → (∀ j, j < 2 ^ 31 → x2 = nI j → (lst fn A s).length ≤ j) → g_lq5 (F_X12_find_11 M (fun (x5 : Int32) => some x5) (fun (x2 : Int32) (x4 : Int32) => (if x2 = (-1) then (some x4) else (some (-2))))) f x1 x2 (nI A) (nI (lst fn A s).length) (nI s) = ans (lst fn A 1024) x2
  | 0, f, s, hs, hf, hj => by
    obtain ⟨f, rfl⟩ : ∃ f', f = f' + 1 := ⟨f - 1, by omega⟩
    have : s = 1024 := by omega
    subst this
    rw [lq5_s, F_X12_find_11, if_pos (by decide)]
    unfold ans
    rcases hx with rfl | ⟨j, j1, rfl⟩
    · rw [if_pos rfl, if_pos rfl]
    · have ne : ¬ nI j = -1 := fun e => m1_ne j1 e.symm
      have := hj j j1 rfl
      rw [if_neg ne, if_neg ne, nI_clamp j1, if_neg (by omega)]
  | k + 1, f, s, hs, hf, hj => by
    obtain ⟨f, rfl⟩ : ∃ f', f = f' + 1 := ⟨f - 1, by omega⟩
    have hs2 : s < 1024 := by omega
    have hl : (lst fn A s).length ≤ s := lst_bd
    have skip : (sb s A && fn s) = false → g_lq5 (F_X12_find_11 M (fun (x5 : Int32) => some x5) (fun (x2 : Int32) (x4 : Int32) => (if x2 = (-1) then (some x4) else (some (-2))))) f x1 x2 (nI A) (nI (lst fn A s).length) (nI s + 1) = ans (lst fn A 1024) x2 := fun e => by
      have el : lst fn A (s + 1) = lst fn A s := by rw [lst_s, e, if_neg (by decide), List.append_nil]
      have := fi_go fn hA x1 hfn hx k f (s + 1) (by omega) (by omega) (fun j j1 j2 => by rw [el]; exact hj j j1 j2)
      rw [el] at this
      rw [nI_1]
      exact this
    rw [lq5_s, F_X12_find_11, if_neg (show ¬ (1024 : Int32) ≤ nI s from nI_ge (b := 1024) (by omega) (by omega))]
    by_cases cs : sb s A = true
    · rw [if_pos ((sb_I hs2 hA).mpr cs)]
      have hit : fn s = true → f_X12_find_54 (g_lq5 (F_X12_find_11 M (fun (x5 : Int32) => some x5) (fun (x2 : Int32) (x4 : Int32) => (if x2 = (-1) then (some x4) else (some (-2))))) f) (fun (x5 : Int32) => some x5) x1 x2 (nI A) (nI (lst fn A s).length) (nI s) M = ans (lst fn A 1024) x2 := fun e => by
        have el : lst fn A (s + 1) = lst fn A s ++ [s] := by rw [lst_s, cs, e, if_pos (show (true && true) = true from rfl)]
        have ell : (lst fn A (s + 1)).length = (lst fn A s).length + 1 := by rw [el, List.length_append]; rfl
        unfold f_X12_find_54
        by_cases c : nI (lst fn A s).length = x2
        · rw [if_pos c]
          have g := lst_get (fn := fn) (A := A) (k := s + 1) (k' := 1024) (i := (lst fn A s).length) (by omega) (by omega)
          unfold ans
          rw [← c, if_neg (fun e => m1_ne (a := (lst fn A s).length) (by omega) e.symm), nI_clamp (by omega), if_pos g.2, g.1, el, List.getD_eq_getElem?_getD, List.getElem?_append_right (Nat.le_refl _), Nat.sub_self]
          rfl
        · rw [if_neg c, nI_1, nI_1]
          have := fi_go fn hA x1 hfn hx k f (s + 1) (by omega) (by omega) (fun j j1 j2 => by
            have := hj j j1 j2
            rw [ell]
            by_cases q : (lst fn A s).length = j
            · rw [q] at c
              exact absurd j2.symm c
            · omega)
          rw [ell] at this
          exact this
      by_cases c1 : x1 = 0
      · rw [if_pos c1, (hfn s hs2 cs).1 c1, Option.bind_some]
        cases e : fn s
        · rw [if_pos ((bi_0 false).mpr rfl)]
          exact skip (by rw [cs, e]; rfl)
        · rw [if_neg (fun q => absurd ((bi_0 true).mp q) (by decide))]
          exact hit e
      · rw [if_neg c1, (hfn s hs2 cs).2 c1, Option.bind_some]
        cases e : fn s
        · rw [if_pos ((bi_0 false).mpr rfl)]
          exact skip (by rw [cs, e]; rfl)
        · rw [if_neg (fun q => absurd ((bi_0 true).mp q) (by decide))]
          exact hit e
    · rw [if_neg (fun q => cs ((sb_I hs2 hA).mp q))]
      exact skip (by rw [Bool.eq_false_iff.mpr cs, Bool.false_and])
theorem m1_ix {x : Int32} (h : -1 ≤ x) : x = -1 ∨ ∃ j, j < 2 ^ 31 ∧ x = nI j := by
  by_cases c : x < 0
  · left
    rw [i_le] at h
    rw [i_lt] at c
    have e1 : (-1 : Int32).toInt = -1 := by decide
    have e2 : (0 : Int32).toInt = 0 := by decide
    refine Int32.toInt_inj.mp ?_
    omega
  · right
    exact nI_of c
/-- the kinds of list: 0 the least in, else the most out -/
def kl (p : Nat → Bool) (A : Nat) (x1 : Int32) : List Nat := if x1 = 0 then lst (mn p) A 1024 else lst (mx p A) A 1024
theorem find_kl {p : Nat → Bool} (hF : FM M A p) (hA : A < 1024) (ha : f_X12_all M = some (nI A)) (x1 : Int32) {x2 : Int32} (hx : -1 ≤ x2) : f_X12_find x1 x2 M = ans (kl p A x1) x2 := by
  unfold f_X12_find kl
  rw [ha, Option.bind_some]
  by_cases c : x1 = 0
  · rw [if_pos c]
    exact fi_go (mn p) hA x1 (fun s hs cs => ⟨fun _ => isl_eq hF hs cs, fun q => absurd c q⟩) (m1_ix hx) 1024 20000000 0 (by omega) (by omega) (fun j _ _ => by show 0 ≤ j; omega)
  · rw [if_neg c]
    exact fi_go (mx p A) hA x1 (fun s hs cs => ⟨fun q => absurd q c, fun _ => ism_eq hF hA cs⟩) (m1_ix hx) 1024 20000000 0 (by omega) (by omega) (fun j _ _ => by show 0 ≤ j; omega)
theorem told_kl {p : Nat → Bool} (hF : FM M A p) (hA : A < 1024) (ha : f_X12_all M = some (nI A)) (x1 : Int32) {x2 : Int32} (hx : -1 ≤ x2) : f_X12_told x1 x2 M = (if x2 = -1 then some (nI (kl p A x1).length, M) else if x2.toNatClampNeg < (kl p A x1).length then some (nI ((kl p A x1).getD x2.toNatClampNeg 0), M) else ((f_X12_finding 3 M).bind fun p2 => some (p2.1, p2.2))) := by
  have n2 : ∀ a, a < 2 ^ 31 → ¬ nI a = -2 := fun a h e => by
    have : (nI a).toInt = (-2 : Int32).toInt := by rw [e]
    rw [nI_toInt h] at this
    simp at this
  have lb : ∀ s, s ∈ kl p A x1 → s < 1024 := fun s hs => by
    unfold kl at hs
    split at hs
    · exact (lst_mem.mp hs).1
    · exact (lst_mem.mp hs).1
  have ll : (kl p A x1).length ≤ 1024 := by
    unfold kl
    split
    · exact lst_bd
    · exact lst_bd
  unfold f_X12_told
  rw [find_kl hF hA ha x1 hx]
  unfold ans
  by_cases c : x2 = -1
  · rw [if_pos c, if_pos c, Option.bind_some, if_neg (n2 _ (by omega))]
  · rw [if_neg c, if_neg c]
    by_cases d : x2.toNatClampNeg < (kl p A x1).length
    · rw [if_pos d, if_pos d, Option.bind_some, if_neg]
      refine n2 _ ?_
      have : (kl p A x1).getD x2.toNatClampNeg 0 ∈ kl p A x1 := by
        rw [List.getD_eq_getElem?_getD, List.getElem?_eq_getElem d]
        exact List.getElem_mem d
      have := lb _ this
      omega
    · rw [if_neg d, if_neg d, Option.bind_some, if_pos rfl]
theorem kl_252 {p : Nat → Bool} (hA : A < 1024) (x1 : Int32) : (kl p A x1).length ≤ 252 := by
  unfold kl
  split
  · exact mn_252 p (by omega)
  · exact mx_252 p hA (by omega)
theorem list_c {L : List Nat} (h : LX M L) (hl : L.length ≤ 252) {x2 : Int32} (hx : -1 ≤ x2) : f_X11_listed_0_39_23 x2 M = (if x2 = -1 then some (nI L.length, M) else if x2.toNatClampNeg < L.length then some (nI (L.getD x2.toNatClampNeg 0), M) else ((f_X2_tell (-1000000004) M).bind fun p2 => some (p2.1, p2.2))) := by
  unfold f_X11_listed_0_39_23
  rcases m1_ix hx with rfl | ⟨j, hj, rfl⟩
  · rw [if_neg (by decide), if_pos rfl, h.1]
  · rw [if_pos (nI_pos' hj), h.1, if_neg (show ¬ nI j = -1 from fun e => m1_ne hj e.symm), nI_clamp hj]
    by_cases c : j < L.length
    · rw [if_neg (nI_ge c (by omega)), if_pos c, e_ld (by omega) (by omega), Option.bind_some, h.2 j c]
    · rw [if_pos (nI_le (by omega) (by omega)), if_neg c]
theorem list_41 : f_X11_listed_0_41_23 = f_X11_listed_0_39_23 := rfl
/-- the class lists what is found -/
theorem fl_c {o c : Nat} {p : Nat → Bool} (hA : A < 1024) (ho : o ≠ 43 ∧ o ≠ 44 ∧ o ≠ 45) (hc : c ≠ 43 ∧ c ≠ 44 ∧ c ≠ 45) (hF : FC M o c A p) : ∃ M' : g_M, g_lp1 (Gl7 o c (fun (M : g_M) => some M)) 20000000 0 (g_u M 43 1 0) = some M' ∧ g_fr [44, 45] [(43, 1)] M M' ∧ LX M' (kl p A 0) := by
  have f0 : g_fr [44, 45] [(43, 1)] M (g_u M 43 1 0) := g_fr.rfl.uT (by decide)
  obtain ⟨M', m1, m2, m3⟩ := gl_go (p := p) hA ho hc (A + 1) 20000000 0 (g_u M 43 1 0) (by omega) (by omega) (hF.keep ho hc f0) (fun q hq => absurd hq (by omega)) ⟨rfl, fun i hi => absurd hi (by show ¬ i < 0; omega)⟩
  refine ⟨M', m1, f0.trans m2, ?_⟩
  unfold kl
  rw [if_pos rfl, lst_end (by omega)]
  exact m3
theorem fm_c {o c : Nat} {p : Nat → Bool} (hA : A < 1024) (ho : o ≠ 43 ∧ o ≠ 44 ∧ o ≠ 45) (hc : c ≠ 43 ∧ c ≠ 44 ∧ c ≠ 45) (hF : FC M o c A p) : ∃ M' : g_M, g_lp1 (Gm10 o c (fun (M : g_M) => (f_X6_turn M).bind fun p8 => some p8)) 20000000 ((g_u M 43 1 0).1 o 1) (g_u M 43 1 0) = some M' ∧ g_fr [44, 45] [(43, 1)] M M' ∧ LX M' (kl p A 1) := by
  have f0 : g_fr [44, 45] [(43, 1)] M (g_u M 43 1 0) := g_fr.rfl.uT (by decide)
  have hF0 := hF.keep ho hc f0
  obtain ⟨M', m1, m2, m3⟩ := gm_go (p := p) (fun (M : g_M) => (f_X6_turn M).bind fun p8 => some p8) hA ho hc (A + 1) 20000000 (g_u M 43 1 0) (by omega) (by omega) hF0 (fun q hq hs => absurd (sb_le hs) (by omega)) (by
    rw [dl_top]
    exact ⟨rfl, fun i hi => absurd hi (by show ¬ i < 0; omega)⟩)
  have hl : (dl (mx p A) A 0).length ≤ 252 := Nat.le_trans dl_len (mx_252 p hA (by omega))
  obtain ⟨M2, t1, t2, t3⟩ := tu_eq m3 hl
  refine ⟨M2, ?_, (f0.trans m2).trans (t2.mono (by decide) (by simp)), ?_⟩
  · rw [hF0.1, show nI A = nI (A + 1) - 1 from (nI_pred A).symm]
    refine Eq.trans m1 ?_
    rw [t1, Option.bind_some]
  · unfold kl
    rw [if_neg (by decide), lst_end (by omega)]
    rw [dl_0, List.reverse_reverse] at t3
    exact t3
end LIST
