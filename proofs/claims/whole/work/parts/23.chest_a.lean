def F_X11_leastBesides_38 (kB : Int32 → Int32 → Int32 → Int32 → g_M → Option (Int32 × g_M)) (k78 : Int32 → Int32 → g_M → Option (Int32 × g_M)) (k92 : g_M → Option (Int32 × g_M)) (k : Int32 → Int32 → Int32 → Int32 → Int32 → Int32 → g_M → Option (Int32 × g_M)) (x1 : Int32) (x2 : Int32) (x3 : Int32) (x4 : Int32) (x5 : Int32) (x6 : Int32) (M : g_M) : Option (Int32 × g_M) :=
  (if x4 ≤ x6 then (k92 M) else ((if ((x5 >>> (x6 &&& 31)) &&& 1) = 0 then (k x1 x2 x3 x4 x5 (x6 + 1) M) else ((kB x1 (x2 ||| ((1 : Int32) <<< (x6 &&& 31))) (x3 - 1) x6 M).bind fun p2 => (if p2.1 < 0 then (k x1 x2 x3 x4 x5 (x6 + 1) p2.2) else (k78 x6 p2.1 p2.2))))))
set_option maxRecDepth 100000 in
theorem t_X11_leastBesides_38 {l : Launch} {X : g_X} {Y : g_Y} {p : Int32 × g_M} {kB : Int32 → Int32 → Int32 → Int32 → g_M → Option (Int32 × g_M)} {k78 : Int32 → Int32 → g_M → Option (Int32 × g_M)} {k92 : g_M → Option (Int32 × g_M)} (d : Nat) (hB : ∀ (x1 : Int32) (x2 : Int32) (x3 : Int32) (x4 : Int32) (M : g_M) (p : Int32 × g_M), kB x1 x2 x3 x4 M = some p → g_R l Y (20 + d) yX11_leastBesides cX11_leastBesides 8 (some .int) [g_r Y 0, .int x1, .int x2, .int x3, .int x4] M (some (.int p.1)) p.2) (C : g_C l (g_rm (20 + (d + 1))) RX11 cX11_leastBesides 8 X Y) (E : g_E (some .int) X Y (some (.int p.1)) p.2) (hk78 : ∀ (x6 : Int32) (x7 : Int32) (M : g_M), k78 x6 x7 M = some p → g_G 8 X Y 78 [(6, .int x6), (7, .int x7)] [] M) (hk92 : ∀ (M : g_M), k92 M = some p → g_G 8 X Y 92 [] [] M) (n : Nat) : ∀ (x1 : Int32) (x2 : Int32) (x3 : Int32) (x4 : Int32) (x5 : Int32) (x6 : Int32) (M : g_M), g_lp6 (F_X11_leastBesides_38 kB k78 k92) n x1 x2 x3 x4 x5 x6 M = some p → g_G 8 X Y 38 [(0, g_r Y 0), (1, .int x1), (2, .int x2), (3, .int x3), (4, .int x4), (5, .int x5), (6, .int x6)] [] M := by
  induction n with
  | zero => intro x1 x2 x3 x4 x5 x6 M h; exact (g_nn h).elim
  | succ n ih =>
    intro x1 x2 x3 x4 x5 x6 M h
    have h : F_X11_leastBesides_38 kB k78 k92 (g_lp6 (F_X11_leastBesides_38 kB k78 k92) n) x1 x2 x3 x4 x5 x6 M = some p := h
    generalize g_lp6 (F_X11_leastBesides_38 kB k78 k92) n = k at h ih
    unfold F_X11_leastBesides_38 at h
    refine g_iload C 6 dX11_leastBesides_38 (q := 40) rfl rfl ?_
    refine g_iload C 4 dX11_leastBesides_40 (q := 42) rfl rfl ?_
    have hif := g_if h
    clear h
    refine g_icmp_ge C dX11_leastBesides_42 (q := 45) (tgt := 92) rfl (by decide) (fun c => ?_) (fun c => ?_)
    · have h := hif.1 c
      clear hif
      refine g_sub [] (lv' := []) rfl ?_
      exact hk92 M h
    · have h := hif.2 c
      clear hif
      refine g_iload C 5 dX11_leastBesides_45 (q := 47) rfl rfl ?_
      refine g_iload C 6 dX11_leastBesides_47 (q := 49) rfl rfl ?_
      refine g_ishr C dX11_leastBesides_49 (q := 50) rfl ?_
      refine g_iconst C (v := 1) dX11_leastBesides_50 (q := 51) rfl (by decide) ?_
      refine g_iand C dX11_leastBesides_51 (q := 52) rfl ?_
      have hif := g_if h
      clear h
      refine g_if_eq C dX11_leastBesides_52 (q := 55) (tgt := 86) rfl (by decide) (fun c => ?_) (fun c => ?_)
      · have h := hif.1 c
        clear hif
        refine g_iinc C (k := 6) (v := x6 + 1) dX11_leastBesides_86 (q := 89) rfl rfl rfl (by decide) (lv' := [(6, .int (x6 + 1)), (0, g_r Y 0), (1, .int x1), (2, .int x2), (3, .int x3), (4, .int x4), (5, .int x5)]) rfl ?_
        refine g_goto C dX11_leastBesides_89 (tgt := 38) (by decide) ?_
        refine g_sub [1, 2, 3, 4, 5, 6, 0] (lv' := [(0, g_r Y 0), (1, .int x1), (2, .int x2), (3, .int x3), (4, .int x4), (5, .int x5), (6, .int (x6 + 1))]) rfl ?_
        exact ih x1 x2 x3 x4 x5 (x6 + 1) M h
      · have h := hif.2 c
        clear hif
        refine g_aload_n C 0 dX11_leastBesides_55 (q := 56) rfl rfl rfl ?_
        refine g_iload_n C 1 dX11_leastBesides_56 (q := 57) rfl rfl rfl ?_
        refine g_iload_n C 2 dX11_leastBesides_57 (q := 58) rfl rfl rfl ?_
        refine g_iconst C (v := 1) dX11_leastBesides_58 (q := 59) rfl (by decide) ?_
        refine g_iload C 6 dX11_leastBesides_59 (q := 61) rfl rfl ?_
        refine g_ishl C dX11_leastBesides_61 (q := 62) rfl ?_
        refine g_ior C dX11_leastBesides_62 (q := 63) rfl ?_
        refine g_iload_n C 3 dX11_leastBesides_63 (q := 64) rfl rfl rfl ?_
        refine g_iconst C (v := 1) dX11_leastBesides_64 (q := 65) rfl (by decide) ?_
        refine g_isub C dX11_leastBesides_65 (q := 66) rfl ?_
        refine g_iload C 6 dX11_leastBesides_66 (q := 68) rfl rfl ?_
        obtain ⟨p2, hp2, h⟩ := g_bind h
        refine g_callV C (k := 0) (as := [.int x1, .int (x2 ||| ((1 : Int32) <<< (x6 &&& 31))), .int (x3 - 1), .int x6]) (st := []) (hB _ _ _ _ _ _ hp2) (g_hR (by omega)) (by decide) (by decide) (gc_0 Y _ _) rfl kM_X11_260 kI_X11_leastBesides kS_X11_leastBesides kN_X11 kC_X11_leastBesides kD_X11_leastBesides rfl (Nat.le_of_ble_eq_true rfl) dX11_leastBesides_68 (q := 71) rfl ?_
        show g_G 8 X Y 71 [(0, g_r Y 0), (1, .int x1), (2, .int x2), (3, .int x3), (4, .int x4), (5, .int x5), (6, .int x6)] [.int p2.1] p2.2
        refine g_istore C dX11_leastBesides_71 (q := 73) rfl (by decide) (lv' := [(7, .int p2.1), (0, g_r Y 0), (1, .int x1), (2, .int x2), (3, .int x3), (4, .int x4), (5, .int x5), (6, .int x6)]) rfl ?_
        refine g_iload C 0 dX11_leastBesides_73 (q := 75) rfl rfl ?_
        have hif := g_if h
        clear h
        refine g_if_lt C dX11_leastBesides_75 (q := 78) (tgt := 86) rfl (by decide) (fun c => ?_) (fun c => ?_)
        · have h := hif.1 c
          clear hif
          refine g_iinc C (k := 7) (v := x6 + 1) dX11_leastBesides_86 (q := 89) rfl rfl rfl (by decide) (lv' := [(6, .int (x6 + 1)), (7, .int p2.1), (0, g_r Y 0), (1, .int x1), (2, .int x2), (3, .int x3), (4, .int x4), (5, .int x5)]) rfl ?_
          refine g_goto C dX11_leastBesides_89 (tgt := 38) (by decide) ?_
          refine g_sub [2, 3, 4, 5, 6, 7, 0] (lv' := [(0, g_r Y 0), (1, .int x1), (2, .int x2), (3, .int x3), (4, .int x4), (5, .int x5), (6, .int (x6 + 1))]) rfl ?_
          exact ih x1 x2 x3 x4 x5 (x6 + 1) p2.2 h
        · have h := hif.2 c
          clear hif
          refine g_sub [7, 0] (lv' := [(6, .int x6), (7, .int p2.1)]) rfl ?_
          exact hk78 x6 p2.1 p2.2 h
theorem r_X11_leastBesides_38 {p : Int32 × g_M} {kB : Int32 → Int32 → Int32 → Int32 → g_M → Option (Int32 × g_M)} {k78 : Int32 → Int32 → g_M → Option (Int32 × g_M)} {k92 : g_M → Option (Int32 × g_M)} (hB : ∀ (x1 : Int32) (x2 : Int32) (x3 : Int32) (x4 : Int32) (M : g_M) (p : Int32 × g_M), kB x1 x2 x3 x4 M = some p → g_fr [] [] M p.2) (hk78 : ∀ (x6 : Int32) (x7 : Int32) (M : g_M), k78 x6 x7 M = some p → g_fr [] [] M p.2) (hk92 : ∀ (M : g_M), k92 M = some p → g_fr [] [] M p.2) (n : Nat) : ∀ (x1 : Int32) (x2 : Int32) (x3 : Int32) (x4 : Int32) (x5 : Int32) (x6 : Int32) (M : g_M), g_lp6 (F_X11_leastBesides_38 kB k78 k92) n x1 x2 x3 x4 x5 x6 M = some p → g_fr [] [] M p.2 := by
  induction n with
  | zero => intro x1 x2 x3 x4 x5 x6 M h; exact (g_nn h).elim
  | succ n ih =>
    intro x1 x2 x3 x4 x5 x6 M h
    have h : F_X11_leastBesides_38 kB k78 k92 (g_lp6 (F_X11_leastBesides_38 kB k78 k92) n) x1 x2 x3 x4 x5 x6 M = some p := h
    generalize g_lp6 (F_X11_leastBesides_38 kB k78 k92) n = k at h ih
    unfold F_X11_leastBesides_38 at h
    have hf := g_fr.rfl (S := []) (T := []) (M := M)
    rcases g_ifs h with h | h
    · exact hf.trans (hk92 M h)
    · rcases g_ifs h with h | h
      · exact hf.trans (ih x1 x2 x3 x4 x5 (x6 + 1) M h)
      · obtain ⟨p2, hp2, h⟩ := g_bind h
        have hf := hf.trans ((hB _ _ _ _ _ _ hp2).mono (by decide) (by decide))
        rcases g_ifs h with h | h
        · exact hf.trans (ih x1 x2 x3 x4 x5 (x6 + 1) p2.2 h)
        · exact hf.trans (hk78 x6 p2.1 p2.2 h)
def F_X11_leastBesides (kB : Int32 → Int32 → Int32 → Int32 → g_M → Option (Int32 × g_M)) (x1 : Int32) (x2 : Int32) (x3 : Int32) (x4 : Int32) (M : g_M) : Option (Int32 × g_M) :=
  (if 0 < x3 then ((f_X4_keysOfLocks M).bind fun p1 => g_lp6 (F_X11_leastBesides_38 kB (fun (x6 : Int32) (x7 : Int32) (M : g_M) => some (x7 ||| ((1 : Int32) <<< (x6 &&& 31)), M)) (fun (M : g_M) => some ((-1), M))) 20000000 x1 x2 x3 x4 (p1 &&& (x2 ^^^ (-1))) 0 M) else ((f_X4_isOpenInTheEnd x1 x2 M).bind fun p3 => (if p3 = 0 then (some ((-1), M)) else (some (0, M)))))
def f_X11_leastBesides (d : Nat) (x1 : Int32) (x2 : Int32) (x3 : Int32) (x4 : Int32) (M : g_M) : Option (Int32 × g_M) := g_lp4 (F_X11_leastBesides) d x1 x2 x3 x4 M
set_option maxRecDepth 100000 in
theorem m_X11_leastBesides {l : Launch} {Y : g_Y} (d : Nat) : ∀ (x1 : Int32) (x2 : Int32) (x3 : Int32) (x4 : Int32) (M : g_M) (p : Int32 × g_M), f_X11_leastBesides d x1 x2 x3 x4 M = some p → g_R l Y (20 + d) yX11_leastBesides cX11_leastBesides 8 (some .int) [g_r Y 0, .int x1, .int x2, .int x3, .int x4] M (some (.int p.1)) p.2 := by
  induction d with
  | zero => intro x1 x2 x3 x4 M p h; exact (g_nn h).elim
  | succ d hB =>
    intro x1 x2 x3 x4 M p h
    have h : F_X11_leastBesides (g_lp4 (F_X11_leastBesides) d) x1 x2 x3 x4 M = some p := h
    have hB : ∀ (x1 : Int32) (x2 : Int32) (x3 : Int32) (x4 : Int32) (M : g_M) (p : Int32 × g_M), g_lp4 (F_X11_leastBesides) d x1 x2 x3 x4 M = some p → g_R l Y (20 + d) yX11_leastBesides cX11_leastBesides 8 (some .int) [g_r Y 0, .int x1, .int x2, .int x3, .int x4] M (some (.int p.1)) p.2 := hB
    generalize g_lp4 (F_X11_leastBesides) d = kB at h hB
    unfold F_X11_leastBesides at h
    refine g_R_of kP_X11 rfl (Nat.le_of_ble_eq_true rfl) (fun X C E => ?_)
    show g_G 8 X Y 0 [(0, g_r Y 0), (1, .int x1), (2, .int x2), (3, .int x3), (4, .int x4)] [] M
    refine g_iload_n C 3 dX11_leastBesides_0 (q := 1) rfl rfl rfl ?_
    have hif := g_if h
    clear h
    refine g_if_gt C dX11_leastBesides_1 (q := 4) (tgt := 22) rfl (by decide) (fun c => ?_) (fun c => ?_)
    · have h := hif.1 c
      clear hif
      refine g_aload_n C 0 dX11_leastBesides_22 (q := 23) rfl rfl rfl ?_
      refine g_get C (k := 0) (i := 3) (by decide) (gc_0 Y _ _) rfl kU_X11 (by decide) kF_X11_33 rfl dX11_leastBesides_23 (q := 26) rfl ?_
      obtain ⟨p1, hp1, h⟩ := g_bind h
      refine g_callV C (k := 24) (as := []) (st := []) (m_X4_keysOfLocks hp1) (g_hR (by omega)) (by decide) (by decide) (gc_24 Y _ _) rfl kM_X11_389 kI_X4_keysOfLocks kS_X4_keysOfLocks kN_X4 kC_X4_keysOfLocks kD_X4_keysOfLocks rfl (Nat.le_of_ble_eq_true rfl) dX11_leastBesides_26 (q := 29) rfl ?_
      show g_G 8 X Y 29 [(0, g_r Y 0), (1, .int x1), (2, .int x2), (3, .int x3), (4, .int x4)] [.int p1] M
      refine g_iload_n C 2 dX11_leastBesides_29 (q := 30) rfl rfl rfl ?_
      refine g_iconst C (v := (-1)) dX11_leastBesides_30 (q := 31) rfl (by decide) ?_
      refine g_ixor C dX11_leastBesides_31 (q := 32) rfl ?_
      refine g_iand C dX11_leastBesides_32 (q := 33) rfl ?_
      refine g_istore C dX11_leastBesides_33 (q := 35) rfl (by decide) (lv' := [(5, .int (p1 &&& (x2 ^^^ (-1)))), (0, g_r Y 0), (1, .int x1), (2, .int x2), (3, .int x3), (4, .int x4)]) rfl ?_
      refine g_iconst C (v := 0) dX11_leastBesides_35 (q := 36) rfl (by decide) ?_
      refine g_istore C dX11_leastBesides_36 (q := 38) rfl (by decide) (lv' := [(6, .int 0), (5, .int (p1 &&& (x2 ^^^ (-1)))), (0, g_r Y 0), (1, .int x1), (2, .int x2), (3, .int x3), (4, .int x4)]) rfl ?_
      refine g_sub [2, 3, 4, 5, 6, 1, 0] (lv' := [(0, g_r Y 0), (1, .int x1), (2, .int x2), (3, .int x3), (4, .int x4), (5, .int (p1 &&& (x2 ^^^ (-1)))), (6, .int 0)]) rfl ?_
      refine t_X11_leastBesides_38 d hB C E ?_ ?_ 20000000 x1 x2 x3 x4 (p1 &&& (x2 ^^^ (-1))) 0 M h
      · intro x6 x7 M h
        try dsimp only at h
        refine g_iload C 1 dX11_leastBesides_78 (q := 80) rfl rfl ?_
        refine g_iconst C (v := 1) dX11_leastBesides_80 (q := 81) rfl (by decide) ?_
        refine g_iload C 0 dX11_leastBesides_81 (q := 83) rfl rfl ?_
        refine g_ishl C dX11_leastBesides_83 (q := 84) rfl ?_
        refine g_ior C dX11_leastBesides_84 (q := 85) rfl ?_
        obtain rfl := Option.some.inj h
        exact g_iret C E dX11_leastBesides_85
      · intro M h
        try dsimp only at h
        refine g_iconst C (v := (-1)) dX11_leastBesides_92 (q := 93) rfl (by decide) ?_
        obtain rfl := Option.some.inj h
        exact g_iret C E dX11_leastBesides_93
    · have h := hif.2 c
      clear hif
      refine g_aload_n C 0 dX11_leastBesides_4 (q := 5) rfl rfl rfl ?_
      refine g_get C (k := 0) (i := 3) (by decide) (gc_0 Y _ _) rfl kU_X11 (by decide) kF_X11_33 rfl dX11_leastBesides_5 (q := 8) rfl ?_
      refine g_iload_n C 1 dX11_leastBesides_8 (q := 9) rfl rfl rfl ?_
      refine g_iload_n C 2 dX11_leastBesides_9 (q := 10) rfl rfl rfl ?_
      obtain ⟨p3, hp3, h⟩ := g_bind h
      refine g_callV C (k := 24) (as := [.int x1, .int x2]) (st := []) (m_X4_isOpenInTheEnd hp3) (g_hR (by omega)) (by decide) (by decide) (gc_24 Y _ _) rfl kM_X11_238 kI_X4_isOpenInTheEnd kS_X4_isOpenInTheEnd kN_X4 kC_X4_isOpenInTheEnd kD_X4_isOpenInTheEnd rfl (Nat.le_of_ble_eq_true rfl) dX11_leastBesides_10 (q := 13) rfl ?_
      show g_G 8 X Y 13 [(0, g_r Y 0), (1, .int x1), (2, .int x2), (3, .int x3), (4, .int x4)] [.int p3] M
      have hif := g_if h
      clear h
      refine g_if_eq C dX11_leastBesides_13 (q := 16) (tgt := 20) rfl (by decide) (fun c => ?_) (fun c => ?_)
      · have h := hif.1 c
        clear hif
        refine g_iconst C (v := (-1)) dX11_leastBesides_20 (q := 21) rfl (by decide) ?_
        obtain rfl := Option.some.inj h
        exact g_iret C E dX11_leastBesides_21
      · have h := hif.2 c
        clear hif
        refine g_iconst C (v := 0) dX11_leastBesides_16 (q := 17) rfl (by decide) ?_
        refine g_goto C dX11_leastBesides_17 (tgt := 21) (by decide) ?_
        obtain rfl := Option.some.inj h
        exact g_iret C E dX11_leastBesides_21
theorem r_X11_leastBesides (d : Nat) : ∀ (x1 : Int32) (x2 : Int32) (x3 : Int32) (x4 : Int32) (M : g_M) (p : Int32 × g_M), f_X11_leastBesides d x1 x2 x3 x4 M = some p → g_fr [] [] M p.2 := by
  induction d with
  | zero => intro x1 x2 x3 x4 M p h; exact (g_nn h).elim
  | succ d hB =>
    intro x1 x2 x3 x4 M p h
    have h : F_X11_leastBesides (g_lp4 (F_X11_leastBesides) d) x1 x2 x3 x4 M = some p := h
    have hB : ∀ (x1 : Int32) (x2 : Int32) (x3 : Int32) (x4 : Int32) (M : g_M) (p : Int32 × g_M), g_lp4 (F_X11_leastBesides) d x1 x2 x3 x4 M = some p → g_fr [] [] M p.2 := hB
    generalize g_lp4 (F_X11_leastBesides) d = kB at h hB
    unfold F_X11_leastBesides at h
    have hf := g_fr.rfl (S := []) (T := []) (M := M)
    rcases g_ifs h with h | h
    · obtain ⟨p1, -, h⟩ := g_bind h
      refine hf.trans (r_X11_leastBesides_38 hB ?_ ?_ 20000000 x1 x2 x3 x4 (p1 &&& (x2 ^^^ (-1))) 0 M h)
      · intro x6 x7 M h
        try dsimp only at h
        have hf := g_fr.rfl (S := []) (T := []) (M := M)
        obtain rfl := Option.some.inj h
        exact hf
      · intro M h
        try dsimp only at h
        have hf := g_fr.rfl (S := []) (T := []) (M := M)
        obtain rfl := Option.some.inj h
        exact hf
    · obtain ⟨p3, -, h⟩ := g_bind h
      rcases g_ifs h with h | h
      · obtain rfl := Option.some.inj h
        exact hf
      · obtain rfl := Option.some.inj h
        exact hf
def f_X11_need_22 (M : g_M) : Option (Int32 × g_M) :=
  (f_X2_tell (-1000000001) M).bind fun p2 => some (p2.1, p2.2)
set_option maxRecDepth 100000 in
theorem t_X11_need_22 {l : Launch} {X : g_X} {Y : g_Y} {p : Int32 × g_M} (C : g_C l (g_rm (40)) RX11 cX11_need 6 X Y) (E : g_E (some .int) X Y (some (.int p.1)) p.2) (M : g_M) (h : f_X11_need_22 M = some p) : g_G 6 X Y 22 [(0, g_r Y 0)] [] M := by
  unfold f_X11_need_22 at h
  refine g_aload_n C 0 dX11_need_22 (q := 23) rfl rfl rfl ?_
  refine g_get C (k := 0) (i := 0) (by decide) (gc_0 Y _ _) rfl kU_X11 (by decide) kF_X11_12 rfl dX11_need_23 (q := 26) rfl ?_
  refine g_ldc C (v := (-1000000001)) kK_X11_90 dX11_need_26 (q := 28) rfl ?_
  obtain ⟨p2, hp2, h⟩ := g_bind h
  refine g_callV C (k := 1) (as := [.int (-1000000001)]) (st := []) (m_X2_tell hp2) (g_hR (by omega)) (by decide) (by decide) (gc_1 Y _ _) rfl kM_X11_91 kI_X2_tell kS_X2_tell kN_X2 kC_X2_tell kD_X2_tell rfl (Nat.le_of_ble_eq_true rfl) dX11_need_28 (q := 31) rfl ?_
  show g_G 6 X Y 31 [(0, g_r Y 0)] [.int p2.1] p2.2
  obtain rfl := Option.some.inj h
  exact g_iret C E dX11_need_31
theorem r_X11_need_22 {p : Int32 × g_M} (M : g_M) (h : f_X11_need_22 M = some p) : g_fr [2] [(1, 1)] M p.2 := by
  unfold f_X11_need_22 at h
  have hf := g_fr.rfl (S := [2]) (T := [(1, 1)]) (M := M)
  obtain ⟨p2, hp2, h⟩ := g_bind h
  have hf := hf.trans ((r_X2_tell hp2).mono (by decide) (by decide))
  obtain rfl := Option.some.inj h
  exact hf
def F_X11_need_51 (k74 : Int32 → g_M → Option (Int32 × g_M)) (k83 : g_M → Option (Int32 × g_M)) (k : Int32 → Int32 → Int32 → g_M → Option (Int32 × g_M)) (x1 : Int32) (x3 : Int32) (x4 : Int32) (M : g_M) : Option (Int32 × g_M) :=
  (if 3 < x4 then (k83 M) else ((f_X11_leastBesides 4 x1 x3 x4 24 M).bind fun p6 => (if p6.1 < 0 then (k x1 x3 (x4 + 1) p6.2) else (k74 p6.1 p6.2))))
set_option maxRecDepth 100000 in
theorem t_X11_need_51 {l : Launch} {X : g_X} {Y : g_Y} {p : Int32 × g_M} {k74 : Int32 → g_M → Option (Int32 × g_M)} {k83 : g_M → Option (Int32 × g_M)} (C : g_C l (g_rm (40)) RX11 cX11_need 6 X Y) (E : g_E (some .int) X Y (some (.int p.1)) p.2) (hk74 : ∀ (x5 : Int32) (M : g_M), k74 x5 M = some p → g_G 6 X Y 74 [(5, .int x5)] [] M) (hk83 : ∀ (M : g_M), k83 M = some p → g_G 6 X Y 83 [(0, g_r Y 0)] [] M) (n : Nat) : ∀ (x1 : Int32) (x3 : Int32) (x4 : Int32) (M : g_M), g_lp3 (F_X11_need_51 k74 k83) n x1 x3 x4 M = some p → g_G 6 X Y 51 [(0, g_r Y 0), (1, .int x1), (3, .int x3), (4, .int x4)] [] M := by
  induction n with
  | zero => intro x1 x3 x4 M h; exact (g_nn h).elim
  | succ n ih =>
    intro x1 x3 x4 M h
    have h : F_X11_need_51 k74 k83 (g_lp3 (F_X11_need_51 k74 k83) n) x1 x3 x4 M = some p := h
    generalize g_lp3 (F_X11_need_51 k74 k83) n = k at h ih
    unfold F_X11_need_51 at h
    refine g_iload C 3 dX11_need_51 (q := 53) rfl rfl ?_
    refine g_iconst C (v := 3) dX11_need_53 (q := 54) rfl (by decide) ?_
    have hif := g_if h
    clear h
    refine g_icmp_gt C dX11_need_54 (q := 57) (tgt := 83) rfl (by decide) (fun c => ?_) (fun c => ?_)
    · have h := hif.1 c
      clear hif
      refine g_sub [0] (lv' := [(0, g_r Y 0)]) rfl ?_
      exact hk83 M h
    · have h := hif.2 c
      clear hif
      refine g_aload_n C 0 dX11_need_57 (q := 58) rfl rfl rfl ?_
      refine g_iload_n C 1 dX11_need_58 (q := 59) rfl rfl rfl ?_
      refine g_iload_n C 2 dX11_need_59 (q := 60) rfl rfl rfl ?_
      refine g_iload C 3 dX11_need_60 (q := 62) rfl rfl ?_
      refine g_bipush C (v := 24) dX11_need_62 (q := 64) rfl (by decide) ?_
      obtain ⟨p6, hp6, h⟩ := g_bind h
      refine g_callV C (k := 0) (as := [.int x1, .int x3, .int x4, .int 24]) (st := []) (m_X11_leastBesides 4 _ _ _ _ _ _ hp6) (g_hR (by omega)) (by decide) (by decide) (gc_0 Y _ _) rfl kM_X11_260 kI_X11_leastBesides kS_X11_leastBesides kN_X11 kC_X11_leastBesides kD_X11_leastBesides rfl (Nat.le_of_ble_eq_true rfl) dX11_need_64 (q := 67) rfl ?_
      show g_G 6 X Y 67 [(0, g_r Y 0), (1, .int x1), (3, .int x3), (4, .int x4)] [.int p6.1] p6.2
      refine g_istore C dX11_need_67 (q := 69) rfl (by decide) (lv' := [(5, .int p6.1), (0, g_r Y 0), (1, .int x1), (3, .int x3), (4, .int x4)]) rfl ?_
      refine g_iload C 0 dX11_need_69 (q := 71) rfl rfl ?_
      have hif := g_if h
      clear h
      refine g_if_lt C dX11_need_71 (q := 74) (tgt := 77) rfl (by decide) (fun c => ?_) (fun c => ?_)
      · have h := hif.1 c
        clear hif
        refine g_iinc C (k := 4) (v := x4 + 1) dX11_need_77 (q := 80) rfl rfl rfl (by decide) (lv' := [(4, .int (x4 + 1)), (5, .int p6.1), (0, g_r Y 0), (1, .int x1), (3, .int x3)]) rfl ?_
        refine g_goto C dX11_need_80 (tgt := 51) (by decide) ?_
        refine g_sub [2, 3, 4, 0] (lv' := [(0, g_r Y 0), (1, .int x1), (3, .int x3), (4, .int (x4 + 1))]) rfl ?_
        exact ih x1 x3 (x4 + 1) p6.2 h
      · have h := hif.2 c
        clear hif
        refine g_sub [0] (lv' := [(5, .int p6.1)]) rfl ?_
        exact hk74 p6.1 p6.2 h
theorem r_X11_need_51 {p : Int32 × g_M} {k74 : Int32 → g_M → Option (Int32 × g_M)} {k83 : g_M → Option (Int32 × g_M)} (hk74 : ∀ (x5 : Int32) (M : g_M), k74 x5 M = some p → g_fr [2] [(1, 1)] M p.2) (hk83 : ∀ (M : g_M), k83 M = some p → g_fr [2] [(1, 1)] M p.2) (n : Nat) : ∀ (x1 : Int32) (x3 : Int32) (x4 : Int32) (M : g_M), g_lp3 (F_X11_need_51 k74 k83) n x1 x3 x4 M = some p → g_fr [2] [(1, 1)] M p.2 := by
  induction n with
  | zero => intro x1 x3 x4 M h; exact (g_nn h).elim
  | succ n ih =>
    intro x1 x3 x4 M h
    have h : F_X11_need_51 k74 k83 (g_lp3 (F_X11_need_51 k74 k83) n) x1 x3 x4 M = some p := h
    generalize g_lp3 (F_X11_need_51 k74 k83) n = k at h ih
    unfold F_X11_need_51 at h
    have hf := g_fr.rfl (S := [2]) (T := [(1, 1)]) (M := M)
    rcases g_ifs h with h | h
    · exact hf.trans (hk83 M h)
    · obtain ⟨p6, hp6, h⟩ := g_bind h
      have hf := hf.trans ((r_X11_leastBesides 4 _ _ _ _ _ _ hp6).mono (by decide) (by decide))
      rcases g_ifs h with h | h
      · exact hf.trans (ih x1 x3 (x4 + 1) p6.2 h)
      · exact hf.trans (hk74 p6.1 p6.2 h)
def f_X11_need (x1 : Int32) (x2 : Int32) (M : g_M) : Option (Int32 × g_M) :=
  (f_X4_has x1 M).bind fun p1 => (if p1 = 0 then (f_X11_need_22 M) else ((f_X0_hasSet x2 M).bind fun p3 => (if p3 = 0 then (f_X11_need_22 M) else ((f_X0_keysOf x2 M).bind fun p4 => (f_X4_keysInTheEnd p4 M).bind fun p5 => g_lp3 (F_X11_need_51 (fun (x5 : Int32) (M : g_M) => some (x5, M)) (fun (M : g_M) => (f_X2_tell (-1000000004) M).bind fun p7 => some (p7.1, p7.2))) 20000000 x1 p5 0 M))))
set_option maxRecDepth 100000 in
theorem m_X11_need {l : Launch} {Y : g_Y} {x1 : Int32} {x2 : Int32} {M : g_M} {p : Int32 × g_M} (h : f_X11_need x1 x2 M = some p) : g_R l Y (40) yX11_need cX11_need 6 (some .int) [g_r Y 0, .int x1, .int x2] M (some (.int p.1)) p.2 := by
  unfold f_X11_need at h
  refine g_R_of kP_X11 rfl (Nat.le_of_ble_eq_true rfl) (fun X C E => ?_)
  show g_G 6 X Y 0 [(0, g_r Y 0), (1, .int x1), (2, .int x2)] [] M
  refine g_aload_n C 0 dX11_need_0 (q := 1) rfl rfl rfl ?_
  refine g_get C (k := 0) (i := 3) (by decide) (gc_0 Y _ _) rfl kU_X11 (by decide) kF_X11_33 rfl dX11_need_1 (q := 4) rfl ?_
  refine g_iload_n C 1 dX11_need_4 (q := 5) rfl rfl rfl ?_
  obtain ⟨p1, hp1, h⟩ := g_bind h
  refine g_callV C (k := 24) (as := [.int x1]) (st := []) (m_X4_has hp1) (g_hR (by omega)) (by decide) (by decide) (gc_24 Y _ _) rfl kM_X11_191 kI_X4_has kS_X4_has kN_X4 kC_X4_has kD_X4_has rfl (Nat.le_of_ble_eq_true rfl) dX11_need_5 (q := 8) rfl ?_
  show g_G 6 X Y 8 [(0, g_r Y 0), (1, .int x1), (2, .int x2)] [.int p1] M
  have hif := g_if h
  clear h
  refine g_if_eq C dX11_need_8 (q := 11) (tgt := 22) rfl (by decide) (fun c => ?_) (fun c => ?_)
  · have h := hif.1 c
    clear hif
    refine g_sub [0] (lv' := [(0, g_r Y 0)]) rfl ?_
    exact t_X11_need_22 C E M h
  · have h := hif.2 c
    clear hif
    refine g_aload_n C 0 dX11_need_11 (q := 12) rfl rfl rfl ?_
    refine g_get C (k := 0) (i := 1) (by decide) (gc_0 Y _ _) rfl kU_X11 (by decide) kF_X11_19 rfl dX11_need_12 (q := 15) rfl ?_
    refine g_iload_n C 2 dX11_need_15 (q := 16) rfl rfl rfl ?_
    obtain ⟨p3, hp3, h⟩ := g_bind h
    refine g_callV C (k := 3) (as := [.int x2]) (st := []) (m_X0_hasSet hp3) (g_hR (by omega)) (by decide) (by decide) (gc_3 Y _ _) rfl kM_X11_156 kI_X0_hasSet kS_X0_hasSet kN_X0 kC_X0_hasSet kD_X0_hasSet rfl (Nat.le_of_ble_eq_true rfl) dX11_need_16 (q := 19) rfl ?_
    show g_G 6 X Y 19 [(0, g_r Y 0), (1, .int x1), (2, .int x2)] [.int p3] M
    have hif := g_if h
    clear h
    refine g_if_ne C dX11_need_19 (q := 22) (tgt := 32) rfl (by decide) (fun c => ?_) (fun c => ?_)
    · have h := hif.2 c
      clear hif
      refine g_aload_n C 0 dX11_need_32 (q := 33) rfl rfl rfl ?_
      refine g_get C (k := 0) (i := 3) (by decide) (gc_0 Y _ _) rfl kU_X11 (by decide) kF_X11_33 rfl dX11_need_33 (q := 36) rfl ?_
      refine g_aload_n C 0 dX11_need_36 (q := 37) rfl rfl rfl ?_
      refine g_get C (k := 0) (i := 1) (by decide) (gc_0 Y _ _) rfl kU_X11 (by decide) kF_X11_19 rfl dX11_need_37 (q := 40) rfl ?_
      refine g_iload_n C 2 dX11_need_40 (q := 41) rfl rfl rfl ?_
      obtain ⟨p4, hp4, h⟩ := g_bind h
      refine g_callV C (k := 3) (as := [.int x2]) (st := [g_r Y 24]) (m_X0_keysOf hp4) (g_hR (by omega)) (by decide) (by decide) (gc_3 Y _ _) rfl kM_X11_235 kI_X0_keysOf kS_X0_keysOf kN_X0 kC_X0_keysOf kD_X0_keysOf rfl (Nat.le_of_ble_eq_true rfl) dX11_need_41 (q := 44) rfl ?_
      show g_G 6 X Y 44 [(0, g_r Y 0), (1, .int x1), (2, .int x2)] [.int p4, g_r Y 24] M
      obtain ⟨p5, hp5, h⟩ := g_bind h
      refine g_callV C (k := 24) (as := [.int p4]) (st := []) (m_X4_keysInTheEnd hp5) (g_hR (by omega)) (by decide) (by decide) (gc_24 Y _ _) rfl kM_X11_241 kI_X4_keysInTheEnd kS_X4_keysInTheEnd kN_X4 kC_X4_keysInTheEnd kD_X4_keysInTheEnd rfl (Nat.le_of_ble_eq_true rfl) dX11_need_44 (q := 47) rfl ?_
      show g_G 6 X Y 47 [(0, g_r Y 0), (1, .int x1), (2, .int x2)] [.int p5] M
      refine g_istore_n C dX11_need_47 (q := 48) rfl rfl (by decide) (lv' := [(3, .int p5), (0, g_r Y 0), (1, .int x1), (2, .int x2)]) rfl ?_
      refine g_iconst C (v := 0) dX11_need_48 (q := 49) rfl (by decide) ?_
      refine g_istore C dX11_need_49 (q := 51) rfl (by decide) (lv' := [(4, .int 0), (3, .int p5), (0, g_r Y 0), (1, .int x1), (2, .int x2)]) rfl ?_
      refine g_sub [2, 3, 1, 0] (lv' := [(0, g_r Y 0), (1, .int x1), (3, .int p5), (4, .int 0)]) rfl ?_
      refine t_X11_need_51 C E ?_ ?_ 20000000 x1 p5 0 M h
      · intro x5 M h
        try dsimp only at h
        refine g_iload C 0 dX11_need_74 (q := 76) rfl rfl ?_
        obtain rfl := Option.some.inj h
        exact g_iret C E dX11_need_76
      · intro M h
        try dsimp only at h
        refine g_aload_n C 0 dX11_need_83 (q := 84) rfl rfl rfl ?_
        refine g_get C (k := 0) (i := 0) (by decide) (gc_0 Y _ _) rfl kU_X11 (by decide) kF_X11_12 rfl dX11_need_84 (q := 87) rfl ?_
        refine g_ldc C (v := (-1000000004)) kK_X11_177 dX11_need_87 (q := 89) rfl ?_
        obtain ⟨p7, hp7, h⟩ := g_bind h
        refine g_callV C (k := 1) (as := [.int (-1000000004)]) (st := []) (m_X2_tell hp7) (g_hR (by omega)) (by decide) (by decide) (gc_1 Y _ _) rfl kM_X11_91 kI_X2_tell kS_X2_tell kN_X2 kC_X2_tell kD_X2_tell rfl (Nat.le_of_ble_eq_true rfl) dX11_need_89 (q := 92) rfl ?_
        show g_G 6 X Y 92 [(0, g_r Y 0)] [.int p7.1] p7.2
        obtain rfl := Option.some.inj h
        exact g_iret C E dX11_need_92
    · have h := hif.1 c
      clear hif
      refine g_sub [0] (lv' := [(0, g_r Y 0)]) rfl ?_
      exact t_X11_need_22 C E M h
theorem r_X11_need {x1 : Int32} {x2 : Int32} {M : g_M} {p : Int32 × g_M} (h : f_X11_need x1 x2 M = some p) : g_fr [2] [(1, 1)] M p.2 := by
  unfold f_X11_need at h
  have hf := g_fr.rfl (S := [2]) (T := [(1, 1)]) (M := M)
  obtain ⟨p1, -, h⟩ := g_bind h
  rcases g_ifs h with h | h
  · exact hf.trans (r_X11_need_22 M h)
  · obtain ⟨p3, -, h⟩ := g_bind h
    rcases g_ifs h with h | h
    · exact hf.trans (r_X11_need_22 M h)
    · obtain ⟨p4, -, h⟩ := g_bind h
      obtain ⟨p5, -, h⟩ := g_bind h
      refine hf.trans (r_X11_need_51 ?_ ?_ 20000000 x1 p5 0 M h)
      · intro x5 M h
        try dsimp only at h
        have hf := g_fr.rfl (S := [2]) (T := [(1, 1)]) (M := M)
        obtain rfl := Option.some.inj h
        exact hf
      · intro M h
        try dsimp only at h
        have hf := g_fr.rfl (S := [2]) (T := [(1, 1)]) (M := M)
        obtain ⟨p7, hp7, h⟩ := g_bind h
        have hf := hf.trans ((r_X2_tell hp7).mono (by decide) (by decide))
        obtain rfl := Option.some.inj h
        exact hf
def f_X11_elder_10 (M : g_M) : Option (Int32 × g_M) :=
  (f_X2_tell (-1000000001) M).bind fun p1 => some (p1.1, p1.2)
set_option maxRecDepth 100000 in
theorem t_X11_elder_10 {l : Launch} {X : g_X} {Y : g_Y} {p : Int32 × g_M} (C : g_C l (g_rm (1)) RX11 cX11_elder 2 X Y) (E : g_E (some .int) X Y (some (.int p.1)) p.2) (M : g_M) (h : f_X11_elder_10 M = some p) : g_G 2 X Y 10 [(0, g_r Y 0)] [] M := by
  unfold f_X11_elder_10 at h
  refine g_aload_n C 0 dX11_elder_10 (q := 11) rfl rfl rfl ?_
  refine g_get C (k := 0) (i := 0) (by decide) (gc_0 Y _ _) rfl kU_X11 (by decide) kF_X11_12 rfl dX11_elder_11 (q := 14) rfl ?_
  refine g_ldc C (v := (-1000000001)) kK_X11_90 dX11_elder_14 (q := 16) rfl ?_
  obtain ⟨p1, hp1, h⟩ := g_bind h
  refine g_callV C (k := 1) (as := [.int (-1000000001)]) (st := []) (m_X2_tell hp1) (g_hR (by decide)) (by decide) (by decide) (gc_1 Y _ _) rfl kM_X11_91 kI_X2_tell kS_X2_tell kN_X2 kC_X2_tell kD_X2_tell rfl (Nat.le_of_ble_eq_true rfl) dX11_elder_16 (q := 19) rfl ?_
  show g_G 2 X Y 19 [(0, g_r Y 0)] [.int p1.1] p1.2
  obtain rfl := Option.some.inj h
  exact g_iret C E dX11_elder_19
theorem r_X11_elder_10 {p : Int32 × g_M} (M : g_M) (h : f_X11_elder_10 M = some p) : g_fr [2, 4] [(1, 1), (3, 0), (3, 3)] M p.2 := by
  unfold f_X11_elder_10 at h
  have hf := g_fr.rfl (S := [2, 4]) (T := [(1, 1), (3, 0), (3, 3)]) (M := M)
  obtain ⟨p1, hp1, h⟩ := g_bind h
  have hf := hf.trans ((r_X2_tell hp1).mono (by decide) (by decide))
  obtain rfl := Option.some.inj h
  exact hf
def f_X11_elder (x1 : Int32) (M : g_M) : Option (Int32 × g_M) :=
  (if x1 < 0 then (f_X11_elder_10 M) else ((if x1 ≤ 9 then ((if (M.1 3 0) < 10 then ((f_X0_add x1 M).bind fun p2 => some (p2.1, p2.2)) else ((f_X2_tell (-1000000002) M).bind fun p3 => some (p3.1, p3.2)))) else (f_X11_elder_10 M))))
set_option maxRecDepth 100000 in
theorem m_X11_elder {l : Launch} {Y : g_Y} {x1 : Int32} {M : g_M} {p : Int32 × g_M} (h : f_X11_elder x1 M = some p) : g_R l Y (1) yX11_elder cX11_elder 2 (some .int) [g_r Y 0, .int x1] M (some (.int p.1)) p.2 := by
  unfold f_X11_elder at h
  refine g_R_of kP_X11 rfl (Nat.le_of_ble_eq_true rfl) (fun X C E => ?_)
  show g_G 2 X Y 0 [(0, g_r Y 0), (1, .int x1)] [] M
  refine g_iload_n C 1 dX11_elder_0 (q := 1) rfl rfl rfl ?_
  have hif := g_if h
  clear h
  refine g_if_lt C dX11_elder_1 (q := 4) (tgt := 10) rfl (by decide) (fun c => ?_) (fun c => ?_)
  · have h := hif.1 c
    clear hif
    refine g_sub [0] (lv' := [(0, g_r Y 0)]) rfl ?_
    exact t_X11_elder_10 C E M h
  · have h := hif.2 c
    clear hif
    refine g_iload_n C 1 dX11_elder_4 (q := 5) rfl rfl rfl ?_
    refine g_bipush C (v := 9) dX11_elder_5 (q := 7) rfl (by decide) ?_
    have hif := g_if h
    clear h
    refine g_icmp_le C dX11_elder_7 (q := 10) (tgt := 20) rfl (by decide) (fun c => ?_) (fun c => ?_)
    · have h := hif.1 c
      clear hif
      refine g_aload_n C 0 dX11_elder_20 (q := 21) rfl rfl rfl ?_
      refine g_get C (k := 0) (i := 1) (by decide) (gc_0 Y _ _) rfl kU_X11 (by decide) kF_X11_19 rfl dX11_elder_21 (q := 24) rfl ?_
      refine g_get C (k := 3) (i := 0) (by decide) (gc_3 Y _ _) rfl kU_X0 (by decide) kF_X11_95 rfl dX11_elder_24 (q := 27) rfl ?_
      refine g_bipush C (v := 10) dX11_elder_27 (q := 29) rfl (by decide) ?_
      have hif := g_if h
      clear h
      refine g_icmp_lt C dX11_elder_29 (q := 32) (tgt := 42) rfl (by decide) (fun c => ?_) (fun c => ?_)
      · have h := hif.1 c
        clear hif
        refine g_aload_n C 0 dX11_elder_42 (q := 43) rfl rfl rfl ?_
        refine g_get C (k := 0) (i := 1) (by decide) (gc_0 Y _ _) rfl kU_X11 (by decide) kF_X11_19 rfl dX11_elder_43 (q := 46) rfl ?_
        refine g_iload_n C 1 dX11_elder_46 (q := 47) rfl rfl rfl ?_
        obtain ⟨p2, hp2, h⟩ := g_bind h
        refine g_callV C (k := 3) (as := [.int x1]) (st := []) (m_X0_add hp2) (g_hR (by decide)) (by decide) (by decide) (gc_3 Y _ _) rfl kM_X11_100 kI_X0_add kS_X0_add kN_X0 kC_X0_add kD_X0_add rfl (Nat.le_of_ble_eq_true rfl) dX11_elder_47 (q := 50) rfl ?_
        show g_G 2 X Y 50 [(0, g_r Y 0), (1, .int x1)] [.int p2.1] p2.2
        obtain rfl := Option.some.inj h
        exact g_iret C E dX11_elder_50
      · have h := hif.2 c
        clear hif
        refine g_aload_n C 0 dX11_elder_32 (q := 33) rfl rfl rfl ?_
        refine g_get C (k := 0) (i := 0) (by decide) (gc_0 Y _ _) rfl kU_X11 (by decide) kF_X11_12 rfl dX11_elder_33 (q := 36) rfl ?_
        refine g_ldc C (v := (-1000000002)) kK_X11_99 dX11_elder_36 (q := 38) rfl ?_
        obtain ⟨p3, hp3, h⟩ := g_bind h
        refine g_callV C (k := 1) (as := [.int (-1000000002)]) (st := []) (m_X2_tell hp3) (g_hR (by decide)) (by decide) (by decide) (gc_1 Y _ _) rfl kM_X11_91 kI_X2_tell kS_X2_tell kN_X2 kC_X2_tell kD_X2_tell rfl (Nat.le_of_ble_eq_true rfl) dX11_elder_38 (q := 41) rfl ?_
        show g_G 2 X Y 41 [(0, g_r Y 0), (1, .int x1)] [.int p3.1] p3.2
        obtain rfl := Option.some.inj h
        exact g_iret C E dX11_elder_41
    · have h := hif.2 c
      clear hif
      refine g_sub [0] (lv' := [(0, g_r Y 0)]) rfl ?_
      exact t_X11_elder_10 C E M h
theorem r_X11_elder {x1 : Int32} {M : g_M} {p : Int32 × g_M} (h : f_X11_elder x1 M = some p) : g_fr [2, 4] [(1, 1), (3, 0), (3, 3)] M p.2 := by
  unfold f_X11_elder at h
  have hf := g_fr.rfl (S := [2, 4]) (T := [(1, 1), (3, 0), (3, 3)]) (M := M)
  rcases g_ifs h with h | h
  · exact hf.trans (r_X11_elder_10 M h)
  · rcases g_ifs h with h | h
    · rcases g_ifs h with h | h
      · obtain ⟨p2, hp2, h⟩ := g_bind h
        have hf := hf.trans ((r_X0_add hp2).mono (by decide) (by decide))
        obtain rfl := Option.some.inj h
        exact hf
      · obtain ⟨p3, hp3, h⟩ := g_bind h
        have hf := hf.trans ((r_X2_tell hp3).mono (by decide) (by decide))
        obtain rfl := Option.some.inj h
        exact hf
    · exact hf.trans (r_X11_elder_10 M h)
def f_X11_of (x1 : Int32) (x2 : Int32) (M : g_M) : Option (Int32 × g_M) :=
  (f_X0_has x1 M).bind fun p1 => (if p1 = 0 then ((f_X2_tell (-1000000001) M).bind fun p8 => some (p8.1, p8.2)) else ((if x2 = 0 then ((g_ld M 4 10 x1).bind fun v2 => some (v2, M)) else (if x2 = 1 then (some (((M.1 3 1) >>> (x1 &&& 31)) &&& 1, M)) else (if x2 = 2 then ((g_ld M 5 10 x1).bind fun v3 => some (v3, M)) else (if x2 = 3 then ((g_ld M 5 10 x1).bind fun v4 => (f_J6_bitCount_0f7a4 v4 M).bind fun p5 => some (p5, M)) else (if x2 = 4 then ((g_ld M 6 10 x1).bind fun v6 => some (v6, M)) else (f_X2_tell (-1000000001) M).bind fun p7 => some (p7.1, p7.2))))))))
set_option maxRecDepth 100000 in
theorem m_X11_of {l : Launch} {Y : g_Y} {x1 : Int32} {x2 : Int32} {M : g_M} {p : Int32 × g_M} (h : f_X11_of x1 x2 M = some p) : g_R l Y (1) yX11_of cX11_of 3 (some .int) [g_r Y 0, .int x1, .int x2] M (some (.int p.1)) p.2 := by
  unfold f_X11_of at h
  refine g_R_of kP_X11 rfl (Nat.le_of_ble_eq_true rfl) (fun X C E => ?_)
  show g_G 3 X Y 0 [(0, g_r Y 0), (1, .int x1), (2, .int x2)] [] M
  refine g_aload_n C 0 dX11_of_0 (q := 1) rfl rfl rfl ?_
  refine g_get C (k := 0) (i := 1) (by decide) (gc_0 Y _ _) rfl kU_X11 (by decide) kF_X11_19 rfl dX11_of_1 (q := 4) rfl ?_
  refine g_iload_n C 1 dX11_of_4 (q := 5) rfl rfl rfl ?_
  obtain ⟨p1, hp1, h⟩ := g_bind h
  refine g_callV C (k := 3) (as := [.int x1]) (st := []) (m_X0_has hp1) (g_hR (by decide)) (by decide) (by decide) (gc_3 Y _ _) rfl kM_X11_103 kI_X0_has kS_X0_has kN_X0 kC_X0_has kD_X0_has rfl (Nat.le_of_ble_eq_true rfl) dX11_of_5 (q := 8) rfl ?_
  show g_G 3 X Y 8 [(0, g_r Y 0), (1, .int x1), (2, .int x2)] [.int p1] M
  have hif := g_if h
  clear h
  refine g_if_ne C dX11_of_8 (q := 11) (tgt := 21) rfl (by decide) (fun c => ?_) (fun c => ?_)
  · have h := hif.2 c
    clear hif
    refine g_iload_n C 2 dX11_of_21 (q := 22) rfl rfl rfl ?_
    by_cases e : x2 = 0
    · rw [if_pos e] at h
      refine g_tabI C (off := 34) (tgt := 56) dX11_of_22 (by rw [e]; decide) (by rw [e]; decide) (by rw [e]; decide) (by decide) ?_
      refine g_aload_n C 0 dX11_of_56 (q := 57) rfl rfl rfl ?_
      refine g_get C (k := 0) (i := 1) (by decide) (gc_0 Y _ _) rfl kU_X11 (by decide) kF_X11_19 rfl dX11_of_57 (q := 60) rfl ?_
      refine g_get C (k := 3) (i := 4) (by decide) (gc_3 Y _ _) rfl kU_X0 (by decide) kF_X11_107 rfl dX11_of_60 (q := 63) rfl ?_
      refine g_iload_n C 1 dX11_of_63 (q := 64) rfl rfl rfl ?_
      obtain ⟨v2, hv2, h⟩ := g_bind h
      refine g_iald C (k := 4) (n := 10) (by decide) (gc_4 Y _ _) hv2 dX11_of_64 (q := 65) rfl ?_
      obtain rfl := Option.some.inj h
      exact g_iret C E dX11_of_65
    rw [if_neg e] at h
    have n0 := g_toI (n := 0) (v := 0) (by decide) e
    by_cases e : x2 = 1
    · rw [if_pos e] at h
      refine g_tabI C (off := 44) (tgt := 66) dX11_of_22 (by rw [e]; decide) (by rw [e]; decide) (by rw [e]; decide) (by decide) ?_
      refine g_aload_n C 0 dX11_of_66 (q := 67) rfl rfl rfl ?_
      refine g_get C (k := 0) (i := 1) (by decide) (gc_0 Y _ _) rfl kU_X11 (by decide) kF_X11_19 rfl dX11_of_67 (q := 70) rfl ?_
      refine g_get C (k := 3) (i := 1) (by decide) (gc_3 Y _ _) rfl kU_X0 (by decide) kF_X11_111 rfl dX11_of_70 (q := 73) rfl ?_
      refine g_iload_n C 1 dX11_of_73 (q := 74) rfl rfl rfl ?_
      refine g_ishr C dX11_of_74 (q := 75) rfl ?_
      refine g_iconst C (v := 1) dX11_of_75 (q := 76) rfl (by decide) ?_
      refine g_iand C dX11_of_76 (q := 77) rfl ?_
      obtain rfl := Option.some.inj h
      exact g_iret C E dX11_of_77
    rw [if_neg e] at h
    have n1 := g_toI (n := 1) (v := 1) (by decide) e
    by_cases e : x2 = 2
    · rw [if_pos e] at h
      refine g_tabI C (off := 56) (tgt := 78) dX11_of_22 (by rw [e]; decide) (by rw [e]; decide) (by rw [e]; decide) (by decide) ?_
      refine g_aload_n C 0 dX11_of_78 (q := 79) rfl rfl rfl ?_
      refine g_get C (k := 0) (i := 1) (by decide) (gc_0 Y _ _) rfl kU_X11 (by decide) kF_X11_19 rfl dX11_of_79 (q := 82) rfl ?_
      refine g_get C (k := 3) (i := 5) (by decide) (gc_3 Y _ _) rfl kU_X0 (by decide) kF_X11_114 rfl dX11_of_82 (q := 85) rfl ?_
      refine g_iload_n C 1 dX11_of_85 (q := 86) rfl rfl rfl ?_
      obtain ⟨v3, hv3, h⟩ := g_bind h
      refine g_iald C (k := 5) (n := 10) (by decide) (gc_5 Y _ _) hv3 dX11_of_86 (q := 87) rfl ?_
      obtain rfl := Option.some.inj h
      exact g_iret C E dX11_of_87
    rw [if_neg e] at h
    have n2 := g_toI (n := 2) (v := 2) (by decide) e
    by_cases e : x2 = 3
    · rw [if_pos e] at h
      refine g_tabI C (off := 66) (tgt := 88) dX11_of_22 (by rw [e]; decide) (by rw [e]; decide) (by rw [e]; decide) (by decide) ?_
      refine g_aload_n C 0 dX11_of_88 (q := 89) rfl rfl rfl ?_
      refine g_get C (k := 0) (i := 1) (by decide) (gc_0 Y _ _) rfl kU_X11 (by decide) kF_X11_19 rfl dX11_of_89 (q := 92) rfl ?_
      refine g_get C (k := 3) (i := 5) (by decide) (gc_3 Y _ _) rfl kU_X0 (by decide) kF_X11_114 rfl dX11_of_92 (q := 95) rfl ?_
      refine g_iload_n C 1 dX11_of_95 (q := 96) rfl rfl rfl ?_
      obtain ⟨v4, hv4, h⟩ := g_bind h
      refine g_iald C (k := 5) (n := 10) (by decide) (gc_5 Y _ _) hv4 dX11_of_96 (q := 97) rfl ?_
      obtain ⟨p5, hp5, h⟩ := g_bind h
      refine g_callS C (as := [.int v4]) (st := []) (m_J6_bitCount_0f7a4 hp5) (g_hR (by decide)) (by decide) kM_X11_117 kT_J6_bitCount_0f7a4 kN_J6 kC_J6_bitCount_0f7a4 kD_J6_bitCount_0f7a4 rfl (Nat.le_of_ble_eq_true rfl) dX11_of_97 (q := 100) rfl ?_
      show g_G 3 X Y 100 [(0, g_r Y 0), (1, .int x1), (2, .int x2)] [.int p5] M
      obtain rfl := Option.some.inj h
      exact g_iret C E dX11_of_100
    rw [if_neg e] at h
    have n3 := g_toI (n := 3) (v := 3) (by decide) e
    by_cases e : x2 = 4
    · rw [if_pos e] at h
      refine g_tabI C (off := 79) (tgt := 101) dX11_of_22 (by rw [e]; decide) (by rw [e]; decide) (by rw [e]; decide) (by decide) ?_
      refine g_aload_n C 0 dX11_of_101 (q := 102) rfl rfl rfl ?_
      refine g_get C (k := 0) (i := 1) (by decide) (gc_0 Y _ _) rfl kU_X11 (by decide) kF_X11_19 rfl dX11_of_102 (q := 105) rfl ?_
      refine g_get C (k := 3) (i := 6) (by decide) (gc_3 Y _ _) rfl kU_X0 (by decide) kF_X11_122 rfl dX11_of_105 (q := 108) rfl ?_
      refine g_iload_n C 1 dX11_of_108 (q := 109) rfl rfl rfl ?_
      obtain ⟨v6, hv6, h⟩ := g_bind h
      refine g_iald C (k := 6) (n := 10) (by decide) (gc_6 Y _ _) hv6 dX11_of_109 (q := 110) rfl ?_
      obtain rfl := Option.some.inj h
      exact g_iret C E dX11_of_110
    rw [if_neg e] at h
    have n4 := g_toI (n := 4) (v := 4) (by decide) e
    have hdef : g_G 3 X Y 111 [(0, g_r Y 0), (1, .int x1), (2, .int x2)] [] M := by
      refine g_aload_n C 0 dX11_of_111 (q := 112) rfl rfl rfl ?_
      refine g_get C (k := 0) (i := 0) (by decide) (gc_0 Y _ _) rfl kU_X11 (by decide) kF_X11_12 rfl dX11_of_112 (q := 115) rfl ?_
      refine g_ldc C (v := (-1000000001)) kK_X11_90 dX11_of_115 (q := 117) rfl ?_
      obtain ⟨p7, hp7, h⟩ := g_bind h
      refine g_callV C (k := 1) (as := [.int (-1000000001)]) (st := []) (m_X2_tell hp7) (g_hR (by decide)) (by decide) (by decide) (gc_1 Y _ _) rfl kM_X11_91 kI_X2_tell kS_X2_tell kN_X2 kC_X2_tell kD_X2_tell rfl (Nat.le_of_ble_eq_true rfl) dX11_of_117 (q := 120) rfl ?_
      show g_G 3 X Y 120 [(0, g_r Y 0), (1, .int x1), (2, .int x2)] [.int p7.1] p7.2
      obtain rfl := Option.some.inj h
      exact g_iret C E dX11_of_120
    refine g_tabO C (tgt := 111) dX11_of_22 (by omega) (by decide) hdef
  · have h := hif.1 c
    clear hif
    refine g_aload_n C 0 dX11_of_11 (q := 12) rfl rfl rfl ?_
    refine g_get C (k := 0) (i := 0) (by decide) (gc_0 Y _ _) rfl kU_X11 (by decide) kF_X11_12 rfl dX11_of_12 (q := 15) rfl ?_
    refine g_ldc C (v := (-1000000001)) kK_X11_90 dX11_of_15 (q := 17) rfl ?_
    obtain ⟨p8, hp8, h⟩ := g_bind h
    refine g_callV C (k := 1) (as := [.int (-1000000001)]) (st := []) (m_X2_tell hp8) (g_hR (by decide)) (by decide) (by decide) (gc_1 Y _ _) rfl kM_X11_91 kI_X2_tell kS_X2_tell kN_X2 kC_X2_tell kD_X2_tell rfl (Nat.le_of_ble_eq_true rfl) dX11_of_17 (q := 20) rfl ?_
    show g_G 3 X Y 20 [(0, g_r Y 0), (1, .int x1), (2, .int x2)] [.int p8.1] p8.2
    obtain rfl := Option.some.inj h
    exact g_iret C E dX11_of_20
theorem r_X11_of {x1 : Int32} {x2 : Int32} {M : g_M} {p : Int32 × g_M} (h : f_X11_of x1 x2 M = some p) : g_fr [2] [(1, 1)] M p.2 := by
  unfold f_X11_of at h
  have hf := g_fr.rfl (S := [2]) (T := [(1, 1)]) (M := M)
  obtain ⟨p1, -, h⟩ := g_bind h
  rcases g_ifs h with h | h
  · obtain ⟨p8, hp8, h⟩ := g_bind h
    have hf := hf.trans ((r_X2_tell hp8).mono (by decide) (by decide))
    obtain rfl := Option.some.inj h
    exact hf
  · rcases g_ifs h with h | h
    · obtain ⟨v2, -, h⟩ := g_bind h
      obtain rfl := Option.some.inj h
      exact hf
    rcases g_ifs h with h | h
    · obtain rfl := Option.some.inj h
      exact hf
    rcases g_ifs h with h | h
    · obtain ⟨v3, -, h⟩ := g_bind h
      obtain rfl := Option.some.inj h
      exact hf
    rcases g_ifs h with h | h
    · obtain ⟨v4, -, h⟩ := g_bind h
      obtain ⟨p5, -, h⟩ := g_bind h
      obtain rfl := Option.some.inj h
      exact hf
    rcases g_ifs h with h | h
    · obtain ⟨v6, -, h⟩ := g_bind h
      obtain rfl := Option.some.inj h
      exact hf
    obtain ⟨p7, hp7, h⟩ := g_bind h
    have hf := hf.trans ((r_X2_tell hp7).mono (by decide) (by decide))
    obtain rfl := Option.some.inj h
    exact hf
def f_X11_gone (x1 : Int32) (x2 : Int32) (M : g_M) : Option (Int32 × g_M) :=
  (f_X0_has x1 M).bind fun p1 => (if p1 = 0 then ((f_X2_tell (-1000000001) M).bind fun p3 => some (p3.1, p3.2)) else ((f_X0_setGone x1 x2 M).bind fun p2 => (if p2.1 = 0 then (some (0, p2.2)) else (some (1, p2.2)))))
set_option maxRecDepth 100000 in
theorem m_X11_gone {l : Launch} {Y : g_Y} {x1 : Int32} {x2 : Int32} {M : g_M} {p : Int32 × g_M} (h : f_X11_gone x1 x2 M = some p) : g_R l Y (1) yX11_gone cX11_gone 3 (some .int) [g_r Y 0, .int x1, .int x2] M (some (.int p.1)) p.2 := by
  unfold f_X11_gone at h
  refine g_R_of kP_X11 rfl (Nat.le_of_ble_eq_true rfl) (fun X C E => ?_)
  show g_G 3 X Y 0 [(0, g_r Y 0), (1, .int x1), (2, .int x2)] [] M
  refine g_aload_n C 0 dX11_gone_0 (q := 1) rfl rfl rfl ?_
  refine g_get C (k := 0) (i := 1) (by decide) (gc_0 Y _ _) rfl kU_X11 (by decide) kF_X11_19 rfl dX11_gone_1 (q := 4) rfl ?_
  refine g_iload_n C 1 dX11_gone_4 (q := 5) rfl rfl rfl ?_
  obtain ⟨p1, hp1, h⟩ := g_bind h
  refine g_callV C (k := 3) (as := [.int x1]) (st := []) (m_X0_has hp1) (g_hR (by decide)) (by decide) (by decide) (gc_3 Y _ _) rfl kM_X11_103 kI_X0_has kS_X0_has kN_X0 kC_X0_has kD_X0_has rfl (Nat.le_of_ble_eq_true rfl) dX11_gone_5 (q := 8) rfl ?_
  show g_G 3 X Y 8 [(0, g_r Y 0), (1, .int x1), (2, .int x2)] [.int p1] M
  have hif := g_if h
  clear h
  refine g_if_ne C dX11_gone_8 (q := 11) (tgt := 21) rfl (by decide) (fun c => ?_) (fun c => ?_)
  · have h := hif.2 c
    clear hif
    refine g_aload_n C 0 dX11_gone_21 (q := 22) rfl rfl rfl ?_
    refine g_get C (k := 0) (i := 1) (by decide) (gc_0 Y _ _) rfl kU_X11 (by decide) kF_X11_19 rfl dX11_gone_22 (q := 25) rfl ?_
    refine g_iload_n C 1 dX11_gone_25 (q := 26) rfl rfl rfl ?_
    refine g_iload_n C 2 dX11_gone_26 (q := 27) rfl rfl rfl ?_
    obtain ⟨p2, hp2, h⟩ := g_bind h
    refine g_callV C (k := 3) (as := [.int x1, .int x2]) (st := []) (m_X0_setGone hp2) (g_hR (by decide)) (by decide) (by decide) (gc_3 Y _ _) rfl kM_X11_125 kI_X0_setGone kS_X0_setGone kN_X0 kC_X0_setGone kD_X0_setGone rfl (Nat.le_of_ble_eq_true rfl) dX11_gone_27 (q := 30) rfl ?_
    show g_G 3 X Y 30 [(0, g_r Y 0), (1, .int x1), (2, .int x2)] [.int p2.1] p2.2
    have hif := g_if h
    clear h
    refine g_if_eq C dX11_gone_30 (q := 33) (tgt := 37) rfl (by decide) (fun c => ?_) (fun c => ?_)
    · have h := hif.1 c
      clear hif
      refine g_iconst C (v := 0) dX11_gone_37 (q := 38) rfl (by decide) ?_
      obtain rfl := Option.some.inj h
      exact g_iret C E dX11_gone_38
    · have h := hif.2 c
      clear hif
      refine g_iconst C (v := 1) dX11_gone_33 (q := 34) rfl (by decide) ?_
      refine g_goto C dX11_gone_34 (tgt := 38) (by decide) ?_
      obtain rfl := Option.some.inj h
      exact g_iret C E dX11_gone_38
  · have h := hif.1 c
    clear hif
    refine g_aload_n C 0 dX11_gone_11 (q := 12) rfl rfl rfl ?_
    refine g_get C (k := 0) (i := 0) (by decide) (gc_0 Y _ _) rfl kU_X11 (by decide) kF_X11_12 rfl dX11_gone_12 (q := 15) rfl ?_
    refine g_ldc C (v := (-1000000001)) kK_X11_90 dX11_gone_15 (q := 17) rfl ?_
    obtain ⟨p3, hp3, h⟩ := g_bind h
    refine g_callV C (k := 1) (as := [.int (-1000000001)]) (st := []) (m_X2_tell hp3) (g_hR (by decide)) (by decide) (by decide) (gc_1 Y _ _) rfl kM_X11_91 kI_X2_tell kS_X2_tell kN_X2 kC_X2_tell kD_X2_tell rfl (Nat.le_of_ble_eq_true rfl) dX11_gone_17 (q := 20) rfl ?_
    show g_G 3 X Y 20 [(0, g_r Y 0), (1, .int x1), (2, .int x2)] [.int p3.1] p3.2
    obtain rfl := Option.some.inj h
    exact g_iret C E dX11_gone_20
theorem r_X11_gone {x1 : Int32} {x2 : Int32} {M : g_M} {p : Int32 × g_M} (h : f_X11_gone x1 x2 M = some p) : g_fr [2] [(1, 1), (3, 1), (3, 3)] M p.2 := by
  unfold f_X11_gone at h
  have hf := g_fr.rfl (S := [2]) (T := [(1, 1), (3, 1), (3, 3)]) (M := M)
  obtain ⟨p1, -, h⟩ := g_bind h
  rcases g_ifs h with h | h
  · obtain ⟨p3, hp3, h⟩ := g_bind h
    have hf := hf.trans ((r_X2_tell hp3).mono (by decide) (by decide))
    obtain rfl := Option.some.inj h
    exact hf
  · obtain ⟨p2, hp2, h⟩ := g_bind h
    have hf := hf.trans ((r_X0_setGone hp2).mono (by decide) (by decide))
    rcases g_ifs h with h | h
    · obtain rfl := Option.some.inj h
      exact hf
    · obtain rfl := Option.some.inj h
      exact hf
def f_X11_feed_10 (M : g_M) : Option (Int32 × g_M) :=
  (f_X2_tell (-1000000001) M).bind fun p1 => some (p1.1, p1.2)
set_option maxRecDepth 100000 in
theorem t_X11_feed_10 {l : Launch} {X : g_X} {Y : g_Y} {p : Int32 × g_M} (C : g_C l (g_rm (1)) RX11 cX11_feed 3 X Y) (E : g_E (some .int) X Y (some (.int p.1)) p.2) (M : g_M) (h : f_X11_feed_10 M = some p) : g_G 3 X Y 10 [(0, g_r Y 0)] [] M := by
  unfold f_X11_feed_10 at h
  refine g_aload_n C 0 dX11_feed_10 (q := 11) rfl rfl rfl ?_
  refine g_get C (k := 0) (i := 0) (by decide) (gc_0 Y _ _) rfl kU_X11 (by decide) kF_X11_12 rfl dX11_feed_11 (q := 14) rfl ?_
  refine g_ldc C (v := (-1000000001)) kK_X11_90 dX11_feed_14 (q := 16) rfl ?_
  obtain ⟨p1, hp1, h⟩ := g_bind h
  refine g_callV C (k := 1) (as := [.int (-1000000001)]) (st := []) (m_X2_tell hp1) (g_hR (by decide)) (by decide) (by decide) (gc_1 Y _ _) rfl kM_X11_91 kI_X2_tell kS_X2_tell kN_X2 kC_X2_tell kD_X2_tell rfl (Nat.le_of_ble_eq_true rfl) dX11_feed_16 (q := 19) rfl ?_
  show g_G 3 X Y 19 [(0, g_r Y 0)] [.int p1.1] p1.2
  obtain rfl := Option.some.inj h
  exact g_iret C E dX11_feed_19
theorem r_X11_feed_10 {p : Int32 × g_M} (M : g_M) (h : f_X11_feed_10 M = some p) : g_fr [2, 34] [(1, 1), (33, 1)] M p.2 := by
  unfold f_X11_feed_10 at h
  have hf := g_fr.rfl (S := [2, 34]) (T := [(1, 1), (33, 1)]) (M := M)
  obtain ⟨p1, hp1, h⟩ := g_bind h
  have hf := hf.trans ((r_X2_tell hp1).mono (by decide) (by decide))
  obtain rfl := Option.some.inj h
  exact hf
def f_X11_feed (x1 : Int32) (x2 : Int32) (M : g_M) : Option (Int32 × g_M) :=
  (if x2 < 1 then (f_X11_feed_10 M) else ((if x2 ≤ 4 then ((if ((M.1 33 1) + x2) ≤ 120 then ((f_X8_add x1 x2 M).bind fun p2 => some (p2.1, p2.2)) else ((f_X2_tell (-1000000002) M).bind fun p3 => some (p3.1, p3.2)))) else (f_X11_feed_10 M))))
set_option maxRecDepth 100000 in
theorem m_X11_feed {l : Launch} {Y : g_Y} {x1 : Int32} {x2 : Int32} {M : g_M} {p : Int32 × g_M} (h : f_X11_feed x1 x2 M = some p) : g_R l Y (1) yX11_feed cX11_feed 3 (some .int) [g_r Y 0, .int x1, .int x2] M (some (.int p.1)) p.2 := by
  unfold f_X11_feed at h
  refine g_R_of kP_X11 rfl (Nat.le_of_ble_eq_true rfl) (fun X C E => ?_)
  show g_G 3 X Y 0 [(0, g_r Y 0), (1, .int x1), (2, .int x2)] [] M
  refine g_iload_n C 2 dX11_feed_0 (q := 1) rfl rfl rfl ?_
  refine g_iconst C (v := 1) dX11_feed_1 (q := 2) rfl (by decide) ?_
  have hif := g_if h
  clear h
  refine g_icmp_lt C dX11_feed_2 (q := 5) (tgt := 10) rfl (by decide) (fun c => ?_) (fun c => ?_)
  · have h := hif.1 c
    clear hif
    refine g_sub [0] (lv' := [(0, g_r Y 0)]) rfl ?_
    exact t_X11_feed_10 C E M h
  · have h := hif.2 c
    clear hif
    refine g_iload_n C 2 dX11_feed_5 (q := 6) rfl rfl rfl ?_
    refine g_iconst C (v := 4) dX11_feed_6 (q := 7) rfl (by decide) ?_
    have hif := g_if h
    clear h
    refine g_icmp_le C dX11_feed_7 (q := 10) (tgt := 20) rfl (by decide) (fun c => ?_) (fun c => ?_)
    · have h := hif.1 c
      clear hif
      refine g_aload_n C 0 dX11_feed_20 (q := 21) rfl rfl rfl ?_
      refine g_get C (k := 0) (i := 10) (by decide) (gc_0 Y _ _) rfl kU_X11 (by decide) kF_X11_51 rfl dX11_feed_21 (q := 24) rfl ?_
      refine g_get C (k := 33) (i := 1) (by decide) (gc_33 Y _ _) rfl kU_X8 (by decide) kF_X11_129 rfl dX11_feed_24 (q := 27) rfl ?_
      refine g_iload_n C 2 dX11_feed_27 (q := 28) rfl rfl rfl ?_
      refine g_iadd C dX11_feed_28 (q := 29) rfl ?_
      refine g_bipush C (v := 120) dX11_feed_29 (q := 31) rfl (by decide) ?_
      have hif := g_if h
      clear h
      refine g_icmp_le C dX11_feed_31 (q := 34) (tgt := 44) rfl (by decide) (fun c => ?_) (fun c => ?_)
      · have h := hif.1 c
        clear hif
        refine g_aload_n C 0 dX11_feed_44 (q := 45) rfl rfl rfl ?_
        refine g_get C (k := 0) (i := 10) (by decide) (gc_0 Y _ _) rfl kU_X11 (by decide) kF_X11_51 rfl dX11_feed_45 (q := 48) rfl ?_
        refine g_iload_n C 1 dX11_feed_48 (q := 49) rfl rfl rfl ?_
        refine g_iload_n C 2 dX11_feed_49 (q := 50) rfl rfl rfl ?_
        obtain ⟨p2, hp2, h⟩ := g_bind h
        refine g_callV C (k := 33) (as := [.int x1, .int x2]) (st := []) (m_X8_add hp2) (g_hR (by decide)) (by decide) (by decide) (gc_33 Y _ _) rfl kM_X11_134 kI_X8_add kS_X8_add kN_X8 kC_X8_add kD_X8_add rfl (Nat.le_of_ble_eq_true rfl) dX11_feed_50 (q := 53) rfl ?_
        show g_G 3 X Y 53 [(0, g_r Y 0), (1, .int x1), (2, .int x2)] [.int p2.1] p2.2
        obtain rfl := Option.some.inj h
        exact g_iret C E dX11_feed_53
      · have h := hif.2 c
        clear hif
        refine g_aload_n C 0 dX11_feed_34 (q := 35) rfl rfl rfl ?_
        refine g_get C (k := 0) (i := 0) (by decide) (gc_0 Y _ _) rfl kU_X11 (by decide) kF_X11_12 rfl dX11_feed_35 (q := 38) rfl ?_
        refine g_ldc C (v := (-1000000002)) kK_X11_99 dX11_feed_38 (q := 40) rfl ?_
        obtain ⟨p3, hp3, h⟩ := g_bind h
        refine g_callV C (k := 1) (as := [.int (-1000000002)]) (st := []) (m_X2_tell hp3) (g_hR (by decide)) (by decide) (by decide) (gc_1 Y _ _) rfl kM_X11_91 kI_X2_tell kS_X2_tell kN_X2 kC_X2_tell kD_X2_tell rfl (Nat.le_of_ble_eq_true rfl) dX11_feed_40 (q := 43) rfl ?_
        show g_G 3 X Y 43 [(0, g_r Y 0), (1, .int x1), (2, .int x2)] [.int p3.1] p3.2
        obtain rfl := Option.some.inj h
        exact g_iret C E dX11_feed_43
    · have h := hif.2 c
      clear hif
      refine g_sub [0] (lv' := [(0, g_r Y 0)]) rfl ?_
      exact t_X11_feed_10 C E M h
theorem r_X11_feed {x1 : Int32} {x2 : Int32} {M : g_M} {p : Int32 × g_M} (h : f_X11_feed x1 x2 M = some p) : g_fr [2, 34] [(1, 1), (33, 1)] M p.2 := by
  unfold f_X11_feed at h
  have hf := g_fr.rfl (S := [2, 34]) (T := [(1, 1), (33, 1)]) (M := M)
  rcases g_ifs h with h | h
  · exact hf.trans (r_X11_feed_10 M h)
  · rcases g_ifs h with h | h
    · rcases g_ifs h with h | h
      · obtain ⟨p2, hp2, h⟩ := g_bind h
        have hf := hf.trans ((r_X8_add hp2).mono (by decide) (by decide))
        obtain rfl := Option.some.inj h
        exact hf
      · obtain ⟨p3, hp3, h⟩ := g_bind h
        have hf := hf.trans ((r_X2_tell hp3).mono (by decide) (by decide))
        obtain rfl := Option.some.inj h
        exact hf
    · exact hf.trans (r_X11_feed_10 M h)
def f_X11_wipe (M : g_M) : Option (Int32 × g_M) :=
  (f_X8_clear M).bind fun p1 => some (p1.1, p1.2)
set_option maxRecDepth 100000 in
theorem m_X11_wipe {l : Launch} {Y : g_Y} {M : g_M} {p : Int32 × g_M} (h : f_X11_wipe M = some p) : g_R l Y (1) yX11_wipe cX11_wipe 1 (some .int) [g_r Y 0] M (some (.int p.1)) p.2 := by
  unfold f_X11_wipe at h
  refine g_R_of kP_X11 rfl (Nat.le_of_ble_eq_true rfl) (fun X C E => ?_)
  show g_G 1 X Y 0 [(0, g_r Y 0)] [] M
  refine g_aload_n C 0 dX11_wipe_0 (q := 1) rfl rfl rfl ?_
  refine g_get C (k := 0) (i := 10) (by decide) (gc_0 Y _ _) rfl kU_X11 (by decide) kF_X11_51 rfl dX11_wipe_1 (q := 4) rfl ?_
  obtain ⟨p1, hp1, h⟩ := g_bind h
  refine g_callV C (k := 33) (as := []) (st := []) (m_X8_clear hp1) (g_hR (by decide)) (by decide) (by decide) (gc_33 Y _ _) rfl kM_X11_137 kI_X8_clear kS_X8_clear kN_X8 kC_X8_clear kD_X8_clear rfl (Nat.le_of_ble_eq_true rfl) dX11_wipe_4 (q := 7) rfl ?_
  show g_G 1 X Y 7 [(0, g_r Y 0)] [.int p1.1] p1.2
  obtain rfl := Option.some.inj h
  exact g_iret C E dX11_wipe_7
theorem r_X11_wipe {M : g_M} {p : Int32 × g_M} (h : f_X11_wipe M = some p) : g_fr [] [(33, 1)] M p.2 := by
  unfold f_X11_wipe at h
  have hf := g_fr.rfl (S := []) (T := [(33, 1)]) (M := M)
  obtain ⟨p1, hp1, h⟩ := g_bind h
  have hf := hf.trans ((r_X8_clear hp1).mono (by decide) (by decide))
  obtain rfl := Option.some.inj h
  exact hf
def f_X11_text (M : g_M) : Option (Int32 × g_M) :=
  (if (M.1 13 0) < 8 then ((f_X9_readTape M).bind fun p1 => (if p1.1 < 0 then ((f_X8_clear p1.2).bind fun p2 => (f_X10_add_13_35 (p2.2.1 32 2) p2.2).bind fun p3 => some (p3.1, p3.2)) else (some ((-1) - p1.1, p1.2)))) else ((f_X2_tell (-1000000002) M).bind fun p4 => some (p4.1, p4.2)))
set_option maxRecDepth 100000 in
theorem m_X11_text {l : Launch} {Y : g_Y} {M : g_M} {p : Int32 × g_M} (h : f_X11_text M = some p) : g_R l Y (201) yX11_text cX11_text 2 (some .int) [g_r Y 0] M (some (.int p.1)) p.2 := by
  unfold f_X11_text at h
  refine g_R_of kP_X11 rfl (Nat.le_of_ble_eq_true rfl) (fun X C E => ?_)
  show g_G 2 X Y 0 [(0, g_r Y 0)] [] M
  refine g_aload_n C 0 dX11_text_0 (q := 1) rfl rfl rfl ?_
  refine g_get C (k := 0) (i := 2) (by decide) (gc_0 Y _ _) rfl kU_X11 (by decide) kF_X11_26 rfl dX11_text_1 (q := 4) rfl ?_
  refine g_get C (k := 13) (i := 0) (by decide) (gc_13 Y _ _) rfl kU_X10 (by decide) kF_X11_141 rfl dX11_text_4 (q := 7) rfl ?_
  refine g_bipush C (v := 8) dX11_text_7 (q := 9) rfl (by decide) ?_
  have hif := g_if h
  clear h
  refine g_icmp_lt C dX11_text_9 (q := 12) (tgt := 22) rfl (by decide) (fun c => ?_) (fun c => ?_)
  · have h := hif.1 c
    clear hif
    refine g_aload_n C 0 dX11_text_22 (q := 23) rfl rfl rfl ?_
    refine g_get C (k := 0) (i := 9) (by decide) (gc_0 Y _ _) rfl kU_X11 (by decide) kF_X11_43 rfl dX11_text_23 (q := 26) rfl ?_
    obtain ⟨p1, hp1, h⟩ := g_bind h
    refine g_callV C (k := 32) (as := []) (st := []) (m_X9_readTape hp1) (g_hR (by decide)) (by decide) (by decide) (gc_32 Y _ _) rfl kM_X11_142 kI_X9_readTape kS_X9_readTape kN_X9 kC_X9_readTape kD_X9_readTape rfl (Nat.le_of_ble_eq_true rfl) dX11_text_26 (q := 29) rfl ?_
    show g_G 2 X Y 29 [(0, g_r Y 0)] [.int p1.1] p1.2
    refine g_istore_n C dX11_text_29 (q := 30) rfl rfl (by decide) (lv' := [(1, .int p1.1), (0, g_r Y 0)]) rfl ?_
    refine g_iload_n C 0 dX11_text_30 (q := 31) rfl rfl rfl ?_
    have hif := g_if h
    clear h
    refine g_if_lt C dX11_text_31 (q := 34) (tgt := 38) rfl (by decide) (fun c => ?_) (fun c => ?_)
    · have h := hif.1 c
      clear hif
      refine g_aload_n C 1 dX11_text_38 (q := 39) rfl rfl rfl ?_
      refine g_get C (k := 0) (i := 10) (by decide) (gc_0 Y _ _) rfl kU_X11 (by decide) kF_X11_51 rfl dX11_text_39 (q := 42) rfl ?_
      obtain ⟨p2, hp2, h⟩ := g_bind h
      refine g_callV C (k := 33) (as := []) (st := []) (m_X8_clear hp2) (g_hR (by decide)) (by decide) (by decide) (gc_33 Y _ _) rfl kM_X11_137 kI_X8_clear kS_X8_clear kN_X8 kC_X8_clear kD_X8_clear rfl (Nat.le_of_ble_eq_true rfl) dX11_text_42 (q := 45) rfl ?_
      show g_G 2 X Y 45 [(1, .int p1.1), (0, g_r Y 0)] [.int p2.1] p2.2
      refine g_pop C dX11_text_45 (q := 46) rfl rfl ?_
      refine g_aload_n C 1 dX11_text_46 (q := 47) rfl rfl rfl ?_
      refine g_get C (k := 0) (i := 2) (by decide) (gc_0 Y _ _) rfl kU_X11 (by decide) kF_X11_26 rfl dX11_text_47 (q := 50) rfl ?_
      refine g_aload_n C 1 dX11_text_50 (q := 51) rfl rfl rfl ?_
      refine g_get C (k := 0) (i := 9) (by decide) (gc_0 Y _ _) rfl kU_X11 (by decide) kF_X11_43 rfl dX11_text_51 (q := 54) rfl ?_
      refine g_get C (k := 32) (i := 1) (by decide) (gc_32 Y _ _) rfl kU_X9 (by decide) kF_X11_145 rfl dX11_text_54 (q := 57) rfl ?_
      refine g_aload_n C 1 dX11_text_57 (q := 58) rfl rfl rfl ?_
      refine g_get C (k := 0) (i := 9) (by decide) (gc_0 Y _ _) rfl kU_X11 (by decide) kF_X11_43 rfl dX11_text_58 (q := 61) rfl ?_
      refine g_get C (k := 32) (i := 2) (by decide) (gc_32 Y _ _) rfl kU_X9 (by decide) kF_X11_148 rfl dX11_text_61 (q := 64) rfl ?_
      obtain ⟨p3, hp3, h⟩ := g_bind h
      refine g_callV C (k := 13) (as := [g_r Y 35, .int (p2.2.1 32 2)]) (st := []) (m_X10_add_13_35 hp3) (g_hR (by decide)) (by decide) (by decide) (gc_13 Y _ _) rfl kM_X11_149 kI_X10_add kS_X10_add kN_X10 kC_X10_add kD_X10_add rfl (Nat.le_of_ble_eq_true rfl) dX11_text_64 (q := 67) rfl ?_
      show g_G 2 X Y 67 [(1, .int p1.1), (0, g_r Y 0)] [.int p3.1] p3.2
      obtain rfl := Option.some.inj h
      exact g_iret C E dX11_text_67
    · have h := hif.2 c
      clear hif
      refine g_iconst C (v := (-1)) dX11_text_34 (q := 35) rfl (by decide) ?_
      refine g_iload_n C 0 dX11_text_35 (q := 36) rfl rfl rfl ?_
      refine g_isub C dX11_text_36 (q := 37) rfl ?_
      obtain rfl := Option.some.inj h
      exact g_iret C E dX11_text_37
  · have h := hif.2 c
    clear hif
    refine g_aload_n C 0 dX11_text_12 (q := 13) rfl rfl rfl ?_
    refine g_get C (k := 0) (i := 0) (by decide) (gc_0 Y _ _) rfl kU_X11 (by decide) kF_X11_12 rfl dX11_text_13 (q := 16) rfl ?_
    refine g_ldc C (v := (-1000000002)) kK_X11_99 dX11_text_16 (q := 18) rfl ?_
    obtain ⟨p4, hp4, h⟩ := g_bind h
    refine g_callV C (k := 1) (as := [.int (-1000000002)]) (st := []) (m_X2_tell hp4) (g_hR (by decide)) (by decide) (by decide) (gc_1 Y _ _) rfl kM_X11_91 kI_X2_tell kS_X2_tell kN_X2 kC_X2_tell kD_X2_tell rfl (Nat.le_of_ble_eq_true rfl) dX11_text_18 (q := 21) rfl ?_
    show g_G 2 X Y 21 [(0, g_r Y 0)] [.int p4.1] p4.2
    obtain rfl := Option.some.inj h
    exact g_iret C E dX11_text_21
theorem r_X11_text {M : g_M} {p : Int32 × g_M} (h : f_X11_text M = some p) : g_fr [2, 14, 16, 17, 18, 19, 20, 21, 22, 23, 35, 77, 78, 79] [(1, 1), (13, 0), (13, 1), (13, 2), (32, 2), (32, 6), (32, 7), (33, 1)] M p.2 := by
  unfold f_X11_text at h
  have hf := g_fr.rfl (S := [2, 14, 16, 17, 18, 19, 20, 21, 22, 23, 35, 77, 78, 79]) (T := [(1, 1), (13, 0), (13, 1), (13, 2), (32, 2), (32, 6), (32, 7), (33, 1)]) (M := M)
  rcases g_ifs h with h | h
  · obtain ⟨p1, hp1, h⟩ := g_bind h
    have hf := hf.trans ((r_X9_readTape hp1).mono (by decide) (by decide))
    rcases g_ifs h with h | h
    · obtain ⟨p2, hp2, h⟩ := g_bind h
      have hf := hf.trans ((r_X8_clear hp2).mono (by decide) (by decide))
      obtain ⟨p3, hp3, h⟩ := g_bind h
      have hf := hf.trans ((r_X10_add_13_35 hp3).mono (by decide) (by decide))
      obtain rfl := Option.some.inj h
      exact hf
    · obtain rfl := Option.some.inj h
      exact hf
  · obtain ⟨p4, hp4, h⟩ := g_bind h
    have hf := hf.trans ((r_X2_tell hp4).mono (by decide) (by decide))
    obtain rfl := Option.some.inj h
    exact hf
def f_X11_use (x1 : Int32) (M : g_M) : Option (Int32 × g_M) :=
  (f_X10_has x1 M).bind fun p1 => (if p1 = 0 then ((f_X2_tell (-1000000001) M).bind fun p3 => some (p3.1, p3.2)) else ((f_X10_setUsed x1 M).bind fun p2 => some (p2.1, p2.2)))
set_option maxRecDepth 100000 in
theorem m_X11_use {l : Launch} {Y : g_Y} {x1 : Int32} {M : g_M} {p : Int32 × g_M} (h : f_X11_use x1 M = some p) : g_R l Y (1) yX11_use cX11_use 2 (some .int) [g_r Y 0, .int x1] M (some (.int p.1)) p.2 := by
  unfold f_X11_use at h
  refine g_R_of kP_X11 rfl (Nat.le_of_ble_eq_true rfl) (fun X C E => ?_)
  show g_G 2 X Y 0 [(0, g_r Y 0), (1, .int x1)] [] M
  refine g_aload_n C 0 dX11_use_0 (q := 1) rfl rfl rfl ?_
  refine g_get C (k := 0) (i := 2) (by decide) (gc_0 Y _ _) rfl kU_X11 (by decide) kF_X11_26 rfl dX11_use_1 (q := 4) rfl ?_
  refine g_iload_n C 1 dX11_use_4 (q := 5) rfl rfl rfl ?_
  obtain ⟨p1, hp1, h⟩ := g_bind h
  refine g_callV C (k := 13) (as := [.int x1]) (st := []) (m_X10_has hp1) (g_hR (by decide)) (by decide) (by decide) (gc_13 Y _ _) rfl kM_X11_152 kI_X10_has kS_X10_has kN_X10 kC_X10_has kD_X10_has rfl (Nat.le_of_ble_eq_true rfl) dX11_use_5 (q := 8) rfl ?_
  show g_G 2 X Y 8 [(0, g_r Y 0), (1, .int x1)] [.int p1] M
  have hif := g_if h
  clear h
  refine g_if_ne C dX11_use_8 (q := 11) (tgt := 21) rfl (by decide) (fun c => ?_) (fun c => ?_)
  · have h := hif.2 c
    clear hif
    refine g_aload_n C 0 dX11_use_21 (q := 22) rfl rfl rfl ?_
    refine g_get C (k := 0) (i := 2) (by decide) (gc_0 Y _ _) rfl kU_X11 (by decide) kF_X11_26 rfl dX11_use_22 (q := 25) rfl ?_
    refine g_iload_n C 1 dX11_use_25 (q := 26) rfl rfl rfl ?_
    obtain ⟨p2, hp2, h⟩ := g_bind h
    refine g_callV C (k := 13) (as := [.int x1]) (st := []) (m_X10_setUsed hp2) (g_hR (by decide)) (by decide) (by decide) (gc_13 Y _ _) rfl kM_X11_153 kI_X10_setUsed kS_X10_setUsed kN_X10 kC_X10_setUsed kD_X10_setUsed rfl (Nat.le_of_ble_eq_true rfl) dX11_use_26 (q := 29) rfl ?_
    show g_G 2 X Y 29 [(0, g_r Y 0), (1, .int x1)] [.int p2.1] p2.2
    obtain rfl := Option.some.inj h
    exact g_iret C E dX11_use_29
  · have h := hif.1 c
    clear hif
    refine g_aload_n C 0 dX11_use_11 (q := 12) rfl rfl rfl ?_
    refine g_get C (k := 0) (i := 0) (by decide) (gc_0 Y _ _) rfl kU_X11 (by decide) kF_X11_12 rfl dX11_use_12 (q := 15) rfl ?_
    refine g_ldc C (v := (-1000000001)) kK_X11_90 dX11_use_15 (q := 17) rfl ?_
    obtain ⟨p3, hp3, h⟩ := g_bind h
    refine g_callV C (k := 1) (as := [.int (-1000000001)]) (st := []) (m_X2_tell hp3) (g_hR (by decide)) (by decide) (by decide) (gc_1 Y _ _) rfl kM_X11_91 kI_X2_tell kS_X2_tell kN_X2 kC_X2_tell kD_X2_tell rfl (Nat.le_of_ble_eq_true rfl) dX11_use_17 (q := 20) rfl ?_
    show g_G 2 X Y 20 [(0, g_r Y 0), (1, .int x1)] [.int p3.1] p3.2
    obtain rfl := Option.some.inj h
    exact g_iret C E dX11_use_20
theorem r_X11_use {x1 : Int32} {M : g_M} {p : Int32 × g_M} (h : f_X11_use x1 M = some p) : g_fr [2] [(1, 1), (13, 1), (13, 2)] M p.2 := by
  unfold f_X11_use at h
  have hf := g_fr.rfl (S := [2]) (T := [(1, 1), (13, 1), (13, 2)]) (M := M)
  obtain ⟨p1, -, h⟩ := g_bind h
  rcases g_ifs h with h | h
  · obtain ⟨p3, hp3, h⟩ := g_bind h
    have hf := hf.trans ((r_X2_tell hp3).mono (by decide) (by decide))
    obtain rfl := Option.some.inj h
    exact hf
  · obtain ⟨p2, hp2, h⟩ := g_bind h
    have hf := hf.trans ((r_X10_setUsed hp2).mono (by decide) (by decide))
    obtain rfl := Option.some.inj h
    exact hf
def f_X11_may_22 (M : g_M) : Option (Int32 × g_M) :=
  (f_X2_tell (-1000000001) M).bind fun p2 => some (p2.1, p2.2)
set_option maxRecDepth 100000 in
theorem t_X11_may_22 {l : Launch} {X : g_X} {Y : g_Y} {p : Int32 × g_M} (C : g_C l (g_rm (3)) RX11 cX11_may 3 X Y) (E : g_E (some .int) X Y (some (.int p.1)) p.2) (M : g_M) (h : f_X11_may_22 M = some p) : g_G 3 X Y 22 [(0, g_r Y 0)] [] M := by
  unfold f_X11_may_22 at h
  refine g_aload_n C 0 dX11_may_22 (q := 23) rfl rfl rfl ?_
  refine g_get C (k := 0) (i := 0) (by decide) (gc_0 Y _ _) rfl kU_X11 (by decide) kF_X11_12 rfl dX11_may_23 (q := 26) rfl ?_
  refine g_ldc C (v := (-1000000001)) kK_X11_90 dX11_may_26 (q := 28) rfl ?_
  obtain ⟨p2, hp2, h⟩ := g_bind h
  refine g_callV C (k := 1) (as := [.int (-1000000001)]) (st := []) (m_X2_tell hp2) (g_hR (by decide)) (by decide) (by decide) (gc_1 Y _ _) rfl kM_X11_91 kI_X2_tell kS_X2_tell kN_X2 kC_X2_tell kD_X2_tell rfl (Nat.le_of_ble_eq_true rfl) dX11_may_28 (q := 31) rfl ?_
  show g_G 3 X Y 31 [(0, g_r Y 0)] [.int p2.1] p2.2
  obtain rfl := Option.some.inj h
  exact g_iret C E dX11_may_31
theorem r_X11_may_22 {p : Int32 × g_M} (M : g_M) (h : f_X11_may_22 M = some p) : g_fr [2] [(1, 1)] M p.2 := by
  unfold f_X11_may_22 at h
  have hf := g_fr.rfl (S := [2]) (T := [(1, 1)]) (M := M)
  obtain ⟨p2, hp2, h⟩ := g_bind h
  have hf := hf.trans ((r_X2_tell hp2).mono (by decide) (by decide))
  obtain rfl := Option.some.inj h
  exact hf
def f_X11_may (x1 : Int32) (x2 : Int32) (M : g_M) : Option (Int32 × g_M) :=
  (f_X10_has x1 M).bind fun p1 => (if p1 = 0 then (f_X11_may_22 M) else ((f_X0_hasSet x2 M).bind fun p3 => (if p3 = 0 then (f_X11_may_22 M) else ((f_X0_present M).bind fun p4 => (f_X10_allow_13_3 x1 (x2 &&& p4) M).bind fun p5 => (if p5 = 0 then (some (0, M)) else (some (1, M)))))))
set_option maxRecDepth 100000 in
theorem m_X11_may {l : Launch} {Y : g_Y} {x1 : Int32} {x2 : Int32} {M : g_M} {p : Int32 × g_M} (h : f_X11_may x1 x2 M = some p) : g_R l Y (3) yX11_may cX11_may 3 (some .int) [g_r Y 0, .int x1, .int x2] M (some (.int p.1)) p.2 := by
  unfold f_X11_may at h
  refine g_R_of kP_X11 rfl (Nat.le_of_ble_eq_true rfl) (fun X C E => ?_)
  show g_G 3 X Y 0 [(0, g_r Y 0), (1, .int x1), (2, .int x2)] [] M
  refine g_aload_n C 0 dX11_may_0 (q := 1) rfl rfl rfl ?_
  refine g_get C (k := 0) (i := 2) (by decide) (gc_0 Y _ _) rfl kU_X11 (by decide) kF_X11_26 rfl dX11_may_1 (q := 4) rfl ?_
  refine g_iload_n C 1 dX11_may_4 (q := 5) rfl rfl rfl ?_
  obtain ⟨p1, hp1, h⟩ := g_bind h
  refine g_callV C (k := 13) (as := [.int x1]) (st := []) (m_X10_has hp1) (g_hR (by decide)) (by decide) (by decide) (gc_13 Y _ _) rfl kM_X11_152 kI_X10_has kS_X10_has kN_X10 kC_X10_has kD_X10_has rfl (Nat.le_of_ble_eq_true rfl) dX11_may_5 (q := 8) rfl ?_
  show g_G 3 X Y 8 [(0, g_r Y 0), (1, .int x1), (2, .int x2)] [.int p1] M
  have hif := g_if h
  clear h
  refine g_if_eq C dX11_may_8 (q := 11) (tgt := 22) rfl (by decide) (fun c => ?_) (fun c => ?_)
  · have h := hif.1 c
    clear hif
    refine g_sub [0] (lv' := [(0, g_r Y 0)]) rfl ?_
    exact t_X11_may_22 C E M h
  · have h := hif.2 c
    clear hif
    refine g_aload_n C 0 dX11_may_11 (q := 12) rfl rfl rfl ?_
    refine g_get C (k := 0) (i := 1) (by decide) (gc_0 Y _ _) rfl kU_X11 (by decide) kF_X11_19 rfl dX11_may_12 (q := 15) rfl ?_
    refine g_iload_n C 2 dX11_may_15 (q := 16) rfl rfl rfl ?_
    obtain ⟨p3, hp3, h⟩ := g_bind h
    refine g_callV C (k := 3) (as := [.int x2]) (st := []) (m_X0_hasSet hp3) (g_hR (by decide)) (by decide) (by decide) (gc_3 Y _ _) rfl kM_X11_156 kI_X0_hasSet kS_X0_hasSet kN_X0 kC_X0_hasSet kD_X0_hasSet rfl (Nat.le_of_ble_eq_true rfl) dX11_may_16 (q := 19) rfl ?_
    show g_G 3 X Y 19 [(0, g_r Y 0), (1, .int x1), (2, .int x2)] [.int p3] M
    have hif := g_if h
    clear h
    refine g_if_ne C dX11_may_19 (q := 22) (tgt := 32) rfl (by decide) (fun c => ?_) (fun c => ?_)
    · have h := hif.2 c
      clear hif
      refine g_aload_n C 0 dX11_may_32 (q := 33) rfl rfl rfl ?_
      refine g_get C (k := 0) (i := 2) (by decide) (gc_0 Y _ _) rfl kU_X11 (by decide) kF_X11_26 rfl dX11_may_33 (q := 36) rfl ?_
      refine g_iload_n C 1 dX11_may_36 (q := 37) rfl rfl rfl ?_
      refine g_iload_n C 2 dX11_may_37 (q := 38) rfl rfl rfl ?_
      refine g_aload_n C 0 dX11_may_38 (q := 39) rfl rfl rfl ?_
      refine g_get C (k := 0) (i := 1) (by decide) (gc_0 Y _ _) rfl kU_X11 (by decide) kF_X11_19 rfl dX11_may_39 (q := 42) rfl ?_
      obtain ⟨p4, hp4, h⟩ := g_bind h
      refine g_callV C (k := 3) (as := []) (st := [.int x2, .int x1, g_r Y 13]) (m_X0_present hp4) (g_hR (by decide)) (by decide) (by decide) (gc_3 Y _ _) rfl kM_X11_159 kI_X0_present kS_X0_present kN_X0 kC_X0_present kD_X0_present rfl (Nat.le_of_ble_eq_true rfl) dX11_may_42 (q := 45) rfl ?_
      show g_G 3 X Y 45 [(0, g_r Y 0), (1, .int x1), (2, .int x2)] [.int p4, .int x2, .int x1, g_r Y 13] M
      refine g_iand C dX11_may_45 (q := 46) rfl ?_
      refine g_aload_n C 0 dX11_may_46 (q := 47) rfl rfl rfl ?_
      refine g_get C (k := 0) (i := 1) (by decide) (gc_0 Y _ _) rfl kU_X11 (by decide) kF_X11_19 rfl dX11_may_47 (q := 50) rfl ?_
      obtain ⟨p5, hp5, h⟩ := g_bind h
      refine g_callV C (k := 13) (as := [.int x1, .int (x2 &&& p4), g_r Y 3]) (st := []) (m_X10_allow_13_3 hp5) (g_hR (by decide)) (by decide) (by decide) (gc_13 Y _ _) rfl kM_X11_162 kI_X10_allow kS_X10_allow kN_X10 kC_X10_allow kD_X10_allow rfl (Nat.le_of_ble_eq_true rfl) dX11_may_50 (q := 53) rfl ?_
      show g_G 3 X Y 53 [(0, g_r Y 0), (1, .int x1), (2, .int x2)] [.int p5] M
      have hif := g_if h
      clear h
      refine g_if_eq C dX11_may_53 (q := 56) (tgt := 60) rfl (by decide) (fun c => ?_) (fun c => ?_)
      · have h := hif.1 c
        clear hif
        refine g_iconst C (v := 0) dX11_may_60 (q := 61) rfl (by decide) ?_
        obtain rfl := Option.some.inj h
        exact g_iret C E dX11_may_61
      · have h := hif.2 c
        clear hif
        refine g_iconst C (v := 1) dX11_may_56 (q := 57) rfl (by decide) ?_
        refine g_goto C dX11_may_57 (tgt := 61) (by decide) ?_
        obtain rfl := Option.some.inj h
        exact g_iret C E dX11_may_61
    · have h := hif.1 c
      clear hif
      refine g_sub [0] (lv' := [(0, g_r Y 0)]) rfl ?_
      exact t_X11_may_22 C E M h
theorem r_X11_may {x1 : Int32} {x2 : Int32} {M : g_M} {p : Int32 × g_M} (h : f_X11_may x1 x2 M = some p) : g_fr [2] [(1, 1)] M p.2 := by
  unfold f_X11_may at h
  have hf := g_fr.rfl (S := [2]) (T := [(1, 1)]) (M := M)
  obtain ⟨p1, -, h⟩ := g_bind h
  rcases g_ifs h with h | h
  · exact hf.trans (r_X11_may_22 M h)
  · obtain ⟨p3, -, h⟩ := g_bind h
    rcases g_ifs h with h | h
    · exact hf.trans (r_X11_may_22 M h)
    · obtain ⟨p4, -, h⟩ := g_bind h
      obtain ⟨p5, -, h⟩ := g_bind h
      rcases g_ifs h with h | h
      · obtain rfl := Option.some.inj h
        exact hf
      · obtain rfl := Option.some.inj h
        exact hf
def F_X11_allowedSets_45 (k100 : Int32 → g_M → Option (g_M)) (k : Int32 → Int32 → Int32 → g_M → Option (g_M)) (x1 : Int32) (x2 : Int32) (x3 : Int32) (M : g_M) : Option (g_M) :=
  (if x2 < x3 then (k100 x1 M) else ((if (x3 &&& (x2 ^^^ (-1))) = 0 then ((f_X10_allow_13_3 (M.1 13 1) x3 M).bind fun p5 => (if p5 = 0 then ((g_bz 0).bind fun z7 => (g_st M 40 1024 x3 z7).bind fun M6 => k x1 x2 (x3 + 1) M6) else ((g_bz 1).bind fun z9 => (g_st M 40 1024 x3 z9).bind fun M8 => k x1 x2 (x3 + 1) M8))) else ((g_bz 0).bind fun z4 => (g_st M 40 1024 x3 z4).bind fun M3 => k x1 x2 (x3 + 1) M3))))
set_option maxRecDepth 100000 in
theorem t_X11_allowedSets_45 {l : Launch} {X : g_X} {Y : g_Y} {p : g_M} {k100 : Int32 → g_M → Option (g_M)} (C : g_C l (g_rm (3)) RX11 cX11_allowedSets 4 X Y) (E : g_E (Option.some (FieldType.object "ElderChest$Family")) X Y (some (g_r Y 39)) p) (hk100 : ∀ (x1 : Int32) (M : g_M), k100 x1 M = some p → g_G 4 X Y 100 [(0, g_r Y 0), (1, .int x1)] [] M) (n : Nat) : ∀ (x1 : Int32) (x2 : Int32) (x3 : Int32) (M : g_M), g_lp3 (F_X11_allowedSets_45 k100) n x1 x2 x3 M = some p → g_G 4 X Y 45 [(0, g_r Y 0), (1, .int x1), (2, .int x2), (3, .int x3)] [] M := by
  induction n with
  | zero => intro x1 x2 x3 M h; exact (g_nn h).elim
  | succ n ih =>
    intro x1 x2 x3 M h
    have h : F_X11_allowedSets_45 k100 (g_lp3 (F_X11_allowedSets_45 k100) n) x1 x2 x3 M = some p := h
    generalize g_lp3 (F_X11_allowedSets_45 k100) n = k at h ih
    unfold F_X11_allowedSets_45 at h
    refine g_iload_n C 3 dX11_allowedSets_45 (q := 46) rfl rfl rfl ?_
    refine g_iload_n C 2 dX11_allowedSets_46 (q := 47) rfl rfl rfl ?_
    have hif := g_if h
    clear h
    refine g_icmp_gt C dX11_allowedSets_47 (q := 50) (tgt := 100) rfl (by decide) (fun c => ?_) (fun c => ?_)
    · have h := hif.1 c
      clear hif
      refine g_sub [0, 1] (lv' := [(0, g_r Y 0), (1, .int x1)]) rfl ?_
      exact hk100 x1 M h
    · have h := hif.2 c
      clear hif
      refine g_aload_n C 0 dX11_allowedSets_50 (q := 51) rfl rfl rfl ?_
      refine g_get C (k := 0) (i := 12) (by decide) (gc_0 Y _ _) rfl kU_X11 (by decide) kF_X11_62 rfl dX11_allowedSets_51 (q := 54) rfl ?_
      refine g_get C (k := 39) (i := 0) (by decide) (gc_39 Y _ _) rfl kU_X1 (by decide) kF_X11_378 rfl dX11_allowedSets_54 (q := 57) rfl ?_
      refine g_iload_n C 3 dX11_allowedSets_57 (q := 58) rfl rfl rfl ?_
      refine g_iload_n C 3 dX11_allowedSets_58 (q := 59) rfl rfl rfl ?_
      refine g_iload_n C 2 dX11_allowedSets_59 (q := 60) rfl rfl rfl ?_
      refine g_iconst C (v := (-1)) dX11_allowedSets_60 (q := 61) rfl (by decide) ?_
      refine g_ixor C dX11_allowedSets_61 (q := 62) rfl ?_
      refine g_iand C dX11_allowedSets_62 (q := 63) rfl ?_
      have hif := g_if h
      clear h
      refine g_if_ne C dX11_allowedSets_63 (q := 66) (tgt := 92) rfl (by decide) (fun c => ?_) (fun c => ?_)
      · have h := hif.2 c
        clear hif
        refine g_iconst C (v := 0) dX11_allowedSets_92 (q := 93) rfl (by decide) ?_
        obtain ⟨z4, hz4, h⟩ := g_bind h
        obtain ⟨M3, hM3, h⟩ := g_bind h
        refine g_zast C (k := 40) (n := 1024) (by decide) (fun a => gc_40 Y a _) hz4 hM3 dX11_allowedSets_93 (q := 94) rfl ?_
        refine g_iinc C (k := 3) (v := x3 + 1) dX11_allowedSets_94 (q := 97) rfl rfl rfl (by decide) (lv' := [(3, .int (x3 + 1)), (0, g_r Y 0), (1, .int x1), (2, .int x2)]) rfl ?_
        refine g_goto C dX11_allowedSets_97 (tgt := 45) (by decide) ?_
        refine g_sub [1, 2, 3, 0] (lv' := [(0, g_r Y 0), (1, .int x1), (2, .int x2), (3, .int (x3 + 1))]) rfl ?_
        exact ih x1 x2 (x3 + 1) M3 h
      · have h := hif.1 c
        clear hif
        refine g_aload_n C 0 dX11_allowedSets_66 (q := 67) rfl rfl rfl ?_
        refine g_get C (k := 0) (i := 2) (by decide) (gc_0 Y _ _) rfl kU_X11 (by decide) kF_X11_26 rfl dX11_allowedSets_67 (q := 70) rfl ?_
        refine g_aload_n C 0 dX11_allowedSets_70 (q := 71) rfl rfl rfl ?_
        refine g_get C (k := 0) (i := 2) (by decide) (gc_0 Y _ _) rfl kU_X11 (by decide) kF_X11_26 rfl dX11_allowedSets_71 (q := 74) rfl ?_
        refine g_get C (k := 13) (i := 1) (by decide) (gc_13 Y _ _) rfl kU_X10 (by decide) kF_X11_166 rfl dX11_allowedSets_74 (q := 77) rfl ?_
        refine g_iload_n C 3 dX11_allowedSets_77 (q := 78) rfl rfl rfl ?_
        refine g_aload_n C 0 dX11_allowedSets_78 (q := 79) rfl rfl rfl ?_
        refine g_get C (k := 0) (i := 1) (by decide) (gc_0 Y _ _) rfl kU_X11 (by decide) kF_X11_19 rfl dX11_allowedSets_79 (q := 82) rfl ?_
        obtain ⟨p5, hp5, h⟩ := g_bind h
        refine g_callV C (k := 13) (as := [.int (M.1 13 1), .int x3, g_r Y 3]) (st := [.int x3, g_r Y 40]) (m_X10_allow_13_3 hp5) (g_hR (by decide)) (by decide) (by decide) (gc_13 Y _ _) rfl kM_X11_162 kI_X10_allow kS_X10_allow kN_X10 kC_X10_allow kD_X10_allow rfl (Nat.le_of_ble_eq_true rfl) dX11_allowedSets_82 (q := 85) rfl ?_
        show g_G 4 X Y 85 [(0, g_r Y 0), (1, .int x1), (2, .int x2), (3, .int x3)] [.int p5, .int x3, g_r Y 40] M
        have hif := g_if h
        clear h
        refine g_if_eq C dX11_allowedSets_85 (q := 88) (tgt := 92) rfl (by decide) (fun c => ?_) (fun c => ?_)
        · have h := hif.1 c
          clear hif
          refine g_iconst C (v := 0) dX11_allowedSets_92 (q := 93) rfl (by decide) ?_
          obtain ⟨z7, hz7, h⟩ := g_bind h
          obtain ⟨M6, hM6, h⟩ := g_bind h
          refine g_zast C (k := 40) (n := 1024) (by decide) (fun a => gc_40 Y a _) hz7 hM6 dX11_allowedSets_93 (q := 94) rfl ?_
          refine g_iinc C (k := 3) (v := x3 + 1) dX11_allowedSets_94 (q := 97) rfl rfl rfl (by decide) (lv' := [(3, .int (x3 + 1)), (0, g_r Y 0), (1, .int x1), (2, .int x2)]) rfl ?_
          refine g_goto C dX11_allowedSets_97 (tgt := 45) (by decide) ?_
          refine g_sub [1, 2, 3, 0] (lv' := [(0, g_r Y 0), (1, .int x1), (2, .int x2), (3, .int (x3 + 1))]) rfl ?_
          exact ih x1 x2 (x3 + 1) M6 h
        · have h := hif.2 c
          clear hif
          refine g_iconst C (v := 1) dX11_allowedSets_88 (q := 89) rfl (by decide) ?_
          refine g_goto C dX11_allowedSets_89 (tgt := 93) (by decide) ?_
          obtain ⟨z9, hz9, h⟩ := g_bind h
          obtain ⟨M8, hM8, h⟩ := g_bind h
          refine g_zast C (k := 40) (n := 1024) (by decide) (fun a => gc_40 Y a _) hz9 hM8 dX11_allowedSets_93 (q := 94) rfl ?_
          refine g_iinc C (k := 3) (v := x3 + 1) dX11_allowedSets_94 (q := 97) rfl rfl rfl (by decide) (lv' := [(3, .int (x3 + 1)), (0, g_r Y 0), (1, .int x1), (2, .int x2)]) rfl ?_
          refine g_goto C dX11_allowedSets_97 (tgt := 45) (by decide) ?_
          refine g_sub [1, 2, 3, 0] (lv' := [(0, g_r Y 0), (1, .int x1), (2, .int x2), (3, .int (x3 + 1))]) rfl ?_
          exact ih x1 x2 (x3 + 1) M8 h
theorem r_X11_allowedSets_45 {p : g_M} {k100 : Int32 → g_M → Option (g_M)} (hk100 : ∀ (x1 : Int32) (M : g_M), k100 x1 M = some p → g_fr [40] [(39, 1), (39, 2)] M p) (n : Nat) : ∀ (x1 : Int32) (x2 : Int32) (x3 : Int32) (M : g_M), g_lp3 (F_X11_allowedSets_45 k100) n x1 x2 x3 M = some p → g_fr [40] [(39, 1), (39, 2)] M p := by
  induction n with
  | zero => intro x1 x2 x3 M h; exact (g_nn h).elim
  | succ n ih =>
    intro x1 x2 x3 M h
    have h : F_X11_allowedSets_45 k100 (g_lp3 (F_X11_allowedSets_45 k100) n) x1 x2 x3 M = some p := h
    generalize g_lp3 (F_X11_allowedSets_45 k100) n = k at h ih
    unfold F_X11_allowedSets_45 at h
    have hf := g_fr.rfl (S := [40]) (T := [(39, 1), (39, 2)]) (M := M)
    rcases g_ifs h with h | h
    · exact hf.trans (hk100 x1 M h)
    · rcases g_ifs h with h | h
      · obtain ⟨p5, -, h⟩ := g_bind h
        rcases g_ifs h with h | h
        · obtain ⟨z7, -, h⟩ := g_bind h
          obtain ⟨M6, hM6, h⟩ := g_bind h
          have hf := hf.st hM6 (by decide)
          exact hf.trans (ih x1 x2 (x3 + 1) M6 h)
        · obtain ⟨z9, -, h⟩ := g_bind h
          obtain ⟨M8, hM8, h⟩ := g_bind h
          have hf := hf.st hM8 (by decide)
          exact hf.trans (ih x1 x2 (x3 + 1) M8 h)
      · obtain ⟨z4, -, h⟩ := g_bind h
        obtain ⟨M3, hM3, h⟩ := g_bind h
        have hf := hf.st hM3 (by decide)
        exact hf.trans (ih x1 x2 (x3 + 1) M3 h)
def f_X11_allowedSets (M : g_M) : Option (g_M) :=
  (if (M.1 39 2) = ((M.1 3 3) + (M.1 13 2)) then (some M) else ((f_X0_present M).bind fun p1 => (some (g_u M 39 1 p1)).bind fun M2 => g_lp3 (F_X11_allowedSets_45 (fun (x1 : Int32) (M : g_M) => (some (g_u M 39 2 x1)).bind fun M10 => some M10)) 20000000 ((M.1 3 3) + (M.1 13 2)) p1 0 M2))
set_option maxRecDepth 100000 in
theorem m_X11_allowedSets {l : Launch} {Y : g_Y} {M : g_M} {p : g_M} (h : f_X11_allowedSets M = some p) : g_R l Y (3) yX11_allowedSets cX11_allowedSets 4 (Option.some (FieldType.object "ElderChest$Family")) [g_r Y 0] M (some (g_r Y 39)) p := by
  unfold f_X11_allowedSets at h
  refine g_R_of kP_X11 rfl (Nat.le_of_ble_eq_true rfl) (fun X C E => ?_)
  show g_G 4 X Y 0 [(0, g_r Y 0)] [] M
  refine g_aload_n C 0 dX11_allowedSets_0 (q := 1) rfl rfl rfl ?_
  refine g_get C (k := 0) (i := 1) (by decide) (gc_0 Y _ _) rfl kU_X11 (by decide) kF_X11_19 rfl dX11_allowedSets_1 (q := 4) rfl ?_
  refine g_get C (k := 3) (i := 3) (by decide) (gc_3 Y _ _) rfl kU_X0 (by decide) kF_X11_370 rfl dX11_allowedSets_4 (q := 7) rfl ?_
  refine g_aload_n C 0 dX11_allowedSets_7 (q := 8) rfl rfl rfl ?_
  refine g_get C (k := 0) (i := 2) (by decide) (gc_0 Y _ _) rfl kU_X11 (by decide) kF_X11_26 rfl dX11_allowedSets_8 (q := 11) rfl ?_
  refine g_get C (k := 13) (i := 2) (by decide) (gc_13 Y _ _) rfl kU_X10 (by decide) kF_X11_373 rfl dX11_allowedSets_11 (q := 14) rfl ?_
  refine g_iadd C dX11_allowedSets_14 (q := 15) rfl ?_
  refine g_istore_n C dX11_allowedSets_15 (q := 16) rfl rfl (by decide) (lv' := [(1, .int ((M.1 3 3) + (M.1 13 2))), (0, g_r Y 0)]) rfl ?_
  refine g_aload_n C 1 dX11_allowedSets_16 (q := 17) rfl rfl rfl ?_
  refine g_get C (k := 0) (i := 12) (by decide) (gc_0 Y _ _) rfl kU_X11 (by decide) kF_X11_62 rfl dX11_allowedSets_17 (q := 20) rfl ?_
  refine g_get C (k := 39) (i := 2) (by decide) (gc_39 Y _ _) rfl kU_X1 (by decide) kF_X11_374 rfl dX11_allowedSets_20 (q := 23) rfl ?_
  refine g_iload_n C 0 dX11_allowedSets_23 (q := 24) rfl rfl rfl ?_
  have hif := g_if h
  clear h
  refine g_icmp_eq C dX11_allowedSets_24 (q := 27) (tgt := 108) rfl (by decide) (fun c => ?_) (fun c => ?_)
  · have h := hif.1 c
    clear hif
    refine g_aload_n C 1 dX11_allowedSets_108 (q := 109) rfl rfl rfl ?_
    refine g_get C (k := 0) (i := 12) (by decide) (gc_0 Y _ _) rfl kU_X11 (by decide) kF_X11_62 rfl dX11_allowedSets_109 (q := 112) rfl ?_
    obtain rfl := Option.some.inj h
    exact g_aret C E dX11_allowedSets_112
  · have h := hif.2 c
    clear hif
    refine g_aload_n C 1 dX11_allowedSets_27 (q := 28) rfl rfl rfl ?_
    refine g_get C (k := 0) (i := 1) (by decide) (gc_0 Y _ _) rfl kU_X11 (by decide) kF_X11_19 rfl dX11_allowedSets_28 (q := 31) rfl ?_
    obtain ⟨p1, hp1, h⟩ := g_bind h
    refine g_callV C (k := 3) (as := []) (st := []) (m_X0_present hp1) (g_hR (by decide)) (by decide) (by decide) (gc_3 Y _ _) rfl kM_X11_159 kI_X0_present kS_X0_present kN_X0 kC_X0_present kD_X0_present rfl (Nat.le_of_ble_eq_true rfl) dX11_allowedSets_31 (q := 34) rfl ?_
    show g_G 4 X Y 34 [(1, .int ((M.1 3 3) + (M.1 13 2))), (0, g_r Y 0)] [.int p1] M
    refine g_istore_n C dX11_allowedSets_34 (q := 35) rfl rfl (by decide) (lv' := [(2, .int p1), (1, .int ((M.1 3 3) + (M.1 13 2))), (0, g_r Y 0)]) rfl ?_
    refine g_aload_n C 2 dX11_allowedSets_35 (q := 36) rfl rfl rfl ?_
    refine g_get C (k := 0) (i := 12) (by decide) (gc_0 Y _ _) rfl kU_X11 (by decide) kF_X11_62 rfl dX11_allowedSets_36 (q := 39) rfl ?_
    refine g_iload_n C 0 dX11_allowedSets_39 (q := 40) rfl rfl rfl ?_
    obtain ⟨M2, hM2, h⟩ := g_bind h
    refine g_put C (k := 39) (i := 1) (ty := .int) (by decide) (gc_39 Y _ _) (gp_39_1 Y _ _ _) rfl kU_X1 tyX1_ok nmX1 (by decide) kF_X11_377 rfl rfl rfl rfl (Nat.le_of_ble_eq_true rfl) dX11_allowedSets_40 (q := 43) rfl ?_
    refine g_mem hM2 ?_
    refine g_iconst C (v := 0) dX11_allowedSets_43 (q := 44) rfl (by decide) ?_
    refine g_istore_n C dX11_allowedSets_44 (q := 45) rfl rfl (by decide) (lv' := [(3, .int 0), (2, .int p1), (1, .int ((M.1 3 3) + (M.1 13 2))), (0, g_r Y 0)]) rfl ?_
    refine g_sub [3, 2, 1, 0] (lv' := [(0, g_r Y 0), (1, .int ((M.1 3 3) + (M.1 13 2))), (2, .int p1), (3, .int 0)]) rfl ?_
    refine t_X11_allowedSets_45 C E ?_ 20000000 ((M.1 3 3) + (M.1 13 2)) p1 0 M2 h
    · intro x1 M h
      try dsimp only at h
      refine g_aload_n C 0 dX11_allowedSets_100 (q := 101) rfl rfl rfl ?_
      refine g_get C (k := 0) (i := 12) (by decide) (gc_0 Y _ _) rfl kU_X11 (by decide) kF_X11_62 rfl dX11_allowedSets_101 (q := 104) rfl ?_
      refine g_iload_n C 1 dX11_allowedSets_104 (q := 105) rfl rfl rfl ?_
      obtain ⟨M10, hM10, h⟩ := g_bind h
      refine g_put C (k := 39) (i := 2) (ty := .int) (by decide) (gc_39 Y _ _) (gp_39_2 Y _ _ _) rfl kU_X1 tyX1_ok nmX1 (by decide) kF_X11_374 rfl rfl rfl rfl (Nat.le_of_ble_eq_true rfl) dX11_allowedSets_105 (q := 108) rfl ?_
      refine g_mem hM10 ?_
      refine g_aload_n C 0 dX11_allowedSets_108 (q := 109) rfl rfl rfl ?_
      refine g_get C (k := 0) (i := 12) (by decide) (gc_0 Y _ _) rfl kU_X11 (by decide) kF_X11_62 rfl dX11_allowedSets_109 (q := 112) rfl ?_
      obtain rfl := Option.some.inj h
      exact g_aret C E dX11_allowedSets_112
theorem r_X11_allowedSets {M : g_M} {p : g_M} (h : f_X11_allowedSets M = some p) : g_fr [40] [(39, 1), (39, 2)] M p := by
  unfold f_X11_allowedSets at h
  have hf := g_fr.rfl (S := [40]) (T := [(39, 1), (39, 2)]) (M := M)
  rcases g_ifs h with h | h
  · obtain rfl := Option.some.inj h
    exact hf
  · obtain ⟨p1, -, h⟩ := g_bind h
    obtain ⟨M2, hM2, h⟩ := g_bind h
    have hf := hf.pu hM2 (by decide)
    refine hf.trans (r_X11_allowedSets_45 ?_ 20000000 ((M.1 3 3) + (M.1 13 2)) p1 0 M2 h)
    · intro x1 M h
      try dsimp only at h
      have hf := g_fr.rfl (S := [40]) (T := [(39, 1), (39, 2)]) (M := M)
      obtain ⟨M10, hM10, h⟩ := g_bind h
      have hf := hf.pu hM10 (by decide)
      obtain rfl := Option.some.inj h
      exact hf
def f_X11_more (M : g_M) : Option (Int32 × g_M) :=
  (if 0 ≤ (M.1 13 1) then ((f_X11_allowedSets M).bind fun p1 => (f_X1_firstFall p1).bind fun p2 => (if 0 ≤ p2 then (some (p2, p1)) else ((f_X2_tell (-1000000004) p1).bind fun p3 => some (p3.1, p3.2)))) else ((f_X2_tell (-1000000005) M).bind fun p4 => some (p4.1, p4.2)))
set_option maxRecDepth 100000 in
theorem m_X11_more {l : Launch} {Y : g_Y} {M : g_M} {p : Int32 × g_M} (h : f_X11_more M = some p) : g_R l Y (4) yX11_more cX11_more 2 (some .int) [g_r Y 0] M (some (.int p.1)) p.2 := by
  unfold f_X11_more at h
  refine g_R_of kP_X11 rfl (Nat.le_of_ble_eq_true rfl) (fun X C E => ?_)
  show g_G 2 X Y 0 [(0, g_r Y 0)] [] M
  refine g_aload_n C 0 dX11_more_0 (q := 1) rfl rfl rfl ?_
  refine g_get C (k := 0) (i := 2) (by decide) (gc_0 Y _ _) rfl kU_X11 (by decide) kF_X11_26 rfl dX11_more_1 (q := 4) rfl ?_
  refine g_get C (k := 13) (i := 1) (by decide) (gc_13 Y _ _) rfl kU_X10 (by decide) kF_X11_166 rfl dX11_more_4 (q := 7) rfl ?_
  have hif := g_if h
  clear h
  refine g_if_ge C dX11_more_7 (q := 10) (tgt := 20) rfl (by decide) (fun c => ?_) (fun c => ?_)
  · have h := hif.1 c
    clear hif
    refine g_aload_n C 0 dX11_more_20 (q := 21) rfl rfl rfl ?_
    obtain ⟨p1, hp1, h⟩ := g_bind h
    refine g_callV C (k := 0) (as := []) (st := []) (m_X11_allowedSets hp1) (g_hR (by decide)) (by decide) (by decide) (gc_0 Y _ _) rfl kM_X11_170 kI_X11_allowedSets kS_X11_allowedSets kN_X11 kC_X11_allowedSets kD_X11_allowedSets rfl (Nat.le_of_ble_eq_true rfl) dX11_more_21 (q := 24) rfl ?_
    show g_G 2 X Y 24 [(0, g_r Y 0)] [g_r Y 39] p1
    obtain ⟨p2, hp2, h⟩ := g_bind h
    refine g_callV C (k := 39) (as := []) (st := []) (m_X1_firstFall hp2) (g_hR (by decide)) (by decide) (by decide) (gc_39 Y _ _) rfl kM_X11_174 kI_X1_firstFall kS_X1_firstFall kN_X1 kC_X1_firstFall kD_X1_firstFall rfl (Nat.le_of_ble_eq_true rfl) dX11_more_24 (q := 27) rfl ?_
    show g_G 2 X Y 27 [(0, g_r Y 0)] [.int p2] p1
    refine g_istore_n C dX11_more_27 (q := 28) rfl rfl (by decide) (lv' := [(1, .int p2), (0, g_r Y 0)]) rfl ?_
    refine g_iload_n C 0 dX11_more_28 (q := 29) rfl rfl rfl ?_
    have hif := g_if h
    clear h
    refine g_if_ge C dX11_more_29 (q := 32) (tgt := 44) rfl (by decide) (fun c => ?_) (fun c => ?_)
    · have h := hif.1 c
      clear hif
      refine g_iload_n C 0 dX11_more_44 (q := 45) rfl rfl rfl ?_
      obtain rfl := Option.some.inj h
      exact g_iret C E dX11_more_45
    · have h := hif.2 c
      clear hif
      refine g_aload_n C 1 dX11_more_32 (q := 33) rfl rfl rfl ?_
      refine g_get C (k := 0) (i := 0) (by decide) (gc_0 Y _ _) rfl kU_X11 (by decide) kF_X11_12 rfl dX11_more_33 (q := 36) rfl ?_
      refine g_ldc C (v := (-1000000004)) kK_X11_177 dX11_more_36 (q := 38) rfl ?_
      obtain ⟨p3, hp3, h⟩ := g_bind h
      refine g_callV C (k := 1) (as := [.int (-1000000004)]) (st := []) (m_X2_tell hp3) (g_hR (by decide)) (by decide) (by decide) (gc_1 Y _ _) rfl kM_X11_91 kI_X2_tell kS_X2_tell kN_X2 kC_X2_tell kD_X2_tell rfl (Nat.le_of_ble_eq_true rfl) dX11_more_38 (q := 41) rfl ?_
      show g_G 2 X Y 41 [(1, .int p2), (0, g_r Y 0)] [.int p3.1] p3.2
      refine g_goto C dX11_more_41 (tgt := 45) (by decide) ?_
      obtain rfl := Option.some.inj h
      exact g_iret C E dX11_more_45
  · have h := hif.2 c
    clear hif
    refine g_aload_n C 0 dX11_more_10 (q := 11) rfl rfl rfl ?_
    refine g_get C (k := 0) (i := 0) (by decide) (gc_0 Y _ _) rfl kU_X11 (by decide) kF_X11_12 rfl dX11_more_11 (q := 14) rfl ?_
    refine g_ldc C (v := (-1000000005)) kK_X11_169 dX11_more_14 (q := 16) rfl ?_
    obtain ⟨p4, hp4, h⟩ := g_bind h
    refine g_callV C (k := 1) (as := [.int (-1000000005)]) (st := []) (m_X2_tell hp4) (g_hR (by decide)) (by decide) (by decide) (gc_1 Y _ _) rfl kM_X11_91 kI_X2_tell kS_X2_tell kN_X2 kC_X2_tell kD_X2_tell rfl (Nat.le_of_ble_eq_true rfl) dX11_more_16 (q := 19) rfl ?_
    show g_G 2 X Y 19 [(0, g_r Y 0)] [.int p4.1] p4.2
    obtain rfl := Option.some.inj h
    exact g_iret C E dX11_more_19
theorem r_X11_more {M : g_M} {p : Int32 × g_M} (h : f_X11_more M = some p) : g_fr [2, 40] [(1, 1), (39, 1), (39, 2)] M p.2 := by
  unfold f_X11_more at h
  have hf := g_fr.rfl (S := [2, 40]) (T := [(1, 1), (39, 1), (39, 2)]) (M := M)
  rcases g_ifs h with h | h
  · obtain ⟨p1, hp1, h⟩ := g_bind h
    have hf := hf.trans ((r_X11_allowedSets hp1).mono (by decide) (by decide))
    obtain ⟨p2, -, h⟩ := g_bind h
    rcases g_ifs h with h | h
    · obtain rfl := Option.some.inj h
      exact hf
    · obtain ⟨p3, hp3, h⟩ := g_bind h
      have hf := hf.trans ((r_X2_tell hp3).mono (by decide) (by decide))
      obtain rfl := Option.some.inj h
      exact hf
  · obtain ⟨p4, hp4, h⟩ := g_bind h
    have hf := hf.trans ((r_X2_tell hp4).mono (by decide) (by decide))
    obtain rfl := Option.some.inj h
    exact hf
def f_X11_listed_0_39_23 (x2 : Int32) (M : g_M) : Option (Int32 × g_M) :=
  (if 0 ≤ x2 then ((if (M.1 43 1) ≤ x2 then ((f_X2_tell (-1000000004) M).bind fun p2 => some (p2.1, p2.2)) else ((g_ld M 44 252 x2).bind fun v3 => some (v3, M)))) else (some (M.1 43 1, M)))
set_option maxRecDepth 100000 in
theorem t_X11_listed_0_39_23 {l : Launch} {X : g_X} {Y : g_Y} {p : Int32 × g_M} (C : g_C l (g_rm (2)) RX11 cX11_listed 4 X Y) (E : g_E (some .int) X Y (some (.int p.1)) p.2) (x2 : Int32) (M : g_M) (h : f_X11_listed_0_39_23 x2 M = some p) : g_G 4 X Y 23 [(0, g_r Y 0), (2, .int x2)] [] M := by
  unfold f_X11_listed_0_39_23 at h
  refine g_iload_n C 1 dX11_listed_23 (q := 24) rfl rfl rfl ?_
  have hif := g_if h
  clear h
  refine g_if_ge C dX11_listed_24 (q := 27) (tgt := 35) rfl (by decide) (fun c => ?_) (fun c => ?_)
  · have h := hif.1 c
    clear hif
    refine g_iload_n C 1 dX11_listed_35 (q := 36) rfl rfl rfl ?_
    refine g_aload_n C 0 dX11_listed_36 (q := 37) rfl rfl rfl ?_
    refine g_get C (k := 0) (i := 14) (by decide) (gc_0 Y _ _) rfl kU_X11 (by decide) kF_X11_72 rfl dX11_listed_37 (q := 40) rfl ?_
    refine g_get C (k := 43) (i := 1) (by decide) (gc_43 Y _ _) rfl kU_X6 (by decide) kF_X11_271 rfl dX11_listed_40 (q := 43) rfl ?_
    have hif := g_if h
    clear h
    refine g_icmp_ge C dX11_listed_43 (q := 46) (tgt := 58) rfl (by decide) (fun c => ?_) (fun c => ?_)
    · have h := hif.1 c
      clear hif
      refine g_aload_n C 0 dX11_listed_58 (q := 59) rfl rfl rfl ?_
      refine g_get C (k := 0) (i := 0) (by decide) (gc_0 Y _ _) rfl kU_X11 (by decide) kF_X11_12 rfl dX11_listed_59 (q := 62) rfl ?_
      refine g_ldc C (v := (-1000000004)) kK_X11_177 dX11_listed_62 (q := 64) rfl ?_
      obtain ⟨p2, hp2, h⟩ := g_bind h
      refine g_callV C (k := 1) (as := [.int (-1000000004)]) (st := []) (m_X2_tell hp2) (g_hR (by decide)) (by decide) (by decide) (gc_1 Y _ _) rfl kM_X11_91 kI_X2_tell kS_X2_tell kN_X2 kC_X2_tell kD_X2_tell rfl (Nat.le_of_ble_eq_true rfl) dX11_listed_64 (q := 67) rfl ?_
      show g_G 4 X Y 67 [(0, g_r Y 0), (2, .int x2)] [.int p2.1] p2.2
      obtain rfl := Option.some.inj h
      exact g_iret C E dX11_listed_67
    · have h := hif.2 c
      clear hif
      refine g_aload_n C 0 dX11_listed_46 (q := 47) rfl rfl rfl ?_
      refine g_get C (k := 0) (i := 14) (by decide) (gc_0 Y _ _) rfl kU_X11 (by decide) kF_X11_72 rfl dX11_listed_47 (q := 50) rfl ?_
      refine g_get C (k := 43) (i := 0) (by decide) (gc_43 Y _ _) rfl kU_X6 (by decide) kF_X11_386 rfl dX11_listed_50 (q := 53) rfl ?_
      refine g_iload_n C 1 dX11_listed_53 (q := 54) rfl rfl rfl ?_
      obtain ⟨v3, hv3, h⟩ := g_bind h
      refine g_iald C (k := 44) (n := 252) (by decide) (gc_44 Y _ _) hv3 dX11_listed_54 (q := 55) rfl ?_
      refine g_goto C dX11_listed_55 (tgt := 67) (by decide) ?_
      obtain rfl := Option.some.inj h
      exact g_iret C E dX11_listed_67
  · have h := hif.2 c
    clear hif
    refine g_aload_n C 0 dX11_listed_27 (q := 28) rfl rfl rfl ?_
    refine g_get C (k := 0) (i := 14) (by decide) (gc_0 Y _ _) rfl kU_X11 (by decide) kF_X11_72 rfl dX11_listed_28 (q := 31) rfl ?_
    refine g_get C (k := 43) (i := 1) (by decide) (gc_43 Y _ _) rfl kU_X6 (by decide) kF_X11_271 rfl dX11_listed_31 (q := 34) rfl ?_
    obtain rfl := Option.some.inj h
    exact g_iret C E dX11_listed_34
theorem r_X11_listed_0_39_23 {p : Int32 × g_M} (x2 : Int32) (M : g_M) (h : f_X11_listed_0_39_23 x2 M = some p) : g_fr [2, 44, 45] [(1, 1), (43, 1)] M p.2 := by
  unfold f_X11_listed_0_39_23 at h
  have hf := g_fr.rfl (S := [2, 44, 45]) (T := [(1, 1), (43, 1)]) (M := M)
  rcases g_ifs h with h | h
  · rcases g_ifs h with h | h
    · obtain ⟨p2, hp2, h⟩ := g_bind h
      have hf := hf.trans ((r_X2_tell hp2).mono (by decide) (by decide))
      obtain rfl := Option.some.inj h
      exact hf
    · obtain ⟨v3, -, h⟩ := g_bind h
      obtain rfl := Option.some.inj h
      exact hf
  · obtain rfl := Option.some.inj h
    exact hf
def f_X11_listed_0_39 (x2 : Int32) (x3 : Int32) (M : g_M) : Option (Int32 × g_M) :=
  (if x3 = 0 then ((f_X6_findLeast_43_39 M).bind fun p1 => f_X11_listed_0_39_23 x2 p1) else ((f_X6_findMost_43_39 M).bind fun p4 => f_X11_listed_0_39_23 x2 p4))
set_option maxRecDepth 100000 in
theorem m_X11_listed_0_39 {l : Launch} {Y : g_Y} {x2 : Int32} {x3 : Int32} {M : g_M} {p : Int32 × g_M} (h : f_X11_listed_0_39 x2 x3 M = some p) : g_R l Y (2) yX11_listed cX11_listed 4 (some .int) [g_r Y 0, g_r Y 39, .int x2, .int x3] M (some (.int p.1)) p.2 := by
  unfold f_X11_listed_0_39 at h
  refine g_R_of kP_X11 rfl (Nat.le_of_ble_eq_true rfl) (fun X C E => ?_)
  show g_G 4 X Y 0 [(0, g_r Y 0), (1, g_r Y 39), (2, .int x2), (3, .int x3)] [] M
  refine g_iload_n C 3 dX11_listed_0 (q := 1) rfl rfl rfl ?_
  have hif := g_if h
  clear h
  refine g_if_eq C dX11_listed_1 (q := 4) (tgt := 15) rfl (by decide) (fun c => ?_) (fun c => ?_)
  · have h := hif.1 c
    clear hif
    refine g_aload_n C 0 dX11_listed_15 (q := 16) rfl rfl rfl ?_
    refine g_get C (k := 0) (i := 14) (by decide) (gc_0 Y _ _) rfl kU_X11 (by decide) kF_X11_72 rfl dX11_listed_16 (q := 19) rfl ?_
    refine g_aload_n C 1 dX11_listed_19 (q := 20) rfl rfl rfl ?_
    obtain ⟨p1, hp1, h⟩ := g_bind h
    refine g_callV C (k := 43) (as := [g_r Y 39]) (st := []) (m_X6_findLeast_43_39 hp1) (g_hR (by decide)) (by decide) (by decide) (gc_43 Y _ _) rfl kM_X11_309 kI_X6_findLeast kS_X6_findLeast kN_X6 kC_X6_findLeast kD_X6_findLeast rfl (Nat.le_of_ble_eq_true rfl) dX11_listed_20 (q := 23) rfl ?_
    show g_G 4 X Y 23 [(0, g_r Y 0), (1, g_r Y 39), (2, .int x2), (3, .int x3)] [] p1
    refine g_sub [0, 2] (lv' := [(0, g_r Y 0), (2, .int x2)]) rfl ?_
    exact t_X11_listed_0_39_23 C E x2 p1 h
  · have h := hif.2 c
    clear hif
    refine g_aload_n C 0 dX11_listed_4 (q := 5) rfl rfl rfl ?_
    refine g_get C (k := 0) (i := 14) (by decide) (gc_0 Y _ _) rfl kU_X11 (by decide) kF_X11_72 rfl dX11_listed_5 (q := 8) rfl ?_
    refine g_aload_n C 1 dX11_listed_8 (q := 9) rfl rfl rfl ?_
    obtain ⟨p4, hp4, h⟩ := g_bind h
    refine g_callV C (k := 43) (as := [g_r Y 39]) (st := []) (m_X6_findMost_43_39 hp4) (g_hR (by decide)) (by decide) (by decide) (gc_43 Y _ _) rfl kM_X11_267 kI_X6_findMost kS_X6_findMost kN_X6 kC_X6_findMost kD_X6_findMost rfl (Nat.le_of_ble_eq_true rfl) dX11_listed_9 (q := 12) rfl ?_
    show g_G 4 X Y 12 [(0, g_r Y 0), (1, g_r Y 39), (2, .int x2), (3, .int x3)] [] p4
    refine g_goto C dX11_listed_12 (tgt := 23) (by decide) ?_
    refine g_sub [0, 2] (lv' := [(0, g_r Y 0), (2, .int x2)]) rfl ?_
    exact t_X11_listed_0_39_23 C E x2 p4 h
theorem r_X11_listed_0_39 {x2 : Int32} {x3 : Int32} {M : g_M} {p : Int32 × g_M} (h : f_X11_listed_0_39 x2 x3 M = some p) : g_fr [2, 44, 45] [(1, 1), (43, 1)] M p.2 := by
  unfold f_X11_listed_0_39 at h
  have hf := g_fr.rfl (S := [2, 44, 45]) (T := [(1, 1), (43, 1)]) (M := M)
  rcases g_ifs h with h | h
  · obtain ⟨p1, hp1, h⟩ := g_bind h
    have hf := hf.trans ((r_X6_findLeast_43_39 hp1).mono (by decide) (by decide))
    exact hf.trans (r_X11_listed_0_39_23 x2 p1 h)
  · obtain ⟨p4, hp4, h⟩ := g_bind h
    have hf := hf.trans ((r_X6_findMost_43_39 hp4).mono (by decide) (by decide))
    exact hf.trans (r_X11_listed_0_39_23 x2 p4 h)
def f_X11_listedByText (x1 : Int32) (x2 : Int32) (M : g_M) : Option (Int32 × g_M) :=
  (if 0 ≤ (M.1 13 1) then ((if (-1) ≤ x1 then ((f_X11_allowedSets M).bind fun p1 => (f_X11_listed_0_39 x1 x2 p1).bind fun p2 => some (p2.1, p2.2)) else ((f_X2_tell (-1000000001) M).bind fun p3 => some (p3.1, p3.2)))) else ((f_X2_tell (-1000000005) M).bind fun p4 => some (p4.1, p4.2)))
set_option maxRecDepth 100000 in
theorem m_X11_listedByText {l : Launch} {Y : g_Y} {x1 : Int32} {x2 : Int32} {M : g_M} {p : Int32 × g_M} (h : f_X11_listedByText x1 x2 M = some p) : g_R l Y (4) yX11_listedByText cX11_listedByText 3 (some .int) [g_r Y 0, .int x1, .int x2] M (some (.int p.1)) p.2 := by
  unfold f_X11_listedByText at h
  refine g_R_of kP_X11 rfl (Nat.le_of_ble_eq_true rfl) (fun X C E => ?_)
  show g_G 3 X Y 0 [(0, g_r Y 0), (1, .int x1), (2, .int x2)] [] M
  refine g_aload_n C 0 dX11_listedByText_0 (q := 1) rfl rfl rfl ?_
  refine g_get C (k := 0) (i := 2) (by decide) (gc_0 Y _ _) rfl kU_X11 (by decide) kF_X11_26 rfl dX11_listedByText_1 (q := 4) rfl ?_
  refine g_get C (k := 13) (i := 1) (by decide) (gc_13 Y _ _) rfl kU_X10 (by decide) kF_X11_166 rfl dX11_listedByText_4 (q := 7) rfl ?_
  have hif := g_if h
  clear h
  refine g_if_ge C dX11_listedByText_7 (q := 10) (tgt := 20) rfl (by decide) (fun c => ?_) (fun c => ?_)
  · have h := hif.1 c
    clear hif
    refine g_iload_n C 1 dX11_listedByText_20 (q := 21) rfl rfl rfl ?_
    refine g_iconst C (v := (-1)) dX11_listedByText_21 (q := 22) rfl (by decide) ?_
    have hif := g_if h
    clear h
    refine g_icmp_ge C dX11_listedByText_22 (q := 25) (tgt := 35) rfl (by decide) (fun c => ?_) (fun c => ?_)
    · have h := hif.1 c
      clear hif
      refine g_aload_n C 0 dX11_listedByText_35 (q := 36) rfl rfl rfl ?_
      refine g_aload_n C 0 dX11_listedByText_36 (q := 37) rfl rfl rfl ?_
      obtain ⟨p1, hp1, h⟩ := g_bind h
      refine g_callV C (k := 0) (as := []) (st := [g_r Y 0]) (m_X11_allowedSets hp1) (g_hR (by decide)) (by decide) (by decide) (gc_0 Y _ _) rfl kM_X11_170 kI_X11_allowedSets kS_X11_allowedSets kN_X11 kC_X11_allowedSets kD_X11_allowedSets rfl (Nat.le_of_ble_eq_true rfl) dX11_listedByText_37 (q := 40) rfl ?_
      show g_G 3 X Y 40 [(0, g_r Y 0), (1, .int x1), (2, .int x2)] [g_r Y 39, g_r Y 0] p1
      refine g_iload_n C 1 dX11_listedByText_40 (q := 41) rfl rfl rfl ?_
      refine g_iload_n C 2 dX11_listedByText_41 (q := 42) rfl rfl rfl ?_
      obtain ⟨p2, hp2, h⟩ := g_bind h
      refine g_callV C (k := 0) (as := [g_r Y 39, .int x1, .int x2]) (st := []) (m_X11_listed_0_39 hp2) (g_hR (by decide)) (by decide) (by decide) (gc_0 Y _ _) rfl kM_X11_382 kI_X11_listed kS_X11_listed kN_X11 kC_X11_listed kD_X11_listed rfl (Nat.le_of_ble_eq_true rfl) dX11_listedByText_42 (q := 45) rfl ?_
      show g_G 3 X Y 45 [(0, g_r Y 0), (1, .int x1), (2, .int x2)] [.int p2.1] p2.2
      obtain rfl := Option.some.inj h
      exact g_iret C E dX11_listedByText_45
    · have h := hif.2 c
      clear hif
      refine g_aload_n C 0 dX11_listedByText_25 (q := 26) rfl rfl rfl ?_
      refine g_get C (k := 0) (i := 0) (by decide) (gc_0 Y _ _) rfl kU_X11 (by decide) kF_X11_12 rfl dX11_listedByText_26 (q := 29) rfl ?_
      refine g_ldc C (v := (-1000000001)) kK_X11_90 dX11_listedByText_29 (q := 31) rfl ?_
      obtain ⟨p3, hp3, h⟩ := g_bind h
      refine g_callV C (k := 1) (as := [.int (-1000000001)]) (st := []) (m_X2_tell hp3) (g_hR (by decide)) (by decide) (by decide) (gc_1 Y _ _) rfl kM_X11_91 kI_X2_tell kS_X2_tell kN_X2 kC_X2_tell kD_X2_tell rfl (Nat.le_of_ble_eq_true rfl) dX11_listedByText_31 (q := 34) rfl ?_
      show g_G 3 X Y 34 [(0, g_r Y 0), (1, .int x1), (2, .int x2)] [.int p3.1] p3.2
      obtain rfl := Option.some.inj h
      exact g_iret C E dX11_listedByText_34
  · have h := hif.2 c
    clear hif
    refine g_aload_n C 0 dX11_listedByText_10 (q := 11) rfl rfl rfl ?_
    refine g_get C (k := 0) (i := 0) (by decide) (gc_0 Y _ _) rfl kU_X11 (by decide) kF_X11_12 rfl dX11_listedByText_11 (q := 14) rfl ?_
    refine g_ldc C (v := (-1000000005)) kK_X11_169 dX11_listedByText_14 (q := 16) rfl ?_
    obtain ⟨p4, hp4, h⟩ := g_bind h
    refine g_callV C (k := 1) (as := [.int (-1000000005)]) (st := []) (m_X2_tell hp4) (g_hR (by decide)) (by decide) (by decide) (gc_1 Y _ _) rfl kM_X11_91 kI_X2_tell kS_X2_tell kN_X2 kC_X2_tell kD_X2_tell rfl (Nat.le_of_ble_eq_true rfl) dX11_listedByText_16 (q := 19) rfl ?_
    show g_G 3 X Y 19 [(0, g_r Y 0), (1, .int x1), (2, .int x2)] [.int p4.1] p4.2
    obtain rfl := Option.some.inj h
    exact g_iret C E dX11_listedByText_19
theorem r_X11_listedByText {x1 : Int32} {x2 : Int32} {M : g_M} {p : Int32 × g_M} (h : f_X11_listedByText x1 x2 M = some p) : g_fr [2, 40, 44, 45] [(1, 1), (39, 1), (39, 2), (43, 1)] M p.2 := by
  unfold f_X11_listedByText at h
  have hf := g_fr.rfl (S := [2, 40, 44, 45]) (T := [(1, 1), (39, 1), (39, 2), (43, 1)]) (M := M)
  rcases g_ifs h with h | h
  · rcases g_ifs h with h | h
    · obtain ⟨p1, hp1, h⟩ := g_bind h
      have hf := hf.trans ((r_X11_allowedSets hp1).mono (by decide) (by decide))
      obtain ⟨p2, hp2, h⟩ := g_bind h
      have hf := hf.trans ((r_X11_listed_0_39 hp2).mono (by decide) (by decide))
      obtain rfl := Option.some.inj h
      exact hf
    · obtain ⟨p3, hp3, h⟩ := g_bind h
      have hf := hf.trans ((r_X2_tell hp3).mono (by decide) (by decide))
      obtain rfl := Option.some.inj h
      exact hf
  · obtain ⟨p4, hp4, h⟩ := g_bind h
    have hf := hf.trans ((r_X2_tell hp4).mono (by decide) (by decide))
    obtain rfl := Option.some.inj h
    exact hf
def f_X11_least (x1 : Int32) (M : g_M) : Option (Int32 × g_M) :=
  (f_X11_listedByText x1 0 M).bind fun p1 => some (p1.1, p1.2)
set_option maxRecDepth 100000 in
theorem m_X11_least {l : Launch} {Y : g_Y} {x1 : Int32} {M : g_M} {p : Int32 × g_M} (h : f_X11_least x1 M = some p) : g_R l Y (5) yX11_least cX11_least 2 (some .int) [g_r Y 0, .int x1] M (some (.int p.1)) p.2 := by
  unfold f_X11_least at h
  refine g_R_of kP_X11 rfl (Nat.le_of_ble_eq_true rfl) (fun X C E => ?_)
  show g_G 2 X Y 0 [(0, g_r Y 0), (1, .int x1)] [] M
  refine g_aload_n C 0 dX11_least_0 (q := 1) rfl rfl rfl ?_
  refine g_iload_n C 1 dX11_least_1 (q := 2) rfl rfl rfl ?_
  refine g_iconst C (v := 0) dX11_least_2 (q := 3) rfl (by decide) ?_
  obtain ⟨p1, hp1, h⟩ := g_bind h
  refine g_callV C (k := 0) (as := [.int x1, .int 0]) (st := []) (m_X11_listedByText hp1) (g_hR (by decide)) (by decide) (by decide) (gc_0 Y _ _) rfl kM_X11_178 kI_X11_listedByText kS_X11_listedByText kN_X11 kC_X11_listedByText kD_X11_listedByText rfl (Nat.le_of_ble_eq_true rfl) dX11_least_3 (q := 6) rfl ?_
  show g_G 2 X Y 6 [(0, g_r Y 0), (1, .int x1)] [.int p1.1] p1.2
  obtain rfl := Option.some.inj h
  exact g_iret C E dX11_least_6
theorem r_X11_least {x1 : Int32} {M : g_M} {p : Int32 × g_M} (h : f_X11_least x1 M = some p) : g_fr [2, 40, 44, 45] [(1, 1), (39, 1), (39, 2), (43, 1)] M p.2 := by
  unfold f_X11_least at h
  have hf := g_fr.rfl (S := [2, 40, 44, 45]) (T := [(1, 1), (39, 1), (39, 2), (43, 1)]) (M := M)
  obtain ⟨p1, hp1, h⟩ := g_bind h
  have hf := hf.trans ((r_X11_listedByText hp1).mono (by decide) (by decide))
  obtain rfl := Option.some.inj h
  exact hf
def f_X11_most (x1 : Int32) (M : g_M) : Option (Int32 × g_M) :=
  (f_X11_listedByText x1 1 M).bind fun p1 => some (p1.1, p1.2)
set_option maxRecDepth 100000 in
theorem m_X11_most {l : Launch} {Y : g_Y} {x1 : Int32} {M : g_M} {p : Int32 × g_M} (h : f_X11_most x1 M = some p) : g_R l Y (5) yX11_most cX11_most 2 (some .int) [g_r Y 0, .int x1] M (some (.int p.1)) p.2 := by
  unfold f_X11_most at h
  refine g_R_of kP_X11 rfl (Nat.le_of_ble_eq_true rfl) (fun X C E => ?_)
  show g_G 2 X Y 0 [(0, g_r Y 0), (1, .int x1)] [] M
  refine g_aload_n C 0 dX11_most_0 (q := 1) rfl rfl rfl ?_
  refine g_iload_n C 1 dX11_most_1 (q := 2) rfl rfl rfl ?_
  refine g_iconst C (v := 1) dX11_most_2 (q := 3) rfl (by decide) ?_
  obtain ⟨p1, hp1, h⟩ := g_bind h
  refine g_callV C (k := 0) (as := [.int x1, .int 1]) (st := []) (m_X11_listedByText hp1) (g_hR (by decide)) (by decide) (by decide) (gc_0 Y _ _) rfl kM_X11_178 kI_X11_listedByText kS_X11_listedByText kN_X11 kC_X11_listedByText kD_X11_listedByText rfl (Nat.le_of_ble_eq_true rfl) dX11_most_3 (q := 6) rfl ?_
  show g_G 2 X Y 6 [(0, g_r Y 0), (1, .int x1)] [.int p1.1] p1.2
  obtain rfl := Option.some.inj h
  exact g_iret C E dX11_most_6
theorem r_X11_most {x1 : Int32} {M : g_M} {p : Int32 × g_M} (h : f_X11_most x1 M = some p) : g_fr [2, 40, 44, 45] [(1, 1), (39, 1), (39, 2), (43, 1)] M p.2 := by
  unfold f_X11_most at h
  have hf := g_fr.rfl (S := [2, 40, 44, 45]) (T := [(1, 1), (39, 1), (39, 2), (43, 1)]) (M := M)
  obtain ⟨p1, hp1, h⟩ := g_bind h
  have hf := hf.trans ((r_X11_listedByText hp1).mono (by decide) (by decide))
  obtain rfl := Option.some.inj h
  exact hf
def f_X11_isKey (x0 : Int32) (M : g_M) : Option (Int32) :=
  (if x0 < 0 then (some 0) else ((if 24 ≤ x0 then (some 0) else (some 1))))
set_option maxRecDepth 100000 in
theorem m_X11_isKey {l : Launch} {Y : g_Y} {x0 : Int32} {M : g_M} {p : Int32} (h : f_X11_isKey x0 M = some p) : g_R l Y (0) yX11_isKey cX11_isKey 1 (some .boolean) [.int x0] M (some (.int p)) M := by
  unfold f_X11_isKey at h
  refine g_R_of kP_X11 rfl (Nat.le_of_ble_eq_true rfl) (fun X C E => ?_)
  show g_G 1 X Y 0 [(0, .int x0)] [] M
  refine g_iload_n C 0 dX11_isKey_0 (q := 1) rfl rfl rfl ?_
  have hif := g_if h
  clear h
  refine g_if_lt C dX11_isKey_1 (q := 4) (tgt := 14) rfl (by decide) (fun c => ?_) (fun c => ?_)
  · have h := hif.1 c
    clear hif
    refine g_iconst C (v := 0) dX11_isKey_14 (q := 15) rfl (by decide) ?_
    obtain rfl := Option.some.inj h
    exact g_zret C (g_bz_lit (by decide)) E dX11_isKey_15
  · have h := hif.2 c
    clear hif
    refine g_iload_n C 0 dX11_isKey_4 (q := 5) rfl rfl rfl ?_
    refine g_bipush C (v := 24) dX11_isKey_5 (q := 7) rfl (by decide) ?_
    have hif := g_if h
    clear h
    refine g_icmp_ge C dX11_isKey_7 (q := 10) (tgt := 14) rfl (by decide) (fun c => ?_) (fun c => ?_)
    · have h := hif.1 c
      clear hif
      refine g_iconst C (v := 0) dX11_isKey_14 (q := 15) rfl (by decide) ?_
      obtain rfl := Option.some.inj h
      exact g_zret C (g_bz_lit (by decide)) E dX11_isKey_15
    · have h := hif.2 c
      clear hif
      refine g_iconst C (v := 1) dX11_isKey_10 (q := 11) rfl (by decide) ?_
      refine g_goto C dX11_isKey_11 (tgt := 15) (by decide) ?_
      obtain rfl := Option.some.inj h
      exact g_zret C (g_bz_lit (by decide)) E dX11_isKey_15
def f_X11_lock (x1 : Int32) (x2 : Int32) (M : g_M) : Option (Int32 × g_M) :=
  (f_X11_isKey x1 M).bind fun p1 => (if p1 = 0 then ((f_X2_tell (-1000000001) M).bind fun p5 => some (p5.1, p5.2)) else ((f_X4_hasRoomFor 1 M).bind fun p2 => (if p2 = 0 then ((f_X2_tell (-1000000002) M).bind fun p4 => some (p4.1, p4.2)) else ((f_X4_addLock x1 x2 M).bind fun p3 => some (p3.1, p3.2)))))
set_option maxRecDepth 100000 in
theorem m_X11_lock {l : Launch} {Y : g_Y} {x1 : Int32} {x2 : Int32} {M : g_M} {p : Int32 × g_M} (h : f_X11_lock x1 x2 M = some p) : g_R l Y (3) yX11_lock cX11_lock 3 (some .int) [g_r Y 0, .int x1, .int x2] M (some (.int p.1)) p.2 := by
  unfold f_X11_lock at h
  refine g_R_of kP_X11 rfl (Nat.le_of_ble_eq_true rfl) (fun X C E => ?_)
  show g_G 3 X Y 0 [(0, g_r Y 0), (1, .int x1), (2, .int x2)] [] M
  refine g_iload_n C 1 dX11_lock_0 (q := 1) rfl rfl rfl ?_
  obtain ⟨p1, hp1, h⟩ := g_bind h
  refine g_callS C (as := [.int x1]) (st := []) (m_X11_isKey hp1) (g_hR (by decide)) (by decide) kM_X11_182 kT_X11_isKey kN_X11 kC_X11_isKey kD_X11_isKey rfl (Nat.le_of_ble_eq_true rfl) dX11_lock_1 (q := 4) rfl ?_
  show g_G 3 X Y 4 [(0, g_r Y 0), (1, .int x1), (2, .int x2)] [.int p1] M
  have hif := g_if h
  clear h
  refine g_if_ne C dX11_lock_4 (q := 7) (tgt := 17) rfl (by decide) (fun c => ?_) (fun c => ?_)
  · have h := hif.2 c
    clear hif
    refine g_aload_n C 0 dX11_lock_17 (q := 18) rfl rfl rfl ?_
    refine g_get C (k := 0) (i := 3) (by decide) (gc_0 Y _ _) rfl kU_X11 (by decide) kF_X11_33 rfl dX11_lock_18 (q := 21) rfl ?_
    refine g_iconst C (v := 1) dX11_lock_21 (q := 22) rfl (by decide) ?_
    obtain ⟨p2, hp2, h⟩ := g_bind h
    refine g_callV C (k := 24) (as := [.int 1]) (st := []) (m_X4_hasRoomFor hp2) (g_hR (by decide)) (by decide) (by decide) (gc_24 Y _ _) rfl kM_X11_185 kI_X4_hasRoomFor kS_X4_hasRoomFor kN_X4 kC_X4_hasRoomFor kD_X4_hasRoomFor rfl (Nat.le_of_ble_eq_true rfl) dX11_lock_22 (q := 25) rfl ?_
    show g_G 3 X Y 25 [(0, g_r Y 0), (1, .int x1), (2, .int x2)] [.int p2] M
    have hif := g_if h
    clear h
    refine g_if_ne C dX11_lock_25 (q := 28) (tgt := 38) rfl (by decide) (fun c => ?_) (fun c => ?_)
    · have h := hif.2 c
      clear hif
      refine g_aload_n C 0 dX11_lock_38 (q := 39) rfl rfl rfl ?_
      refine g_get C (k := 0) (i := 3) (by decide) (gc_0 Y _ _) rfl kU_X11 (by decide) kF_X11_33 rfl dX11_lock_39 (q := 42) rfl ?_
      refine g_iload_n C 1 dX11_lock_42 (q := 43) rfl rfl rfl ?_
      refine g_iload_n C 2 dX11_lock_43 (q := 44) rfl rfl rfl ?_
      obtain ⟨p3, hp3, h⟩ := g_bind h
      refine g_callV C (k := 24) (as := [.int x1, .int x2]) (st := []) (m_X4_addLock hp3) (g_hR (by decide)) (by decide) (by decide) (gc_24 Y _ _) rfl kM_X11_188 kI_X4_addLock kS_X4_addLock kN_X4 kC_X4_addLock kD_X4_addLock rfl (Nat.le_of_ble_eq_true rfl) dX11_lock_44 (q := 47) rfl ?_
      show g_G 3 X Y 47 [(0, g_r Y 0), (1, .int x1), (2, .int x2)] [.int p3.1] p3.2
      obtain rfl := Option.some.inj h
      exact g_iret C E dX11_lock_47
    · have h := hif.1 c
      clear hif
      refine g_aload_n C 0 dX11_lock_28 (q := 29) rfl rfl rfl ?_
      refine g_get C (k := 0) (i := 0) (by decide) (gc_0 Y _ _) rfl kU_X11 (by decide) kF_X11_12 rfl dX11_lock_29 (q := 32) rfl ?_
      refine g_ldc C (v := (-1000000002)) kK_X11_99 dX11_lock_32 (q := 34) rfl ?_
      obtain ⟨p4, hp4, h⟩ := g_bind h
      refine g_callV C (k := 1) (as := [.int (-1000000002)]) (st := []) (m_X2_tell hp4) (g_hR (by decide)) (by decide) (by decide) (gc_1 Y _ _) rfl kM_X11_91 kI_X2_tell kS_X2_tell kN_X2 kC_X2_tell kD_X2_tell rfl (Nat.le_of_ble_eq_true rfl) dX11_lock_34 (q := 37) rfl ?_
      show g_G 3 X Y 37 [(0, g_r Y 0), (1, .int x1), (2, .int x2)] [.int p4.1] p4.2
      obtain rfl := Option.some.inj h
      exact g_iret C E dX11_lock_37
  · have h := hif.1 c
    clear hif
    refine g_aload_n C 0 dX11_lock_7 (q := 8) rfl rfl rfl ?_
    refine g_get C (k := 0) (i := 0) (by decide) (gc_0 Y _ _) rfl kU_X11 (by decide) kF_X11_12 rfl dX11_lock_8 (q := 11) rfl ?_
    refine g_ldc C (v := (-1000000001)) kK_X11_90 dX11_lock_11 (q := 13) rfl ?_
    obtain ⟨p5, hp5, h⟩ := g_bind h
    refine g_callV C (k := 1) (as := [.int (-1000000001)]) (st := []) (m_X2_tell hp5) (g_hR (by decide)) (by decide) (by decide) (gc_1 Y _ _) rfl kM_X11_91 kI_X2_tell kS_X2_tell kN_X2 kC_X2_tell kD_X2_tell rfl (Nat.le_of_ble_eq_true rfl) dX11_lock_13 (q := 16) rfl ?_
    show g_G 3 X Y 16 [(0, g_r Y 0), (1, .int x1), (2, .int x2)] [.int p5.1] p5.2
    obtain rfl := Option.some.inj h
    exact g_iret C E dX11_lock_16
theorem r_X11_lock {x1 : Int32} {x2 : Int32} {M : g_M} {p : Int32 × g_M} (h : f_X11_lock x1 x2 M = some p) : g_fr [2, 25, 26, 27, 28, 29, 30, 31] [(1, 1), (24, 0), (24, 1)] M p.2 := by
  unfold f_X11_lock at h
  have hf := g_fr.rfl (S := [2, 25, 26, 27, 28, 29, 30, 31]) (T := [(1, 1), (24, 0), (24, 1)]) (M := M)
  obtain ⟨p1, -, h⟩ := g_bind h
  rcases g_ifs h with h | h
  · obtain ⟨p5, hp5, h⟩ := g_bind h
    have hf := hf.trans ((r_X2_tell hp5).mono (by decide) (by decide))
    obtain rfl := Option.some.inj h
    exact hf
  · obtain ⟨p2, -, h⟩ := g_bind h
    rcases g_ifs h with h | h
    · obtain ⟨p4, hp4, h⟩ := g_bind h
      have hf := hf.trans ((r_X2_tell hp4).mono (by decide) (by decide))
      obtain rfl := Option.some.inj h
      exact hf
    · obtain ⟨p3, hp3, h⟩ := g_bind h
      have hf := hf.trans ((r_X4_addLock hp3).mono (by decide) (by decide))
      obtain rfl := Option.some.inj h
      exact hf
def f_X11_chain_22 (M : g_M) : Option (Int32 × g_M) :=
  (f_X2_tell (-1000000001) M).bind fun p2 => some (p2.1, p2.2)
set_option maxRecDepth 100000 in
theorem t_X11_chain_22 {l : Launch} {X : g_X} {Y : g_Y} {p : Int32 × g_M} (C : g_C l (g_rm (3)) RX11 cX11_chain 4 X Y) (E : g_E (some .int) X Y (some (.int p.1)) p.2) (M : g_M) (h : f_X11_chain_22 M = some p) : g_G 4 X Y 22 [(0, g_r Y 0)] [] M := by
  unfold f_X11_chain_22 at h
  refine g_aload_n C 0 dX11_chain_22 (q := 23) rfl rfl rfl ?_
  refine g_get C (k := 0) (i := 0) (by decide) (gc_0 Y _ _) rfl kU_X11 (by decide) kF_X11_12 rfl dX11_chain_23 (q := 26) rfl ?_
  refine g_ldc C (v := (-1000000001)) kK_X11_90 dX11_chain_26 (q := 28) rfl ?_
  obtain ⟨p2, hp2, h⟩ := g_bind h
  refine g_callV C (k := 1) (as := [.int (-1000000001)]) (st := []) (m_X2_tell hp2) (g_hR (by decide)) (by decide) (by decide) (gc_1 Y _ _) rfl kM_X11_91 kI_X2_tell kS_X2_tell kN_X2 kC_X2_tell kD_X2_tell rfl (Nat.le_of_ble_eq_true rfl) dX11_chain_28 (q := 31) rfl ?_
  show g_G 4 X Y 31 [(0, g_r Y 0)] [.int p2.1] p2.2
  obtain rfl := Option.some.inj h
  exact g_iret C E dX11_chain_31
theorem r_X11_chain_22 {p : Int32 × g_M} (M : g_M) (h : f_X11_chain_22 M = some p) : g_fr [2, 25, 26, 27, 28, 29, 30, 31] [(1, 1), (24, 0), (24, 1)] M p.2 := by
  unfold f_X11_chain_22 at h
  have hf := g_fr.rfl (S := [2, 25, 26, 27, 28, 29, 30, 31]) (T := [(1, 1), (24, 0), (24, 1)]) (M := M)
  obtain ⟨p2, hp2, h⟩ := g_bind h
  have hf := hf.trans ((r_X2_tell hp2).mono (by decide) (by decide))
  obtain rfl := Option.some.inj h
  exact hf
def f_X11_chain (x1 : Int32) (x2 : Int32) (x3 : Int32) (M : g_M) : Option (Int32 × g_M) :=
  (f_X4_has x1 M).bind fun p1 => (if p1 = 0 then (f_X11_chain_22 M) else ((f_X4_has x2 M).bind fun p3 => (if p3 = 0 then (f_X11_chain_22 M) else ((f_X4_hasRoomFor 1 M).bind fun p4 => (if p4 = 0 then ((f_X2_tell (-1000000002) M).bind fun p6 => some (p6.1, p6.2)) else ((f_X4_addChain x1 x2 x3 M).bind fun p5 => some (p5.1, p5.2)))))))
set_option maxRecDepth 100000 in
theorem m_X11_chain {l : Launch} {Y : g_Y} {x1 : Int32} {x2 : Int32} {x3 : Int32} {M : g_M} {p : Int32 × g_M} (h : f_X11_chain x1 x2 x3 M = some p) : g_R l Y (3) yX11_chain cX11_chain 4 (some .int) [g_r Y 0, .int x1, .int x2, .int x3] M (some (.int p.1)) p.2 := by
  unfold f_X11_chain at h
  refine g_R_of kP_X11 rfl (Nat.le_of_ble_eq_true rfl) (fun X C E => ?_)
  show g_G 4 X Y 0 [(0, g_r Y 0), (1, .int x1), (2, .int x2), (3, .int x3)] [] M
  refine g_aload_n C 0 dX11_chain_0 (q := 1) rfl rfl rfl ?_
  refine g_get C (k := 0) (i := 3) (by decide) (gc_0 Y _ _) rfl kU_X11 (by decide) kF_X11_33 rfl dX11_chain_1 (q := 4) rfl ?_
  refine g_iload_n C 1 dX11_chain_4 (q := 5) rfl rfl rfl ?_
  obtain ⟨p1, hp1, h⟩ := g_bind h
  refine g_callV C (k := 24) (as := [.int x1]) (st := []) (m_X4_has hp1) (g_hR (by decide)) (by decide) (by decide) (gc_24 Y _ _) rfl kM_X11_191 kI_X4_has kS_X4_has kN_X4 kC_X4_has kD_X4_has rfl (Nat.le_of_ble_eq_true rfl) dX11_chain_5 (q := 8) rfl ?_
  show g_G 4 X Y 8 [(0, g_r Y 0), (1, .int x1), (2, .int x2), (3, .int x3)] [.int p1] M
  have hif := g_if h
  clear h
  refine g_if_eq C dX11_chain_8 (q := 11) (tgt := 22) rfl (by decide) (fun c => ?_) (fun c => ?_)
  · have h := hif.1 c
    clear hif
    refine g_sub [0] (lv' := [(0, g_r Y 0)]) rfl ?_
    exact t_X11_chain_22 C E M h
  · have h := hif.2 c
    clear hif
    refine g_aload_n C 0 dX11_chain_11 (q := 12) rfl rfl rfl ?_
    refine g_get C (k := 0) (i := 3) (by decide) (gc_0 Y _ _) rfl kU_X11 (by decide) kF_X11_33 rfl dX11_chain_12 (q := 15) rfl ?_
    refine g_iload_n C 2 dX11_chain_15 (q := 16) rfl rfl rfl ?_
    obtain ⟨p3, hp3, h⟩ := g_bind h
    refine g_callV C (k := 24) (as := [.int x2]) (st := []) (m_X4_has hp3) (g_hR (by decide)) (by decide) (by decide) (gc_24 Y _ _) rfl kM_X11_191 kI_X4_has kS_X4_has kN_X4 kC_X4_has kD_X4_has rfl (Nat.le_of_ble_eq_true rfl) dX11_chain_16 (q := 19) rfl ?_
    show g_G 4 X Y 19 [(0, g_r Y 0), (1, .int x1), (2, .int x2), (3, .int x3)] [.int p3] M
    have hif := g_if h
    clear h
    refine g_if_ne C dX11_chain_19 (q := 22) (tgt := 32) rfl (by decide) (fun c => ?_) (fun c => ?_)
    · have h := hif.2 c
      clear hif
      refine g_aload_n C 0 dX11_chain_32 (q := 33) rfl rfl rfl ?_
      refine g_get C (k := 0) (i := 3) (by decide) (gc_0 Y _ _) rfl kU_X11 (by decide) kF_X11_33 rfl dX11_chain_33 (q := 36) rfl ?_
      refine g_iconst C (v := 1) dX11_chain_36 (q := 37) rfl (by decide) ?_
      obtain ⟨p4, hp4, h⟩ := g_bind h
      refine g_callV C (k := 24) (as := [.int 1]) (st := []) (m_X4_hasRoomFor hp4) (g_hR (by decide)) (by decide) (by decide) (gc_24 Y _ _) rfl kM_X11_185 kI_X4_hasRoomFor kS_X4_hasRoomFor kN_X4 kC_X4_hasRoomFor kD_X4_hasRoomFor rfl (Nat.le_of_ble_eq_true rfl) dX11_chain_37 (q := 40) rfl ?_
      show g_G 4 X Y 40 [(0, g_r Y 0), (1, .int x1), (2, .int x2), (3, .int x3)] [.int p4] M
      have hif := g_if h
      clear h
      refine g_if_ne C dX11_chain_40 (q := 43) (tgt := 53) rfl (by decide) (fun c => ?_) (fun c => ?_)
      · have h := hif.2 c
        clear hif
        refine g_aload_n C 0 dX11_chain_53 (q := 54) rfl rfl rfl ?_
        refine g_get C (k := 0) (i := 3) (by decide) (gc_0 Y _ _) rfl kU_X11 (by decide) kF_X11_33 rfl dX11_chain_54 (q := 57) rfl ?_
        refine g_iload_n C 1 dX11_chain_57 (q := 58) rfl rfl rfl ?_
        refine g_iload_n C 2 dX11_chain_58 (q := 59) rfl rfl rfl ?_
        refine g_iload_n C 3 dX11_chain_59 (q := 60) rfl rfl rfl ?_
        obtain ⟨p5, hp5, h⟩ := g_bind h
        refine g_callV C (k := 24) (as := [.int x1, .int x2, .int x3]) (st := []) (m_X4_addChain hp5) (g_hR (by decide)) (by decide) (by decide) (gc_24 Y _ _) rfl kM_X11_192 kI_X4_addChain kS_X4_addChain kN_X4 kC_X4_addChain kD_X4_addChain rfl (Nat.le_of_ble_eq_true rfl) dX11_chain_60 (q := 63) rfl ?_
        show g_G 4 X Y 63 [(0, g_r Y 0), (1, .int x1), (2, .int x2), (3, .int x3)] [.int p5.1] p5.2
        obtain rfl := Option.some.inj h
        exact g_iret C E dX11_chain_63
      · have h := hif.1 c
        clear hif
        refine g_aload_n C 0 dX11_chain_43 (q := 44) rfl rfl rfl ?_
        refine g_get C (k := 0) (i := 0) (by decide) (gc_0 Y _ _) rfl kU_X11 (by decide) kF_X11_12 rfl dX11_chain_44 (q := 47) rfl ?_
        refine g_ldc C (v := (-1000000002)) kK_X11_99 dX11_chain_47 (q := 49) rfl ?_
        obtain ⟨p6, hp6, h⟩ := g_bind h
        refine g_callV C (k := 1) (as := [.int (-1000000002)]) (st := []) (m_X2_tell hp6) (g_hR (by decide)) (by decide) (by decide) (gc_1 Y _ _) rfl kM_X11_91 kI_X2_tell kS_X2_tell kN_X2 kC_X2_tell kD_X2_tell rfl (Nat.le_of_ble_eq_true rfl) dX11_chain_49 (q := 52) rfl ?_
        show g_G 4 X Y 52 [(0, g_r Y 0), (1, .int x1), (2, .int x2), (3, .int x3)] [.int p6.1] p6.2
        obtain rfl := Option.some.inj h
        exact g_iret C E dX11_chain_52
    · have h := hif.1 c
      clear hif
      refine g_sub [0] (lv' := [(0, g_r Y 0)]) rfl ?_
      exact t_X11_chain_22 C E M h
theorem r_X11_chain {x1 : Int32} {x2 : Int32} {x3 : Int32} {M : g_M} {p : Int32 × g_M} (h : f_X11_chain x1 x2 x3 M = some p) : g_fr [2, 25, 26, 27, 28, 29, 30, 31] [(1, 1), (24, 0), (24, 1)] M p.2 := by
  unfold f_X11_chain at h
  have hf := g_fr.rfl (S := [2, 25, 26, 27, 28, 29, 30, 31]) (T := [(1, 1), (24, 0), (24, 1)]) (M := M)
  obtain ⟨p1, -, h⟩ := g_bind h
  rcases g_ifs h with h | h
  · exact hf.trans (r_X11_chain_22 M h)
  · obtain ⟨p3, -, h⟩ := g_bind h
    rcases g_ifs h with h | h
    · exact hf.trans (r_X11_chain_22 M h)
    · obtain ⟨p4, -, h⟩ := g_bind h
      rcases g_ifs h with h | h
      · obtain ⟨p6, hp6, h⟩ := g_bind h
        have hf := hf.trans ((r_X2_tell hp6).mono (by decide) (by decide))
        obtain rfl := Option.some.inj h
        exact hf
      · obtain ⟨p5, hp5, h⟩ := g_bind h
        have hf := hf.trans ((r_X4_addChain hp5).mono (by decide) (by decide))
        obtain rfl := Option.some.inj h
        exact hf
def f_X11_box_18 (M : g_M) : Option (Int32 × g_M) :=
  (f_X2_tell (-1000000001) M).bind fun p2 => some (p2.1, p2.2)
set_option maxRecDepth 100000 in
theorem t_X11_box_18 {l : Launch} {X : g_X} {Y : g_Y} {p : Int32 × g_M} (C : g_C l (g_rm (3)) RX11 cX11_box 3 X Y) (E : g_E (some .int) X Y (some (.int p.1)) p.2) (M : g_M) (h : f_X11_box_18 M = some p) : g_G 3 X Y 18 [(0, g_r Y 0)] [] M := by
  unfold f_X11_box_18 at h
  refine g_aload_n C 0 dX11_box_18 (q := 19) rfl rfl rfl ?_
  refine g_get C (k := 0) (i := 0) (by decide) (gc_0 Y _ _) rfl kU_X11 (by decide) kF_X11_12 rfl dX11_box_19 (q := 22) rfl ?_
  refine g_ldc C (v := (-1000000001)) kK_X11_90 dX11_box_22 (q := 24) rfl ?_
  obtain ⟨p2, hp2, h⟩ := g_bind h
  refine g_callV C (k := 1) (as := [.int (-1000000001)]) (st := []) (m_X2_tell hp2) (g_hR (by decide)) (by decide) (by decide) (gc_1 Y _ _) rfl kM_X11_91 kI_X2_tell kS_X2_tell kN_X2 kC_X2_tell kD_X2_tell rfl (Nat.le_of_ble_eq_true rfl) dX11_box_24 (q := 27) rfl ?_
  show g_G 3 X Y 27 [(0, g_r Y 0)] [.int p2.1] p2.2
  obtain rfl := Option.some.inj h
  exact g_iret C E dX11_box_27
theorem r_X11_box_18 {p : Int32 × g_M} (M : g_M) (h : f_X11_box_18 M = some p) : g_fr [2, 25, 26, 27, 28, 29, 30, 31] [(1, 1), (24, 0), (24, 1)] M p.2 := by
  unfold f_X11_box_18 at h
  have hf := g_fr.rfl (S := [2, 25, 26, 27, 28, 29, 30, 31]) (T := [(1, 1), (24, 0), (24, 1)]) (M := M)
  obtain ⟨p2, hp2, h⟩ := g_bind h
  have hf := hf.trans ((r_X2_tell hp2).mono (by decide) (by decide))
  obtain rfl := Option.some.inj h
  exact hf
def f_X11_box (x1 : Int32) (x2 : Int32) (M : g_M) : Option (Int32 × g_M) :=
  (f_X4_has x1 M).bind fun p1 => (if p1 = 0 then (f_X11_box_18 M) else ((f_X11_isKey x2 M).bind fun p3 => (if p3 = 0 then (f_X11_box_18 M) else ((f_X4_hasRoomFor 1 M).bind fun p4 => (if p4 = 0 then ((f_X2_tell (-1000000002) M).bind fun p6 => some (p6.1, p6.2)) else ((f_X4_addBox x1 x2 M).bind fun p5 => some (p5.1, p5.2)))))))
set_option maxRecDepth 100000 in
theorem m_X11_box {l : Launch} {Y : g_Y} {x1 : Int32} {x2 : Int32} {M : g_M} {p : Int32 × g_M} (h : f_X11_box x1 x2 M = some p) : g_R l Y (3) yX11_box cX11_box 3 (some .int) [g_r Y 0, .int x1, .int x2] M (some (.int p.1)) p.2 := by
  unfold f_X11_box at h
  refine g_R_of kP_X11 rfl (Nat.le_of_ble_eq_true rfl) (fun X C E => ?_)
  show g_G 3 X Y 0 [(0, g_r Y 0), (1, .int x1), (2, .int x2)] [] M
  refine g_aload_n C 0 dX11_box_0 (q := 1) rfl rfl rfl ?_
  refine g_get C (k := 0) (i := 3) (by decide) (gc_0 Y _ _) rfl kU_X11 (by decide) kF_X11_33 rfl dX11_box_1 (q := 4) rfl ?_
  refine g_iload_n C 1 dX11_box_4 (q := 5) rfl rfl rfl ?_
  obtain ⟨p1, hp1, h⟩ := g_bind h
  refine g_callV C (k := 24) (as := [.int x1]) (st := []) (m_X4_has hp1) (g_hR (by decide)) (by decide) (by decide) (gc_24 Y _ _) rfl kM_X11_191 kI_X4_has kS_X4_has kN_X4 kC_X4_has kD_X4_has rfl (Nat.le_of_ble_eq_true rfl) dX11_box_5 (q := 8) rfl ?_
  show g_G 3 X Y 8 [(0, g_r Y 0), (1, .int x1), (2, .int x2)] [.int p1] M
  have hif := g_if h
  clear h
  refine g_if_eq C dX11_box_8 (q := 11) (tgt := 18) rfl (by decide) (fun c => ?_) (fun c => ?_)
  · have h := hif.1 c
    clear hif
    refine g_sub [0] (lv' := [(0, g_r Y 0)]) rfl ?_
    exact t_X11_box_18 C E M h
  · have h := hif.2 c
    clear hif
    refine g_iload_n C 2 dX11_box_11 (q := 12) rfl rfl rfl ?_
    obtain ⟨p3, hp3, h⟩ := g_bind h
    refine g_callS C (as := [.int x2]) (st := []) (m_X11_isKey hp3) (g_hR (by decide)) (by decide) kM_X11_182 kT_X11_isKey kN_X11 kC_X11_isKey kD_X11_isKey rfl (Nat.le_of_ble_eq_true rfl) dX11_box_12 (q := 15) rfl ?_
    show g_G 3 X Y 15 [(0, g_r Y 0), (1, .int x1), (2, .int x2)] [.int p3] M
    have hif := g_if h
    clear h
    refine g_if_ne C dX11_box_15 (q := 18) (tgt := 28) rfl (by decide) (fun c => ?_) (fun c => ?_)
    · have h := hif.2 c
      clear hif
      refine g_aload_n C 0 dX11_box_28 (q := 29) rfl rfl rfl ?_
      refine g_get C (k := 0) (i := 3) (by decide) (gc_0 Y _ _) rfl kU_X11 (by decide) kF_X11_33 rfl dX11_box_29 (q := 32) rfl ?_
      refine g_iconst C (v := 1) dX11_box_32 (q := 33) rfl (by decide) ?_
      obtain ⟨p4, hp4, h⟩ := g_bind h
      refine g_callV C (k := 24) (as := [.int 1]) (st := []) (m_X4_hasRoomFor hp4) (g_hR (by decide)) (by decide) (by decide) (gc_24 Y _ _) rfl kM_X11_185 kI_X4_hasRoomFor kS_X4_hasRoomFor kN_X4 kC_X4_hasRoomFor kD_X4_hasRoomFor rfl (Nat.le_of_ble_eq_true rfl) dX11_box_33 (q := 36) rfl ?_
      show g_G 3 X Y 36 [(0, g_r Y 0), (1, .int x1), (2, .int x2)] [.int p4] M
      have hif := g_if h
      clear h
      refine g_if_ne C dX11_box_36 (q := 39) (tgt := 49) rfl (by decide) (fun c => ?_) (fun c => ?_)
      · have h := hif.2 c
        clear hif
        refine g_aload_n C 0 dX11_box_49 (q := 50) rfl rfl rfl ?_
        refine g_get C (k := 0) (i := 3) (by decide) (gc_0 Y _ _) rfl kU_X11 (by decide) kF_X11_33 rfl dX11_box_50 (q := 53) rfl ?_
        refine g_iload_n C 1 dX11_box_53 (q := 54) rfl rfl rfl ?_
        refine g_iload_n C 2 dX11_box_54 (q := 55) rfl rfl rfl ?_
        obtain ⟨p5, hp5, h⟩ := g_bind h
        refine g_callV C (k := 24) (as := [.int x1, .int x2]) (st := []) (m_X4_addBox hp5) (g_hR (by decide)) (by decide) (by decide) (gc_24 Y _ _) rfl kM_X11_196 kI_X4_addBox kS_X4_addBox kN_X4 kC_X4_addBox kD_X4_addBox rfl (Nat.le_of_ble_eq_true rfl) dX11_box_55 (q := 58) rfl ?_
        show g_G 3 X Y 58 [(0, g_r Y 0), (1, .int x1), (2, .int x2)] [.int p5.1] p5.2
        obtain rfl := Option.some.inj h
        exact g_iret C E dX11_box_58
      · have h := hif.1 c
        clear hif
        refine g_aload_n C 0 dX11_box_39 (q := 40) rfl rfl rfl ?_
        refine g_get C (k := 0) (i := 0) (by decide) (gc_0 Y _ _) rfl kU_X11 (by decide) kF_X11_12 rfl dX11_box_40 (q := 43) rfl ?_
        refine g_ldc C (v := (-1000000002)) kK_X11_99 dX11_box_43 (q := 45) rfl ?_
        obtain ⟨p6, hp6, h⟩ := g_bind h
        refine g_callV C (k := 1) (as := [.int (-1000000002)]) (st := []) (m_X2_tell hp6) (g_hR (by decide)) (by decide) (by decide) (gc_1 Y _ _) rfl kM_X11_91 kI_X2_tell kS_X2_tell kN_X2 kC_X2_tell kD_X2_tell rfl (Nat.le_of_ble_eq_true rfl) dX11_box_45 (q := 48) rfl ?_
        show g_G 3 X Y 48 [(0, g_r Y 0), (1, .int x1), (2, .int x2)] [.int p6.1] p6.2
        obtain rfl := Option.some.inj h
        exact g_iret C E dX11_box_48
    · have h := hif.1 c
      clear hif
      refine g_sub [0] (lv' := [(0, g_r Y 0)]) rfl ?_
      exact t_X11_box_18 C E M h
theorem r_X11_box {x1 : Int32} {x2 : Int32} {M : g_M} {p : Int32 × g_M} (h : f_X11_box x1 x2 M = some p) : g_fr [2, 25, 26, 27, 28, 29, 30, 31] [(1, 1), (24, 0), (24, 1)] M p.2 := by
  unfold f_X11_box at h
  have hf := g_fr.rfl (S := [2, 25, 26, 27, 28, 29, 30, 31]) (T := [(1, 1), (24, 0), (24, 1)]) (M := M)
  obtain ⟨p1, -, h⟩ := g_bind h
  rcases g_ifs h with h | h
  · exact hf.trans (r_X11_box_18 M h)
  · obtain ⟨p3, -, h⟩ := g_bind h
    rcases g_ifs h with h | h
    · exact hf.trans (r_X11_box_18 M h)
    · obtain ⟨p4, -, h⟩ := g_bind h
      rcases g_ifs h with h | h
      · obtain ⟨p6, hp6, h⟩ := g_bind h
        have hf := hf.trans ((r_X2_tell hp6).mono (by decide) (by decide))
        obtain rfl := Option.some.inj h
        exact hf
      · obtain ⟨p5, hp5, h⟩ := g_bind h
        have hf := hf.trans ((r_X4_addBox hp5).mono (by decide) (by decide))
        obtain rfl := Option.some.inj h
        exact hf
def f_X11_hanging (x1 : Int32) (x2 : Int32) (M : g_M) : Option (Int32 × g_M) :=
  (f_X4_has x1 M).bind fun p1 => (if p1 = 0 then ((f_X2_tell (-1000000001) M).bind fun p15 => some (p15.1, p15.2)) else ((if x2 = 0 then ((g_ld M 25 40 x1).bind fun v2 => some (v2, M)) else (if x2 = 1 then ((f_X4_isOf x1 2 M).bind fun p3 => (if p3 = 0 then ((g_ld M 26 40 x1).bind fun v4 => some (v4, M)) else ((f_X2_tell (-1000000003) M).bind fun p5 => some (p5.1, p5.2)))) else (if x2 = 2 then ((f_X4_isOf x1 1 M).bind fun p6 => (if p6 = 0 then ((g_ld M 28 40 x1).bind fun v7 => some (v7, M)) else ((f_X2_tell (-1000000003) M).bind fun p8 => some (p8.1, p8.2)))) else (if x2 = 3 then ((f_X4_isOf x1 2 M).bind fun p9 => (if p9 = 0 then ((f_X2_tell (-1000000003) M).bind fun p10 => some (p10.1, p10.2)) else ((g_ld M 29 40 x1).bind fun v11 => some (v11, M)))) else (if x2 = 4 then ((g_ld M 30 40 x1).bind fun v12 => some (v12, M)) else (if x2 = 5 then ((g_ld M 31 40 x1).bind fun v13 => some (v13, M)) else (f_X2_tell (-1000000001) M).bind fun p14 => some (p14.1, p14.2)))))))))
set_option maxRecDepth 100000 in
theorem m_X11_hanging {l : Launch} {Y : g_Y} {x1 : Int32} {x2 : Int32} {M : g_M} {p : Int32 × g_M} (h : f_X11_hanging x1 x2 M = some p) : g_R l Y (1) yX11_hanging cX11_hanging 3 (some .int) [g_r Y 0, .int x1, .int x2] M (some (.int p.1)) p.2 := by
  unfold f_X11_hanging at h
  refine g_R_of kP_X11 rfl (Nat.le_of_ble_eq_true rfl) (fun X C E => ?_)
  show g_G 3 X Y 0 [(0, g_r Y 0), (1, .int x1), (2, .int x2)] [] M
  refine g_aload_n C 0 dX11_hanging_0 (q := 1) rfl rfl rfl ?_
  refine g_get C (k := 0) (i := 3) (by decide) (gc_0 Y _ _) rfl kU_X11 (by decide) kF_X11_33 rfl dX11_hanging_1 (q := 4) rfl ?_
  refine g_iload_n C 1 dX11_hanging_4 (q := 5) rfl rfl rfl ?_
  obtain ⟨p1, hp1, h⟩ := g_bind h
  refine g_callV C (k := 24) (as := [.int x1]) (st := []) (m_X4_has hp1) (g_hR (by decide)) (by decide) (by decide) (gc_24 Y _ _) rfl kM_X11_191 kI_X4_has kS_X4_has kN_X4 kC_X4_has kD_X4_has rfl (Nat.le_of_ble_eq_true rfl) dX11_hanging_5 (q := 8) rfl ?_
  show g_G 3 X Y 8 [(0, g_r Y 0), (1, .int x1), (2, .int x2)] [.int p1] M
  have hif := g_if h
  clear h
  refine g_if_ne C dX11_hanging_8 (q := 11) (tgt := 21) rfl (by decide) (fun c => ?_) (fun c => ?_)
  · have h := hif.2 c
    clear hif
    refine g_iload_n C 2 dX11_hanging_21 (q := 22) rfl rfl rfl ?_
    by_cases e : x2 = 0
    · rw [if_pos e] at h
      refine g_tabI C (off := 38) (tgt := 60) dX11_hanging_22 (by rw [e]; decide) (by rw [e]; decide) (by rw [e]; decide) (by decide) ?_
      refine g_aload_n C 0 dX11_hanging_60 (q := 61) rfl rfl rfl ?_
      refine g_get C (k := 0) (i := 3) (by decide) (gc_0 Y _ _) rfl kU_X11 (by decide) kF_X11_33 rfl dX11_hanging_61 (q := 64) rfl ?_
      refine g_get C (k := 24) (i := 2) (by decide) (gc_24 Y _ _) rfl kU_X4 (by decide) kF_X11_199 rfl dX11_hanging_64 (q := 67) rfl ?_
      refine g_iload_n C 1 dX11_hanging_67 (q := 68) rfl rfl rfl ?_
      obtain ⟨v2, hv2, h⟩ := g_bind h
      refine g_iald C (k := 25) (n := 40) (by decide) (gc_25 Y _ _) hv2 dX11_hanging_68 (q := 69) rfl ?_
      obtain rfl := Option.some.inj h
      exact g_iret C E dX11_hanging_69
    rw [if_neg e] at h
    have n0 := g_toI (n := 0) (v := 0) (by decide) e
    by_cases e : x2 = 1
    · rw [if_pos e] at h
      refine g_tabI C (off := 48) (tgt := 70) dX11_hanging_22 (by rw [e]; decide) (by rw [e]; decide) (by rw [e]; decide) (by decide) ?_
      refine g_aload_n C 0 dX11_hanging_70 (q := 71) rfl rfl rfl ?_
      refine g_get C (k := 0) (i := 3) (by decide) (gc_0 Y _ _) rfl kU_X11 (by decide) kF_X11_33 rfl dX11_hanging_71 (q := 74) rfl ?_
      refine g_iload_n C 1 dX11_hanging_74 (q := 75) rfl rfl rfl ?_
      refine g_iconst C (v := 2) dX11_hanging_75 (q := 76) rfl (by decide) ?_
      obtain ⟨p3, hp3, h⟩ := g_bind h
      refine g_callV C (k := 24) (as := [.int x1, .int 2]) (st := []) (m_X4_isOf hp3) (g_hR (by decide)) (by decide) (by decide) (gc_24 Y _ _) rfl kM_X11_202 kI_X4_isOf kS_X4_isOf kN_X4 kC_X4_isOf kD_X4_isOf rfl (Nat.le_of_ble_eq_true rfl) dX11_hanging_76 (q := 79) rfl ?_
      show g_G 3 X Y 79 [(0, g_r Y 0), (1, .int x1), (2, .int x2)] [.int p3] M
      have hif := g_if h
      clear h
      refine g_if_eq C dX11_hanging_79 (q := 82) (tgt := 94) rfl (by decide) (fun c => ?_) (fun c => ?_)
      · have h := hif.1 c
        clear hif
        refine g_aload_n C 0 dX11_hanging_94 (q := 95) rfl rfl rfl ?_
        refine g_get C (k := 0) (i := 3) (by decide) (gc_0 Y _ _) rfl kU_X11 (by decide) kF_X11_33 rfl dX11_hanging_95 (q := 98) rfl ?_
        refine g_get C (k := 24) (i := 3) (by decide) (gc_24 Y _ _) rfl kU_X4 (by decide) kF_X11_207 rfl dX11_hanging_98 (q := 101) rfl ?_
        refine g_iload_n C 1 dX11_hanging_101 (q := 102) rfl rfl rfl ?_
        obtain ⟨v4, hv4, h⟩ := g_bind h
        refine g_iald C (k := 26) (n := 40) (by decide) (gc_26 Y _ _) hv4 dX11_hanging_102 (q := 103) rfl ?_
        obtain rfl := Option.some.inj h
        exact g_iret C E dX11_hanging_103
      · have h := hif.2 c
        clear hif
        refine g_aload_n C 0 dX11_hanging_82 (q := 83) rfl rfl rfl ?_
        refine g_get C (k := 0) (i := 0) (by decide) (gc_0 Y _ _) rfl kU_X11 (by decide) kF_X11_12 rfl dX11_hanging_83 (q := 86) rfl ?_
        refine g_ldc C (v := (-1000000003)) kK_X11_206 dX11_hanging_86 (q := 88) rfl ?_
        obtain ⟨p5, hp5, h⟩ := g_bind h
        refine g_callV C (k := 1) (as := [.int (-1000000003)]) (st := []) (m_X2_tell hp5) (g_hR (by decide)) (by decide) (by decide) (gc_1 Y _ _) rfl kM_X11_91 kI_X2_tell kS_X2_tell kN_X2 kC_X2_tell kD_X2_tell rfl (Nat.le_of_ble_eq_true rfl) dX11_hanging_88 (q := 91) rfl ?_
        show g_G 3 X Y 91 [(0, g_r Y 0), (1, .int x1), (2, .int x2)] [.int p5.1] p5.2
        refine g_goto C dX11_hanging_91 (tgt := 103) (by decide) ?_
        obtain rfl := Option.some.inj h
        exact g_iret C E dX11_hanging_103
    rw [if_neg e] at h
    have n1 := g_toI (n := 1) (v := 1) (by decide) e
    by_cases e : x2 = 2
    · rw [if_pos e] at h
      refine g_tabI C (off := 82) (tgt := 104) dX11_hanging_22 (by rw [e]; decide) (by rw [e]; decide) (by rw [e]; decide) (by decide) ?_
      refine g_aload_n C 0 dX11_hanging_104 (q := 105) rfl rfl rfl ?_
      refine g_get C (k := 0) (i := 3) (by decide) (gc_0 Y _ _) rfl kU_X11 (by decide) kF_X11_33 rfl dX11_hanging_105 (q := 108) rfl ?_
      refine g_iload_n C 1 dX11_hanging_108 (q := 109) rfl rfl rfl ?_
      refine g_iconst C (v := 1) dX11_hanging_109 (q := 110) rfl (by decide) ?_
      obtain ⟨p6, hp6, h⟩ := g_bind h
      refine g_callV C (k := 24) (as := [.int x1, .int 1]) (st := []) (m_X4_isOf hp6) (g_hR (by decide)) (by decide) (by decide) (gc_24 Y _ _) rfl kM_X11_202 kI_X4_isOf kS_X4_isOf kN_X4 kC_X4_isOf kD_X4_isOf rfl (Nat.le_of_ble_eq_true rfl) dX11_hanging_110 (q := 113) rfl ?_
      show g_G 3 X Y 113 [(0, g_r Y 0), (1, .int x1), (2, .int x2)] [.int p6] M
      have hif := g_if h
      clear h
      refine g_if_eq C dX11_hanging_113 (q := 116) (tgt := 128) rfl (by decide) (fun c => ?_) (fun c => ?_)
      · have h := hif.1 c
        clear hif
        refine g_aload_n C 0 dX11_hanging_128 (q := 129) rfl rfl rfl ?_
        refine g_get C (k := 0) (i := 3) (by decide) (gc_0 Y _ _) rfl kU_X11 (by decide) kF_X11_33 rfl dX11_hanging_129 (q := 132) rfl ?_
        refine g_get C (k := 24) (i := 5) (by decide) (gc_24 Y _ _) rfl kU_X4 (by decide) kF_X11_210 rfl dX11_hanging_132 (q := 135) rfl ?_
        refine g_iload_n C 1 dX11_hanging_135 (q := 136) rfl rfl rfl ?_
        obtain ⟨v7, hv7, h⟩ := g_bind h
        refine g_iald C (k := 28) (n := 40) (by decide) (gc_28 Y _ _) hv7 dX11_hanging_136 (q := 137) rfl ?_
        obtain rfl := Option.some.inj h
        exact g_iret C E dX11_hanging_137
      · have h := hif.2 c
        clear hif
        refine g_aload_n C 0 dX11_hanging_116 (q := 117) rfl rfl rfl ?_
        refine g_get C (k := 0) (i := 0) (by decide) (gc_0 Y _ _) rfl kU_X11 (by decide) kF_X11_12 rfl dX11_hanging_117 (q := 120) rfl ?_
        refine g_ldc C (v := (-1000000003)) kK_X11_206 dX11_hanging_120 (q := 122) rfl ?_
        obtain ⟨p8, hp8, h⟩ := g_bind h
        refine g_callV C (k := 1) (as := [.int (-1000000003)]) (st := []) (m_X2_tell hp8) (g_hR (by decide)) (by decide) (by decide) (gc_1 Y _ _) rfl kM_X11_91 kI_X2_tell kS_X2_tell kN_X2 kC_X2_tell kD_X2_tell rfl (Nat.le_of_ble_eq_true rfl) dX11_hanging_122 (q := 125) rfl ?_
        show g_G 3 X Y 125 [(0, g_r Y 0), (1, .int x1), (2, .int x2)] [.int p8.1] p8.2
        refine g_goto C dX11_hanging_125 (tgt := 137) (by decide) ?_
        obtain rfl := Option.some.inj h
        exact g_iret C E dX11_hanging_137
    rw [if_neg e] at h
    have n2 := g_toI (n := 2) (v := 2) (by decide) e
    by_cases e : x2 = 3
    · rw [if_pos e] at h
      refine g_tabI C (off := 116) (tgt := 138) dX11_hanging_22 (by rw [e]; decide) (by rw [e]; decide) (by rw [e]; decide) (by decide) ?_
      refine g_aload_n C 0 dX11_hanging_138 (q := 139) rfl rfl rfl ?_
      refine g_get C (k := 0) (i := 3) (by decide) (gc_0 Y _ _) rfl kU_X11 (by decide) kF_X11_33 rfl dX11_hanging_139 (q := 142) rfl ?_
      refine g_iload_n C 1 dX11_hanging_142 (q := 143) rfl rfl rfl ?_
      refine g_iconst C (v := 2) dX11_hanging_143 (q := 144) rfl (by decide) ?_
      obtain ⟨p9, hp9, h⟩ := g_bind h
      refine g_callV C (k := 24) (as := [.int x1, .int 2]) (st := []) (m_X4_isOf hp9) (g_hR (by decide)) (by decide) (by decide) (gc_24 Y _ _) rfl kM_X11_202 kI_X4_isOf kS_X4_isOf kN_X4 kC_X4_isOf kD_X4_isOf rfl (Nat.le_of_ble_eq_true rfl) dX11_hanging_144 (q := 147) rfl ?_
      show g_G 3 X Y 147 [(0, g_r Y 0), (1, .int x1), (2, .int x2)] [.int p9] M
      have hif := g_if h
      clear h
      refine g_if_eq C dX11_hanging_147 (q := 150) (tgt := 162) rfl (by decide) (fun c => ?_) (fun c => ?_)
      · have h := hif.1 c
        clear hif
        refine g_aload_n C 0 dX11_hanging_162 (q := 163) rfl rfl rfl ?_
        refine g_get C (k := 0) (i := 0) (by decide) (gc_0 Y _ _) rfl kU_X11 (by decide) kF_X11_12 rfl dX11_hanging_163 (q := 166) rfl ?_
        refine g_ldc C (v := (-1000000003)) kK_X11_206 dX11_hanging_166 (q := 168) rfl ?_
        obtain ⟨p10, hp10, h⟩ := g_bind h
        refine g_callV C (k := 1) (as := [.int (-1000000003)]) (st := []) (m_X2_tell hp10) (g_hR (by decide)) (by decide) (by decide) (gc_1 Y _ _) rfl kM_X11_91 kI_X2_tell kS_X2_tell kN_X2 kC_X2_tell kD_X2_tell rfl (Nat.le_of_ble_eq_true rfl) dX11_hanging_168 (q := 171) rfl ?_
        show g_G 3 X Y 171 [(0, g_r Y 0), (1, .int x1), (2, .int x2)] [.int p10.1] p10.2
        obtain rfl := Option.some.inj h
        exact g_iret C E dX11_hanging_171
      · have h := hif.2 c
        clear hif
        refine g_aload_n C 0 dX11_hanging_150 (q := 151) rfl rfl rfl ?_
        refine g_get C (k := 0) (i := 3) (by decide) (gc_0 Y _ _) rfl kU_X11 (by decide) kF_X11_33 rfl dX11_hanging_151 (q := 154) rfl ?_
        refine g_get C (k := 24) (i := 6) (by decide) (gc_24 Y _ _) rfl kU_X4 (by decide) kF_X11_213 rfl dX11_hanging_154 (q := 157) rfl ?_
        refine g_iload_n C 1 dX11_hanging_157 (q := 158) rfl rfl rfl ?_
        obtain ⟨v11, hv11, h⟩ := g_bind h
        refine g_iald C (k := 29) (n := 40) (by decide) (gc_29 Y _ _) hv11 dX11_hanging_158 (q := 159) rfl ?_
        refine g_goto C dX11_hanging_159 (tgt := 171) (by decide) ?_
        obtain rfl := Option.some.inj h
        exact g_iret C E dX11_hanging_171
    rw [if_neg e] at h
    have n3 := g_toI (n := 3) (v := 3) (by decide) e
    by_cases e : x2 = 4
    · rw [if_pos e] at h
      refine g_tabI C (off := 150) (tgt := 172) dX11_hanging_22 (by rw [e]; decide) (by rw [e]; decide) (by rw [e]; decide) (by decide) ?_
      refine g_aload_n C 0 dX11_hanging_172 (q := 173) rfl rfl rfl ?_
      refine g_get C (k := 0) (i := 3) (by decide) (gc_0 Y _ _) rfl kU_X11 (by decide) kF_X11_33 rfl dX11_hanging_173 (q := 176) rfl ?_
      refine g_get C (k := 24) (i := 7) (by decide) (gc_24 Y _ _) rfl kU_X4 (by decide) kF_X11_216 rfl dX11_hanging_176 (q := 179) rfl ?_
      refine g_iload_n C 1 dX11_hanging_179 (q := 180) rfl rfl rfl ?_
      obtain ⟨v12, hv12, h⟩ := g_bind h
      refine g_iald C (k := 30) (n := 40) (by decide) (gc_30 Y _ _) hv12 dX11_hanging_180 (q := 181) rfl ?_
      obtain rfl := Option.some.inj h
      exact g_iret C E dX11_hanging_181
    rw [if_neg e] at h
    have n4 := g_toI (n := 4) (v := 4) (by decide) e
    by_cases e : x2 = 5
    · rw [if_pos e] at h
      refine g_tabI C (off := 160) (tgt := 182) dX11_hanging_22 (by rw [e]; decide) (by rw [e]; decide) (by rw [e]; decide) (by decide) ?_
      refine g_aload_n C 0 dX11_hanging_182 (q := 183) rfl rfl rfl ?_
      refine g_get C (k := 0) (i := 3) (by decide) (gc_0 Y _ _) rfl kU_X11 (by decide) kF_X11_33 rfl dX11_hanging_183 (q := 186) rfl ?_
      refine g_get C (k := 24) (i := 8) (by decide) (gc_24 Y _ _) rfl kU_X4 (by decide) kF_X11_219 rfl dX11_hanging_186 (q := 189) rfl ?_
      refine g_iload_n C 1 dX11_hanging_189 (q := 190) rfl rfl rfl ?_
      obtain ⟨v13, hv13, h⟩ := g_bind h
      refine g_iald C (k := 31) (n := 40) (by decide) (gc_31 Y _ _) hv13 dX11_hanging_190 (q := 191) rfl ?_
      obtain rfl := Option.some.inj h
      exact g_iret C E dX11_hanging_191
    rw [if_neg e] at h
    have n5 := g_toI (n := 5) (v := 5) (by decide) e
    have hdef : g_G 3 X Y 192 [(0, g_r Y 0), (1, .int x1), (2, .int x2)] [] M := by
      refine g_aload_n C 0 dX11_hanging_192 (q := 193) rfl rfl rfl ?_
      refine g_get C (k := 0) (i := 0) (by decide) (gc_0 Y _ _) rfl kU_X11 (by decide) kF_X11_12 rfl dX11_hanging_193 (q := 196) rfl ?_
      refine g_ldc C (v := (-1000000001)) kK_X11_90 dX11_hanging_196 (q := 198) rfl ?_
      obtain ⟨p14, hp14, h⟩ := g_bind h
      refine g_callV C (k := 1) (as := [.int (-1000000001)]) (st := []) (m_X2_tell hp14) (g_hR (by decide)) (by decide) (by decide) (gc_1 Y _ _) rfl kM_X11_91 kI_X2_tell kS_X2_tell kN_X2 kC_X2_tell kD_X2_tell rfl (Nat.le_of_ble_eq_true rfl) dX11_hanging_198 (q := 201) rfl ?_
      show g_G 3 X Y 201 [(0, g_r Y 0), (1, .int x1), (2, .int x2)] [.int p14.1] p14.2
      obtain rfl := Option.some.inj h
      exact g_iret C E dX11_hanging_201
    refine g_tabO C (tgt := 192) dX11_hanging_22 (by omega) (by decide) hdef
  · have h := hif.1 c
    clear hif
    refine g_aload_n C 0 dX11_hanging_11 (q := 12) rfl rfl rfl ?_
    refine g_get C (k := 0) (i := 0) (by decide) (gc_0 Y _ _) rfl kU_X11 (by decide) kF_X11_12 rfl dX11_hanging_12 (q := 15) rfl ?_
    refine g_ldc C (v := (-1000000001)) kK_X11_90 dX11_hanging_15 (q := 17) rfl ?_
    obtain ⟨p15, hp15, h⟩ := g_bind h
    refine g_callV C (k := 1) (as := [.int (-1000000001)]) (st := []) (m_X2_tell hp15) (g_hR (by decide)) (by decide) (by decide) (gc_1 Y _ _) rfl kM_X11_91 kI_X2_tell kS_X2_tell kN_X2 kC_X2_tell kD_X2_tell rfl (Nat.le_of_ble_eq_true rfl) dX11_hanging_17 (q := 20) rfl ?_
    show g_G 3 X Y 20 [(0, g_r Y 0), (1, .int x1), (2, .int x2)] [.int p15.1] p15.2
    obtain rfl := Option.some.inj h
    exact g_iret C E dX11_hanging_20
theorem r_X11_hanging {x1 : Int32} {x2 : Int32} {M : g_M} {p : Int32 × g_M} (h : f_X11_hanging x1 x2 M = some p) : g_fr [2] [(1, 1)] M p.2 := by
  unfold f_X11_hanging at h
  have hf := g_fr.rfl (S := [2]) (T := [(1, 1)]) (M := M)
  obtain ⟨p1, -, h⟩ := g_bind h
  rcases g_ifs h with h | h
  · obtain ⟨p15, hp15, h⟩ := g_bind h
    have hf := hf.trans ((r_X2_tell hp15).mono (by decide) (by decide))
    obtain rfl := Option.some.inj h
    exact hf
  · rcases g_ifs h with h | h
    · obtain ⟨v2, -, h⟩ := g_bind h
      obtain rfl := Option.some.inj h
      exact hf
    rcases g_ifs h with h | h
    · obtain ⟨p3, -, h⟩ := g_bind h
      rcases g_ifs h with h | h
      · obtain ⟨v4, -, h⟩ := g_bind h
        obtain rfl := Option.some.inj h
        exact hf
      · obtain ⟨p5, hp5, h⟩ := g_bind h
        have hf := hf.trans ((r_X2_tell hp5).mono (by decide) (by decide))
        obtain rfl := Option.some.inj h
        exact hf
    rcases g_ifs h with h | h
    · obtain ⟨p6, -, h⟩ := g_bind h
      rcases g_ifs h with h | h
      · obtain ⟨v7, -, h⟩ := g_bind h
        obtain rfl := Option.some.inj h
        exact hf
      · obtain ⟨p8, hp8, h⟩ := g_bind h
        have hf := hf.trans ((r_X2_tell hp8).mono (by decide) (by decide))
        obtain rfl := Option.some.inj h
        exact hf
    rcases g_ifs h with h | h
    · obtain ⟨p9, -, h⟩ := g_bind h
      rcases g_ifs h with h | h
      · obtain ⟨p10, hp10, h⟩ := g_bind h
        have hf := hf.trans ((r_X2_tell hp10).mono (by decide) (by decide))
        obtain rfl := Option.some.inj h
        exact hf
      · obtain ⟨v11, -, h⟩ := g_bind h
        obtain rfl := Option.some.inj h
        exact hf
    rcases g_ifs h with h | h
    · obtain ⟨v12, -, h⟩ := g_bind h
      obtain rfl := Option.some.inj h
      exact hf
    rcases g_ifs h with h | h
    · obtain ⟨v13, -, h⟩ := g_bind h
      obtain rfl := Option.some.inj h
      exact hf
    obtain ⟨p14, hp14, h⟩ := g_bind h
    have hf := hf.trans ((r_X2_tell hp14).mono (by decide) (by decide))
    obtain rfl := Option.some.inj h
    exact hf
def f_X11_as_20 (M : g_M) : Option (Int32 × g_M) :=
  (f_X2_tell (-1000000001) M).bind fun p2 => some (p2.1, p2.2)
set_option maxRecDepth 100000 in
theorem t_X11_as_20 {l : Launch} {X : g_X} {Y : g_Y} {p : Int32 × g_M} (C : g_C l (g_rm (1)) RX11 cX11_as 3 X Y) (E : g_E (some .int) X Y (some (.int p.1)) p.2) (M : g_M) (h : f_X11_as_20 M = some p) : g_G 3 X Y 20 [(0, g_r Y 0)] [] M := by
  unfold f_X11_as_20 at h
  refine g_aload_n C 0 dX11_as_20 (q := 21) rfl rfl rfl ?_
  refine g_get C (k := 0) (i := 0) (by decide) (gc_0 Y _ _) rfl kU_X11 (by decide) kF_X11_12 rfl dX11_as_21 (q := 24) rfl ?_
  refine g_ldc C (v := (-1000000001)) kK_X11_90 dX11_as_24 (q := 26) rfl ?_
  obtain ⟨p2, hp2, h⟩ := g_bind h
  refine g_callV C (k := 1) (as := [.int (-1000000001)]) (st := []) (m_X2_tell hp2) (g_hR (by decide)) (by decide) (by decide) (gc_1 Y _ _) rfl kM_X11_91 kI_X2_tell kS_X2_tell kN_X2 kC_X2_tell kD_X2_tell rfl (Nat.le_of_ble_eq_true rfl) dX11_as_26 (q := 29) rfl ?_
  show g_G 3 X Y 29 [(0, g_r Y 0)] [.int p2.1] p2.2
  obtain rfl := Option.some.inj h
  exact g_iret C E dX11_as_29
theorem r_X11_as_20 {p : Int32 × g_M} (M : g_M) (h : f_X11_as_20 M = some p) : g_fr [2] [(1, 1)] M p.2 := by
  unfold f_X11_as_20 at h
  have hf := g_fr.rfl (S := [2]) (T := [(1, 1)]) (M := M)
  obtain ⟨p2, hp2, h⟩ := g_bind h
  have hf := hf.trans ((r_X2_tell hp2).mono (by decide) (by decide))
  obtain rfl := Option.some.inj h
  exact hf
def f_X11_as (x1 : Int32) (x2 : Int32) (M : g_M) : Option (Int32 × g_M) :=
  (f_X4_has x1 M).bind fun p1 => (if p1 = 0 then (f_X11_as_20 M) else ((if x2 < 0 then (f_X11_as_20 M) else ((if x2 ≤ 5 then ((f_X4_isOf x1 x2 M).bind fun p3 => (if p3 = 0 then ((f_X2_tell (-1000000003) M).bind fun p4 => some (p4.1, p4.2)) else (some (x1, M)))) else (f_X11_as_20 M))))))
set_option maxRecDepth 100000 in
theorem m_X11_as {l : Launch} {Y : g_Y} {x1 : Int32} {x2 : Int32} {M : g_M} {p : Int32 × g_M} (h : f_X11_as x1 x2 M = some p) : g_R l Y (1) yX11_as cX11_as 3 (some .int) [g_r Y 0, .int x1, .int x2] M (some (.int p.1)) p.2 := by
  unfold f_X11_as at h
  refine g_R_of kP_X11 rfl (Nat.le_of_ble_eq_true rfl) (fun X C E => ?_)
  show g_G 3 X Y 0 [(0, g_r Y 0), (1, .int x1), (2, .int x2)] [] M
  refine g_aload_n C 0 dX11_as_0 (q := 1) rfl rfl rfl ?_
  refine g_get C (k := 0) (i := 3) (by decide) (gc_0 Y _ _) rfl kU_X11 (by decide) kF_X11_33 rfl dX11_as_1 (q := 4) rfl ?_
  refine g_iload_n C 1 dX11_as_4 (q := 5) rfl rfl rfl ?_
  obtain ⟨p1, hp1, h⟩ := g_bind h
  refine g_callV C (k := 24) (as := [.int x1]) (st := []) (m_X4_has hp1) (g_hR (by decide)) (by decide) (by decide) (gc_24 Y _ _) rfl kM_X11_191 kI_X4_has kS_X4_has kN_X4 kC_X4_has kD_X4_has rfl (Nat.le_of_ble_eq_true rfl) dX11_as_5 (q := 8) rfl ?_
  show g_G 3 X Y 8 [(0, g_r Y 0), (1, .int x1), (2, .int x2)] [.int p1] M
  have hif := g_if h
  clear h
  refine g_if_eq C dX11_as_8 (q := 11) (tgt := 20) rfl (by decide) (fun c => ?_) (fun c => ?_)
  · have h := hif.1 c
    clear hif
    refine g_sub [0] (lv' := [(0, g_r Y 0)]) rfl ?_
    exact t_X11_as_20 C E M h
  · have h := hif.2 c
    clear hif
    refine g_iload_n C 2 dX11_as_11 (q := 12) rfl rfl rfl ?_
    have hif := g_if h
    clear h
    refine g_if_lt C dX11_as_12 (q := 15) (tgt := 20) rfl (by decide) (fun c => ?_) (fun c => ?_)
    · have h := hif.1 c
      clear hif
      refine g_sub [0] (lv' := [(0, g_r Y 0)]) rfl ?_
      exact t_X11_as_20 C E M h
    · have h := hif.2 c
      clear hif
      refine g_iload_n C 2 dX11_as_15 (q := 16) rfl rfl rfl ?_
      refine g_iconst C (v := 5) dX11_as_16 (q := 17) rfl (by decide) ?_
      have hif := g_if h
      clear h
      refine g_icmp_le C dX11_as_17 (q := 20) (tgt := 30) rfl (by decide) (fun c => ?_) (fun c => ?_)
      · have h := hif.1 c
        clear hif
        refine g_aload_n C 0 dX11_as_30 (q := 31) rfl rfl rfl ?_
        refine g_get C (k := 0) (i := 3) (by decide) (gc_0 Y _ _) rfl kU_X11 (by decide) kF_X11_33 rfl dX11_as_31 (q := 34) rfl ?_
        refine g_iload_n C 1 dX11_as_34 (q := 35) rfl rfl rfl ?_
        refine g_iload_n C 2 dX11_as_35 (q := 36) rfl rfl rfl ?_
        obtain ⟨p3, hp3, h⟩ := g_bind h
        refine g_callV C (k := 24) (as := [.int x1, .int x2]) (st := []) (m_X4_isOf hp3) (g_hR (by decide)) (by decide) (by decide) (gc_24 Y _ _) rfl kM_X11_202 kI_X4_isOf kS_X4_isOf kN_X4 kC_X4_isOf kD_X4_isOf rfl (Nat.le_of_ble_eq_true rfl) dX11_as_36 (q := 39) rfl ?_
        show g_G 3 X Y 39 [(0, g_r Y 0), (1, .int x1), (2, .int x2)] [.int p3] M
        have hif := g_if h
        clear h
        refine g_if_eq C dX11_as_39 (q := 42) (tgt := 46) rfl (by decide) (fun c => ?_) (fun c => ?_)
        · have h := hif.1 c
          clear hif
          refine g_aload_n C 0 dX11_as_46 (q := 47) rfl rfl rfl ?_
          refine g_get C (k := 0) (i := 0) (by decide) (gc_0 Y _ _) rfl kU_X11 (by decide) kF_X11_12 rfl dX11_as_47 (q := 50) rfl ?_
          refine g_ldc C (v := (-1000000003)) kK_X11_206 dX11_as_50 (q := 52) rfl ?_
          obtain ⟨p4, hp4, h⟩ := g_bind h
          refine g_callV C (k := 1) (as := [.int (-1000000003)]) (st := []) (m_X2_tell hp4) (g_hR (by decide)) (by decide) (by decide) (gc_1 Y _ _) rfl kM_X11_91 kI_X2_tell kS_X2_tell kN_X2 kC_X2_tell kD_X2_tell rfl (Nat.le_of_ble_eq_true rfl) dX11_as_52 (q := 55) rfl ?_
          show g_G 3 X Y 55 [(0, g_r Y 0), (1, .int x1), (2, .int x2)] [.int p4.1] p4.2
          obtain rfl := Option.some.inj h
          exact g_iret C E dX11_as_55
        · have h := hif.2 c
          clear hif
          refine g_iload_n C 1 dX11_as_42 (q := 43) rfl rfl rfl ?_
          refine g_goto C dX11_as_43 (tgt := 55) (by decide) ?_
          obtain rfl := Option.some.inj h
          exact g_iret C E dX11_as_55
      · have h := hif.2 c
        clear hif
        refine g_sub [0] (lv' := [(0, g_r Y 0)]) rfl ?_
        exact t_X11_as_20 C E M h
theorem r_X11_as {x1 : Int32} {x2 : Int32} {M : g_M} {p : Int32 × g_M} (h : f_X11_as x1 x2 M = some p) : g_fr [2] [(1, 1)] M p.2 := by
  unfold f_X11_as at h
  have hf := g_fr.rfl (S := [2]) (T := [(1, 1)]) (M := M)
  obtain ⟨p1, -, h⟩ := g_bind h
  rcases g_ifs h with h | h
  · exact hf.trans (r_X11_as_20 M h)
  · rcases g_ifs h with h | h
    · exact hf.trans (r_X11_as_20 M h)
    · rcases g_ifs h with h | h
      · obtain ⟨p3, -, h⟩ := g_bind h
        rcases g_ifs h with h | h
        · obtain ⟨p4, hp4, h⟩ := g_bind h
          have hf := hf.trans ((r_X2_tell hp4).mono (by decide) (by decide))
          obtain rfl := Option.some.inj h
          exact hf
        · obtain rfl := Option.some.inj h
          exact hf
      · exact hf.trans (r_X11_as_20 M h)
def f_X11_key_18 (M : g_M) : Option (Int32 × g_M) :=
  (f_X2_tell (-1000000001) M).bind fun p2 => some (p2.1, p2.2)
set_option maxRecDepth 100000 in
theorem t_X11_key_18 {l : Launch} {X : g_X} {Y : g_Y} {p : Int32 × g_M} (C : g_C l (g_rm (1)) RX11 cX11_key 4 X Y) (E : g_E (some .int) X Y (some (.int p.1)) p.2) (M : g_M) (h : f_X11_key_18 M = some p) : g_G 4 X Y 18 [(0, g_r Y 0)] [] M := by
  unfold f_X11_key_18 at h
  refine g_aload_n C 0 dX11_key_18 (q := 19) rfl rfl rfl ?_
  refine g_get C (k := 0) (i := 0) (by decide) (gc_0 Y _ _) rfl kU_X11 (by decide) kF_X11_12 rfl dX11_key_19 (q := 22) rfl ?_
  refine g_ldc C (v := (-1000000001)) kK_X11_90 dX11_key_22 (q := 24) rfl ?_
  obtain ⟨p2, hp2, h⟩ := g_bind h
  refine g_callV C (k := 1) (as := [.int (-1000000001)]) (st := []) (m_X2_tell hp2) (g_hR (by decide)) (by decide) (by decide) (gc_1 Y _ _) rfl kM_X11_91 kI_X2_tell kS_X2_tell kN_X2 kC_X2_tell kD_X2_tell rfl (Nat.le_of_ble_eq_true rfl) dX11_key_24 (q := 27) rfl ?_
  show g_G 4 X Y 27 [(0, g_r Y 0)] [.int p2.1] p2.2
  obtain rfl := Option.some.inj h
  exact g_iret C E dX11_key_27
theorem r_X11_key_18 {p : Int32 × g_M} (M : g_M) (h : f_X11_key_18 M = some p) : g_fr [2, 5] [(1, 1), (3, 3)] M p.2 := by
  unfold f_X11_key_18 at h
  have hf := g_fr.rfl (S := [2, 5]) (T := [(1, 1), (3, 3)]) (M := M)
  obtain ⟨p2, hp2, h⟩ := g_bind h
  have hf := hf.trans ((r_X2_tell hp2).mono (by decide) (by decide))
  obtain rfl := Option.some.inj h
  exact hf
def f_X11_key (x1 : Int32) (x2 : Int32) (x3 : Int32) (M : g_M) : Option (Int32 × g_M) :=
  (f_X0_has x1 M).bind fun p1 => (if p1 = 0 then (f_X11_key_18 M) else ((f_X11_isKey x2 M).bind fun p3 => (if p3 = 0 then (f_X11_key_18 M) else ((f_X0_setKey x1 x2 x3 M).bind fun p4 => (if p4.1 = 0 then (some (0, p4.2)) else (some (1, p4.2)))))))
set_option maxRecDepth 100000 in
theorem m_X11_key {l : Launch} {Y : g_Y} {x1 : Int32} {x2 : Int32} {x3 : Int32} {M : g_M} {p : Int32 × g_M} (h : f_X11_key x1 x2 x3 M = some p) : g_R l Y (1) yX11_key cX11_key 4 (some .int) [g_r Y 0, .int x1, .int x2, .int x3] M (some (.int p.1)) p.2 := by
  unfold f_X11_key at h
  refine g_R_of kP_X11 rfl (Nat.le_of_ble_eq_true rfl) (fun X C E => ?_)
  show g_G 4 X Y 0 [(0, g_r Y 0), (1, .int x1), (2, .int x2), (3, .int x3)] [] M
  refine g_aload_n C 0 dX11_key_0 (q := 1) rfl rfl rfl ?_
  refine g_get C (k := 0) (i := 1) (by decide) (gc_0 Y _ _) rfl kU_X11 (by decide) kF_X11_19 rfl dX11_key_1 (q := 4) rfl ?_
  refine g_iload_n C 1 dX11_key_4 (q := 5) rfl rfl rfl ?_
  obtain ⟨p1, hp1, h⟩ := g_bind h
  refine g_callV C (k := 3) (as := [.int x1]) (st := []) (m_X0_has hp1) (g_hR (by decide)) (by decide) (by decide) (gc_3 Y _ _) rfl kM_X11_103 kI_X0_has kS_X0_has kN_X0 kC_X0_has kD_X0_has rfl (Nat.le_of_ble_eq_true rfl) dX11_key_5 (q := 8) rfl ?_
  show g_G 4 X Y 8 [(0, g_r Y 0), (1, .int x1), (2, .int x2), (3, .int x3)] [.int p1] M
  have hif := g_if h
  clear h
  refine g_if_eq C dX11_key_8 (q := 11) (tgt := 18) rfl (by decide) (fun c => ?_) (fun c => ?_)
  · have h := hif.1 c
    clear hif
    refine g_sub [0] (lv' := [(0, g_r Y 0)]) rfl ?_
    exact t_X11_key_18 C E M h
  · have h := hif.2 c
    clear hif
    refine g_iload_n C 2 dX11_key_11 (q := 12) rfl rfl rfl ?_
    obtain ⟨p3, hp3, h⟩ := g_bind h
    refine g_callS C (as := [.int x2]) (st := []) (m_X11_isKey hp3) (g_hR (by decide)) (by decide) kM_X11_182 kT_X11_isKey kN_X11 kC_X11_isKey kD_X11_isKey rfl (Nat.le_of_ble_eq_true rfl) dX11_key_12 (q := 15) rfl ?_
    show g_G 4 X Y 15 [(0, g_r Y 0), (1, .int x1), (2, .int x2), (3, .int x3)] [.int p3] M
    have hif := g_if h
    clear h
    refine g_if_ne C dX11_key_15 (q := 18) (tgt := 28) rfl (by decide) (fun c => ?_) (fun c => ?_)
    · have h := hif.2 c
      clear hif
      refine g_aload_n C 0 dX11_key_28 (q := 29) rfl rfl rfl ?_
      refine g_get C (k := 0) (i := 1) (by decide) (gc_0 Y _ _) rfl kU_X11 (by decide) kF_X11_19 rfl dX11_key_29 (q := 32) rfl ?_
      refine g_iload_n C 1 dX11_key_32 (q := 33) rfl rfl rfl ?_
      refine g_iload_n C 2 dX11_key_33 (q := 34) rfl rfl rfl ?_
      refine g_iload_n C 3 dX11_key_34 (q := 35) rfl rfl rfl ?_
      obtain ⟨p4, hp4, h⟩ := g_bind h
      refine g_callV C (k := 3) (as := [.int x1, .int x2, .int x3]) (st := []) (m_X0_setKey hp4) (g_hR (by decide)) (by decide) (by decide) (gc_3 Y _ _) rfl kM_X11_222 kI_X0_setKey kS_X0_setKey kN_X0 kC_X0_setKey kD_X0_setKey rfl (Nat.le_of_ble_eq_true rfl) dX11_key_35 (q := 38) rfl ?_
      show g_G 4 X Y 38 [(0, g_r Y 0), (1, .int x1), (2, .int x2), (3, .int x3)] [.int p4.1] p4.2
      have hif := g_if h
      clear h
      refine g_if_eq C dX11_key_38 (q := 41) (tgt := 45) rfl (by decide) (fun c => ?_) (fun c => ?_)
      · have h := hif.1 c
        clear hif
        refine g_iconst C (v := 0) dX11_key_45 (q := 46) rfl (by decide) ?_
        obtain rfl := Option.some.inj h
        exact g_iret C E dX11_key_46
      · have h := hif.2 c
        clear hif
        refine g_iconst C (v := 1) dX11_key_41 (q := 42) rfl (by decide) ?_
        refine g_goto C dX11_key_42 (tgt := 46) (by decide) ?_
        obtain rfl := Option.some.inj h
        exact g_iret C E dX11_key_46
    · have h := hif.1 c
      clear hif
      refine g_sub [0] (lv' := [(0, g_r Y 0)]) rfl ?_
      exact t_X11_key_18 C E M h
theorem r_X11_key {x1 : Int32} {x2 : Int32} {x3 : Int32} {M : g_M} {p : Int32 × g_M} (h : f_X11_key x1 x2 x3 M = some p) : g_fr [2, 5] [(1, 1), (3, 3)] M p.2 := by
  unfold f_X11_key at h
  have hf := g_fr.rfl (S := [2, 5]) (T := [(1, 1), (3, 3)]) (M := M)
  obtain ⟨p1, -, h⟩ := g_bind h
  rcases g_ifs h with h | h
  · exact hf.trans (r_X11_key_18 M h)
  · obtain ⟨p3, -, h⟩ := g_bind h
    rcases g_ifs h with h | h
    · exact hf.trans (r_X11_key_18 M h)
    · obtain ⟨p4, hp4, h⟩ := g_bind h
      have hf := hf.trans ((r_X0_setKey hp4).mono (by decide) (by decide))
      rcases g_ifs h with h | h
      · obtain rfl := Option.some.inj h
        exact hf
      · obtain rfl := Option.some.inj h
        exact hf
def f_X11_lend_34 (M : g_M) : Option (Int32 × g_M) :=
  (f_X2_tell (-1000000001) M).bind fun p2 => some (p2.1, p2.2)
set_option maxRecDepth 100000 in
theorem t_X11_lend_34 {l : Launch} {X : g_X} {Y : g_Y} {p : Int32 × g_M} (C : g_C l (g_rm (1)) RX11 cX11_lend 4 X Y) (E : g_E (some .int) X Y (some (.int p.1)) p.2) (M : g_M) (h : f_X11_lend_34 M = some p) : g_G 4 X Y 34 [(0, g_r Y 0)] [] M := by
  unfold f_X11_lend_34 at h
  refine g_aload_n C 0 dX11_lend_34 (q := 35) rfl rfl rfl ?_
  refine g_get C (k := 0) (i := 0) (by decide) (gc_0 Y _ _) rfl kU_X11 (by decide) kF_X11_12 rfl dX11_lend_35 (q := 38) rfl ?_
  refine g_ldc C (v := (-1000000001)) kK_X11_90 dX11_lend_38 (q := 40) rfl ?_
  obtain ⟨p2, hp2, h⟩ := g_bind h
  refine g_callV C (k := 1) (as := [.int (-1000000001)]) (st := []) (m_X2_tell hp2) (g_hR (by decide)) (by decide) (by decide) (gc_1 Y _ _) rfl kM_X11_91 kI_X2_tell kS_X2_tell kN_X2 kC_X2_tell kD_X2_tell rfl (Nat.le_of_ble_eq_true rfl) dX11_lend_40 (q := 43) rfl ?_
  show g_G 4 X Y 43 [(0, g_r Y 0)] [.int p2.1] p2.2
  obtain rfl := Option.some.inj h
  exact g_iret C E dX11_lend_43
theorem r_X11_lend_34 {p : Int32 × g_M} (M : g_M) (h : f_X11_lend_34 M = some p) : g_fr [2, 6, 7] [(1, 1), (3, 2)] M p.2 := by
  unfold f_X11_lend_34 at h
  have hf := g_fr.rfl (S := [2, 6, 7]) (T := [(1, 1), (3, 2)]) (M := M)
  obtain ⟨p2, hp2, h⟩ := g_bind h
  have hf := hf.trans ((r_X2_tell hp2).mono (by decide) (by decide))
  obtain rfl := Option.some.inj h
  exact hf
def f_X11_lend (x1 : Int32) (x2 : Int32) (x3 : Int32) (M : g_M) : Option (Int32 × g_M) :=
  (f_X0_has x1 M).bind fun p1 => (if p1 = 0 then (f_X11_lend_34 M) else ((f_X0_has x2 M).bind fun p3 => (if p3 = 0 then (f_X11_lend_34 M) else ((if x1 = x2 then (f_X11_lend_34 M) else ((f_X11_isKey x3 M).bind fun p4 => (if p4 = 0 then (f_X11_lend_34 M) else ((f_X0_hasKey x1 x3 M).bind fun p5 => (if p5 = 0 then ((f_X2_tell (-1000000004) M).bind fun p8 => some (p8.1, p8.2)) else ((if (M.1 3 2) < 20 then ((f_X0_addLend x2 x3 M).bind fun p6 => some (p6.1, p6.2)) else ((f_X2_tell (-1000000002) M).bind fun p7 => some (p7.1, p7.2)))))))))))))
set_option maxRecDepth 100000 in
theorem m_X11_lend {l : Launch} {Y : g_Y} {x1 : Int32} {x2 : Int32} {x3 : Int32} {M : g_M} {p : Int32 × g_M} (h : f_X11_lend x1 x2 x3 M = some p) : g_R l Y (1) yX11_lend cX11_lend 4 (some .int) [g_r Y 0, .int x1, .int x2, .int x3] M (some (.int p.1)) p.2 := by
  unfold f_X11_lend at h
  refine g_R_of kP_X11 rfl (Nat.le_of_ble_eq_true rfl) (fun X C E => ?_)
  show g_G 4 X Y 0 [(0, g_r Y 0), (1, .int x1), (2, .int x2), (3, .int x3)] [] M
  refine g_aload_n C 0 dX11_lend_0 (q := 1) rfl rfl rfl ?_
  refine g_get C (k := 0) (i := 1) (by decide) (gc_0 Y _ _) rfl kU_X11 (by decide) kF_X11_19 rfl dX11_lend_1 (q := 4) rfl ?_
  refine g_iload_n C 1 dX11_lend_4 (q := 5) rfl rfl rfl ?_
  obtain ⟨p1, hp1, h⟩ := g_bind h
  refine g_callV C (k := 3) (as := [.int x1]) (st := []) (m_X0_has hp1) (g_hR (by decide)) (by decide) (by decide) (gc_3 Y _ _) rfl kM_X11_103 kI_X0_has kS_X0_has kN_X0 kC_X0_has kD_X0_has rfl (Nat.le_of_ble_eq_true rfl) dX11_lend_5 (q := 8) rfl ?_
  show g_G 4 X Y 8 [(0, g_r Y 0), (1, .int x1), (2, .int x2), (3, .int x3)] [.int p1] M
  have hif := g_if h
  clear h
  refine g_if_eq C dX11_lend_8 (q := 11) (tgt := 34) rfl (by decide) (fun c => ?_) (fun c => ?_)
  · have h := hif.1 c
    clear hif
    refine g_sub [0] (lv' := [(0, g_r Y 0)]) rfl ?_
    exact t_X11_lend_34 C E M h
  · have h := hif.2 c
    clear hif
    refine g_aload_n C 0 dX11_lend_11 (q := 12) rfl rfl rfl ?_
    refine g_get C (k := 0) (i := 1) (by decide) (gc_0 Y _ _) rfl kU_X11 (by decide) kF_X11_19 rfl dX11_lend_12 (q := 15) rfl ?_
    refine g_iload_n C 2 dX11_lend_15 (q := 16) rfl rfl rfl ?_
    obtain ⟨p3, hp3, h⟩ := g_bind h
    refine g_callV C (k := 3) (as := [.int x2]) (st := []) (m_X0_has hp3) (g_hR (by decide)) (by decide) (by decide) (gc_3 Y _ _) rfl kM_X11_103 kI_X0_has kS_X0_has kN_X0 kC_X0_has kD_X0_has rfl (Nat.le_of_ble_eq_true rfl) dX11_lend_16 (q := 19) rfl ?_
    show g_G 4 X Y 19 [(0, g_r Y 0), (1, .int x1), (2, .int x2), (3, .int x3)] [.int p3] M
    have hif := g_if h
    clear h
    refine g_if_eq C dX11_lend_19 (q := 22) (tgt := 34) rfl (by decide) (fun c => ?_) (fun c => ?_)
    · have h := hif.1 c
      clear hif
      refine g_sub [0] (lv' := [(0, g_r Y 0)]) rfl ?_
      exact t_X11_lend_34 C E M h
    · have h := hif.2 c
      clear hif
      refine g_iload_n C 1 dX11_lend_22 (q := 23) rfl rfl rfl ?_
      refine g_iload_n C 2 dX11_lend_23 (q := 24) rfl rfl rfl ?_
      have hif := g_if h
      clear h
      refine g_icmp_eq C dX11_lend_24 (q := 27) (tgt := 34) rfl (by decide) (fun c => ?_) (fun c => ?_)
      · have h := hif.1 c
        clear hif
        refine g_sub [0] (lv' := [(0, g_r Y 0)]) rfl ?_
        exact t_X11_lend_34 C E M h
      · have h := hif.2 c
        clear hif
        refine g_iload_n C 3 dX11_lend_27 (q := 28) rfl rfl rfl ?_
        obtain ⟨p4, hp4, h⟩ := g_bind h
        refine g_callS C (as := [.int x3]) (st := []) (m_X11_isKey hp4) (g_hR (by decide)) (by decide) kM_X11_182 kT_X11_isKey kN_X11 kC_X11_isKey kD_X11_isKey rfl (Nat.le_of_ble_eq_true rfl) dX11_lend_28 (q := 31) rfl ?_
        show g_G 4 X Y 31 [(0, g_r Y 0), (1, .int x1), (2, .int x2), (3, .int x3)] [.int p4] M
        have hif := g_if h
        clear h
        refine g_if_ne C dX11_lend_31 (q := 34) (tgt := 44) rfl (by decide) (fun c => ?_) (fun c => ?_)
        · have h := hif.2 c
          clear hif
          refine g_aload_n C 0 dX11_lend_44 (q := 45) rfl rfl rfl ?_
          refine g_get C (k := 0) (i := 1) (by decide) (gc_0 Y _ _) rfl kU_X11 (by decide) kF_X11_19 rfl dX11_lend_45 (q := 48) rfl ?_
          refine g_iload_n C 1 dX11_lend_48 (q := 49) rfl rfl rfl ?_
          refine g_iload_n C 3 dX11_lend_49 (q := 50) rfl rfl rfl ?_
          obtain ⟨p5, hp5, h⟩ := g_bind h
          refine g_callV C (k := 3) (as := [.int x1, .int x3]) (st := []) (m_X0_hasKey hp5) (g_hR (by decide)) (by decide) (by decide) (gc_3 Y _ _) rfl kM_X11_226 kI_X0_hasKey kS_X0_hasKey kN_X0 kC_X0_hasKey kD_X0_hasKey rfl (Nat.le_of_ble_eq_true rfl) dX11_lend_50 (q := 53) rfl ?_
          show g_G 4 X Y 53 [(0, g_r Y 0), (1, .int x1), (2, .int x2), (3, .int x3)] [.int p5] M
          have hif := g_if h
          clear h
          refine g_if_ne C dX11_lend_53 (q := 56) (tgt := 66) rfl (by decide) (fun c => ?_) (fun c => ?_)
          · have h := hif.2 c
            clear hif
            refine g_aload_n C 0 dX11_lend_66 (q := 67) rfl rfl rfl ?_
            refine g_get C (k := 0) (i := 1) (by decide) (gc_0 Y _ _) rfl kU_X11 (by decide) kF_X11_19 rfl dX11_lend_67 (q := 70) rfl ?_
            refine g_get C (k := 3) (i := 2) (by decide) (gc_3 Y _ _) rfl kU_X0 (by decide) kF_X11_229 rfl dX11_lend_70 (q := 73) rfl ?_
            refine g_bipush C (v := 20) dX11_lend_73 (q := 75) rfl (by decide) ?_
            have hif := g_if h
            clear h
            refine g_icmp_lt C dX11_lend_75 (q := 78) (tgt := 88) rfl (by decide) (fun c => ?_) (fun c => ?_)
            · have h := hif.1 c
              clear hif
              refine g_aload_n C 0 dX11_lend_88 (q := 89) rfl rfl rfl ?_
              refine g_get C (k := 0) (i := 1) (by decide) (gc_0 Y _ _) rfl kU_X11 (by decide) kF_X11_19 rfl dX11_lend_89 (q := 92) rfl ?_
              refine g_iload_n C 2 dX11_lend_92 (q := 93) rfl rfl rfl ?_
              refine g_iload_n C 3 dX11_lend_93 (q := 94) rfl rfl rfl ?_
              obtain ⟨p6, hp6, h⟩ := g_bind h
              refine g_callV C (k := 3) (as := [.int x2, .int x3]) (st := []) (m_X0_addLend hp6) (g_hR (by decide)) (by decide) (by decide) (gc_3 Y _ _) rfl kM_X11_232 kI_X0_addLend kS_X0_addLend kN_X0 kC_X0_addLend kD_X0_addLend rfl (Nat.le_of_ble_eq_true rfl) dX11_lend_94 (q := 97) rfl ?_
              show g_G 4 X Y 97 [(0, g_r Y 0), (1, .int x1), (2, .int x2), (3, .int x3)] [.int p6.1] p6.2
              obtain rfl := Option.some.inj h
              exact g_iret C E dX11_lend_97
            · have h := hif.2 c
              clear hif
              refine g_aload_n C 0 dX11_lend_78 (q := 79) rfl rfl rfl ?_
              refine g_get C (k := 0) (i := 0) (by decide) (gc_0 Y _ _) rfl kU_X11 (by decide) kF_X11_12 rfl dX11_lend_79 (q := 82) rfl ?_
              refine g_ldc C (v := (-1000000002)) kK_X11_99 dX11_lend_82 (q := 84) rfl ?_
              obtain ⟨p7, hp7, h⟩ := g_bind h
              refine g_callV C (k := 1) (as := [.int (-1000000002)]) (st := []) (m_X2_tell hp7) (g_hR (by decide)) (by decide) (by decide) (gc_1 Y _ _) rfl kM_X11_91 kI_X2_tell kS_X2_tell kN_X2 kC_X2_tell kD_X2_tell rfl (Nat.le_of_ble_eq_true rfl) dX11_lend_84 (q := 87) rfl ?_
              show g_G 4 X Y 87 [(0, g_r Y 0), (1, .int x1), (2, .int x2), (3, .int x3)] [.int p7.1] p7.2
              obtain rfl := Option.some.inj h
              exact g_iret C E dX11_lend_87
          · have h := hif.1 c
            clear hif
            refine g_aload_n C 0 dX11_lend_56 (q := 57) rfl rfl rfl ?_
            refine g_get C (k := 0) (i := 0) (by decide) (gc_0 Y _ _) rfl kU_X11 (by decide) kF_X11_12 rfl dX11_lend_57 (q := 60) rfl ?_
            refine g_ldc C (v := (-1000000004)) kK_X11_177 dX11_lend_60 (q := 62) rfl ?_
            obtain ⟨p8, hp8, h⟩ := g_bind h
            refine g_callV C (k := 1) (as := [.int (-1000000004)]) (st := []) (m_X2_tell hp8) (g_hR (by decide)) (by decide) (by decide) (gc_1 Y _ _) rfl kM_X11_91 kI_X2_tell kS_X2_tell kN_X2 kC_X2_tell kD_X2_tell rfl (Nat.le_of_ble_eq_true rfl) dX11_lend_62 (q := 65) rfl ?_
            show g_G 4 X Y 65 [(0, g_r Y 0), (1, .int x1), (2, .int x2), (3, .int x3)] [.int p8.1] p8.2
            obtain rfl := Option.some.inj h
            exact g_iret C E dX11_lend_65
        · have h := hif.1 c
          clear hif
          refine g_sub [0] (lv' := [(0, g_r Y 0)]) rfl ?_
          exact t_X11_lend_34 C E M h
theorem r_X11_lend {x1 : Int32} {x2 : Int32} {x3 : Int32} {M : g_M} {p : Int32 × g_M} (h : f_X11_lend x1 x2 x3 M = some p) : g_fr [2, 6, 7] [(1, 1), (3, 2)] M p.2 := by
  unfold f_X11_lend at h
  have hf := g_fr.rfl (S := [2, 6, 7]) (T := [(1, 1), (3, 2)]) (M := M)
  obtain ⟨p1, -, h⟩ := g_bind h
  rcases g_ifs h with h | h
  · exact hf.trans (r_X11_lend_34 M h)
  · obtain ⟨p3, -, h⟩ := g_bind h
    rcases g_ifs h with h | h
    · exact hf.trans (r_X11_lend_34 M h)
    · rcases g_ifs h with h | h
      · exact hf.trans (r_X11_lend_34 M h)
      · obtain ⟨p4, -, h⟩ := g_bind h
        rcases g_ifs h with h | h
        · exact hf.trans (r_X11_lend_34 M h)
        · obtain ⟨p5, -, h⟩ := g_bind h
          rcases g_ifs h with h | h
          · obtain ⟨p8, hp8, h⟩ := g_bind h
            have hf := hf.trans ((r_X2_tell hp8).mono (by decide) (by decide))
            obtain rfl := Option.some.inj h
            exact hf
          · rcases g_ifs h with h | h
            · obtain ⟨p6, hp6, h⟩ := g_bind h
              have hf := hf.trans ((r_X0_addLend hp6).mono (by decide) (by decide))
              obtain rfl := Option.some.inj h
              exact hf
            · obtain ⟨p7, hp7, h⟩ := g_bind h
              have hf := hf.trans ((r_X2_tell hp7).mono (by decide) (by decide))
              obtain rfl := Option.some.inj h
              exact hf
