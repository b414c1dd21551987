def F_X6_turn_2 (k58 : g_M → Option (g_M)) (k : Int32 → g_M → Option (g_M)) (x1 : Int32) (M : g_M) : Option (g_M) :=
  (g_nz 2).bind fun z1 => (if ((M.1 43 1) / z1) ≤ x1 then (k58 M) else ((g_ld M 44 252 (((M.1 43 1) - 1) - x1)).bind fun v2 => (g_ld M 44 252 x1).bind fun v3 => (g_st M 44 252 (((M.1 43 1) - 1) - x1) v3).bind fun M4 => (g_st M4 44 252 x1 v2).bind fun M5 => k (x1 + 1) M5))
set_option maxRecDepth 100000 in
theorem t_X6_turn_2 {l : Launch} {X : g_X} {Y : g_Y} {p : g_M} {k58 : g_M → Option (g_M)} (C : g_C l (g_rm (0)) RX6 cX6_turn 3 X Y) (E : g_E none X Y none p) (hk58 : ∀ (M : g_M), k58 M = some p → g_G 3 X Y 58 [] [] M) (n : Nat) : ∀ (x1 : Int32) (M : g_M), g_lp1 (F_X6_turn_2 k58) n x1 M = some p → g_G 3 X Y 2 [(0, g_r Y 43), (1, .int x1)] [] M := by
  induction n with
  | zero => intro x1 M h; exact (g_nn h).elim
  | succ n ih =>
    intro x1 M h
    have h : F_X6_turn_2 k58 (g_lp1 (F_X6_turn_2 k58) n) x1 M = some p := h
    generalize g_lp1 (F_X6_turn_2 k58) n = k at h ih
    unfold F_X6_turn_2 at h
    refine g_iload_n C 1 dX6_turn_2 (q := 3) rfl rfl rfl ?_
    refine g_aload_n C 0 dX6_turn_3 (q := 4) rfl rfl rfl ?_
    refine g_get C (k := 43) (i := 1) (by decide) (gc_43 Y _ _) rfl kU_X6 (by decide) kF_X6_19 rfl dX6_turn_4 (q := 7) rfl ?_
    refine g_iconst C (v := 2) dX6_turn_7 (q := 8) rfl (by decide) ?_
    obtain ⟨z1, hz1, h⟩ := g_bind h
    refine g_idiv C (z := z1) dX6_turn_8 (q := 9) rfl hz1 ?_
    have hif := g_if h
    clear h
    refine g_icmp_ge C dX6_turn_9 (q := 12) (tgt := 58) rfl (by decide) (fun c => ?_) (fun c => ?_)
    · have h := hif.1 c
      clear hif
      refine g_sub [] (lv' := []) rfl ?_
      exact hk58 M h
    · have h := hif.2 c
      clear hif
      refine g_aload_n C 0 dX6_turn_12 (q := 13) rfl rfl rfl ?_
      refine g_get C (k := 43) (i := 0) (by decide) (gc_43 Y _ _) rfl kU_X6 (by decide) kF_X6_11 rfl dX6_turn_13 (q := 16) rfl ?_
      refine g_aload_n C 0 dX6_turn_16 (q := 17) rfl rfl rfl ?_
      refine g_get C (k := 43) (i := 1) (by decide) (gc_43 Y _ _) rfl kU_X6 (by decide) kF_X6_19 rfl dX6_turn_17 (q := 20) rfl ?_
      refine g_iconst C (v := 1) dX6_turn_20 (q := 21) rfl (by decide) ?_
      refine g_isub C dX6_turn_21 (q := 22) rfl ?_
      refine g_iload_n C 1 dX6_turn_22 (q := 23) rfl rfl rfl ?_
      refine g_isub C dX6_turn_23 (q := 24) rfl ?_
      obtain ⟨v2, hv2, h⟩ := g_bind h
      refine g_iald C (k := 44) (n := 252) (by decide) (gc_44 Y _ _) hv2 dX6_turn_24 (q := 25) rfl ?_
      refine g_istore_n C dX6_turn_25 (q := 26) rfl rfl (by decide) (lv' := [(2, .int v2), (0, g_r Y 43), (1, .int x1)]) rfl ?_
      refine g_aload_n C 1 dX6_turn_26 (q := 27) rfl rfl rfl ?_
      refine g_get C (k := 43) (i := 0) (by decide) (gc_43 Y _ _) rfl kU_X6 (by decide) kF_X6_11 rfl dX6_turn_27 (q := 30) rfl ?_
      refine g_aload_n C 1 dX6_turn_30 (q := 31) rfl rfl rfl ?_
      refine g_get C (k := 43) (i := 1) (by decide) (gc_43 Y _ _) rfl kU_X6 (by decide) kF_X6_19 rfl dX6_turn_31 (q := 34) rfl ?_
      refine g_iconst C (v := 1) dX6_turn_34 (q := 35) rfl (by decide) ?_
      refine g_isub C dX6_turn_35 (q := 36) rfl ?_
      refine g_iload_n C 2 dX6_turn_36 (q := 37) rfl rfl rfl ?_
      refine g_isub C dX6_turn_37 (q := 38) rfl ?_
      refine g_aload_n C 1 dX6_turn_38 (q := 39) rfl rfl rfl ?_
      refine g_get C (k := 43) (i := 0) (by decide) (gc_43 Y _ _) rfl kU_X6 (by decide) kF_X6_11 rfl dX6_turn_39 (q := 42) rfl ?_
      refine g_iload_n C 2 dX6_turn_42 (q := 43) rfl rfl rfl ?_
      obtain ⟨v3, hv3, h⟩ := g_bind h
      refine g_iald C (k := 44) (n := 252) (by decide) (gc_44 Y _ _) hv3 dX6_turn_43 (q := 44) rfl ?_
      obtain ⟨M4, hM4, h⟩ := g_bind h
      refine g_iast C (k := 44) (n := 252) (by decide) (fun a => gc_44 Y a _) hM4 dX6_turn_44 (q := 45) rfl ?_
      refine g_aload_n C 1 dX6_turn_45 (q := 46) rfl rfl rfl ?_
      refine g_get C (k := 43) (i := 0) (by decide) (gc_43 Y _ _) rfl kU_X6 (by decide) kF_X6_11 rfl dX6_turn_46 (q := 49) rfl ?_
      refine g_iload_n C 2 dX6_turn_49 (q := 50) rfl rfl rfl ?_
      refine g_iload_n C 0 dX6_turn_50 (q := 51) rfl rfl rfl ?_
      obtain ⟨M5, hM5, h⟩ := g_bind h
      refine g_iast C (k := 44) (n := 252) (by decide) (fun a => gc_44 Y a _) hM5 dX6_turn_51 (q := 52) rfl ?_
      refine g_iinc C (k := 2) (v := x1 + 1) dX6_turn_52 (q := 55) rfl rfl rfl (by decide) (lv' := [(1, .int (x1 + 1)), (2, .int v2), (0, g_r Y 43)]) rfl ?_
      refine g_goto C dX6_turn_55 (tgt := 2) (by decide) ?_
      refine g_sub [2, 0] (lv' := [(0, g_r Y 43), (1, .int (x1 + 1))]) rfl ?_
      exact ih (x1 + 1) M5 h
theorem r_X6_turn_2 {p : g_M} {k58 : g_M → Option (g_M)} (hk58 : ∀ (M : g_M), k58 M = some p → g_fr [44] [] M p) (n : Nat) : ∀ (x1 : Int32) (M : g_M), g_lp1 (F_X6_turn_2 k58) n x1 M = some p → g_fr [44] [] M p := by
  induction n with
  | zero => intro x1 M h; exact (g_nn h).elim
  | succ n ih =>
    intro x1 M h
    have h : F_X6_turn_2 k58 (g_lp1 (F_X6_turn_2 k58) n) x1 M = some p := h
    generalize g_lp1 (F_X6_turn_2 k58) n = k at h ih
    unfold F_X6_turn_2 at h
    have hf := g_fr.rfl (S := [44]) (T := []) (M := M)
    obtain ⟨z1, -, h⟩ := g_bind h
    rcases g_ifs h with h | h
    · exact hf.trans (hk58 M h)
    · obtain ⟨v2, -, h⟩ := g_bind h
      obtain ⟨v3, -, h⟩ := g_bind h
      obtain ⟨M4, hM4, h⟩ := g_bind h
      have hf := hf.st hM4 (by decide)
      obtain ⟨M5, hM5, h⟩ := g_bind h
      have hf := hf.st hM5 (by decide)
      exact hf.trans (ih (x1 + 1) M5 h)
def f_X6_turn (M : g_M) : Option (g_M) :=
  g_lp1 (F_X6_turn_2 (fun (M : g_M) => some M)) 20000000 0 M
set_option maxRecDepth 100000 in
theorem m_X6_turn {l : Launch} {Y : g_Y} {M : g_M} {p : g_M} (h : f_X6_turn M = some p) : g_R l Y (0) yX6_turn cX6_turn 3 none [g_r Y 43] M none p := by
  unfold f_X6_turn at h
  refine g_R_of kP_X6 rfl (Nat.le_of_ble_eq_true rfl) (fun X C E => ?_)
  show g_G 3 X Y 0 [(0, g_r Y 43)] [] M
  refine g_iconst C (v := 0) dX6_turn_0 (q := 1) rfl (by decide) ?_
  refine g_istore_n C dX6_turn_1 (q := 2) rfl rfl (by decide) (lv' := [(1, .int 0), (0, g_r Y 43)]) rfl ?_
  refine g_sub [1, 0] (lv' := [(0, g_r Y 43), (1, .int 0)]) rfl ?_
  refine t_X6_turn_2 C E ?_ 20000000 0 M h
  · intro M h
    try dsimp only at h
    obtain rfl := Option.some.inj h
    exact g_vret C E dX6_turn_58
theorem r_X6_turn {M : g_M} {p : g_M} (h : f_X6_turn M = some p) : g_fr [44] [] M p := by
  unfold f_X6_turn at h
  have hf := g_fr.rfl (S := [44]) (T := []) (M := M)
  refine hf.trans (r_X6_turn_2 ?_ 20000000 0 M h)
  · intro M h
    try dsimp only at h
    have hf := g_fr.rfl (S := [44]) (T := []) (M := M)
    obtain rfl := Option.some.inj h
    exact hf
def F_X6_findMost_43_39_30 (k83 : Int32 → Int32 → g_M → Option (g_M)) (k : Int32 → Int32 → Int32 → g_M → Option (g_M)) (x2 : Int32) (x3 : Int32) (x4 : Int32) (M : g_M) : Option (g_M) :=
  (if 10 ≤ x4 then (k83 x2 x3 M) else ((if x3 = 0 then ((if (((M.1 39 1) &&& (x2 ^^^ (-1))) &&& ((1 : Int32) <<< (x4 &&& 31))) = 0 then (k x2 0 (x4 + 1) M) else ((g_ld M 45 1024 (x2 ||| ((1 : Int32) <<< (x4 &&& 31)))).bind fun v2 => (if v2 = 0 then (k x2 0 (x4 + 1) M) else (k x2 1 (x4 + 1) M))))) else (k83 x2 x3 M))))
set_option maxRecDepth 100000 in
theorem t_X6_findMost_43_39_30 {l : Launch} {X : g_X} {Y : g_Y} {p : g_M} {k83 : Int32 → Int32 → g_M → Option (g_M)} (C : g_C l (g_rm (1)) RX6 cX6_findMost 5 X Y) (E : g_E none X Y none p) (hk83 : ∀ (x2 : Int32) (x3 : Int32) (M : g_M), k83 x2 x3 M = some p → g_G 5 X Y 83 [(0, g_r Y 43), (1, g_r Y 39), (2, .int x2), (3, .int x3)] [] M) (n : Nat) : ∀ (x2 : Int32) (x3 : Int32) (x4 : Int32) (M : g_M), g_lp3 (F_X6_findMost_43_39_30 k83) n x2 x3 x4 M = some p → g_G 5 X Y 30 [(0, g_r Y 43), (1, g_r Y 39), (2, .int x2), (3, .int x3), (4, .int x4)] [] M := by
  induction n with
  | zero => intro x2 x3 x4 M h; exact (g_nn h).elim
  | succ n ih =>
    intro x2 x3 x4 M h
    have h : F_X6_findMost_43_39_30 k83 (g_lp3 (F_X6_findMost_43_39_30 k83) n) x2 x3 x4 M = some p := h
    generalize g_lp3 (F_X6_findMost_43_39_30 k83) n = k at h ih
    unfold F_X6_findMost_43_39_30 at h
    refine g_iload C 4 dX6_findMost_30 (q := 32) rfl rfl ?_
    refine g_bipush C (v := 10) dX6_findMost_32 (q := 34) rfl (by decide) ?_
    have hif := g_if h
    clear h
    refine g_icmp_ge C dX6_findMost_34 (q := 37) (tgt := 83) rfl (by decide) (fun c => ?_) (fun c => ?_)
    · have h := hif.1 c
      clear hif
      refine g_sub [0, 1, 2, 3] (lv' := [(0, g_r Y 43), (1, g_r Y 39), (2, .int x2), (3, .int x3)]) rfl ?_
      exact hk83 x2 x3 M h
    · have h := hif.2 c
      clear hif
      refine g_iload_n C 3 dX6_findMost_37 (q := 38) rfl rfl rfl ?_
      have hif := g_if h
      clear h
      refine g_if_ne C dX6_findMost_38 (q := 41) (tgt := 83) rfl (by decide) (fun c => ?_) (fun c => ?_)
      · have h := hif.2 c
        clear hif
        refine g_sub [0, 1, 2, 3] (lv' := [(0, g_r Y 43), (1, g_r Y 39), (2, .int x2), (3, .int x3)]) rfl ?_
        exact hk83 x2 x3 M h
      · have h := hif.1 c
        clear hif
        refine g_aload_n C 1 dX6_findMost_41 (q := 42) rfl rfl rfl ?_
        refine g_get C (k := 39) (i := 1) (by decide) (gc_39 Y _ _) rfl kU_X1 (by decide) kF_X6_23 rfl dX6_findMost_42 (q := 45) rfl ?_
        refine g_iload_n C 2 dX6_findMost_45 (q := 46) rfl rfl rfl ?_
        refine g_iconst C (v := (-1)) dX6_findMost_46 (q := 47) rfl (by decide) ?_
        refine g_ixor C dX6_findMost_47 (q := 48) rfl ?_
        refine g_iand C dX6_findMost_48 (q := 49) rfl ?_
        refine g_iconst C (v := 1) dX6_findMost_49 (q := 50) rfl (by decide) ?_
        refine g_iload C 4 dX6_findMost_50 (q := 52) rfl rfl ?_
        refine g_ishl C dX6_findMost_52 (q := 53) rfl ?_
        refine g_iand C dX6_findMost_53 (q := 54) rfl ?_
        have hif := g_if h
        clear h
        refine g_if_eq C dX6_findMost_54 (q := 57) (tgt := 75) rfl (by decide) (fun c => ?_) (fun c => ?_)
        · have h := hif.1 c
          clear hif
          refine g_iconst C (v := 0) dX6_findMost_75 (q := 76) rfl (by decide) ?_
          refine g_istore_n C dX6_findMost_76 (q := 77) rfl rfl (by decide) (lv' := [(3, .int 0), (0, g_r Y 43), (1, g_r Y 39), (2, .int x2), (4, .int x4)]) rfl ?_
          refine g_iinc C (k := 4) (v := x4 + 1) dX6_findMost_77 (q := 80) rfl rfl rfl (by decide) (lv' := [(4, .int (x4 + 1)), (3, .int 0), (0, g_r Y 43), (1, g_r Y 39), (2, .int x2)]) rfl ?_
          refine g_goto C dX6_findMost_80 (tgt := 30) (by decide) ?_
          refine g_sub [2, 3, 4, 1, 0] (lv' := [(0, g_r Y 43), (1, g_r Y 39), (2, .int x2), (3, .int 0), (4, .int (x4 + 1))]) rfl ?_
          exact ih x2 0 (x4 + 1) M h
        · have h := hif.2 c
          clear hif
          refine g_aload_n C 0 dX6_findMost_57 (q := 58) rfl rfl rfl ?_
          refine g_get C (k := 43) (i := 2) (by decide) (gc_43 Y _ _) rfl kU_X6 (by decide) kF_X6_15 rfl dX6_findMost_58 (q := 61) rfl ?_
          refine g_iload_n C 2 dX6_findMost_61 (q := 62) rfl rfl rfl ?_
          refine g_iconst C (v := 1) dX6_findMost_62 (q := 63) rfl (by decide) ?_
          refine g_iload C 4 dX6_findMost_63 (q := 65) rfl rfl ?_
          refine g_ishl C dX6_findMost_65 (q := 66) rfl ?_
          refine g_ior C dX6_findMost_66 (q := 67) rfl ?_
          obtain ⟨v2, hv2, h⟩ := g_bind h
          refine g_zald C (k := 45) (n := 1024) (by decide) (gc_45 Y _ _) hv2 dX6_findMost_67 (q := 68) rfl ?_
          have hif := g_if h
          clear h
          refine g_if_eq C dX6_findMost_68 (q := 71) (tgt := 75) rfl (by decide) (fun c => ?_) (fun c => ?_)
          · have h := hif.1 c
            clear hif
            refine g_iconst C (v := 0) dX6_findMost_75 (q := 76) rfl (by decide) ?_
            refine g_istore_n C dX6_findMost_76 (q := 77) rfl rfl (by decide) (lv' := [(3, .int 0), (0, g_r Y 43), (1, g_r Y 39), (2, .int x2), (4, .int x4)]) rfl ?_
            refine g_iinc C (k := 4) (v := x4 + 1) dX6_findMost_77 (q := 80) rfl rfl rfl (by decide) (lv' := [(4, .int (x4 + 1)), (3, .int 0), (0, g_r Y 43), (1, g_r Y 39), (2, .int x2)]) rfl ?_
            refine g_goto C dX6_findMost_80 (tgt := 30) (by decide) ?_
            refine g_sub [2, 3, 4, 1, 0] (lv' := [(0, g_r Y 43), (1, g_r Y 39), (2, .int x2), (3, .int 0), (4, .int (x4 + 1))]) rfl ?_
            exact ih x2 0 (x4 + 1) M h
          · have h := hif.2 c
            clear hif
            refine g_iconst C (v := 1) dX6_findMost_71 (q := 72) rfl (by decide) ?_
            refine g_goto C dX6_findMost_72 (tgt := 76) (by decide) ?_
            refine g_istore_n C dX6_findMost_76 (q := 77) rfl rfl (by decide) (lv' := [(3, .int 1), (0, g_r Y 43), (1, g_r Y 39), (2, .int x2), (4, .int x4)]) rfl ?_
            refine g_iinc C (k := 4) (v := x4 + 1) dX6_findMost_77 (q := 80) rfl rfl rfl (by decide) (lv' := [(4, .int (x4 + 1)), (3, .int 1), (0, g_r Y 43), (1, g_r Y 39), (2, .int x2)]) rfl ?_
            refine g_goto C dX6_findMost_80 (tgt := 30) (by decide) ?_
            refine g_sub [2, 3, 4, 1, 0] (lv' := [(0, g_r Y 43), (1, g_r Y 39), (2, .int x2), (3, .int 1), (4, .int (x4 + 1))]) rfl ?_
            exact ih x2 1 (x4 + 1) M h
theorem r_X6_findMost_43_39_30 {p : g_M} {k83 : Int32 → Int32 → g_M → Option (g_M)} (hk83 : ∀ (x2 : Int32) (x3 : Int32) (M : g_M), k83 x2 x3 M = some p → g_fr [44, 45] [(43, 1)] M p) (n : Nat) : ∀ (x2 : Int32) (x3 : Int32) (x4 : Int32) (M : g_M), g_lp3 (F_X6_findMost_43_39_30 k83) n x2 x3 x4 M = some p → g_fr [44, 45] [(43, 1)] M p := by
  induction n with
  | zero => intro x2 x3 x4 M h; exact (g_nn h).elim
  | succ n ih =>
    intro x2 x3 x4 M h
    have h : F_X6_findMost_43_39_30 k83 (g_lp3 (F_X6_findMost_43_39_30 k83) n) x2 x3 x4 M = some p := h
    generalize g_lp3 (F_X6_findMost_43_39_30 k83) n = k at h ih
    unfold F_X6_findMost_43_39_30 at h
    have hf := g_fr.rfl (S := [44, 45]) (T := [(43, 1)]) (M := M)
    rcases g_ifs h with h | h
    · exact hf.trans (hk83 x2 x3 M h)
    · rcases g_ifs h with h | h
      · rcases g_ifs h with h | h
        · exact hf.trans (ih x2 0 (x4 + 1) M h)
        · obtain ⟨v2, -, h⟩ := g_bind h
          rcases g_ifs h with h | h
          · exact hf.trans (ih x2 0 (x4 + 1) M h)
          · exact hf.trans (ih x2 1 (x4 + 1) M h)
      · exact hf.trans (hk83 x2 x3 M h)
def f_X6_findMost_43_39_106 (k : Int32 → g_M → Option (g_M)) (x2 : Int32) (x3 : Int32) (s0 : Int32) (s1 : Int32) (M : g_M) : Option (g_M) :=
  (g_bz s0).bind fun z4 => (g_st M 45 1024 s1 z4).bind fun M3 => (g_ld M3 45 1024 x2).bind fun v5 => (if v5 = 0 then (k (x2 + (-1)) M3) else ((if x3 = 0 then ((f_X6_add x2 M3).bind fun p6 => k (x2 + (-1)) p6) else (k (x2 + (-1)) M3))))
set_option maxRecDepth 100000 in
theorem t_X6_findMost_43_39_106 {l : Launch} {X : g_X} {Y : g_Y} {p : g_M} {k : Int32 → g_M → Option (g_M)} (C : g_C l (g_rm (1)) RX6 cX6_findMost 5 X Y) (E : g_E none X Y none p) (ih : ∀ (x2 : Int32) (M : g_M), k x2 M = some p → g_G 5 X Y 10 [(0, g_r Y 43), (1, g_r Y 39), (2, .int x2)] [] M) (x2 : Int32) (x3 : Int32) (s0 : Int32) (s1 : Int32) (M : g_M) (h : f_X6_findMost_43_39_106 k x2 x3 s0 s1 M = some p) : g_G 5 X Y 106 [(0, g_r Y 43), (1, g_r Y 39), (2, .int x2), (3, .int x3)] [.int s0, .int s1, g_r Y 45] M := by
  unfold f_X6_findMost_43_39_106 at h
  obtain ⟨z4, hz4, h⟩ := g_bind h
  obtain ⟨M3, hM3, h⟩ := g_bind h
  refine g_zast C (k := 45) (n := 1024) (by decide) (fun a => gc_45 Y a _) hz4 hM3 dX6_findMost_106 (q := 107) rfl ?_
  refine g_aload_n C 0 dX6_findMost_107 (q := 108) rfl rfl rfl ?_
  refine g_get C (k := 43) (i := 2) (by decide) (gc_43 Y _ _) rfl kU_X6 (by decide) kF_X6_15 rfl dX6_findMost_108 (q := 111) rfl ?_
  refine g_iload_n C 2 dX6_findMost_111 (q := 112) rfl rfl rfl ?_
  obtain ⟨v5, hv5, h⟩ := g_bind h
  refine g_zald C (k := 45) (n := 1024) (by decide) (gc_45 Y _ _) hv5 dX6_findMost_112 (q := 113) rfl ?_
  have hif := g_if h
  clear h
  refine g_if_eq C dX6_findMost_113 (q := 116) (tgt := 125) rfl (by decide) (fun c => ?_) (fun c => ?_)
  · have h := hif.1 c
    clear hif
    refine g_iinc C (k := 2) (v := x2 + (-1)) dX6_findMost_125 (q := 128) rfl rfl rfl (by decide) (lv' := [(2, .int (x2 + (-1))), (0, g_r Y 43), (1, g_r Y 39), (3, .int x3)]) rfl ?_
    refine g_goto C dX6_findMost_128 (tgt := 10) (by decide) ?_
    refine g_sub [1, 2, 0] (lv' := [(0, g_r Y 43), (1, g_r Y 39), (2, .int (x2 + (-1)))]) rfl ?_
    exact ih (x2 + (-1)) M3 h
  · have h := hif.2 c
    clear hif
    refine g_iload_n C 3 dX6_findMost_116 (q := 117) rfl rfl rfl ?_
    have hif := g_if h
    clear h
    refine g_if_ne C dX6_findMost_117 (q := 120) (tgt := 125) rfl (by decide) (fun c => ?_) (fun c => ?_)
    · have h := hif.2 c
      clear hif
      refine g_iinc C (k := 2) (v := x2 + (-1)) dX6_findMost_125 (q := 128) rfl rfl rfl (by decide) (lv' := [(2, .int (x2 + (-1))), (0, g_r Y 43), (1, g_r Y 39), (3, .int x3)]) rfl ?_
      refine g_goto C dX6_findMost_128 (tgt := 10) (by decide) ?_
      refine g_sub [1, 2, 0] (lv' := [(0, g_r Y 43), (1, g_r Y 39), (2, .int (x2 + (-1)))]) rfl ?_
      exact ih (x2 + (-1)) M3 h
    · have h := hif.1 c
      clear hif
      refine g_aload_n C 0 dX6_findMost_120 (q := 121) rfl rfl rfl ?_
      refine g_iload_n C 2 dX6_findMost_121 (q := 122) rfl rfl rfl ?_
      obtain ⟨p6, hp6, h⟩ := g_bind h
      refine g_callV C (k := 43) (as := [.int x2]) (st := []) (m_X6_add hp6) (g_hR (by decide)) (by decide) (by decide) (gc_43 Y _ _) rfl kM_X6_31 kI_X6_add kS_X6_add kN_X6 kC_X6_add kD_X6_add rfl (Nat.le_of_ble_eq_true rfl) dX6_findMost_122 (q := 125) rfl ?_
      show g_G 5 X Y 125 [(0, g_r Y 43), (1, g_r Y 39), (2, .int x2), (3, .int x3)] [] p6
      refine g_iinc C (k := 2) (v := x2 + (-1)) dX6_findMost_125 (q := 128) rfl rfl rfl (by decide) (lv' := [(2, .int (x2 + (-1))), (0, g_r Y 43), (1, g_r Y 39), (3, .int x3)]) rfl ?_
      refine g_goto C dX6_findMost_128 (tgt := 10) (by decide) ?_
      refine g_sub [1, 2, 0] (lv' := [(0, g_r Y 43), (1, g_r Y 39), (2, .int (x2 + (-1)))]) rfl ?_
      exact ih (x2 + (-1)) p6 h
theorem r_X6_findMost_43_39_106 {p : g_M} {k : Int32 → g_M → Option (g_M)} (ih : ∀ (x2 : Int32) (M : g_M), k x2 M = some p → g_fr [44, 45] [(43, 1)] M p) (x2 : Int32) (x3 : Int32) (s0 : Int32) (s1 : Int32) (M : g_M) (h : f_X6_findMost_43_39_106 k x2 x3 s0 s1 M = some p) : g_fr [44, 45] [(43, 1)] M p := by
  unfold f_X6_findMost_43_39_106 at h
  have hf := g_fr.rfl (S := [44, 45]) (T := [(43, 1)]) (M := M)
  obtain ⟨z4, -, h⟩ := g_bind h
  obtain ⟨M3, hM3, h⟩ := g_bind h
  have hf := hf.st hM3 (by decide)
  obtain ⟨v5, -, h⟩ := g_bind h
  rcases g_ifs h with h | h
  · exact hf.trans (ih (x2 + (-1)) M3 h)
  · rcases g_ifs h with h | h
    · obtain ⟨p6, hp6, h⟩ := g_bind h
      have hf := hf.trans ((r_X6_add hp6).mono (by decide) (by decide))
      exact hf.trans (ih (x2 + (-1)) p6 h)
    · exact hf.trans (ih (x2 + (-1)) M3 h)
def f_X6_findMost_43_39_83 (k : Int32 → g_M → Option (g_M)) (x2 : Int32) (x3 : Int32) (M : g_M) : Option (g_M) :=
  (if x3 = 0 then ((g_ld M 40 1024 x2).bind fun v7 => (if v7 = 0 then (f_X6_findMost_43_39_106 k x2 x3 1 x2 M) else (f_X6_findMost_43_39_106 k x2 x3 0 x2 M))) else (f_X6_findMost_43_39_106 k x2 x3 1 x2 M))
set_option maxRecDepth 100000 in
theorem t_X6_findMost_43_39_83 {l : Launch} {X : g_X} {Y : g_Y} {p : g_M} {k : Int32 → g_M → Option (g_M)} (C : g_C l (g_rm (1)) RX6 cX6_findMost 5 X Y) (E : g_E none X Y none p) (ih : ∀ (x2 : Int32) (M : g_M), k x2 M = some p → g_G 5 X Y 10 [(0, g_r Y 43), (1, g_r Y 39), (2, .int x2)] [] M) (x2 : Int32) (x3 : Int32) (M : g_M) (h : f_X6_findMost_43_39_83 k x2 x3 M = some p) : g_G 5 X Y 83 [(0, g_r Y 43), (1, g_r Y 39), (2, .int x2), (3, .int x3)] [] M := by
  unfold f_X6_findMost_43_39_83 at h
  refine g_aload_n C 0 dX6_findMost_83 (q := 84) rfl rfl rfl ?_
  refine g_get C (k := 43) (i := 2) (by decide) (gc_43 Y _ _) rfl kU_X6 (by decide) kF_X6_15 rfl dX6_findMost_84 (q := 87) rfl ?_
  refine g_iload_n C 2 dX6_findMost_87 (q := 88) rfl rfl rfl ?_
  refine g_iload_n C 3 dX6_findMost_88 (q := 89) rfl rfl rfl ?_
  have hif := g_if h
  clear h
  refine g_if_ne C dX6_findMost_89 (q := 92) (tgt := 101) rfl (by decide) (fun c => ?_) (fun c => ?_)
  · have h := hif.2 c
    clear hif
    refine g_iconst C (v := 1) dX6_findMost_101 (q := 102) rfl (by decide) ?_
    refine g_goto C dX6_findMost_102 (tgt := 106) (by decide) ?_
    refine g_sub [0, 1, 2, 3] (lv' := [(0, g_r Y 43), (1, g_r Y 39), (2, .int x2), (3, .int x3)]) rfl ?_
    exact t_X6_findMost_43_39_106 C E ih x2 x3 1 x2 M h
  · have h := hif.1 c
    clear hif
    refine g_aload_n C 1 dX6_findMost_92 (q := 93) rfl rfl rfl ?_
    refine g_get C (k := 39) (i := 0) (by decide) (gc_39 Y _ _) rfl kU_X1 (by decide) kF_X6_28 rfl dX6_findMost_93 (q := 96) rfl ?_
    refine g_iload_n C 2 dX6_findMost_96 (q := 97) rfl rfl rfl ?_
    obtain ⟨v7, hv7, h⟩ := g_bind h
    refine g_zald C (k := 40) (n := 1024) (by decide) (gc_40 Y _ _) hv7 dX6_findMost_97 (q := 98) rfl ?_
    have hif := g_if h
    clear h
    refine g_if_ne C dX6_findMost_98 (q := 101) (tgt := 105) rfl (by decide) (fun c => ?_) (fun c => ?_)
    · have h := hif.2 c
      clear hif
      refine g_iconst C (v := 0) dX6_findMost_105 (q := 106) rfl (by decide) ?_
      refine g_sub [0, 1, 2, 3] (lv' := [(0, g_r Y 43), (1, g_r Y 39), (2, .int x2), (3, .int x3)]) rfl ?_
      exact t_X6_findMost_43_39_106 C E ih x2 x3 0 x2 M h
    · have h := hif.1 c
      clear hif
      refine g_iconst C (v := 1) dX6_findMost_101 (q := 102) rfl (by decide) ?_
      refine g_goto C dX6_findMost_102 (tgt := 106) (by decide) ?_
      refine g_sub [0, 1, 2, 3] (lv' := [(0, g_r Y 43), (1, g_r Y 39), (2, .int x2), (3, .int x3)]) rfl ?_
      exact t_X6_findMost_43_39_106 C E ih x2 x3 1 x2 M h
theorem r_X6_findMost_43_39_83 {p : g_M} {k : Int32 → g_M → Option (g_M)} (ih : ∀ (x2 : Int32) (M : g_M), k x2 M = some p → g_fr [44, 45] [(43, 1)] M p) (x2 : Int32) (x3 : Int32) (M : g_M) (h : f_X6_findMost_43_39_83 k x2 x3 M = some p) : g_fr [44, 45] [(43, 1)] M p := by
  unfold f_X6_findMost_43_39_83 at h
  have hf := g_fr.rfl (S := [44, 45]) (T := [(43, 1)]) (M := M)
  rcases g_ifs h with h | h
  · obtain ⟨v7, -, h⟩ := g_bind h
    rcases g_ifs h with h | h
    · exact hf.trans (r_X6_findMost_43_39_106 ih x2 x3 1 x2 M h)
    · exact hf.trans (r_X6_findMost_43_39_106 ih x2 x3 0 x2 M h)
  · exact hf.trans (r_X6_findMost_43_39_106 ih x2 x3 1 x2 M h)
def F_X6_findMost_43_39_10 (k131 : g_M → Option (g_M)) (k : Int32 → g_M → Option (g_M)) (x2 : Int32) (M : g_M) : Option (g_M) :=
  (if x2 < 0 then (k131 M) else ((if (x2 &&& ((M.1 39 1) ^^^ (-1))) = 0 then (g_lp3 (F_X6_findMost_43_39_30 (fun (x2 : Int32) (x3 : Int32) (M : g_M) => f_X6_findMost_43_39_83 k x2 x3 M)) 20000000 x2 0 0 M) else (k (x2 + (-1)) M))))
set_option maxRecDepth 100000 in
theorem t_X6_findMost_43_39_10 {l : Launch} {X : g_X} {Y : g_Y} {p : g_M} {k131 : g_M → Option (g_M)} (C : g_C l (g_rm (1)) RX6 cX6_findMost 5 X Y) (E : g_E none X Y none p) (hk131 : ∀ (M : g_M), k131 M = some p → g_G 5 X Y 131 [(0, g_r Y 43)] [] M) (n : Nat) : ∀ (x2 : Int32) (M : g_M), g_lp1 (F_X6_findMost_43_39_10 k131) n x2 M = some p → g_G 5 X Y 10 [(0, g_r Y 43), (1, g_r Y 39), (2, .int x2)] [] M := by
  induction n with
  | zero => intro x2 M h; exact (g_nn h).elim
  | succ n ih =>
    intro x2 M h
    have h : F_X6_findMost_43_39_10 k131 (g_lp1 (F_X6_findMost_43_39_10 k131) n) x2 M = some p := h
    generalize g_lp1 (F_X6_findMost_43_39_10 k131) n = k at h ih
    unfold F_X6_findMost_43_39_10 at h
    refine g_iload_n C 2 dX6_findMost_10 (q := 11) rfl rfl rfl ?_
    have hif := g_if h
    clear h
    refine g_if_lt C dX6_findMost_11 (q := 14) (tgt := 131) rfl (by decide) (fun c => ?_) (fun c => ?_)
    · have h := hif.1 c
      clear hif
      refine g_sub [0] (lv' := [(0, g_r Y 43)]) rfl ?_
      exact hk131 M h
    · have h := hif.2 c
      clear hif
      refine g_iload_n C 2 dX6_findMost_14 (q := 15) rfl rfl rfl ?_
      refine g_aload_n C 1 dX6_findMost_15 (q := 16) rfl rfl rfl ?_
      refine g_get C (k := 39) (i := 1) (by decide) (gc_39 Y _ _) rfl kU_X1 (by decide) kF_X6_23 rfl dX6_findMost_16 (q := 19) rfl ?_
      refine g_iconst C (v := (-1)) dX6_findMost_19 (q := 20) rfl (by decide) ?_
      refine g_ixor C dX6_findMost_20 (q := 21) rfl ?_
      refine g_iand C dX6_findMost_21 (q := 22) rfl ?_
      have hif := g_if h
      clear h
      refine g_if_ne C dX6_findMost_22 (q := 25) (tgt := 125) rfl (by decide) (fun c => ?_) (fun c => ?_)
      · have h := hif.2 c
        clear hif
        refine g_iinc C (k := 2) (v := x2 + (-1)) dX6_findMost_125 (q := 128) rfl rfl rfl (by decide) (lv' := [(2, .int (x2 + (-1))), (0, g_r Y 43), (1, g_r Y 39)]) rfl ?_
        refine g_goto C dX6_findMost_128 (tgt := 10) (by decide) ?_
        refine g_sub [1, 2, 0] (lv' := [(0, g_r Y 43), (1, g_r Y 39), (2, .int (x2 + (-1)))]) rfl ?_
        exact ih (x2 + (-1)) M h
      · have h := hif.1 c
        clear hif
        refine g_iconst C (v := 0) dX6_findMost_25 (q := 26) rfl (by decide) ?_
        refine g_istore_n C dX6_findMost_26 (q := 27) rfl rfl (by decide) (lv' := [(3, .int 0), (0, g_r Y 43), (1, g_r Y 39), (2, .int x2)]) rfl ?_
        refine g_iconst C (v := 0) dX6_findMost_27 (q := 28) rfl (by decide) ?_
        refine g_istore C dX6_findMost_28 (q := 30) rfl (by decide) (lv' := [(4, .int 0), (3, .int 0), (0, g_r Y 43), (1, g_r Y 39), (2, .int x2)]) rfl ?_
        refine g_sub [2, 3, 4, 1, 0] (lv' := [(0, g_r Y 43), (1, g_r Y 39), (2, .int x2), (3, .int 0), (4, .int 0)]) rfl ?_
        refine t_X6_findMost_43_39_30 C E ?_ 20000000 x2 0 0 M h
        · intro x2 x3 M h
          try dsimp only at h
          refine g_sub [0, 1, 2, 3] (lv' := [(0, g_r Y 43), (1, g_r Y 39), (2, .int x2), (3, .int x3)]) rfl ?_
          exact t_X6_findMost_43_39_83 C E ih x2 x3 M h
theorem r_X6_findMost_43_39_10 {p : g_M} {k131 : g_M → Option (g_M)} (hk131 : ∀ (M : g_M), k131 M = some p → g_fr [44, 45] [(43, 1)] M p) (n : Nat) : ∀ (x2 : Int32) (M : g_M), g_lp1 (F_X6_findMost_43_39_10 k131) n x2 M = some p → g_fr [44, 45] [(43, 1)] M p := by
  induction n with
  | zero => intro x2 M h; exact (g_nn h).elim
  | succ n ih =>
    intro x2 M h
    have h : F_X6_findMost_43_39_10 k131 (g_lp1 (F_X6_findMost_43_39_10 k131) n) x2 M = some p := h
    generalize g_lp1 (F_X6_findMost_43_39_10 k131) n = k at h ih
    unfold F_X6_findMost_43_39_10 at h
    have hf := g_fr.rfl (S := [44, 45]) (T := [(43, 1)]) (M := M)
    rcases g_ifs h with h | h
    · exact hf.trans (hk131 M h)
    · rcases g_ifs h with h | h
      · refine hf.trans (r_X6_findMost_43_39_30 ?_ 20000000 x2 0 0 M h)
        · intro x2 x3 M h
          try dsimp only at h
          have hf := g_fr.rfl (S := [44, 45]) (T := [(43, 1)]) (M := M)
          exact hf.trans (r_X6_findMost_43_39_83 ih x2 x3 M h)
      · exact hf.trans (ih (x2 + (-1)) M h)
def f_X6_findMost_43_39 (M : g_M) : Option (g_M) :=
  (some (g_u M 43 1 0)).bind fun M1 => g_lp1 (F_X6_findMost_43_39_10 (fun (M : g_M) => (f_X6_turn M).bind fun p8 => some p8)) 20000000 (M1.1 39 1) M1
set_option maxRecDepth 100000 in
theorem m_X6_findMost_43_39 {l : Launch} {Y : g_Y} {M : g_M} {p : g_M} (h : f_X6_findMost_43_39 M = some p) : g_R l Y (1) yX6_findMost cX6_findMost 5 none [g_r Y 43, g_r Y 39] M none p := by
  unfold f_X6_findMost_43_39 at h
  refine g_R_of kP_X6 rfl (Nat.le_of_ble_eq_true rfl) (fun X C E => ?_)
  show g_G 5 X Y 0 [(0, g_r Y 43), (1, g_r Y 39)] [] M
  refine g_aload_n C 0 dX6_findMost_0 (q := 1) rfl rfl rfl ?_
  refine g_iconst C (v := 0) dX6_findMost_1 (q := 2) rfl (by decide) ?_
  obtain ⟨M1, hM1, h⟩ := g_bind h
  refine g_put C (k := 43) (i := 1) (ty := .int) (by decide) (gc_43 Y _ _) (gp_43_1 Y _ _ _) rfl kU_X6 tyX6_ok nmX6 (by decide) kF_X6_19 rfl rfl rfl rfl (Nat.le_of_ble_eq_true rfl) dX6_findMost_2 (q := 5) rfl ?_
  refine g_mem hM1 ?_
  refine g_aload_n C 1 dX6_findMost_5 (q := 6) rfl rfl rfl ?_
  refine g_get C (k := 39) (i := 1) (by decide) (gc_39 Y _ _) rfl kU_X1 (by decide) kF_X6_23 rfl dX6_findMost_6 (q := 9) rfl ?_
  refine g_istore_n C dX6_findMost_9 (q := 10) rfl rfl (by decide) (lv' := [(2, .int (M1.1 39 1)), (0, g_r Y 43), (1, g_r Y 39)]) rfl ?_
  refine g_sub [1, 2, 0] (lv' := [(0, g_r Y 43), (1, g_r Y 39), (2, .int (M1.1 39 1))]) rfl ?_
  refine t_X6_findMost_43_39_10 C E ?_ 20000000 (M1.1 39 1) M1 h
  · intro M h
    try dsimp only at h
    refine g_aload_n C 0 dX6_findMost_131 (q := 132) rfl rfl rfl ?_
    obtain ⟨p8, hp8, h⟩ := g_bind h
    refine g_callV C (k := 43) (as := []) (st := []) (m_X6_turn hp8) (g_hR (by decide)) (by decide) (by decide) (gc_43 Y _ _) rfl kM_X6_35 kI_X6_turn kS_X6_turn kN_X6 kC_X6_turn kD_X6_turn rfl (Nat.le_of_ble_eq_true rfl) dX6_findMost_132 (q := 135) rfl ?_
    show g_G 5 X Y 135 [(0, g_r Y 43)] [] p8
    obtain rfl := Option.some.inj h
    exact g_vret C E dX6_findMost_135
theorem r_X6_findMost_43_39 {M : g_M} {p : g_M} (h : f_X6_findMost_43_39 M = some p) : g_fr [44, 45] [(43, 1)] M p := by
  unfold f_X6_findMost_43_39 at h
  have hf := g_fr.rfl (S := [44, 45]) (T := [(43, 1)]) (M := M)
  obtain ⟨M1, hM1, h⟩ := g_bind h
  have hf := hf.pu hM1 (by decide)
  refine hf.trans (r_X6_findMost_43_39_10 ?_ 20000000 (M1.1 39 1) M1 h)
  · intro M h
    try dsimp only at h
    have hf := g_fr.rfl (S := [44, 45]) (T := [(43, 1)]) (M := M)
    obtain ⟨p8, hp8, h⟩ := g_bind h
    have hf := hf.trans ((r_X6_turn hp8).mono (by decide) (by decide))
    obtain rfl := Option.some.inj h
    exact hf
def f_X4_hasRoomFor (x1 : Int32) (M : g_M) : Option (Int32) :=
  (if (40 - (M.1 24 0)) < x1 then (some 0) else (some 1))
set_option maxRecDepth 100000 in
theorem m_X4_hasRoomFor {l : Launch} {Y : g_Y} {x1 : Int32} {M : g_M} {p : Int32} (h : f_X4_hasRoomFor x1 M = some p) : g_R l Y (0) yX4_hasRoomFor cX4_hasRoomFor 2 (some .boolean) [g_r Y 24, .int x1] M (some (.int p)) M := by
  unfold f_X4_hasRoomFor at h
  refine g_R_of kP_X4 rfl (Nat.le_of_ble_eq_true rfl) (fun X C E => ?_)
  show g_G 2 X Y 0 [(0, g_r Y 24), (1, .int x1)] [] M
  refine g_iload_n C 1 dX4_hasRoomFor_0 (q := 1) rfl rfl rfl ?_
  refine g_bipush C (v := 40) dX4_hasRoomFor_1 (q := 3) rfl (by decide) ?_
  refine g_aload_n C 0 dX4_hasRoomFor_3 (q := 4) rfl rfl rfl ?_
  refine g_get C (k := 24) (i := 0) (by decide) (gc_24 Y _ _) rfl kU_X4 (by decide) kF_X4_33 rfl dX4_hasRoomFor_4 (q := 7) rfl ?_
  refine g_isub C dX4_hasRoomFor_7 (q := 8) rfl ?_
  have hif := g_if h
  clear h
  refine g_icmp_gt C dX4_hasRoomFor_8 (q := 11) (tgt := 15) rfl (by decide) (fun c => ?_) (fun c => ?_)
  · have h := hif.1 c
    clear hif
    refine g_iconst C (v := 0) dX4_hasRoomFor_15 (q := 16) rfl (by decide) ?_
    obtain rfl := Option.some.inj h
    exact g_zret C (g_bz_lit (by decide)) E dX4_hasRoomFor_16
  · have h := hif.2 c
    clear hif
    refine g_iconst C (v := 1) dX4_hasRoomFor_11 (q := 12) rfl (by decide) ?_
    refine g_goto C dX4_hasRoomFor_12 (tgt := 16) (by decide) ?_
    obtain rfl := Option.some.inj h
    exact g_zret C (g_bz_lit (by decide)) E dX4_hasRoomFor_16
def f_X4_openersOf (x0 : Int32) (x1 : Int32) (M : g_M) : Option (Int32) :=
  (if x0 = 1 then (some ((1 : Int32) <<< (x1 &&& 31))) else (if x0 = 5 then ((g_nz 24).bind fun z1 => some (((1 : Int32) <<< (x1 &&& 31)) ||| ((1 : Int32) <<< (((x1 + 1) - (x1 + 1) / z1 * z1) &&& 31)))) else some 0))
set_option maxRecDepth 100000 in
theorem m_X4_openersOf {l : Launch} {Y : g_Y} {x0 : Int32} {x1 : Int32} {M : g_M} {p : Int32} (h : f_X4_openersOf x0 x1 M = some p) : g_R l Y (0) yX4_openersOf cX4_openersOf 2 (some .int) [.int x0, .int x1] M (some (.int p)) M := by
  unfold f_X4_openersOf at h
  refine g_R_of kP_X4 rfl (Nat.le_of_ble_eq_true rfl) (fun X C E => ?_)
  show g_G 2 X Y 0 [(0, .int x0), (1, .int x1)] [] M
  refine g_iload_n C 0 dX4_openersOf_0 (q := 1) rfl rfl rfl ?_
  by_cases e : x0 = 1
  · rw [if_pos e] at h
    refine g_look C (off := 27) (tgt := 28) dX4_openersOf_1 (by decide) (by rw [e]; decide) (by decide) ?_
    refine g_iconst C (v := 1) dX4_openersOf_28 (q := 29) rfl (by decide) ?_
    refine g_iload_n C 1 dX4_openersOf_29 (q := 30) rfl rfl rfl ?_
    refine g_ishl C dX4_openersOf_30 (q := 31) rfl ?_
    obtain rfl := Option.some.inj h
    exact g_iret C E dX4_openersOf_31
  rw [if_neg e] at h
  have n1 := g_toI (n := 1) (v := 1) (by decide) e
  by_cases e : x0 = 5
  · rw [if_pos e] at h
    refine g_look C (off := 31) (tgt := 32) dX4_openersOf_1 (by decide) (by rw [e]; decide) (by decide) ?_
    refine g_iconst C (v := 1) dX4_openersOf_32 (q := 33) rfl (by decide) ?_
    refine g_iload_n C 1 dX4_openersOf_33 (q := 34) rfl rfl rfl ?_
    refine g_ishl C dX4_openersOf_34 (q := 35) rfl ?_
    refine g_iconst C (v := 1) dX4_openersOf_35 (q := 36) rfl (by decide) ?_
    refine g_iload_n C 1 dX4_openersOf_36 (q := 37) rfl rfl rfl ?_
    refine g_iconst C (v := 1) dX4_openersOf_37 (q := 38) rfl (by decide) ?_
    refine g_iadd C dX4_openersOf_38 (q := 39) rfl ?_
    refine g_bipush C (v := 24) dX4_openersOf_39 (q := 41) rfl (by decide) ?_
    obtain ⟨z1, hz1, h⟩ := g_bind h
    refine g_irem C (z := z1) dX4_openersOf_41 (q := 42) rfl hz1 ?_
    refine g_ishl C dX4_openersOf_42 (q := 43) rfl ?_
    refine g_ior C dX4_openersOf_43 (q := 44) rfl ?_
    obtain rfl := Option.some.inj h
    exact g_iret C E dX4_openersOf_44
  rw [if_neg e] at h
  have n5 := g_toI (n := 5) (v := 5) (by decide) e
  have hdef : g_G 2 X Y 45 [(0, .int x0), (1, .int x1)] [] M := by
    refine g_iconst C (v := 0) dX4_openersOf_45 (q := 46) rfl (by decide) ?_
    obtain rfl := Option.some.inj h
    exact g_iret C E dX4_openersOf_46
  refine g_look C (off := 44) (tgt := 45) dX4_openersOf_1 (by decide) (by simp [Op.lookupswitch.offset, Ne.symm n1, Ne.symm n5]) (by decide) hdef
def f_X4_add (x1 : Int32) (x2 : Int32) (x3 : Int32) (x4 : Int32) (x5 : Int32) (x6 : Int32) (M : g_M) : Option (Int32 × g_M) :=
  (g_st M 25 40 (M.1 24 0) x1).bind fun M1 => (g_st M1 26 40 (M1.1 24 0) x2).bind fun M2 => (f_X4_openersOf x1 x2 M2).bind fun p3 => (g_st M2 27 40 (M2.1 24 0) p3).bind fun M4 => (g_st M4 28 40 (M4.1 24 0) x3).bind fun M5 => (g_st M5 29 40 (M5.1 24 0) x4).bind fun M6 => (g_st M6 30 40 (M6.1 24 0) x5).bind fun M7 => (g_st M7 31 40 (M7.1 24 0) x6).bind fun M8 => (some (g_u M8 24 1 ((M8.1 24 1) + 1))).bind fun M9 => (some (g_u M9 24 0 ((M9.1 24 0) + 1))).bind fun M10 => some (M9.1 24 0, M10)
set_option maxRecDepth 100000 in
theorem m_X4_add {l : Launch} {Y : g_Y} {x1 : Int32} {x2 : Int32} {x3 : Int32} {x4 : Int32} {x5 : Int32} {x6 : Int32} {M : g_M} {p : Int32 × g_M} (h : f_X4_add x1 x2 x3 x4 x5 x6 M = some p) : g_R l Y (1) yX4_add cX4_add 7 (some .int) [g_r Y 24, .int x1, .int x2, .int x3, .int x4, .int x5, .int x6] M (some (.int p.1)) p.2 := by
  unfold f_X4_add at h
  refine g_R_of kP_X4 rfl (Nat.le_of_ble_eq_true rfl) (fun X C E => ?_)
  show g_G 7 X Y 0 [(0, g_r Y 24), (1, .int x1), (2, .int x2), (3, .int x3), (4, .int x4), (5, .int x5), (6, .int x6)] [] M
  refine g_aload_n C 0 dX4_add_0 (q := 1) rfl rfl rfl ?_
  refine g_get C (k := 24) (i := 2) (by decide) (gc_24 Y _ _) rfl kU_X4 (by decide) kF_X4_9 rfl dX4_add_1 (q := 4) rfl ?_
  refine g_aload_n C 0 dX4_add_4 (q := 5) rfl rfl rfl ?_
  refine g_get C (k := 24) (i := 0) (by decide) (gc_24 Y _ _) rfl kU_X4 (by decide) kF_X4_33 rfl dX4_add_5 (q := 8) rfl ?_
  refine g_iload_n C 1 dX4_add_8 (q := 9) rfl rfl rfl ?_
  obtain ⟨M1, hM1, h⟩ := g_bind h
  refine g_iast C (k := 25) (n := 40) (by decide) (fun a => gc_25 Y a _) hM1 dX4_add_9 (q := 10) rfl ?_
  refine g_aload_n C 0 dX4_add_10 (q := 11) rfl rfl rfl ?_
  refine g_get C (k := 24) (i := 3) (by decide) (gc_24 Y _ _) rfl kU_X4 (by decide) kF_X4_15 rfl dX4_add_11 (q := 14) rfl ?_
  refine g_aload_n C 0 dX4_add_14 (q := 15) rfl rfl rfl ?_
  refine g_get C (k := 24) (i := 0) (by decide) (gc_24 Y _ _) rfl kU_X4 (by decide) kF_X4_33 rfl dX4_add_15 (q := 18) rfl ?_
  refine g_iload_n C 2 dX4_add_18 (q := 19) rfl rfl rfl ?_
  obtain ⟨M2, hM2, h⟩ := g_bind h
  refine g_iast C (k := 26) (n := 40) (by decide) (fun a => gc_26 Y a _) hM2 dX4_add_19 (q := 20) rfl ?_
  refine g_aload_n C 0 dX4_add_20 (q := 21) rfl rfl rfl ?_
  refine g_get C (k := 24) (i := 4) (by decide) (gc_24 Y _ _) rfl kU_X4 (by decide) kF_X4_18 rfl dX4_add_21 (q := 24) rfl ?_
  refine g_aload_n C 0 dX4_add_24 (q := 25) rfl rfl rfl ?_
  refine g_get C (k := 24) (i := 0) (by decide) (gc_24 Y _ _) rfl kU_X4 (by decide) kF_X4_33 rfl dX4_add_25 (q := 28) rfl ?_
  refine g_iload_n C 1 dX4_add_28 (q := 29) rfl rfl rfl ?_
  refine g_iload_n C 2 dX4_add_29 (q := 30) rfl rfl rfl ?_
  obtain ⟨p3, hp3, h⟩ := g_bind h
  refine g_callS C (as := [.int x1, .int x2]) (st := [.int (M2.1 24 0), g_r Y 27]) (m_X4_openersOf hp3) (g_hR (by decide)) (by decide) kM_X4_41 kT_X4_openersOf kN_X4 kC_X4_openersOf kD_X4_openersOf rfl (Nat.le_of_ble_eq_true rfl) dX4_add_30 (q := 33) rfl ?_
  show g_G 7 X Y 33 [(0, g_r Y 24), (1, .int x1), (2, .int x2), (3, .int x3), (4, .int x4), (5, .int x5), (6, .int x6)] [.int p3, .int (M2.1 24 0), g_r Y 27] M2
  obtain ⟨M4, hM4, h⟩ := g_bind h
  refine g_iast C (k := 27) (n := 40) (by decide) (fun a => gc_27 Y a _) hM4 dX4_add_33 (q := 34) rfl ?_
  refine g_aload_n C 0 dX4_add_34 (q := 35) rfl rfl rfl ?_
  refine g_get C (k := 24) (i := 5) (by decide) (gc_24 Y _ _) rfl kU_X4 (by decide) kF_X4_21 rfl dX4_add_35 (q := 38) rfl ?_
  refine g_aload_n C 0 dX4_add_38 (q := 39) rfl rfl rfl ?_
  refine g_get C (k := 24) (i := 0) (by decide) (gc_24 Y _ _) rfl kU_X4 (by decide) kF_X4_33 rfl dX4_add_39 (q := 42) rfl ?_
  refine g_iload_n C 3 dX4_add_42 (q := 43) rfl rfl rfl ?_
  obtain ⟨M5, hM5, h⟩ := g_bind h
  refine g_iast C (k := 28) (n := 40) (by decide) (fun a => gc_28 Y a _) hM5 dX4_add_43 (q := 44) rfl ?_
  refine g_aload_n C 0 dX4_add_44 (q := 45) rfl rfl rfl ?_
  refine g_get C (k := 24) (i := 6) (by decide) (gc_24 Y _ _) rfl kU_X4 (by decide) kF_X4_24 rfl dX4_add_45 (q := 48) rfl ?_
  refine g_aload_n C 0 dX4_add_48 (q := 49) rfl rfl rfl ?_
  refine g_get C (k := 24) (i := 0) (by decide) (gc_24 Y _ _) rfl kU_X4 (by decide) kF_X4_33 rfl dX4_add_49 (q := 52) rfl ?_
  refine g_iload C 4 dX4_add_52 (q := 54) rfl rfl ?_
  obtain ⟨M6, hM6, h⟩ := g_bind h
  refine g_iast C (k := 29) (n := 40) (by decide) (fun a => gc_29 Y a _) hM6 dX4_add_54 (q := 55) rfl ?_
  refine g_aload_n C 0 dX4_add_55 (q := 56) rfl rfl rfl ?_
  refine g_get C (k := 24) (i := 7) (by decide) (gc_24 Y _ _) rfl kU_X4 (by decide) kF_X4_27 rfl dX4_add_56 (q := 59) rfl ?_
  refine g_aload_n C 0 dX4_add_59 (q := 60) rfl rfl rfl ?_
  refine g_get C (k := 24) (i := 0) (by decide) (gc_24 Y _ _) rfl kU_X4 (by decide) kF_X4_33 rfl dX4_add_60 (q := 63) rfl ?_
  refine g_iload C 5 dX4_add_63 (q := 65) rfl rfl ?_
  obtain ⟨M7, hM7, h⟩ := g_bind h
  refine g_iast C (k := 30) (n := 40) (by decide) (fun a => gc_30 Y a _) hM7 dX4_add_65 (q := 66) rfl ?_
  refine g_aload_n C 0 dX4_add_66 (q := 67) rfl rfl rfl ?_
  refine g_get C (k := 24) (i := 8) (by decide) (gc_24 Y _ _) rfl kU_X4 (by decide) kF_X4_30 rfl dX4_add_67 (q := 70) rfl ?_
  refine g_aload_n C 0 dX4_add_70 (q := 71) rfl rfl rfl ?_
  refine g_get C (k := 24) (i := 0) (by decide) (gc_24 Y _ _) rfl kU_X4 (by decide) kF_X4_33 rfl dX4_add_71 (q := 74) rfl ?_
  refine g_iload C 6 dX4_add_74 (q := 76) rfl rfl ?_
  obtain ⟨M8, hM8, h⟩ := g_bind h
  refine g_iast C (k := 31) (n := 40) (by decide) (fun a => gc_31 Y a _) hM8 dX4_add_76 (q := 77) rfl ?_
  refine g_aload_n C 0 dX4_add_77 (q := 78) rfl rfl rfl ?_
  refine g_dup C dX4_add_78 (q := 79) rfl rfl ?_
  refine g_get C (k := 24) (i := 1) (by decide) (gc_24 Y _ _) rfl kU_X4 (by decide) kF_X4_45 rfl dX4_add_79 (q := 82) rfl ?_
  refine g_iconst C (v := 1) dX4_add_82 (q := 83) rfl (by decide) ?_
  refine g_iadd C dX4_add_83 (q := 84) rfl ?_
  obtain ⟨M9, hM9, h⟩ := g_bind h
  refine g_put C (k := 24) (i := 1) (ty := .int) (by decide) (gc_24 Y _ _) (gp_24_1 Y _ _ _) rfl kU_X4 tyX4_ok nmX4 (by decide) kF_X4_45 rfl rfl rfl rfl (Nat.le_of_ble_eq_true rfl) dX4_add_84 (q := 87) rfl ?_
  refine g_mem hM9 ?_
  refine g_aload_n C 0 dX4_add_87 (q := 88) rfl rfl rfl ?_
  refine g_dup C dX4_add_88 (q := 89) rfl rfl ?_
  refine g_get C (k := 24) (i := 0) (by decide) (gc_24 Y _ _) rfl kU_X4 (by decide) kF_X4_33 rfl dX4_add_89 (q := 92) rfl ?_
  refine g_dup_x1 C dX4_add_92 (q := 93) rfl rfl rfl ?_
  refine g_iconst C (v := 1) dX4_add_93 (q := 94) rfl (by decide) ?_
  refine g_iadd C dX4_add_94 (q := 95) rfl ?_
  obtain ⟨M10, hM10, h⟩ := g_bind h
  refine g_put C (k := 24) (i := 0) (ty := .int) (by decide) (gc_24 Y _ _) (gp_24_0 Y _ _ _) rfl kU_X4 tyX4_ok nmX4 (by decide) kF_X4_33 rfl rfl rfl rfl (Nat.le_of_ble_eq_true rfl) dX4_add_95 (q := 98) rfl ?_
  refine g_mem hM10 ?_
  obtain rfl := Option.some.inj h
  exact g_iret C E dX4_add_98
theorem r_X4_add {x1 : Int32} {x2 : Int32} {x3 : Int32} {x4 : Int32} {x5 : Int32} {x6 : Int32} {M : g_M} {p : Int32 × g_M} (h : f_X4_add x1 x2 x3 x4 x5 x6 M = some p) : g_fr [25, 26, 27, 28, 29, 30, 31] [(24, 0), (24, 1)] M p.2 := by
  unfold f_X4_add at h
  have hf := g_fr.rfl (S := [25, 26, 27, 28, 29, 30, 31]) (T := [(24, 0), (24, 1)]) (M := M)
  obtain ⟨M1, hM1, h⟩ := g_bind h
  have hf := hf.st hM1 (by decide)
  obtain ⟨M2, hM2, h⟩ := g_bind h
  have hf := hf.st hM2 (by decide)
  obtain ⟨p3, -, h⟩ := g_bind h
  obtain ⟨M4, hM4, h⟩ := g_bind h
  have hf := hf.st hM4 (by decide)
  obtain ⟨M5, hM5, h⟩ := g_bind h
  have hf := hf.st hM5 (by decide)
  obtain ⟨M6, hM6, h⟩ := g_bind h
  have hf := hf.st hM6 (by decide)
  obtain ⟨M7, hM7, h⟩ := g_bind h
  have hf := hf.st hM7 (by decide)
  obtain ⟨M8, hM8, h⟩ := g_bind h
  have hf := hf.st hM8 (by decide)
  obtain ⟨M9, hM9, h⟩ := g_bind h
  have hf := hf.pu hM9 (by decide)
  obtain ⟨M10, hM10, h⟩ := g_bind h
  have hf := hf.pu hM10 (by decide)
  obtain rfl := Option.some.inj h
  exact hf
def f_X4_addLock_22 (s0 : Int32) (s1 : Int32) (s2 : Int32) (s3 : Int32) (s4 : Int32) (M : g_M) : Option (Int32 × g_M) :=
  (f_X4_add s4 s3 s2 s1 s0 1 M).bind fun p1 => some (p1.1, p1.2)
set_option maxRecDepth 100000 in
theorem t_X4_addLock_22 {l : Launch} {X : g_X} {Y : g_Y} {p : Int32 × g_M} (C : g_C l (g_rm (2)) RX4 cX4_addLock 3 X Y) (E : g_E (some .int) X Y (some (.int p.1)) p.2) (s0 : Int32) (s1 : Int32) (s2 : Int32) (s3 : Int32) (s4 : Int32) (M : g_M) (h : f_X4_addLock_22 s0 s1 s2 s3 s4 M = some p) : g_G 3 X Y 22 [] [.int s0, .int s1, .int s2, .int s3, .int s4, g_r Y 24] M := by
  unfold f_X4_addLock_22 at h
  refine g_iconst C (v := 1) dX4_addLock_22 (q := 23) rfl (by decide) ?_
  obtain ⟨p1, hp1, h⟩ := g_bind h
  refine g_callV C (k := 24) (as := [.int s4, .int s3, .int s2, .int s1, .int s0, .int 1]) (st := []) (m_X4_add hp1) (g_hR (by decide)) (by decide) (by decide) (gc_24 Y _ _) rfl kM_X4_37 kI_X4_add kS_X4_add kN_X4 kC_X4_add kD_X4_add rfl (Nat.le_of_ble_eq_true rfl) dX4_addLock_23 (q := 26) rfl ?_
  show g_G 3 X Y 26 [] [.int p1.1] p1.2
  obtain rfl := Option.some.inj h
  exact g_iret C E dX4_addLock_26
theorem r_X4_addLock_22 {p : Int32 × g_M} (s0 : Int32) (s1 : Int32) (s2 : Int32) (s3 : Int32) (s4 : Int32) (M : g_M) (h : f_X4_addLock_22 s0 s1 s2 s3 s4 M = some p) : g_fr [25, 26, 27, 28, 29, 30, 31] [(24, 0), (24, 1)] M p.2 := by
  unfold f_X4_addLock_22 at h
  have hf := g_fr.rfl (S := [25, 26, 27, 28, 29, 30, 31]) (T := [(24, 0), (24, 1)]) (M := M)
  obtain ⟨p1, hp1, h⟩ := g_bind h
  have hf := hf.trans ((r_X4_add hp1).mono (by decide) (by decide))
  obtain rfl := Option.some.inj h
  exact hf
def f_X4_addLock_10 (x1 : Int32) (x2 : Int32) (s0 : Int32) (M : g_M) : Option (Int32 × g_M) :=
  (if x2 = 0 then (f_X4_addLock_22 3 0 0 x1 s0 M) else (f_X4_addLock_22 2 0 0 x1 s0 M))
set_option maxRecDepth 100000 in
theorem t_X4_addLock_10 {l : Launch} {X : g_X} {Y : g_Y} {p : Int32 × g_M} (C : g_C l (g_rm (2)) RX4 cX4_addLock 3 X Y) (E : g_E (some .int) X Y (some (.int p.1)) p.2) (x1 : Int32) (x2 : Int32) (s0 : Int32) (M : g_M) (h : f_X4_addLock_10 x1 x2 s0 M = some p) : g_G 3 X Y 10 [(1, .int x1), (2, .int x2)] [.int s0, g_r Y 24] M := by
  unfold f_X4_addLock_10 at h
  refine g_iload_n C 0 dX4_addLock_10 (q := 11) rfl rfl rfl ?_
  refine g_iconst C (v := 0) dX4_addLock_11 (q := 12) rfl (by decide) ?_
  refine g_iconst C (v := 0) dX4_addLock_12 (q := 13) rfl (by decide) ?_
  refine g_iload_n C 1 dX4_addLock_13 (q := 14) rfl rfl rfl ?_
  have hif := g_if h
  clear h
  refine g_if_eq C dX4_addLock_14 (q := 17) (tgt := 21) rfl (by decide) (fun c => ?_) (fun c => ?_)
  · have h := hif.1 c
    clear hif
    refine g_iconst C (v := 3) dX4_addLock_21 (q := 22) rfl (by decide) ?_
    refine g_sub [] (lv' := []) rfl ?_
    exact t_X4_addLock_22 C E 3 0 0 x1 s0 M h
  · have h := hif.2 c
    clear hif
    refine g_iconst C (v := 2) dX4_addLock_17 (q := 18) rfl (by decide) ?_
    refine g_goto C dX4_addLock_18 (tgt := 22) (by decide) ?_
    refine g_sub [] (lv' := []) rfl ?_
    exact t_X4_addLock_22 C E 2 0 0 x1 s0 M h
theorem r_X4_addLock_10 {p : Int32 × g_M} (x1 : Int32) (x2 : Int32) (s0 : Int32) (M : g_M) (h : f_X4_addLock_10 x1 x2 s0 M = some p) : g_fr [25, 26, 27, 28, 29, 30, 31] [(24, 0), (24, 1)] M p.2 := by
  unfold f_X4_addLock_10 at h
  have hf := g_fr.rfl (S := [25, 26, 27, 28, 29, 30, 31]) (T := [(24, 0), (24, 1)]) (M := M)
  rcases g_ifs h with h | h
  · exact hf.trans (r_X4_addLock_22 3 0 0 x1 s0 M h)
  · exact hf.trans (r_X4_addLock_22 2 0 0 x1 s0 M h)
def f_X4_addLock (x1 : Int32) (x2 : Int32) (M : g_M) : Option (Int32 × g_M) :=
  (if x2 = 0 then (f_X4_addLock_10 x1 x2 1 M) else (f_X4_addLock_10 x1 x2 5 M))
set_option maxRecDepth 100000 in
theorem m_X4_addLock {l : Launch} {Y : g_Y} {x1 : Int32} {x2 : Int32} {M : g_M} {p : Int32 × g_M} (h : f_X4_addLock x1 x2 M = some p) : g_R l Y (2) yX4_addLock cX4_addLock 3 (some .int) [g_r Y 24, .int x1, .int x2] M (some (.int p.1)) p.2 := by
  unfold f_X4_addLock at h
  refine g_R_of kP_X4 rfl (Nat.le_of_ble_eq_true rfl) (fun X C E => ?_)
  show g_G 3 X Y 0 [(0, g_r Y 24), (1, .int x1), (2, .int x2)] [] M
  refine g_aload_n C 0 dX4_addLock_0 (q := 1) rfl rfl rfl ?_
  refine g_iload_n C 2 dX4_addLock_1 (q := 2) rfl rfl rfl ?_
  have hif := g_if h
  clear h
  refine g_if_eq C dX4_addLock_2 (q := 5) (tgt := 9) rfl (by decide) (fun c => ?_) (fun c => ?_)
  · have h := hif.1 c
    clear hif
    refine g_iconst C (v := 1) dX4_addLock_9 (q := 10) rfl (by decide) ?_
    refine g_sub [1, 2] (lv' := [(1, .int x1), (2, .int x2)]) rfl ?_
    exact t_X4_addLock_10 C E x1 x2 1 M h
  · have h := hif.2 c
    clear hif
    refine g_iconst C (v := 5) dX4_addLock_5 (q := 6) rfl (by decide) ?_
    refine g_goto C dX4_addLock_6 (tgt := 10) (by decide) ?_
    refine g_sub [1, 2] (lv' := [(1, .int x1), (2, .int x2)]) rfl ?_
    exact t_X4_addLock_10 C E x1 x2 5 M h
theorem r_X4_addLock {x1 : Int32} {x2 : Int32} {M : g_M} {p : Int32 × g_M} (h : f_X4_addLock x1 x2 M = some p) : g_fr [25, 26, 27, 28, 29, 30, 31] [(24, 0), (24, 1)] M p.2 := by
  unfold f_X4_addLock at h
  have hf := g_fr.rfl (S := [25, 26, 27, 28, 29, 30, 31]) (T := [(24, 0), (24, 1)]) (M := M)
  rcases g_ifs h with h | h
  · exact hf.trans (r_X4_addLock_10 x1 x2 1 M h)
  · exact hf.trans (r_X4_addLock_10 x1 x2 5 M h)
def f_X4_addChain_35 (x1 : Int32) (x2 : Int32) (x4 : Int32) (s0 : Int32) (M : g_M) : Option (Int32 × g_M) :=
  (g_ld M 31 40 x1).bind fun v3 => (g_ld M 31 40 x2).bind fun v4 => (f_X4_add s0 0 x1 x2 x4 (v3 + v4) M).bind fun p5 => some (p5.1, p5.2)
set_option maxRecDepth 100000 in
theorem t_X4_addChain_35 {l : Launch} {X : g_X} {Y : g_Y} {p : Int32 × g_M} (C : g_C l (g_rm (2)) RX4 cX4_addChain 5 X Y) (E : g_E (some .int) X Y (some (.int p.1)) p.2) (x1 : Int32) (x2 : Int32) (x4 : Int32) (s0 : Int32) (M : g_M) (h : f_X4_addChain_35 x1 x2 x4 s0 M = some p) : g_G 5 X Y 35 [(0, g_r Y 24), (1, .int x1), (2, .int x2), (4, .int x4)] [.int s0, g_r Y 24] M := by
  unfold f_X4_addChain_35 at h
  refine g_iconst C (v := 0) dX4_addChain_35 (q := 36) rfl (by decide) ?_
  refine g_iload_n C 1 dX4_addChain_36 (q := 37) rfl rfl rfl ?_
  refine g_iload_n C 2 dX4_addChain_37 (q := 38) rfl rfl rfl ?_
  refine g_iload C 3 dX4_addChain_38 (q := 40) rfl rfl ?_
  refine g_aload_n C 0 dX4_addChain_40 (q := 41) rfl rfl rfl ?_
  refine g_get C (k := 24) (i := 8) (by decide) (gc_24 Y _ _) rfl kU_X4 (by decide) kF_X4_30 rfl dX4_addChain_41 (q := 44) rfl ?_
  refine g_iload_n C 1 dX4_addChain_44 (q := 45) rfl rfl rfl ?_
  obtain ⟨v3, hv3, h⟩ := g_bind h
  refine g_iald C (k := 31) (n := 40) (by decide) (gc_31 Y _ _) hv3 dX4_addChain_45 (q := 46) rfl ?_
  refine g_aload_n C 0 dX4_addChain_46 (q := 47) rfl rfl rfl ?_
  refine g_get C (k := 24) (i := 8) (by decide) (gc_24 Y _ _) rfl kU_X4 (by decide) kF_X4_30 rfl dX4_addChain_47 (q := 50) rfl ?_
  refine g_iload_n C 2 dX4_addChain_50 (q := 51) rfl rfl rfl ?_
  obtain ⟨v4, hv4, h⟩ := g_bind h
  refine g_iald C (k := 31) (n := 40) (by decide) (gc_31 Y _ _) hv4 dX4_addChain_51 (q := 52) rfl ?_
  refine g_iadd C dX4_addChain_52 (q := 53) rfl ?_
  obtain ⟨p5, hp5, h⟩ := g_bind h
  refine g_callV C (k := 24) (as := [.int s0, .int 0, .int x1, .int x2, .int x4, .int (v3 + v4)]) (st := []) (m_X4_add hp5) (g_hR (by decide)) (by decide) (by decide) (gc_24 Y _ _) rfl kM_X4_37 kI_X4_add kS_X4_add kN_X4 kC_X4_add kD_X4_add rfl (Nat.le_of_ble_eq_true rfl) dX4_addChain_53 (q := 56) rfl ?_
  show g_G 5 X Y 56 [(0, g_r Y 24), (1, .int x1), (2, .int x2), (4, .int x4)] [.int p5.1] p5.2
  obtain rfl := Option.some.inj h
  exact g_iret C E dX4_addChain_56
theorem r_X4_addChain_35 {p : Int32 × g_M} (x1 : Int32) (x2 : Int32) (x4 : Int32) (s0 : Int32) (M : g_M) (h : f_X4_addChain_35 x1 x2 x4 s0 M = some p) : g_fr [25, 26, 27, 28, 29, 30, 31] [(24, 0), (24, 1)] M p.2 := by
  unfold f_X4_addChain_35 at h
  have hf := g_fr.rfl (S := [25, 26, 27, 28, 29, 30, 31]) (T := [(24, 0), (24, 1)]) (M := M)
  obtain ⟨v3, -, h⟩ := g_bind h
  obtain ⟨v4, -, h⟩ := g_bind h
  obtain ⟨p5, hp5, h⟩ := g_bind h
  have hf := hf.trans ((r_X4_add hp5).mono (by decide) (by decide))
  obtain rfl := Option.some.inj h
  exact hf
def f_X4_addChain_9 (x1 : Int32) (x2 : Int32) (x3 : Int32) (s0 : Int32) (M : g_M) : Option (Int32 × g_M) :=
  (g_ld M 30 40 x1).bind fun v1 => (g_ld M 30 40 x2).bind fun v2 => (if x3 = 0 then (f_X4_addChain_35 x1 x2 ((s0 + v1) + v2) 2 M) else (f_X4_addChain_35 x1 x2 ((s0 + v1) + v2) 3 M))
set_option maxRecDepth 100000 in
theorem t_X4_addChain_9 {l : Launch} {X : g_X} {Y : g_Y} {p : Int32 × g_M} (C : g_C l (g_rm (2)) RX4 cX4_addChain 5 X Y) (E : g_E (some .int) X Y (some (.int p.1)) p.2) (x1 : Int32) (x2 : Int32) (x3 : Int32) (s0 : Int32) (M : g_M) (h : f_X4_addChain_9 x1 x2 x3 s0 M = some p) : g_G 5 X Y 9 [(0, g_r Y 24), (1, .int x1), (2, .int x2), (3, .int x3)] [.int s0] M := by
  unfold f_X4_addChain_9 at h
  refine g_aload_n C 0 dX4_addChain_9 (q := 10) rfl rfl rfl ?_
  refine g_get C (k := 24) (i := 7) (by decide) (gc_24 Y _ _) rfl kU_X4 (by decide) kF_X4_27 rfl dX4_addChain_10 (q := 13) rfl ?_
  refine g_iload_n C 1 dX4_addChain_13 (q := 14) rfl rfl rfl ?_
  obtain ⟨v1, hv1, h⟩ := g_bind h
  refine g_iald C (k := 30) (n := 40) (by decide) (gc_30 Y _ _) hv1 dX4_addChain_14 (q := 15) rfl ?_
  refine g_iadd C dX4_addChain_15 (q := 16) rfl ?_
  refine g_aload_n C 0 dX4_addChain_16 (q := 17) rfl rfl rfl ?_
  refine g_get C (k := 24) (i := 7) (by decide) (gc_24 Y _ _) rfl kU_X4 (by decide) kF_X4_27 rfl dX4_addChain_17 (q := 20) rfl ?_
  refine g_iload_n C 2 dX4_addChain_20 (q := 21) rfl rfl rfl ?_
  obtain ⟨v2, hv2, h⟩ := g_bind h
  refine g_iald C (k := 30) (n := 40) (by decide) (gc_30 Y _ _) hv2 dX4_addChain_21 (q := 22) rfl ?_
  refine g_iadd C dX4_addChain_22 (q := 23) rfl ?_
  refine g_istore C dX4_addChain_23 (q := 25) rfl (by decide) (lv' := [(4, .int ((s0 + v1) + v2)), (0, g_r Y 24), (1, .int x1), (2, .int x2), (3, .int x3)]) rfl ?_
  refine g_aload_n C 1 dX4_addChain_25 (q := 26) rfl rfl rfl ?_
  refine g_iload_n C 4 dX4_addChain_26 (q := 27) rfl rfl rfl ?_
  have hif := g_if h
  clear h
  refine g_if_eq C dX4_addChain_27 (q := 30) (tgt := 34) rfl (by decide) (fun c => ?_) (fun c => ?_)
  · have h := hif.1 c
    clear hif
    refine g_iconst C (v := 2) dX4_addChain_34 (q := 35) rfl (by decide) ?_
    refine g_sub [1, 2, 3, 0] (lv' := [(0, g_r Y 24), (1, .int x1), (2, .int x2), (4, .int ((s0 + v1) + v2))]) rfl ?_
    exact t_X4_addChain_35 C E x1 x2 ((s0 + v1) + v2) 2 M h
  · have h := hif.2 c
    clear hif
    refine g_iconst C (v := 3) dX4_addChain_30 (q := 31) rfl (by decide) ?_
    refine g_goto C dX4_addChain_31 (tgt := 35) (by decide) ?_
    refine g_sub [1, 2, 3, 0] (lv' := [(0, g_r Y 24), (1, .int x1), (2, .int x2), (4, .int ((s0 + v1) + v2))]) rfl ?_
    exact t_X4_addChain_35 C E x1 x2 ((s0 + v1) + v2) 3 M h
theorem r_X4_addChain_9 {p : Int32 × g_M} (x1 : Int32) (x2 : Int32) (x3 : Int32) (s0 : Int32) (M : g_M) (h : f_X4_addChain_9 x1 x2 x3 s0 M = some p) : g_fr [25, 26, 27, 28, 29, 30, 31] [(24, 0), (24, 1)] M p.2 := by
  unfold f_X4_addChain_9 at h
  have hf := g_fr.rfl (S := [25, 26, 27, 28, 29, 30, 31]) (T := [(24, 0), (24, 1)]) (M := M)
  obtain ⟨v1, -, h⟩ := g_bind h
  obtain ⟨v2, -, h⟩ := g_bind h
  rcases g_ifs h with h | h
  · exact hf.trans (r_X4_addChain_35 x1 x2 ((s0 + v1) + v2) 2 M h)
  · exact hf.trans (r_X4_addChain_35 x1 x2 ((s0 + v1) + v2) 3 M h)
def f_X4_addChain (x1 : Int32) (x2 : Int32) (x3 : Int32) (M : g_M) : Option (Int32 × g_M) :=
  (if x3 = 0 then (f_X4_addChain_9 x1 x2 x3 1 M) else (f_X4_addChain_9 x1 x2 x3 2 M))
set_option maxRecDepth 100000 in
theorem m_X4_addChain {l : Launch} {Y : g_Y} {x1 : Int32} {x2 : Int32} {x3 : Int32} {M : g_M} {p : Int32 × g_M} (h : f_X4_addChain x1 x2 x3 M = some p) : g_R l Y (2) yX4_addChain cX4_addChain 5 (some .int) [g_r Y 24, .int x1, .int x2, .int x3] M (some (.int p.1)) p.2 := by
  unfold f_X4_addChain at h
  refine g_R_of kP_X4 rfl (Nat.le_of_ble_eq_true rfl) (fun X C E => ?_)
  show g_G 5 X Y 0 [(0, g_r Y 24), (1, .int x1), (2, .int x2), (3, .int x3)] [] M
  refine g_iload_n C 3 dX4_addChain_0 (q := 1) rfl rfl rfl ?_
  have hif := g_if h
  clear h
  refine g_if_eq C dX4_addChain_1 (q := 4) (tgt := 8) rfl (by decide) (fun c => ?_) (fun c => ?_)
  · have h := hif.1 c
    clear hif
    refine g_iconst C (v := 1) dX4_addChain_8 (q := 9) rfl (by decide) ?_
    refine g_sub [0, 1, 2, 3] (lv' := [(0, g_r Y 24), (1, .int x1), (2, .int x2), (3, .int x3)]) rfl ?_
    exact t_X4_addChain_9 C E x1 x2 x3 1 M h
  · have h := hif.2 c
    clear hif
    refine g_iconst C (v := 2) dX4_addChain_4 (q := 5) rfl (by decide) ?_
    refine g_goto C dX4_addChain_5 (tgt := 9) (by decide) ?_
    refine g_sub [0, 1, 2, 3] (lv' := [(0, g_r Y 24), (1, .int x1), (2, .int x2), (3, .int x3)]) rfl ?_
    exact t_X4_addChain_9 C E x1 x2 x3 2 M h
theorem r_X4_addChain {x1 : Int32} {x2 : Int32} {x3 : Int32} {M : g_M} {p : Int32 × g_M} (h : f_X4_addChain x1 x2 x3 M = some p) : g_fr [25, 26, 27, 28, 29, 30, 31] [(24, 0), (24, 1)] M p.2 := by
  unfold f_X4_addChain at h
  have hf := g_fr.rfl (S := [25, 26, 27, 28, 29, 30, 31]) (T := [(24, 0), (24, 1)]) (M := M)
  rcases g_ifs h with h | h
  · exact hf.trans (r_X4_addChain_9 x1 x2 x3 1 M h)
  · exact hf.trans (r_X4_addChain_9 x1 x2 x3 2 M h)
def f_X4_addBox (x1 : Int32) (x2 : Int32) (M : g_M) : Option (Int32 × g_M) :=
  (g_ld M 30 40 x1).bind fun v1 => (g_ld M 31 40 x1).bind fun v2 => (f_X4_add 4 x2 x1 0 (4 + v1) v2 M).bind fun p3 => some (p3.1, p3.2)
set_option maxRecDepth 100000 in
theorem m_X4_addBox {l : Launch} {Y : g_Y} {x1 : Int32} {x2 : Int32} {M : g_M} {p : Int32 × g_M} (h : f_X4_addBox x1 x2 M = some p) : g_R l Y (2) yX4_addBox cX4_addBox 3 (some .int) [g_r Y 24, .int x1, .int x2] M (some (.int p.1)) p.2 := by
  unfold f_X4_addBox at h
  refine g_R_of kP_X4 rfl (Nat.le_of_ble_eq_true rfl) (fun X C E => ?_)
  show g_G 3 X Y 0 [(0, g_r Y 24), (1, .int x1), (2, .int x2)] [] M
  refine g_aload_n C 0 dX4_addBox_0 (q := 1) rfl rfl rfl ?_
  refine g_iconst C (v := 4) dX4_addBox_1 (q := 2) rfl (by decide) ?_
  refine g_iload_n C 2 dX4_addBox_2 (q := 3) rfl rfl rfl ?_
  refine g_iload_n C 1 dX4_addBox_3 (q := 4) rfl rfl rfl ?_
  refine g_iconst C (v := 0) dX4_addBox_4 (q := 5) rfl (by decide) ?_
  refine g_iconst C (v := 4) dX4_addBox_5 (q := 6) rfl (by decide) ?_
  refine g_aload_n C 0 dX4_addBox_6 (q := 7) rfl rfl rfl ?_
  refine g_get C (k := 24) (i := 7) (by decide) (gc_24 Y _ _) rfl kU_X4 (by decide) kF_X4_27 rfl dX4_addBox_7 (q := 10) rfl ?_
  refine g_iload_n C 1 dX4_addBox_10 (q := 11) rfl rfl rfl ?_
  obtain ⟨v1, hv1, h⟩ := g_bind h
  refine g_iald C (k := 30) (n := 40) (by decide) (gc_30 Y _ _) hv1 dX4_addBox_11 (q := 12) rfl ?_
  refine g_iadd C dX4_addBox_12 (q := 13) rfl ?_
  refine g_aload_n C 0 dX4_addBox_13 (q := 14) rfl rfl rfl ?_
  refine g_get C (k := 24) (i := 8) (by decide) (gc_24 Y _ _) rfl kU_X4 (by decide) kF_X4_30 rfl dX4_addBox_14 (q := 17) rfl ?_
  refine g_iload_n C 1 dX4_addBox_17 (q := 18) rfl rfl rfl ?_
  obtain ⟨v2, hv2, h⟩ := g_bind h
  refine g_iald C (k := 31) (n := 40) (by decide) (gc_31 Y _ _) hv2 dX4_addBox_18 (q := 19) rfl ?_
  obtain ⟨p3, hp3, h⟩ := g_bind h
  refine g_callV C (k := 24) (as := [.int 4, .int x2, .int x1, .int 0, .int (4 + v1), .int v2]) (st := []) (m_X4_add hp3) (g_hR (by decide)) (by decide) (by decide) (gc_24 Y _ _) rfl kM_X4_37 kI_X4_add kS_X4_add kN_X4 kC_X4_add kD_X4_add rfl (Nat.le_of_ble_eq_true rfl) dX4_addBox_19 (q := 22) rfl ?_
  show g_G 3 X Y 22 [(0, g_r Y 24), (1, .int x1), (2, .int x2)] [.int p3.1] p3.2
  obtain rfl := Option.some.inj h
  exact g_iret C E dX4_addBox_22
theorem r_X4_addBox {x1 : Int32} {x2 : Int32} {M : g_M} {p : Int32 × g_M} (h : f_X4_addBox x1 x2 M = some p) : g_fr [25, 26, 27, 28, 29, 30, 31] [(24, 0), (24, 1)] M p.2 := by
  unfold f_X4_addBox at h
  have hf := g_fr.rfl (S := [25, 26, 27, 28, 29, 30, 31]) (T := [(24, 0), (24, 1)]) (M := M)
  obtain ⟨v1, -, h⟩ := g_bind h
  obtain ⟨v2, -, h⟩ := g_bind h
  obtain ⟨p3, hp3, h⟩ := g_bind h
  have hf := hf.trans ((r_X4_add hp3).mono (by decide) (by decide))
  obtain rfl := Option.some.inj h
  exact hf
def f_X4_isOf_26 (x2 : Int32) (x3 : Int32) (M : g_M) : Option (Int32) :=
  (if x3 = 3 then ((if x2 = 2 then (some 1) else (some 0))) else (some 0))
set_option maxRecDepth 100000 in
theorem t_X4_isOf_26 {l : Launch} {X : g_X} {Y : g_Y} {p : Int32} {M : g_M} (C : g_C l (g_rm (0)) RX4 cX4_isOf 4 X Y) (E : g_E (some .boolean) X Y (some (.int p)) M) (x2 : Int32) (x3 : Int32) (h : f_X4_isOf_26 x2 x3 M = some p) : g_G 4 X Y 26 [(2, .int x2), (3, .int x3)] [] M := by
  unfold f_X4_isOf_26 at h
  refine g_iload_n C 1 dX4_isOf_26 (q := 27) rfl rfl rfl ?_
  refine g_iconst C (v := 3) dX4_isOf_27 (q := 28) rfl (by decide) ?_
  have hif := g_if h
  clear h
  refine g_icmp_ne C dX4_isOf_28 (q := 31) (tgt := 40) rfl (by decide) (fun c => ?_) (fun c => ?_)
  · have h := hif.2 c
    clear hif
    refine g_iconst C (v := 0) dX4_isOf_40 (q := 41) rfl (by decide) ?_
    obtain rfl := Option.some.inj h
    exact g_zret C (g_bz_lit (by decide)) E dX4_isOf_41
  · have h := hif.1 c
    clear hif
    refine g_iload_n C 0 dX4_isOf_31 (q := 32) rfl rfl rfl ?_
    refine g_iconst C (v := 2) dX4_isOf_32 (q := 33) rfl (by decide) ?_
    have hif := g_if h
    clear h
    refine g_icmp_ne C dX4_isOf_33 (q := 36) (tgt := 40) rfl (by decide) (fun c => ?_) (fun c => ?_)
    · have h := hif.2 c
      clear hif
      refine g_iconst C (v := 0) dX4_isOf_40 (q := 41) rfl (by decide) ?_
      obtain rfl := Option.some.inj h
      exact g_zret C (g_bz_lit (by decide)) E dX4_isOf_41
    · have h := hif.1 c
      clear hif
      refine g_iconst C (v := 1) dX4_isOf_36 (q := 37) rfl (by decide) ?_
      refine g_goto C dX4_isOf_37 (tgt := 41) (by decide) ?_
      obtain rfl := Option.some.inj h
      exact g_zret C (g_bz_lit (by decide)) E dX4_isOf_41
def f_X4_isOf (x1 : Int32) (x2 : Int32) (M : g_M) : Option (Int32) :=
  (g_ld M 25 40 x1).bind fun v1 => (if x2 = 0 then (some 1) else ((if v1 = x2 then (some 1) else ((if v1 = 5 then ((if x2 = 1 then (some 1) else (f_X4_isOf_26 x2 v1 M))) else (f_X4_isOf_26 x2 v1 M))))))
set_option maxRecDepth 100000 in
theorem m_X4_isOf {l : Launch} {Y : g_Y} {x1 : Int32} {x2 : Int32} {M : g_M} {p : Int32} (h : f_X4_isOf x1 x2 M = some p) : g_R l Y (0) yX4_isOf cX4_isOf 4 (some .boolean) [g_r Y 24, .int x1, .int x2] M (some (.int p)) M := by
  unfold f_X4_isOf at h
  refine g_R_of kP_X4 rfl (Nat.le_of_ble_eq_true rfl) (fun X C E => ?_)
  show g_G 4 X Y 0 [(0, g_r Y 24), (1, .int x1), (2, .int x2)] [] M
  refine g_aload_n C 0 dX4_isOf_0 (q := 1) rfl rfl rfl ?_
  refine g_get C (k := 24) (i := 2) (by decide) (gc_24 Y _ _) rfl kU_X4 (by decide) kF_X4_9 rfl dX4_isOf_1 (q := 4) rfl ?_
  refine g_iload_n C 1 dX4_isOf_4 (q := 5) rfl rfl rfl ?_
  obtain ⟨v1, hv1, h⟩ := g_bind h
  refine g_iald C (k := 25) (n := 40) (by decide) (gc_25 Y _ _) hv1 dX4_isOf_5 (q := 6) rfl ?_
  refine g_istore_n C dX4_isOf_6 (q := 7) rfl rfl (by decide) (lv' := [(3, .int v1), (0, g_r Y 24), (1, .int x1), (2, .int x2)]) rfl ?_
  refine g_iload_n C 3 dX4_isOf_7 (q := 8) rfl rfl rfl ?_
  have hif := g_if h
  clear h
  refine g_if_eq C dX4_isOf_8 (q := 11) (tgt := 36) rfl (by decide) (fun c => ?_) (fun c => ?_)
  · have h := hif.1 c
    clear hif
    refine g_iconst C (v := 1) dX4_isOf_36 (q := 37) rfl (by decide) ?_
    refine g_goto C dX4_isOf_37 (tgt := 41) (by decide) ?_
    obtain rfl := Option.some.inj h
    exact g_zret C (g_bz_lit (by decide)) E dX4_isOf_41
  · have h := hif.2 c
    clear hif
    refine g_iload_n C 0 dX4_isOf_11 (q := 12) rfl rfl rfl ?_
    refine g_iload_n C 3 dX4_isOf_12 (q := 13) rfl rfl rfl ?_
    have hif := g_if h
    clear h
    refine g_icmp_eq C dX4_isOf_13 (q := 16) (tgt := 36) rfl (by decide) (fun c => ?_) (fun c => ?_)
    · have h := hif.1 c
      clear hif
      refine g_iconst C (v := 1) dX4_isOf_36 (q := 37) rfl (by decide) ?_
      refine g_goto C dX4_isOf_37 (tgt := 41) (by decide) ?_
      obtain rfl := Option.some.inj h
      exact g_zret C (g_bz_lit (by decide)) E dX4_isOf_41
    · have h := hif.2 c
      clear hif
      refine g_iload_n C 0 dX4_isOf_16 (q := 17) rfl rfl rfl ?_
      refine g_iconst C (v := 5) dX4_isOf_17 (q := 18) rfl (by decide) ?_
      have hif := g_if h
      clear h
      refine g_icmp_ne C dX4_isOf_18 (q := 21) (tgt := 26) rfl (by decide) (fun c => ?_) (fun c => ?_)
      · have h := hif.2 c
        clear hif
        refine g_sub [3, 0] (lv' := [(2, .int x2), (3, .int v1)]) rfl ?_
        exact t_X4_isOf_26 C E x2 v1 h
      · have h := hif.1 c
        clear hif
        refine g_iload_n C 3 dX4_isOf_21 (q := 22) rfl rfl rfl ?_
        refine g_iconst C (v := 1) dX4_isOf_22 (q := 23) rfl (by decide) ?_
        have hif := g_if h
        clear h
        refine g_icmp_eq C dX4_isOf_23 (q := 26) (tgt := 36) rfl (by decide) (fun c => ?_) (fun c => ?_)
        · have h := hif.1 c
          clear hif
          refine g_iconst C (v := 1) dX4_isOf_36 (q := 37) rfl (by decide) ?_
          refine g_goto C dX4_isOf_37 (tgt := 41) (by decide) ?_
          obtain rfl := Option.some.inj h
          exact g_zret C (g_bz_lit (by decide)) E dX4_isOf_41
        · have h := hif.2 c
          clear hif
          refine g_sub [3, 0] (lv' := [(2, .int x2), (3, .int v1)]) rfl ?_
          exact t_X4_isOf_26 C E x2 v1 h
def f_X0_setKey_34 (x1 : Int32) (x4 : Int32) (s0 : Int32) (s1 : Int32) (M : g_M) : Option (Int32 × g_M) :=
  (g_st M 5 10 s1 s0).bind fun M2 => (some (g_u M2 3 3 ((M2.1 3 3) + 1))).bind fun M3 => (g_ld M3 5 10 x1).bind fun v4 => (if v4 = x4 then (some (0, M3)) else (some (1, M3)))
set_option maxRecDepth 100000 in
theorem t_X0_setKey_34 {l : Launch} {X : g_X} {Y : g_Y} {p : Int32 × g_M} (C : g_C l (g_rm (0)) RX0 cX0_setKey 5 X Y) (E : g_E (some .boolean) X Y (some (.int p.1)) p.2) (x1 : Int32) (x4 : Int32) (s0 : Int32) (s1 : Int32) (M : g_M) (h : f_X0_setKey_34 x1 x4 s0 s1 M = some p) : g_G 5 X Y 34 [(0, g_r Y 3), (1, .int x1), (4, .int x4)] [.int s0, .int s1, g_r Y 5] M := by
  unfold f_X0_setKey_34 at h
  obtain ⟨M2, hM2, h⟩ := g_bind h
  refine g_iast C (k := 5) (n := 10) (by decide) (fun a => gc_5 Y a _) hM2 dX0_setKey_34 (q := 35) rfl ?_
  refine g_aload_n C 0 dX0_setKey_35 (q := 36) rfl rfl rfl ?_
  refine g_dup C dX0_setKey_36 (q := 37) rfl rfl ?_
  refine g_get C (k := 3) (i := 3) (by decide) (gc_3 Y _ _) rfl kU_X0 (by decide) kF_X0_31 rfl dX0_setKey_37 (q := 40) rfl ?_
  refine g_iconst C (v := 1) dX0_setKey_40 (q := 41) rfl (by decide) ?_
  refine g_iadd C dX0_setKey_41 (q := 42) rfl ?_
  obtain ⟨M3, hM3, h⟩ := g_bind h
  refine g_put C (k := 3) (i := 3) (ty := .int) (by decide) (gc_3 Y _ _) (gp_3_3 Y _ _ _) rfl kU_X0 tyX0_ok nmX0 (by decide) kF_X0_31 rfl rfl rfl rfl (Nat.le_of_ble_eq_true rfl) dX0_setKey_42 (q := 45) rfl ?_
  refine g_mem hM3 ?_
  refine g_aload_n C 0 dX0_setKey_45 (q := 46) rfl rfl rfl ?_
  refine g_get C (k := 3) (i := 5) (by decide) (gc_3 Y _ _) rfl kU_X0 (by decide) kF_X0_15 rfl dX0_setKey_46 (q := 49) rfl ?_
  refine g_iload_n C 1 dX0_setKey_49 (q := 50) rfl rfl rfl ?_
  obtain ⟨v4, hv4, h⟩ := g_bind h
  refine g_iald C (k := 5) (n := 10) (by decide) (gc_5 Y _ _) hv4 dX0_setKey_50 (q := 51) rfl ?_
  refine g_iload C 2 dX0_setKey_51 (q := 53) rfl rfl ?_
  have hif := g_if h
  clear h
  refine g_icmp_eq C dX0_setKey_53 (q := 56) (tgt := 60) rfl (by decide) (fun c => ?_) (fun c => ?_)
  · have h := hif.1 c
    clear hif
    refine g_iconst C (v := 0) dX0_setKey_60 (q := 61) rfl (by decide) ?_
    obtain rfl := Option.some.inj h
    exact g_zret C (g_bz_lit (by decide)) E dX0_setKey_61
  · have h := hif.2 c
    clear hif
    refine g_iconst C (v := 1) dX0_setKey_56 (q := 57) rfl (by decide) ?_
    refine g_goto C dX0_setKey_57 (tgt := 61) (by decide) ?_
    obtain rfl := Option.some.inj h
    exact g_zret C (g_bz_lit (by decide)) E dX0_setKey_61
theorem r_X0_setKey_34 {p : Int32 × g_M} (x1 : Int32) (x4 : Int32) (s0 : Int32) (s1 : Int32) (M : g_M) (h : f_X0_setKey_34 x1 x4 s0 s1 M = some p) : g_fr [5] [(3, 3)] M p.2 := by
  unfold f_X0_setKey_34 at h
  have hf := g_fr.rfl (S := [5]) (T := [(3, 3)]) (M := M)
  obtain ⟨M2, hM2, h⟩ := g_bind h
  have hf := hf.st hM2 (by decide)
  obtain ⟨M3, hM3, h⟩ := g_bind h
  have hf := hf.pu hM3 (by decide)
  obtain ⟨v4, -, h⟩ := g_bind h
  rcases g_ifs h with h | h
  · obtain rfl := Option.some.inj h
    exact hf
  · obtain rfl := Option.some.inj h
    exact hf
def f_X0_setKey (x1 : Int32) (x2 : Int32) (x3 : Int32) (M : g_M) : Option (Int32 × g_M) :=
  (g_ld M 5 10 x1).bind fun v1 => (if x3 = 0 then (f_X0_setKey_34 x1 v1 (v1 &&& (((1 : Int32) <<< (x2 &&& 31)) ^^^ (-1))) x1 M) else (f_X0_setKey_34 x1 v1 (v1 ||| ((1 : Int32) <<< (x2 &&& 31))) x1 M))
set_option maxRecDepth 100000 in
theorem m_X0_setKey {l : Launch} {Y : g_Y} {x1 : Int32} {x2 : Int32} {x3 : Int32} {M : g_M} {p : Int32 × g_M} (h : f_X0_setKey x1 x2 x3 M = some p) : g_R l Y (0) yX0_setKey cX0_setKey 5 (some .boolean) [g_r Y 3, .int x1, .int x2, .int x3] M (some (.int p.1)) p.2 := by
  unfold f_X0_setKey at h
  refine g_R_of kP_X0 rfl (Nat.le_of_ble_eq_true rfl) (fun X C E => ?_)
  show g_G 5 X Y 0 [(0, g_r Y 3), (1, .int x1), (2, .int x2), (3, .int x3)] [] M
  refine g_aload_n C 0 dX0_setKey_0 (q := 1) rfl rfl rfl ?_
  refine g_get C (k := 3) (i := 5) (by decide) (gc_3 Y _ _) rfl kU_X0 (by decide) kF_X0_15 rfl dX0_setKey_1 (q := 4) rfl ?_
  refine g_iload_n C 1 dX0_setKey_4 (q := 5) rfl rfl rfl ?_
  obtain ⟨v1, hv1, h⟩ := g_bind h
  refine g_iald C (k := 5) (n := 10) (by decide) (gc_5 Y _ _) hv1 dX0_setKey_5 (q := 6) rfl ?_
  refine g_istore C dX0_setKey_6 (q := 8) rfl (by decide) (lv' := [(4, .int v1), (0, g_r Y 3), (1, .int x1), (2, .int x2), (3, .int x3)]) rfl ?_
  refine g_aload_n C 1 dX0_setKey_8 (q := 9) rfl rfl rfl ?_
  refine g_get C (k := 3) (i := 5) (by decide) (gc_3 Y _ _) rfl kU_X0 (by decide) kF_X0_15 rfl dX0_setKey_9 (q := 12) rfl ?_
  refine g_iload_n C 2 dX0_setKey_12 (q := 13) rfl rfl rfl ?_
  refine g_iload_n C 4 dX0_setKey_13 (q := 14) rfl rfl rfl ?_
  have hif := g_if h
  clear h
  refine g_if_eq C dX0_setKey_14 (q := 17) (tgt := 26) rfl (by decide) (fun c => ?_) (fun c => ?_)
  · have h := hif.1 c
    clear hif
    refine g_iload C 0 dX0_setKey_26 (q := 28) rfl rfl ?_
    refine g_iconst C (v := 1) dX0_setKey_28 (q := 29) rfl (by decide) ?_
    refine g_iload_n C 3 dX0_setKey_29 (q := 30) rfl rfl rfl ?_
    refine g_ishl C dX0_setKey_30 (q := 31) rfl ?_
    refine g_iconst C (v := (-1)) dX0_setKey_31 (q := 32) rfl (by decide) ?_
    refine g_ixor C dX0_setKey_32 (q := 33) rfl ?_
    refine g_iand C dX0_setKey_33 (q := 34) rfl ?_
    refine g_sub [1, 2, 0] (lv' := [(0, g_r Y 3), (1, .int x1), (4, .int v1)]) rfl ?_
    exact t_X0_setKey_34 C E x1 v1 (v1 &&& (((1 : Int32) <<< (x2 &&& 31)) ^^^ (-1))) x1 M h
  · have h := hif.2 c
    clear hif
    refine g_iload C 0 dX0_setKey_17 (q := 19) rfl rfl ?_
    refine g_iconst C (v := 1) dX0_setKey_19 (q := 20) rfl (by decide) ?_
    refine g_iload_n C 3 dX0_setKey_20 (q := 21) rfl rfl rfl ?_
    refine g_ishl C dX0_setKey_21 (q := 22) rfl ?_
    refine g_ior C dX0_setKey_22 (q := 23) rfl ?_
    refine g_goto C dX0_setKey_23 (tgt := 34) (by decide) ?_
    refine g_sub [1, 2, 0] (lv' := [(0, g_r Y 3), (1, .int x1), (4, .int v1)]) rfl ?_
    exact t_X0_setKey_34 C E x1 v1 (v1 ||| ((1 : Int32) <<< (x2 &&& 31))) x1 M h
theorem r_X0_setKey {x1 : Int32} {x2 : Int32} {x3 : Int32} {M : g_M} {p : Int32 × g_M} (h : f_X0_setKey x1 x2 x3 M = some p) : g_fr [5] [(3, 3)] M p.2 := by
  unfold f_X0_setKey at h
  have hf := g_fr.rfl (S := [5]) (T := [(3, 3)]) (M := M)
  obtain ⟨v1, -, h⟩ := g_bind h
  rcases g_ifs h with h | h
  · exact hf.trans (r_X0_setKey_34 x1 v1 (v1 &&& (((1 : Int32) <<< (x2 &&& 31)) ^^^ (-1))) x1 M h)
  · exact hf.trans (r_X0_setKey_34 x1 v1 (v1 ||| ((1 : Int32) <<< (x2 &&& 31))) x1 M h)
def f_X0_hasKey (x1 : Int32) (x2 : Int32) (M : g_M) : Option (Int32) :=
  (g_ld M 5 10 x1).bind fun v1 => (if ((v1 >>> (x2 &&& 31)) &&& 1) = 0 then (some 0) else (some 1))
set_option maxRecDepth 100000 in
theorem m_X0_hasKey {l : Launch} {Y : g_Y} {x1 : Int32} {x2 : Int32} {M : g_M} {p : Int32} (h : f_X0_hasKey x1 x2 M = some p) : g_R l Y (0) yX0_hasKey cX0_hasKey 3 (some .boolean) [g_r Y 3, .int x1, .int x2] M (some (.int p)) M := by
  unfold f_X0_hasKey at h
  refine g_R_of kP_X0 rfl (Nat.le_of_ble_eq_true rfl) (fun X C E => ?_)
  show g_G 3 X Y 0 [(0, g_r Y 3), (1, .int x1), (2, .int x2)] [] M
  refine g_aload_n C 0 dX0_hasKey_0 (q := 1) rfl rfl rfl ?_
  refine g_get C (k := 3) (i := 5) (by decide) (gc_3 Y _ _) rfl kU_X0 (by decide) kF_X0_15 rfl dX0_hasKey_1 (q := 4) rfl ?_
  refine g_iload_n C 1 dX0_hasKey_4 (q := 5) rfl rfl rfl ?_
  obtain ⟨v1, hv1, h⟩ := g_bind h
  refine g_iald C (k := 5) (n := 10) (by decide) (gc_5 Y _ _) hv1 dX0_hasKey_5 (q := 6) rfl ?_
  refine g_iload_n C 2 dX0_hasKey_6 (q := 7) rfl rfl rfl ?_
  refine g_ishr C dX0_hasKey_7 (q := 8) rfl ?_
  refine g_iconst C (v := 1) dX0_hasKey_8 (q := 9) rfl (by decide) ?_
  refine g_iand C dX0_hasKey_9 (q := 10) rfl ?_
  have hif := g_if h
  clear h
  refine g_if_eq C dX0_hasKey_10 (q := 13) (tgt := 17) rfl (by decide) (fun c => ?_) (fun c => ?_)
  · have h := hif.1 c
    clear hif
    refine g_iconst C (v := 0) dX0_hasKey_17 (q := 18) rfl (by decide) ?_
    obtain rfl := Option.some.inj h
    exact g_zret C (g_bz_lit (by decide)) E dX0_hasKey_18
  · have h := hif.2 c
    clear hif
    refine g_iconst C (v := 1) dX0_hasKey_13 (q := 14) rfl (by decide) ?_
    refine g_goto C dX0_hasKey_14 (tgt := 18) (by decide) ?_
    obtain rfl := Option.some.inj h
    exact g_zret C (g_bz_lit (by decide)) E dX0_hasKey_18
def f_X0_addLend (x1 : Int32) (x2 : Int32) (M : g_M) : Option (Int32 × g_M) :=
  (g_ld M 6 10 x1).bind fun v1 => (g_st M 6 10 x1 (v1 + 1)).bind fun M2 => (g_ld M2 7 10 x1).bind fun v3 => (g_st M2 7 10 x1 (v3 ||| ((1 : Int32) <<< (x2 &&& 31)))).bind fun M4 => (some (g_u M4 3 2 ((M4.1 3 2) + 1))).bind fun M5 => some (M5.1 3 2, M5)
set_option maxRecDepth 100000 in
theorem m_X0_addLend {l : Launch} {Y : g_Y} {x1 : Int32} {x2 : Int32} {M : g_M} {p : Int32 × g_M} (h : f_X0_addLend x1 x2 M = some p) : g_R l Y (0) yX0_addLend cX0_addLend 3 (some .int) [g_r Y 3, .int x1, .int x2] M (some (.int p.1)) p.2 := by
  unfold f_X0_addLend at h
  refine g_R_of kP_X0 rfl (Nat.le_of_ble_eq_true rfl) (fun X C E => ?_)
  show g_G 3 X Y 0 [(0, g_r Y 3), (1, .int x1), (2, .int x2)] [] M
  refine g_aload_n C 0 dX0_addLend_0 (q := 1) rfl rfl rfl ?_
  refine g_get C (k := 3) (i := 6) (by decide) (gc_3 Y _ _) rfl kU_X0 (by decide) kF_X0_18 rfl dX0_addLend_1 (q := 4) rfl ?_
  refine g_iload_n C 1 dX0_addLend_4 (q := 5) rfl rfl rfl ?_
  refine g_dup2 C dX0_addLend_5 (q := 6) rfl rfl rfl ?_
  obtain ⟨v1, hv1, h⟩ := g_bind h
  refine g_iald C (k := 6) (n := 10) (by decide) (gc_6 Y _ _) hv1 dX0_addLend_6 (q := 7) rfl ?_
  refine g_iconst C (v := 1) dX0_addLend_7 (q := 8) rfl (by decide) ?_
  refine g_iadd C dX0_addLend_8 (q := 9) rfl ?_
  obtain ⟨M2, hM2, h⟩ := g_bind h
  refine g_iast C (k := 6) (n := 10) (by decide) (fun a => gc_6 Y a _) hM2 dX0_addLend_9 (q := 10) rfl ?_
  refine g_aload_n C 0 dX0_addLend_10 (q := 11) rfl rfl rfl ?_
  refine g_get C (k := 3) (i := 7) (by decide) (gc_3 Y _ _) rfl kU_X0 (by decide) kF_X0_21 rfl dX0_addLend_11 (q := 14) rfl ?_
  refine g_iload_n C 1 dX0_addLend_14 (q := 15) rfl rfl rfl ?_
  refine g_dup2 C dX0_addLend_15 (q := 16) rfl rfl rfl ?_
  obtain ⟨v3, hv3, h⟩ := g_bind h
  refine g_iald C (k := 7) (n := 10) (by decide) (gc_7 Y _ _) hv3 dX0_addLend_16 (q := 17) rfl ?_
  refine g_iconst C (v := 1) dX0_addLend_17 (q := 18) rfl (by decide) ?_
  refine g_iload_n C 2 dX0_addLend_18 (q := 19) rfl rfl rfl ?_
  refine g_ishl C dX0_addLend_19 (q := 20) rfl ?_
  refine g_ior C dX0_addLend_20 (q := 21) rfl ?_
  obtain ⟨M4, hM4, h⟩ := g_bind h
  refine g_iast C (k := 7) (n := 10) (by decide) (fun a => gc_7 Y a _) hM4 dX0_addLend_21 (q := 22) rfl ?_
  refine g_aload_n C 0 dX0_addLend_22 (q := 23) rfl rfl rfl ?_
  refine g_dup C dX0_addLend_23 (q := 24) rfl rfl ?_
  refine g_get C (k := 3) (i := 2) (by decide) (gc_3 Y _ _) rfl kU_X0 (by decide) kF_X0_44 rfl dX0_addLend_24 (q := 27) rfl ?_
  refine g_iconst C (v := 1) dX0_addLend_27 (q := 28) rfl (by decide) ?_
  refine g_iadd C dX0_addLend_28 (q := 29) rfl ?_
  obtain ⟨M5, hM5, h⟩ := g_bind h
  refine g_put C (k := 3) (i := 2) (ty := .int) (by decide) (gc_3 Y _ _) (gp_3_2 Y _ _ _) rfl kU_X0 tyX0_ok nmX0 (by decide) kF_X0_44 rfl rfl rfl rfl (Nat.le_of_ble_eq_true rfl) dX0_addLend_29 (q := 32) rfl ?_
  refine g_mem hM5 ?_
  refine g_aload_n C 0 dX0_addLend_32 (q := 33) rfl rfl rfl ?_
  refine g_get C (k := 3) (i := 2) (by decide) (gc_3 Y _ _) rfl kU_X0 (by decide) kF_X0_44 rfl dX0_addLend_33 (q := 36) rfl ?_
  obtain rfl := Option.some.inj h
  exact g_iret C E dX0_addLend_36
theorem r_X0_addLend {x1 : Int32} {x2 : Int32} {M : g_M} {p : Int32 × g_M} (h : f_X0_addLend x1 x2 M = some p) : g_fr [6, 7] [(3, 2)] M p.2 := by
  unfold f_X0_addLend at h
  have hf := g_fr.rfl (S := [6, 7]) (T := [(3, 2)]) (M := M)
  obtain ⟨v1, -, h⟩ := g_bind h
  obtain ⟨M2, hM2, h⟩ := g_bind h
  have hf := hf.st hM2 (by decide)
  obtain ⟨v3, -, h⟩ := g_bind h
  obtain ⟨M4, hM4, h⟩ := g_bind h
  have hf := hf.st hM4 (by decide)
  obtain ⟨M5, hM5, h⟩ := g_bind h
  have hf := hf.pu hM5 (by decide)
  obtain rfl := Option.some.inj h
  exact hf
def F_X4_roundOf_5 (M : g_M) (k30 : Int32 → Option (Int32)) (k49 : Option (Int32)) (k60 : Option (Int32)) (k : Int32 → Int32 → Int32 → Option (Int32)) (x1 : Int32) (x3 : Int32) (x4 : Int32) : Option (Int32) :=
  (if 40 < x4 then (k60) else ((f_X4_openWith x3 M).bind fun p1 => (if (lg_cmp ((p1 >>> (Int32.toInt64 x1 &&& 63)) &&& 1) 0) = 0 then ((f_X4_keysInBoxes p1 M).bind fun p2 => (if (x3 ||| p2) = x3 then (k49) else (k x1 (x3 ||| p2) (x4 + 1)))) else (k30 x4))))
set_option maxRecDepth 100000 in
theorem t_X4_roundOf_5 {l : Launch} {X : g_X} {Y : g_Y} {p : Int32} {M : g_M} {k30 : Int32 → Option (Int32)} {k49 : Option (Int32)} {k60 : Option (Int32)} (C : g_C l (g_rm (2)) RX4 cX4_roundOf 8 X Y) (E : g_E (some .int) X Y (some (.int p)) M) (hk30 : ∀ (x4 : Int32), k30 x4 = some p → g_G 8 X Y 30 [(4, .int x4)] [] M) (hk49 : k49 = some p → g_G 8 X Y 49 [] [] M) (hk60 : k60 = some p → g_G 8 X Y 60 [] [] M) (n : Nat) : ∀ (x1 : Int32) (x3 : Int32) (x4 : Int32), g_lq3 (F_X4_roundOf_5 M k30 k49 k60) n x1 x3 x4 = some p → g_G 8 X Y 5 [(0, g_r Y 24), (1, .int x1), (3, .int x3), (4, .int x4)] [] M := by
  induction n with
  | zero => intro x1 x3 x4 h; exact (g_nn h).elim
  | succ n ih =>
    intro x1 x3 x4 h
    have h : F_X4_roundOf_5 M k30 k49 k60 (g_lq3 (F_X4_roundOf_5 M k30 k49 k60) n) x1 x3 x4 = some p := h
    generalize g_lq3 (F_X4_roundOf_5 M k30 k49 k60) n = k at h ih
    unfold F_X4_roundOf_5 at h
    refine g_iload C 3 dX4_roundOf_5 (q := 7) rfl rfl ?_
    refine g_bipush C (v := 40) dX4_roundOf_7 (q := 9) rfl (by decide) ?_
    have hif := g_if h
    clear h
    refine g_icmp_gt C dX4_roundOf_9 (q := 12) (tgt := 60) rfl (by decide) (fun c => ?_) (fun c => ?_)
    · have h := hif.1 c
      clear hif
      refine g_sub [] (lv' := []) rfl ?_
      exact hk60 h
    · have h := hif.2 c
      clear hif
      refine g_aload_n C 0 dX4_roundOf_12 (q := 13) rfl rfl rfl ?_
      refine g_iload_n C 2 dX4_roundOf_13 (q := 14) rfl rfl rfl ?_
      obtain ⟨p1, hp1, h⟩ := g_bind h
      refine g_callV C (k := 24) (as := [.int x3]) (st := []) (m_X4_openWith hp1) (g_hR (by decide)) (by decide) (by decide) (gc_24 Y _ _) rfl kM_X4_52 kI_X4_openWith kS_X4_openWith kN_X4 kC_X4_openWith kD_X4_openWith rfl (Nat.le_of_ble_eq_true rfl) dX4_roundOf_14 (q := 17) rfl ?_
      show g_G 8 X Y 17 [(0, g_r Y 24), (1, .int x1), (3, .int x3), (4, .int x4)] [.long p1] M
      refine g_lstore C dX4_roundOf_17 (q := 19) rfl (by decide) (lv' := [(5, .long p1), (0, g_r Y 24), (1, .int x1), (3, .int x3), (4, .int x4)]) rfl ?_
      refine g_lload C 0 dX4_roundOf_19 (q := 21) rfl rfl ?_
      refine g_iload_n C 2 dX4_roundOf_21 (q := 22) rfl rfl rfl ?_
      refine g_lshr C dX4_roundOf_22 (q := 23) rfl ?_
      refine g_lconst C (v := 1) dX4_roundOf_23 (q := 24) rfl (by decide) ?_
      refine g_land C dX4_roundOf_24 (q := 25) rfl ?_
      refine g_lconst C (v := 0) dX4_roundOf_25 (q := 26) rfl (by decide) ?_
      refine g_lcmp C dX4_roundOf_26 (q := 27) rfl ?_
      have hif := g_if h
      clear h
      refine g_if_eq C dX4_roundOf_27 (q := 30) (tgt := 33) rfl (by decide) (fun c => ?_) (fun c => ?_)
      · have h := hif.1 c
        clear hif
        refine g_iload_n C 3 dX4_roundOf_33 (q := 34) rfl rfl rfl ?_
        refine g_aload_n C 1 dX4_roundOf_34 (q := 35) rfl rfl rfl ?_
        refine g_lload C 0 dX4_roundOf_35 (q := 37) rfl rfl ?_
        obtain ⟨p2, hp2, h⟩ := g_bind h
        refine g_callV C (k := 24) (as := [.long p1]) (st := [.int x3]) (m_X4_keysInBoxes hp2) (g_hR (by decide)) (by decide) (by decide) (gc_24 Y _ _) rfl kM_X4_56 kI_X4_keysInBoxes kS_X4_keysInBoxes kN_X4 kC_X4_keysInBoxes kD_X4_keysInBoxes rfl (Nat.le_of_ble_eq_true rfl) dX4_roundOf_37 (q := 40) rfl ?_
        show g_G 8 X Y 40 [(5, .long p1), (0, g_r Y 24), (1, .int x1), (3, .int x3), (4, .int x4)] [.int p2, .int x3] M
        refine g_ior C dX4_roundOf_40 (q := 41) rfl ?_
        refine g_istore C dX4_roundOf_41 (q := 43) rfl (by decide) (lv' := [(7, .int (x3 ||| p2)), (5, .long p1), (0, g_r Y 24), (1, .int x1), (3, .int x3), (4, .int x4)]) rfl ?_
        refine g_iload C 0 dX4_roundOf_43 (q := 45) rfl rfl ?_
        refine g_iload_n C 4 dX4_roundOf_45 (q := 46) rfl rfl rfl ?_
        have hif := g_if h
        clear h
        refine g_icmp_ne C dX4_roundOf_46 (q := 49) (tgt := 51) rfl (by decide) (fun c => ?_) (fun c => ?_)
        · have h := hif.2 c
          clear hif
          refine g_iload C 0 dX4_roundOf_51 (q := 53) rfl rfl ?_
          refine g_istore_n C dX4_roundOf_53 (q := 54) rfl rfl (by decide) (lv' := [(3, .int (x3 ||| p2)), (7, .int (x3 ||| p2)), (5, .long p1), (0, g_r Y 24), (1, .int x1), (4, .int x4)]) rfl ?_
          refine g_iinc C (k := 5) (v := x4 + 1) dX4_roundOf_54 (q := 57) rfl rfl rfl (by decide) (lv' := [(4, .int (x4 + 1)), (3, .int (x3 ||| p2)), (7, .int (x3 ||| p2)), (5, .long p1), (0, g_r Y 24), (1, .int x1)]) rfl ?_
          refine g_goto C dX4_roundOf_57 (tgt := 5) (by decide) ?_
          refine g_sub [4, 5, 1, 0] (lv' := [(0, g_r Y 24), (1, .int x1), (3, .int (x3 ||| p2)), (4, .int (x4 + 1))]) rfl ?_
          exact ih x1 (x3 ||| p2) (x4 + 1) h
        · have h := hif.1 c
          clear hif
          refine g_sub [] (lv' := []) rfl ?_
          exact hk49 h
      · have h := hif.2 c
        clear hif
        refine g_sub [4] (lv' := [(4, .int x4)]) rfl ?_
        exact hk30 x4 h
def f_X4_roundOf (x1 : Int32) (x2 : Int32) (M : g_M) : Option (Int32) :=
  g_lq3 (F_X4_roundOf_5 M (fun (x4 : Int32) => some x4) (some 0) (some 0)) 20000000 x1 x2 1
set_option maxRecDepth 100000 in
theorem m_X4_roundOf {l : Launch} {Y : g_Y} {x1 : Int32} {x2 : Int32} {M : g_M} {p : Int32} (h : f_X4_roundOf x1 x2 M = some p) : g_R l Y (2) yX4_roundOf cX4_roundOf 8 (some .int) [g_r Y 24, .int x1, .int x2] M (some (.int p)) M := by
  unfold f_X4_roundOf at h
  refine g_R_of kP_X4 rfl (Nat.le_of_ble_eq_true rfl) (fun X C E => ?_)
  show g_G 8 X Y 0 [(0, g_r Y 24), (1, .int x1), (2, .int x2)] [] M
  refine g_iload_n C 2 dX4_roundOf_0 (q := 1) rfl rfl rfl ?_
  refine g_istore_n C dX4_roundOf_1 (q := 2) rfl rfl (by decide) (lv' := [(3, .int x2), (0, g_r Y 24), (1, .int x1), (2, .int x2)]) rfl ?_
  refine g_iconst C (v := 1) dX4_roundOf_2 (q := 3) rfl (by decide) ?_
  refine g_istore C dX4_roundOf_3 (q := 5) rfl (by decide) (lv' := [(4, .int 1), (3, .int x2), (0, g_r Y 24), (1, .int x1), (2, .int x2)]) rfl ?_
  refine g_sub [2, 3, 1, 0] (lv' := [(0, g_r Y 24), (1, .int x1), (3, .int x2), (4, .int 1)]) rfl ?_
  refine t_X4_roundOf_5 C E ?_ ?_ ?_ 20000000 x1 x2 1 h
  · intro x4 h
    try dsimp only at h
    refine g_iload C 0 dX4_roundOf_30 (q := 32) rfl rfl ?_
    obtain rfl := Option.some.inj h
    exact g_iret C E dX4_roundOf_32
  · intro  h
    try dsimp only at h
    refine g_iconst C (v := 0) dX4_roundOf_49 (q := 50) rfl (by decide) ?_
    obtain rfl := Option.some.inj h
    exact g_iret C E dX4_roundOf_50
  · intro  h
    try dsimp only at h
    refine g_iconst C (v := 0) dX4_roundOf_60 (q := 61) rfl (by decide) ?_
    obtain rfl := Option.some.inj h
    exact g_iret C E dX4_roundOf_61
def f_X5_fill_36_24 (x1 : Int32) (x2 : Int32) (M : g_M) : Option (g_M) :=
  (g_ld M 37 1024 (x1 &&& (x1 - 1))).bind fun v1 => (g_ld M 37 1024 (x1 &&& (x1 - 1))).bind fun v2 => (if (v1 ||| x2) = v2 then ((g_st M 37 1024 x1 (v1 ||| x2)).bind fun M8 => (g_ldl M8 38 1024 (x1 &&& (x1 - 1))).bind fun v9 => (g_stl M8 38 1024 x1 v9).bind fun M10 => some M10) else ((f_X4_openInTheEnd (v1 ||| x2) M).bind fun p3 => (g_stl M 38 1024 x1 p3).bind fun M4 => (g_ldl M4 38 1024 x1).bind fun v5 => (f_X4_keysInBoxes v5 M4).bind fun p6 => (g_st M4 37 1024 x1 ((v1 ||| x2) ||| p6)).bind fun M7 => some M7))
set_option maxRecDepth 100000 in
theorem m_X5_fill_36_24 {l : Launch} {Y : g_Y} {x1 : Int32} {x2 : Int32} {M : g_M} {p : g_M} (h : f_X5_fill_36_24 x1 x2 M = some p) : g_R l Y (3) yX5_fill cX5_fill 6 none [g_r Y 36, .int x1, .int x2, g_r Y 24] M none p := by
  unfold f_X5_fill_36_24 at h
  refine g_R_of kP_X5 rfl (Nat.le_of_ble_eq_true rfl) (fun X C E => ?_)
  show g_G 6 X Y 0 [(0, g_r Y 36), (1, .int x1), (2, .int x2), (3, g_r Y 24)] [] M
  refine g_iload_n C 1 dX5_fill_0 (q := 1) rfl rfl rfl ?_
  refine g_iload_n C 1 dX5_fill_1 (q := 2) rfl rfl rfl ?_
  refine g_iconst C (v := 1) dX5_fill_2 (q := 3) rfl (by decide) ?_
  refine g_isub C dX5_fill_3 (q := 4) rfl ?_
  refine g_iand C dX5_fill_4 (q := 5) rfl ?_
  refine g_istore C dX5_fill_5 (q := 7) rfl (by decide) (lv' := [(4, .int (x1 &&& (x1 - 1))), (0, g_r Y 36), (1, .int x1), (2, .int x2), (3, g_r Y 24)]) rfl ?_
  refine g_aload_n C 1 dX5_fill_7 (q := 8) rfl rfl rfl ?_
  refine g_get C (k := 36) (i := 0) (by decide) (gc_36 Y _ _) rfl kU_X5 (by decide) kF_X5_9 rfl dX5_fill_8 (q := 11) rfl ?_
  refine g_iload C 0 dX5_fill_11 (q := 13) rfl rfl ?_
  obtain ⟨v1, hv1, h⟩ := g_bind h
  refine g_iald C (k := 37) (n := 1024) (by decide) (gc_37 Y _ _) hv1 dX5_fill_13 (q := 14) rfl ?_
  refine g_iload_n C 3 dX5_fill_14 (q := 15) rfl rfl rfl ?_
  refine g_ior C dX5_fill_15 (q := 16) rfl ?_
  refine g_istore C dX5_fill_16 (q := 18) rfl (by decide) (lv' := [(5, .int (v1 ||| x2)), (4, .int (x1 &&& (x1 - 1))), (0, g_r Y 36), (1, .int x1), (2, .int x2), (3, g_r Y 24)]) rfl ?_
  refine g_iload C 0 dX5_fill_18 (q := 20) rfl rfl ?_
  refine g_aload_n C 2 dX5_fill_20 (q := 21) rfl rfl rfl ?_
  refine g_get C (k := 36) (i := 0) (by decide) (gc_36 Y _ _) rfl kU_X5 (by decide) kF_X5_9 rfl dX5_fill_21 (q := 24) rfl ?_
  refine g_iload C 1 dX5_fill_24 (q := 26) rfl rfl ?_
  obtain ⟨v2, hv2, h⟩ := g_bind h
  refine g_iald C (k := 37) (n := 1024) (by decide) (gc_37 Y _ _) hv2 dX5_fill_26 (q := 27) rfl ?_
  have hif := g_if h
  clear h
  refine g_icmp_ne C dX5_fill_27 (q := 30) (tgt := 54) rfl (by decide) (fun c => ?_) (fun c => ?_)
  · have h := hif.2 c
    clear hif
    refine g_aload_n C 2 dX5_fill_54 (q := 55) rfl rfl rfl ?_
    refine g_get C (k := 36) (i := 1) (by decide) (gc_36 Y _ _) rfl kU_X5 (by decide) kF_X5_15 rfl dX5_fill_55 (q := 58) rfl ?_
    refine g_iload_n C 3 dX5_fill_58 (q := 59) rfl rfl rfl ?_
    refine g_aload_n C 5 dX5_fill_59 (q := 60) rfl rfl rfl ?_
    refine g_iload C 0 dX5_fill_60 (q := 62) rfl rfl ?_
    obtain ⟨p3, hp3, h⟩ := g_bind h
    refine g_callV C (k := 24) (as := [.int (v1 ||| x2)]) (st := [.int x1, g_r Y 38]) (m_X4_openInTheEnd hp3) (g_hR (by decide)) (by decide) (by decide) (gc_24 Y _ _) rfl kM_X5_48 kI_X4_openInTheEnd kS_X4_openInTheEnd kN_X4 kC_X4_openInTheEnd kD_X4_openInTheEnd rfl (Nat.le_of_ble_eq_true rfl) dX5_fill_62 (q := 65) rfl ?_
    show g_G 6 X Y 65 [(5, .int (v1 ||| x2)), (4, .int (x1 &&& (x1 - 1))), (0, g_r Y 36), (1, .int x1), (2, .int x2), (3, g_r Y 24)] [.long p3, .int x1, g_r Y 38] M
    obtain ⟨M4, hM4, h⟩ := g_bind h
    refine g_last C (k := 38) (n := 1024) (by decide) (fun b => gc_38 Y _ b) hM4 dX5_fill_65 (q := 66) rfl ?_
    refine g_aload_n C 2 dX5_fill_66 (q := 67) rfl rfl rfl ?_
    refine g_get C (k := 36) (i := 0) (by decide) (gc_36 Y _ _) rfl kU_X5 (by decide) kF_X5_9 rfl dX5_fill_67 (q := 70) rfl ?_
    refine g_iload_n C 3 dX5_fill_70 (q := 71) rfl rfl rfl ?_
    refine g_iload C 0 dX5_fill_71 (q := 73) rfl rfl ?_
    refine g_aload_n C 5 dX5_fill_73 (q := 74) rfl rfl rfl ?_
    refine g_aload_n C 2 dX5_fill_74 (q := 75) rfl rfl rfl ?_
    refine g_get C (k := 36) (i := 1) (by decide) (gc_36 Y _ _) rfl kU_X5 (by decide) kF_X5_15 rfl dX5_fill_75 (q := 78) rfl ?_
    refine g_iload_n C 3 dX5_fill_78 (q := 79) rfl rfl rfl ?_
    obtain ⟨v5, hv5, h⟩ := g_bind h
    refine g_lald C (k := 38) (n := 1024) (by decide) (gc_38 Y _ _) hv5 dX5_fill_79 (q := 80) rfl ?_
    obtain ⟨p6, hp6, h⟩ := g_bind h
    refine g_callV C (k := 24) (as := [.long v5]) (st := [.int (v1 ||| x2), .int x1, g_r Y 37]) (m_X4_keysInBoxes hp6) (g_hR (by decide)) (by decide) (by decide) (gc_24 Y _ _) rfl kM_X5_52 kI_X4_keysInBoxes kS_X4_keysInBoxes kN_X4 kC_X4_keysInBoxes kD_X4_keysInBoxes rfl (Nat.le_of_ble_eq_true rfl) dX5_fill_80 (q := 83) rfl ?_
    show g_G 6 X Y 83 [(5, .int (v1 ||| x2)), (4, .int (x1 &&& (x1 - 1))), (0, g_r Y 36), (1, .int x1), (2, .int x2), (3, g_r Y 24)] [.int p6, .int (v1 ||| x2), .int x1, g_r Y 37] M4
    refine g_ior C dX5_fill_83 (q := 84) rfl ?_
    obtain ⟨M7, hM7, h⟩ := g_bind h
    refine g_iast C (k := 37) (n := 1024) (by decide) (fun a => gc_37 Y a _) hM7 dX5_fill_84 (q := 85) rfl ?_
    obtain rfl := Option.some.inj h
    exact g_vret C E dX5_fill_85
  · have h := hif.1 c
    clear hif
    refine g_aload_n C 2 dX5_fill_30 (q := 31) rfl rfl rfl ?_
    refine g_get C (k := 36) (i := 0) (by decide) (gc_36 Y _ _) rfl kU_X5 (by decide) kF_X5_9 rfl dX5_fill_31 (q := 34) rfl ?_
    refine g_iload_n C 3 dX5_fill_34 (q := 35) rfl rfl rfl ?_
    refine g_iload C 0 dX5_fill_35 (q := 37) rfl rfl ?_
    obtain ⟨M8, hM8, h⟩ := g_bind h
    refine g_iast C (k := 37) (n := 1024) (by decide) (fun a => gc_37 Y a _) hM8 dX5_fill_37 (q := 38) rfl ?_
    refine g_aload_n C 2 dX5_fill_38 (q := 39) rfl rfl rfl ?_
    refine g_get C (k := 36) (i := 1) (by decide) (gc_36 Y _ _) rfl kU_X5 (by decide) kF_X5_15 rfl dX5_fill_39 (q := 42) rfl ?_
    refine g_iload_n C 3 dX5_fill_42 (q := 43) rfl rfl rfl ?_
    refine g_aload_n C 2 dX5_fill_43 (q := 44) rfl rfl rfl ?_
    refine g_get C (k := 36) (i := 1) (by decide) (gc_36 Y _ _) rfl kU_X5 (by decide) kF_X5_15 rfl dX5_fill_44 (q := 47) rfl ?_
    refine g_iload C 1 dX5_fill_47 (q := 49) rfl rfl ?_
    obtain ⟨v9, hv9, h⟩ := g_bind h
    refine g_lald C (k := 38) (n := 1024) (by decide) (gc_38 Y _ _) hv9 dX5_fill_49 (q := 50) rfl ?_
    obtain ⟨M10, hM10, h⟩ := g_bind h
    refine g_last C (k := 38) (n := 1024) (by decide) (fun b => gc_38 Y _ b) hM10 dX5_fill_50 (q := 51) rfl ?_
    refine g_goto C dX5_fill_51 (tgt := 85) (by decide) ?_
    obtain rfl := Option.some.inj h
    exact g_vret C E dX5_fill_85
theorem r_X5_fill_36_24 {x1 : Int32} {x2 : Int32} {M : g_M} {p : g_M} (h : f_X5_fill_36_24 x1 x2 M = some p) : g_fr [37, 38] [] M p := by
  unfold f_X5_fill_36_24 at h
  have hf := g_fr.rfl (S := [37, 38]) (T := []) (M := M)
  obtain ⟨v1, -, h⟩ := g_bind h
  obtain ⟨v2, -, h⟩ := g_bind h
  rcases g_ifs h with h | h
  · obtain ⟨M8, hM8, h⟩ := g_bind h
    have hf := hf.st hM8 (by decide)
    obtain ⟨v9, -, h⟩ := g_bind h
    obtain ⟨M10, hM10, h⟩ := g_bind h
    have hf := hf.stl hM10 (by decide)
    obtain rfl := Option.some.inj h
    exact hf
  · obtain ⟨p3, -, h⟩ := g_bind h
    obtain ⟨M4, hM4, h⟩ := g_bind h
    have hf := hf.stl hM4 (by decide)
    obtain ⟨v5, -, h⟩ := g_bind h
    obtain ⟨p6, -, h⟩ := g_bind h
    obtain ⟨M7, hM7, h⟩ := g_bind h
    have hf := hf.st hM7 (by decide)
    obtain rfl := Option.some.inj h
    exact hf
def F_X5_refresh_36_3_24_33 (k73 : g_M → Option (g_M)) (k : Int32 → Int32 → g_M → Option (g_M)) (x4 : Int32) (x5 : Int32) (M : g_M) : Option (g_M) :=
  (if x4 < x5 then (k73 M) else ((if (x5 &&& (x4 ^^^ (-1))) = 0 then ((f_J6_numberOfTrailingZeros_0f7a4 x5 M).bind fun p3 => (g_ld M 5 10 p3).bind fun v4 => (f_X5_fill_36_24 x5 v4 M).bind fun p5 => k x4 (x5 + 1) p5) else (k x4 (x5 + 1) M))))
set_option maxRecDepth 100000 in
theorem t_X5_refresh_36_3_24_33 {l : Launch} {X : g_X} {Y : g_Y} {p : g_M} {k73 : g_M → Option (g_M)} (C : g_C l (g_rm (4)) RX5 cX5_refresh 6 X Y) (E : g_E none X Y none p) (hk73 : ∀ (M : g_M), k73 M = some p → g_G 6 X Y 73 [] [] M) (n : Nat) : ∀ (x4 : Int32) (x5 : Int32) (M : g_M), g_lp2 (F_X5_refresh_36_3_24_33 k73) n x4 x5 M = some p → g_G 6 X Y 33 [(0, g_r Y 36), (1, g_r Y 3), (2, g_r Y 24), (4, .int x4), (5, .int x5)] [] M := by
  induction n with
  | zero => intro x4 x5 M h; exact (g_nn h).elim
  | succ n ih =>
    intro x4 x5 M h
    have h : F_X5_refresh_36_3_24_33 k73 (g_lp2 (F_X5_refresh_36_3_24_33 k73) n) x4 x5 M = some p := h
    generalize g_lp2 (F_X5_refresh_36_3_24_33 k73) n = k at h ih
    unfold F_X5_refresh_36_3_24_33 at h
    refine g_iload C 4 dX5_refresh_33 (q := 35) rfl rfl ?_
    refine g_iload C 3 dX5_refresh_35 (q := 37) rfl rfl ?_
    have hif := g_if h
    clear h
    refine g_icmp_gt C dX5_refresh_37 (q := 40) (tgt := 73) rfl (by decide) (fun c => ?_) (fun c => ?_)
    · have h := hif.1 c
      clear hif
      refine g_sub [] (lv' := []) rfl ?_
      exact hk73 M h
    · have h := hif.2 c
      clear hif
      refine g_iload C 4 dX5_refresh_40 (q := 42) rfl rfl ?_
      refine g_iload C 3 dX5_refresh_42 (q := 44) rfl rfl ?_
      refine g_iconst C (v := (-1)) dX5_refresh_44 (q := 45) rfl (by decide) ?_
      refine g_ixor C dX5_refresh_45 (q := 46) rfl ?_
      refine g_iand C dX5_refresh_46 (q := 47) rfl ?_
      have hif := g_if h
      clear h
      refine g_if_ne C dX5_refresh_47 (q := 50) (tgt := 67) rfl (by decide) (fun c => ?_) (fun c => ?_)
      · have h := hif.2 c
        clear hif
        refine g_iinc C (k := 4) (v := x5 + 1) dX5_refresh_67 (q := 70) rfl rfl rfl (by decide) (lv' := [(5, .int (x5 + 1)), (0, g_r Y 36), (1, g_r Y 3), (2, g_r Y 24), (4, .int x4)]) rfl ?_
        refine g_goto C dX5_refresh_70 (tgt := 33) (by decide) ?_
        refine g_sub [1, 2, 3, 4, 0] (lv' := [(0, g_r Y 36), (1, g_r Y 3), (2, g_r Y 24), (4, .int x4), (5, .int (x5 + 1))]) rfl ?_
        exact ih x4 (x5 + 1) M h
      · have h := hif.1 c
        clear hif
        refine g_aload_n C 0 dX5_refresh_50 (q := 51) rfl rfl rfl ?_
        refine g_iload C 4 dX5_refresh_51 (q := 53) rfl rfl ?_
        refine g_aload_n C 1 dX5_refresh_53 (q := 54) rfl rfl rfl ?_
        refine g_get C (k := 3) (i := 5) (by decide) (gc_3 Y _ _) rfl kU_X0 (by decide) kF_X5_35 rfl dX5_refresh_54 (q := 57) rfl ?_
        refine g_iload C 4 dX5_refresh_57 (q := 59) rfl rfl ?_
        obtain ⟨p3, hp3, h⟩ := g_bind h
        refine g_callS C (as := [.int x5]) (st := [g_r Y 5, .int x5, g_r Y 36]) (m_J6_numberOfTrailingZeros_0f7a4 hp3) (g_hR (by decide)) (by decide) kM_X5_38 kT_J6_numberOfTrailingZeros_0f7a4 kN_J6 kC_J6_numberOfTrailingZeros_0f7a4 kD_J6_numberOfTrailingZeros_0f7a4 rfl (Nat.le_of_ble_eq_true rfl) dX5_refresh_59 (q := 62) rfl ?_
        show g_G 6 X Y 62 [(0, g_r Y 36), (1, g_r Y 3), (2, g_r Y 24), (4, .int x4), (5, .int x5)] [.int p3, g_r Y 5, .int x5, g_r Y 36] M
        obtain ⟨v4, hv4, h⟩ := g_bind h
        refine g_iald C (k := 5) (n := 10) (by decide) (gc_5 Y _ _) hv4 dX5_refresh_62 (q := 63) rfl ?_
        refine g_aload_n C 2 dX5_refresh_63 (q := 64) rfl rfl rfl ?_
        obtain ⟨p5, hp5, h⟩ := g_bind h
        refine g_callV C (k := 36) (as := [.int x5, .int v4, g_r Y 24]) (st := []) (m_X5_fill_36_24 hp5) (g_hR (by decide)) (by decide) (by decide) (gc_36 Y _ _) rfl kM_X5_44 kI_X5_fill kS_X5_fill kN_X5 kC_X5_fill kD_X5_fill rfl (Nat.le_of_ble_eq_true rfl) dX5_refresh_64 (q := 67) rfl ?_
        show g_G 6 X Y 67 [(0, g_r Y 36), (1, g_r Y 3), (2, g_r Y 24), (4, .int x4), (5, .int x5)] [] p5
        refine g_iinc C (k := 4) (v := x5 + 1) dX5_refresh_67 (q := 70) rfl rfl rfl (by decide) (lv' := [(5, .int (x5 + 1)), (0, g_r Y 36), (1, g_r Y 3), (2, g_r Y 24), (4, .int x4)]) rfl ?_
        refine g_goto C dX5_refresh_70 (tgt := 33) (by decide) ?_
        refine g_sub [1, 2, 3, 4, 0] (lv' := [(0, g_r Y 36), (1, g_r Y 3), (2, g_r Y 24), (4, .int x4), (5, .int (x5 + 1))]) rfl ?_
        exact ih x4 (x5 + 1) p5 h
theorem r_X5_refresh_36_3_24_33 {p : g_M} {k73 : g_M → Option (g_M)} (hk73 : ∀ (M : g_M), k73 M = some p → g_fr [37, 38] [(36, 2)] M p) (n : Nat) : ∀ (x4 : Int32) (x5 : Int32) (M : g_M), g_lp2 (F_X5_refresh_36_3_24_33 k73) n x4 x5 M = some p → g_fr [37, 38] [(36, 2)] M p := by
  induction n with
  | zero => intro x4 x5 M h; exact (g_nn h).elim
  | succ n ih =>
    intro x4 x5 M h
    have h : F_X5_refresh_36_3_24_33 k73 (g_lp2 (F_X5_refresh_36_3_24_33 k73) n) x4 x5 M = some p := h
    generalize g_lp2 (F_X5_refresh_36_3_24_33 k73) n = k at h ih
    unfold F_X5_refresh_36_3_24_33 at h
    have hf := g_fr.rfl (S := [37, 38]) (T := [(36, 2)]) (M := M)
    rcases g_ifs h with h | h
    · exact hf.trans (hk73 M h)
    · rcases g_ifs h with h | h
      · obtain ⟨p3, -, h⟩ := g_bind h
        obtain ⟨v4, -, h⟩ := g_bind h
        obtain ⟨p5, hp5, h⟩ := g_bind h
        have hf := hf.trans ((r_X5_fill_36_24 hp5).mono (by decide) (by decide))
        exact hf.trans (ih x4 (x5 + 1) p5 h)
      · exact hf.trans (ih x4 (x5 + 1) M h)
def f_X5_refresh_36_3_24 (M : g_M) : Option (g_M) :=
  (if (M.1 36 2) = ((M.1 3 3) + (M.1 24 1)) then (some M) else ((some (g_u M 36 2 ((M.1 3 3) + (M.1 24 1)))).bind fun M1 => (f_X0_present M1).bind fun p2 => g_lp2 (F_X5_refresh_36_3_24_33 (fun (M : g_M) => some M)) 20000000 p2 1 M1))
set_option maxRecDepth 100000 in
theorem m_X5_refresh_36_3_24 {l : Launch} {Y : g_Y} {M : g_M} {p : g_M} (h : f_X5_refresh_36_3_24 M = some p) : g_R l Y (4) yX5_refresh cX5_refresh 6 none [g_r Y 36, g_r Y 3, g_r Y 24] M none p := by
  unfold f_X5_refresh_36_3_24 at h
  refine g_R_of kP_X5 rfl (Nat.le_of_ble_eq_true rfl) (fun X C E => ?_)
  show g_G 6 X Y 0 [(0, g_r Y 36), (1, g_r Y 3), (2, g_r Y 24)] [] M
  refine g_aload_n C 1 dX5_refresh_0 (q := 1) rfl rfl rfl ?_
  refine g_get C (k := 3) (i := 3) (by decide) (gc_3 Y _ _) rfl kU_X0 (by decide) kF_X5_23 rfl dX5_refresh_1 (q := 4) rfl ?_
  refine g_aload_n C 2 dX5_refresh_4 (q := 5) rfl rfl rfl ?_
  refine g_get C (k := 24) (i := 1) (by decide) (gc_24 Y _ _) rfl kU_X4 (by decide) kF_X5_28 rfl dX5_refresh_5 (q := 8) rfl ?_
  refine g_iadd C dX5_refresh_8 (q := 9) rfl ?_
  refine g_istore_n C dX5_refresh_9 (q := 10) rfl rfl (by decide) (lv' := [(3, .int ((M.1 3 3) + (M.1 24 1))), (0, g_r Y 36), (1, g_r Y 3), (2, g_r Y 24)]) rfl ?_
  refine g_aload_n C 1 dX5_refresh_10 (q := 11) rfl rfl rfl ?_
  refine g_get C (k := 36) (i := 2) (by decide) (gc_36 Y _ _) rfl kU_X5 (by decide) kF_X5_19 rfl dX5_refresh_11 (q := 14) rfl ?_
  refine g_iload_n C 0 dX5_refresh_14 (q := 15) rfl rfl rfl ?_
  have hif := g_if h
  clear h
  refine g_icmp_ne C dX5_refresh_15 (q := 18) (tgt := 19) rfl (by decide) (fun c => ?_) (fun c => ?_)
  · have h := hif.2 c
    clear hif
    refine g_aload_n C 1 dX5_refresh_19 (q := 20) rfl rfl rfl ?_
    refine g_iload_n C 0 dX5_refresh_20 (q := 21) rfl rfl rfl ?_
    obtain ⟨M1, hM1, h⟩ := g_bind h
    refine g_put C (k := 36) (i := 2) (ty := .int) (by decide) (gc_36 Y _ _) (gp_36_2 Y _ _ _) rfl kU_X5 tyX5_ok nmX5 (by decide) kF_X5_19 rfl rfl rfl rfl (Nat.le_of_ble_eq_true rfl) dX5_refresh_21 (q := 24) rfl ?_
    refine g_mem hM1 ?_
    refine g_aload_n C 2 dX5_refresh_24 (q := 25) rfl rfl rfl ?_
    obtain ⟨p2, hp2, h⟩ := g_bind h
    refine g_callV C (k := 3) (as := []) (st := []) (m_X0_present hp2) (g_hR (by decide)) (by decide) (by decide) (gc_3 Y _ _) rfl kM_X5_31 kI_X0_present kS_X0_present kN_X0 kC_X0_present kD_X0_present rfl (Nat.le_of_ble_eq_true rfl) dX5_refresh_25 (q := 28) rfl ?_
    show g_G 6 X Y 28 [(3, .int ((M.1 3 3) + (M.1 24 1))), (0, g_r Y 36), (1, g_r Y 3), (2, g_r Y 24)] [.int p2] M1
    refine g_istore C dX5_refresh_28 (q := 30) rfl (by decide) (lv' := [(4, .int p2), (3, .int ((M.1 3 3) + (M.1 24 1))), (0, g_r Y 36), (1, g_r Y 3), (2, g_r Y 24)]) rfl ?_
    refine g_iconst C (v := 1) dX5_refresh_30 (q := 31) rfl (by decide) ?_
    refine g_istore C dX5_refresh_31 (q := 33) rfl (by decide) (lv' := [(5, .int 1), (4, .int p2), (3, .int ((M.1 3 3) + (M.1 24 1))), (0, g_r Y 36), (1, g_r Y 3), (2, g_r Y 24)]) rfl ?_
    refine g_sub [3, 4, 5, 1, 0] (lv' := [(0, g_r Y 36), (1, g_r Y 3), (2, g_r Y 24), (4, .int p2), (5, .int 1)]) rfl ?_
    refine t_X5_refresh_36_3_24_33 C E ?_ 20000000 p2 1 M1 h
    · intro M h
      try dsimp only at h
      obtain rfl := Option.some.inj h
      exact g_vret C E dX5_refresh_73
  · have h := hif.1 c
    clear hif
    obtain rfl := Option.some.inj h
    exact g_vret C E dX5_refresh_18
theorem r_X5_refresh_36_3_24 {M : g_M} {p : g_M} (h : f_X5_refresh_36_3_24 M = some p) : g_fr [37, 38] [(36, 2)] M p := by
  unfold f_X5_refresh_36_3_24 at h
  have hf := g_fr.rfl (S := [37, 38]) (T := [(36, 2)]) (M := M)
  rcases g_ifs h with h | h
  · obtain rfl := Option.some.inj h
    exact hf
  · obtain ⟨M1, hM1, h⟩ := g_bind h
    have hf := hf.pu hM1 (by decide)
    obtain ⟨p2, -, h⟩ := g_bind h
    refine hf.trans (r_X5_refresh_36_3_24_33 ?_ 20000000 p2 1 M1 h)
    · intro M h
      try dsimp only at h
      have hf := g_fr.rfl (S := [37, 38]) (T := [(36, 2)]) (M := M)
      obtain rfl := Option.some.inj h
      exact hf
def f_X5_isOpen (x1 : Int32) (x2 : Int32) (M : g_M) : Option (Int32) :=
  (g_ldl M 38 1024 x2).bind fun v1 => (if (lg_cmp ((v1 >>> (Int32.toInt64 x1 &&& 63)) &&& 1) 0) = 0 then (some 0) else (some 1))
set_option maxRecDepth 100000 in
theorem m_X5_isOpen {l : Launch} {Y : g_Y} {x1 : Int32} {x2 : Int32} {M : g_M} {p : Int32} (h : f_X5_isOpen x1 x2 M = some p) : g_R l Y (0) yX5_isOpen cX5_isOpen 3 (some .boolean) [g_r Y 36, .int x1, .int x2] M (some (.int p)) M := by
  unfold f_X5_isOpen at h
  refine g_R_of kP_X5 rfl (Nat.le_of_ble_eq_true rfl) (fun X C E => ?_)
  show g_G 3 X Y 0 [(0, g_r Y 36), (1, .int x1), (2, .int x2)] [] M
  refine g_aload_n C 0 dX5_isOpen_0 (q := 1) rfl rfl rfl ?_
  refine g_get C (k := 36) (i := 1) (by decide) (gc_36 Y _ _) rfl kU_X5 (by decide) kF_X5_15 rfl dX5_isOpen_1 (q := 4) rfl ?_
  refine g_iload_n C 2 dX5_isOpen_4 (q := 5) rfl rfl rfl ?_
  obtain ⟨v1, hv1, h⟩ := g_bind h
  refine g_lald C (k := 38) (n := 1024) (by decide) (gc_38 Y _ _) hv1 dX5_isOpen_5 (q := 6) rfl ?_
  refine g_iload_n C 1 dX5_isOpen_6 (q := 7) rfl rfl rfl ?_
  refine g_lshr C dX5_isOpen_7 (q := 8) rfl ?_
  refine g_lconst C (v := 1) dX5_isOpen_8 (q := 9) rfl (by decide) ?_
  refine g_land C dX5_isOpen_9 (q := 10) rfl ?_
  refine g_lconst C (v := 0) dX5_isOpen_10 (q := 11) rfl (by decide) ?_
  refine g_lcmp C dX5_isOpen_11 (q := 12) rfl ?_
  have hif := g_if h
  clear h
  refine g_if_eq C dX5_isOpen_12 (q := 15) (tgt := 19) rfl (by decide) (fun c => ?_) (fun c => ?_)
  · have h := hif.1 c
    clear hif
    refine g_iconst C (v := 0) dX5_isOpen_19 (q := 20) rfl (by decide) ?_
    obtain rfl := Option.some.inj h
    exact g_zret C (g_bz_lit (by decide)) E dX5_isOpen_20
  · have h := hif.2 c
    clear hif
    refine g_iconst C (v := 1) dX5_isOpen_15 (q := 16) rfl (by decide) ?_
    refine g_goto C dX5_isOpen_16 (tgt := 20) (by decide) ?_
    obtain rfl := Option.some.inj h
    exact g_zret C (g_bz_lit (by decide)) E dX5_isOpen_20
def F_X6_findLeast_43_41_31 (k79 : Int32 → Int32 → g_M → Option (g_M)) (k : Int32 → Int32 → Int32 → g_M → Option (g_M)) (x2 : Int32) (x3 : Int32) (x4 : Int32) (M : g_M) : Option (g_M) :=
  (if 10 ≤ x4 then (k79 x2 x3 M) else ((if x3 = 0 then ((if ((x2 >>> (x4 &&& 31)) &&& 1) = 0 then (k x2 0 (x4 + 1) M) else ((g_ld M 45 1024 (x2 &&& (((1 : Int32) <<< (x4 &&& 31)) ^^^ (-1)))).bind fun v2 => (if v2 = 0 then (k x2 0 (x4 + 1) M) else (k x2 1 (x4 + 1) M))))) else (k79 x2 x3 M))))
set_option maxRecDepth 100000 in
theorem t_X6_findLeast_43_41_31 {l : Launch} {X : g_X} {Y : g_Y} {p : g_M} {k79 : Int32 → Int32 → g_M → Option (g_M)} (C : g_C l (g_rm (1)) RX6 cX6_findLeast 5 X Y) (E : g_E none X Y none p) (hk79 : ∀ (x2 : Int32) (x3 : Int32) (M : g_M), k79 x2 x3 M = some p → g_G 5 X Y 79 [(0, g_r Y 43), (1, g_r Y 41), (2, .int x2), (3, .int x3)] [] M) (n : Nat) : ∀ (x2 : Int32) (x3 : Int32) (x4 : Int32) (M : g_M), g_lp3 (F_X6_findLeast_43_41_31 k79) n x2 x3 x4 M = some p → g_G 5 X Y 31 [(0, g_r Y 43), (1, g_r Y 41), (2, .int x2), (3, .int x3), (4, .int x4)] [] M := by
  induction n with
  | zero => intro x2 x3 x4 M h; exact (g_nn h).elim
  | succ n ih =>
    intro x2 x3 x4 M h
    have h : F_X6_findLeast_43_41_31 k79 (g_lp3 (F_X6_findLeast_43_41_31 k79) n) x2 x3 x4 M = some p := h
    generalize g_lp3 (F_X6_findLeast_43_41_31 k79) n = k at h ih
    unfold F_X6_findLeast_43_41_31 at h
    refine g_iload C 4 dX6_findLeast_31 (q := 33) rfl rfl ?_
    refine g_bipush C (v := 10) dX6_findLeast_33 (q := 35) rfl (by decide) ?_
    have hif := g_if h
    clear h
    refine g_icmp_ge C dX6_findLeast_35 (q := 38) (tgt := 79) rfl (by decide) (fun c => ?_) (fun c => ?_)
    · have h := hif.1 c
      clear hif
      refine g_sub [0, 1, 2, 3] (lv' := [(0, g_r Y 43), (1, g_r Y 41), (2, .int x2), (3, .int x3)]) rfl ?_
      exact hk79 x2 x3 M h
    · have h := hif.2 c
      clear hif
      refine g_iload_n C 3 dX6_findLeast_38 (q := 39) rfl rfl rfl ?_
      have hif := g_if h
      clear h
      refine g_if_ne C dX6_findLeast_39 (q := 42) (tgt := 79) rfl (by decide) (fun c => ?_) (fun c => ?_)
      · have h := hif.2 c
        clear hif
        refine g_sub [0, 1, 2, 3] (lv' := [(0, g_r Y 43), (1, g_r Y 41), (2, .int x2), (3, .int x3)]) rfl ?_
        exact hk79 x2 x3 M h
      · have h := hif.1 c
        clear hif
        refine g_iload_n C 2 dX6_findLeast_42 (q := 43) rfl rfl rfl ?_
        refine g_iload C 4 dX6_findLeast_43 (q := 45) rfl rfl ?_
        refine g_ishr C dX6_findLeast_45 (q := 46) rfl ?_
        refine g_iconst C (v := 1) dX6_findLeast_46 (q := 47) rfl (by decide) ?_
        refine g_iand C dX6_findLeast_47 (q := 48) rfl ?_
        have hif := g_if h
        clear h
        refine g_if_eq C dX6_findLeast_48 (q := 51) (tgt := 71) rfl (by decide) (fun c => ?_) (fun c => ?_)
        · have h := hif.1 c
          clear hif
          refine g_iconst C (v := 0) dX6_findLeast_71 (q := 72) rfl (by decide) ?_
          refine g_istore_n C dX6_findLeast_72 (q := 73) rfl rfl (by decide) (lv' := [(3, .int 0), (0, g_r Y 43), (1, g_r Y 41), (2, .int x2), (4, .int x4)]) rfl ?_
          refine g_iinc C (k := 4) (v := x4 + 1) dX6_findLeast_73 (q := 76) rfl rfl rfl (by decide) (lv' := [(4, .int (x4 + 1)), (3, .int 0), (0, g_r Y 43), (1, g_r Y 41), (2, .int x2)]) rfl ?_
          refine g_goto C dX6_findLeast_76 (tgt := 31) (by decide) ?_
          refine g_sub [2, 3, 4, 1, 0] (lv' := [(0, g_r Y 43), (1, g_r Y 41), (2, .int x2), (3, .int 0), (4, .int (x4 + 1))]) rfl ?_
          exact ih x2 0 (x4 + 1) M h
        · have h := hif.2 c
          clear hif
          refine g_aload_n C 0 dX6_findLeast_51 (q := 52) rfl rfl rfl ?_
          refine g_get C (k := 43) (i := 2) (by decide) (gc_43 Y _ _) rfl kU_X6 (by decide) kF_X6_15 rfl dX6_findLeast_52 (q := 55) rfl ?_
          refine g_iload_n C 2 dX6_findLeast_55 (q := 56) rfl rfl rfl ?_
          refine g_iconst C (v := 1) dX6_findLeast_56 (q := 57) rfl (by decide) ?_
          refine g_iload C 4 dX6_findLeast_57 (q := 59) rfl rfl ?_
          refine g_ishl C dX6_findLeast_59 (q := 60) rfl ?_
          refine g_iconst C (v := (-1)) dX6_findLeast_60 (q := 61) rfl (by decide) ?_
          refine g_ixor C dX6_findLeast_61 (q := 62) rfl ?_
          refine g_iand C dX6_findLeast_62 (q := 63) rfl ?_
          obtain ⟨v2, hv2, h⟩ := g_bind h
          refine g_zald C (k := 45) (n := 1024) (by decide) (gc_45 Y _ _) hv2 dX6_findLeast_63 (q := 64) rfl ?_
          have hif := g_if h
          clear h
          refine g_if_eq C dX6_findLeast_64 (q := 67) (tgt := 71) rfl (by decide) (fun c => ?_) (fun c => ?_)
          · have h := hif.1 c
            clear hif
            refine g_iconst C (v := 0) dX6_findLeast_71 (q := 72) rfl (by decide) ?_
            refine g_istore_n C dX6_findLeast_72 (q := 73) rfl rfl (by decide) (lv' := [(3, .int 0), (0, g_r Y 43), (1, g_r Y 41), (2, .int x2), (4, .int x4)]) rfl ?_
            refine g_iinc C (k := 4) (v := x4 + 1) dX6_findLeast_73 (q := 76) rfl rfl rfl (by decide) (lv' := [(4, .int (x4 + 1)), (3, .int 0), (0, g_r Y 43), (1, g_r Y 41), (2, .int x2)]) rfl ?_
            refine g_goto C dX6_findLeast_76 (tgt := 31) (by decide) ?_
            refine g_sub [2, 3, 4, 1, 0] (lv' := [(0, g_r Y 43), (1, g_r Y 41), (2, .int x2), (3, .int 0), (4, .int (x4 + 1))]) rfl ?_
            exact ih x2 0 (x4 + 1) M h
          · have h := hif.2 c
            clear hif
            refine g_iconst C (v := 1) dX6_findLeast_67 (q := 68) rfl (by decide) ?_
            refine g_goto C dX6_findLeast_68 (tgt := 72) (by decide) ?_
            refine g_istore_n C dX6_findLeast_72 (q := 73) rfl rfl (by decide) (lv' := [(3, .int 1), (0, g_r Y 43), (1, g_r Y 41), (2, .int x2), (4, .int x4)]) rfl ?_
            refine g_iinc C (k := 4) (v := x4 + 1) dX6_findLeast_73 (q := 76) rfl rfl rfl (by decide) (lv' := [(4, .int (x4 + 1)), (3, .int 1), (0, g_r Y 43), (1, g_r Y 41), (2, .int x2)]) rfl ?_
            refine g_goto C dX6_findLeast_76 (tgt := 31) (by decide) ?_
            refine g_sub [2, 3, 4, 1, 0] (lv' := [(0, g_r Y 43), (1, g_r Y 41), (2, .int x2), (3, .int 1), (4, .int (x4 + 1))]) rfl ?_
            exact ih x2 1 (x4 + 1) M h
theorem r_X6_findLeast_43_41_31 {p : g_M} {k79 : Int32 → Int32 → g_M → Option (g_M)} (hk79 : ∀ (x2 : Int32) (x3 : Int32) (M : g_M), k79 x2 x3 M = some p → g_fr [44, 45] [(43, 1)] M p) (n : Nat) : ∀ (x2 : Int32) (x3 : Int32) (x4 : Int32) (M : g_M), g_lp3 (F_X6_findLeast_43_41_31 k79) n x2 x3 x4 M = some p → g_fr [44, 45] [(43, 1)] M p := by
  induction n with
  | zero => intro x2 x3 x4 M h; exact (g_nn h).elim
  | succ n ih =>
    intro x2 x3 x4 M h
    have h : F_X6_findLeast_43_41_31 k79 (g_lp3 (F_X6_findLeast_43_41_31 k79) n) x2 x3 x4 M = some p := h
    generalize g_lp3 (F_X6_findLeast_43_41_31 k79) n = k at h ih
    unfold F_X6_findLeast_43_41_31 at h
    have hf := g_fr.rfl (S := [44, 45]) (T := [(43, 1)]) (M := M)
    rcases g_ifs h with h | h
    · exact hf.trans (hk79 x2 x3 M h)
    · rcases g_ifs h with h | h
      · rcases g_ifs h with h | h
        · exact hf.trans (ih x2 0 (x4 + 1) M h)
        · obtain ⟨v2, -, h⟩ := g_bind h
          rcases g_ifs h with h | h
          · exact hf.trans (ih x2 0 (x4 + 1) M h)
          · exact hf.trans (ih x2 1 (x4 + 1) M h)
      · exact hf.trans (hk79 x2 x3 M h)
def f_X6_findLeast_43_41_102 (k : Int32 → g_M → Option (g_M)) (x2 : Int32) (x3 : Int32) (s0 : Int32) (s1 : Int32) (M : g_M) : Option (g_M) :=
  (g_bz s0).bind fun z4 => (g_st M 45 1024 s1 z4).bind fun M3 => (g_ld M3 45 1024 x2).bind fun v5 => (if v5 = 0 then (k (x2 + 1) M3) else ((if x3 = 0 then ((f_X6_add x2 M3).bind fun p6 => k (x2 + 1) p6) else (k (x2 + 1) M3))))
set_option maxRecDepth 100000 in
theorem t_X6_findLeast_43_41_102 {l : Launch} {X : g_X} {Y : g_Y} {p : g_M} {k : Int32 → g_M → Option (g_M)} (C : g_C l (g_rm (1)) RX6 cX6_findLeast 5 X Y) (E : g_E none X Y none p) (ih : ∀ (x2 : Int32) (M : g_M), k x2 M = some p → g_G 5 X Y 7 [(0, g_r Y 43), (1, g_r Y 41), (2, .int x2)] [] M) (x2 : Int32) (x3 : Int32) (s0 : Int32) (s1 : Int32) (M : g_M) (h : f_X6_findLeast_43_41_102 k x2 x3 s0 s1 M = some p) : g_G 5 X Y 102 [(0, g_r Y 43), (1, g_r Y 41), (2, .int x2), (3, .int x3)] [.int s0, .int s1, g_r Y 45] M := by
  unfold f_X6_findLeast_43_41_102 at h
  obtain ⟨z4, hz4, h⟩ := g_bind h
  obtain ⟨M3, hM3, h⟩ := g_bind h
  refine g_zast C (k := 45) (n := 1024) (by decide) (fun a => gc_45 Y a _) hz4 hM3 dX6_findLeast_102 (q := 103) rfl ?_
  refine g_aload_n C 0 dX6_findLeast_103 (q := 104) rfl rfl rfl ?_
  refine g_get C (k := 43) (i := 2) (by decide) (gc_43 Y _ _) rfl kU_X6 (by decide) kF_X6_15 rfl dX6_findLeast_104 (q := 107) rfl ?_
  refine g_iload_n C 2 dX6_findLeast_107 (q := 108) rfl rfl rfl ?_
  obtain ⟨v5, hv5, h⟩ := g_bind h
  refine g_zald C (k := 45) (n := 1024) (by decide) (gc_45 Y _ _) hv5 dX6_findLeast_108 (q := 109) rfl ?_
  have hif := g_if h
  clear h
  refine g_if_eq C dX6_findLeast_109 (q := 112) (tgt := 121) rfl (by decide) (fun c => ?_) (fun c => ?_)
  · have h := hif.1 c
    clear hif
    refine g_iinc C (k := 2) (v := x2 + 1) dX6_findLeast_121 (q := 124) rfl rfl rfl (by decide) (lv' := [(2, .int (x2 + 1)), (0, g_r Y 43), (1, g_r Y 41), (3, .int x3)]) rfl ?_
    refine g_goto C dX6_findLeast_124 (tgt := 7) (by decide) ?_
    refine g_sub [1, 2, 0] (lv' := [(0, g_r Y 43), (1, g_r Y 41), (2, .int (x2 + 1))]) rfl ?_
    exact ih (x2 + 1) M3 h
  · have h := hif.2 c
    clear hif
    refine g_iload_n C 3 dX6_findLeast_112 (q := 113) rfl rfl rfl ?_
    have hif := g_if h
    clear h
    refine g_if_ne C dX6_findLeast_113 (q := 116) (tgt := 121) rfl (by decide) (fun c => ?_) (fun c => ?_)
    · have h := hif.2 c
      clear hif
      refine g_iinc C (k := 2) (v := x2 + 1) dX6_findLeast_121 (q := 124) rfl rfl rfl (by decide) (lv' := [(2, .int (x2 + 1)), (0, g_r Y 43), (1, g_r Y 41), (3, .int x3)]) rfl ?_
      refine g_goto C dX6_findLeast_124 (tgt := 7) (by decide) ?_
      refine g_sub [1, 2, 0] (lv' := [(0, g_r Y 43), (1, g_r Y 41), (2, .int (x2 + 1))]) rfl ?_
      exact ih (x2 + 1) M3 h
    · have h := hif.1 c
      clear hif
      refine g_aload_n C 0 dX6_findLeast_116 (q := 117) rfl rfl rfl ?_
      refine g_iload_n C 2 dX6_findLeast_117 (q := 118) rfl rfl rfl ?_
      obtain ⟨p6, hp6, h⟩ := g_bind h
      refine g_callV C (k := 43) (as := [.int x2]) (st := []) (m_X6_add hp6) (g_hR (by decide)) (by decide) (by decide) (gc_43 Y _ _) rfl kM_X6_31 kI_X6_add kS_X6_add kN_X6 kC_X6_add kD_X6_add rfl (Nat.le_of_ble_eq_true rfl) dX6_findLeast_118 (q := 121) rfl ?_
      show g_G 5 X Y 121 [(0, g_r Y 43), (1, g_r Y 41), (2, .int x2), (3, .int x3)] [] p6
      refine g_iinc C (k := 2) (v := x2 + 1) dX6_findLeast_121 (q := 124) rfl rfl rfl (by decide) (lv' := [(2, .int (x2 + 1)), (0, g_r Y 43), (1, g_r Y 41), (3, .int x3)]) rfl ?_
      refine g_goto C dX6_findLeast_124 (tgt := 7) (by decide) ?_
      refine g_sub [1, 2, 0] (lv' := [(0, g_r Y 43), (1, g_r Y 41), (2, .int (x2 + 1))]) rfl ?_
      exact ih (x2 + 1) p6 h
theorem r_X6_findLeast_43_41_102 {p : g_M} {k : Int32 → g_M → Option (g_M)} (ih : ∀ (x2 : Int32) (M : g_M), k x2 M = some p → g_fr [44, 45] [(43, 1)] M p) (x2 : Int32) (x3 : Int32) (s0 : Int32) (s1 : Int32) (M : g_M) (h : f_X6_findLeast_43_41_102 k x2 x3 s0 s1 M = some p) : g_fr [44, 45] [(43, 1)] M p := by
  unfold f_X6_findLeast_43_41_102 at h
  have hf := g_fr.rfl (S := [44, 45]) (T := [(43, 1)]) (M := M)
  obtain ⟨z4, -, h⟩ := g_bind h
  obtain ⟨M3, hM3, h⟩ := g_bind h
  have hf := hf.st hM3 (by decide)
  obtain ⟨v5, -, h⟩ := g_bind h
  rcases g_ifs h with h | h
  · exact hf.trans (ih (x2 + 1) M3 h)
  · rcases g_ifs h with h | h
    · obtain ⟨p6, hp6, h⟩ := g_bind h
      have hf := hf.trans ((r_X6_add hp6).mono (by decide) (by decide))
      exact hf.trans (ih (x2 + 1) p6 h)
    · exact hf.trans (ih (x2 + 1) M3 h)
def f_X6_findLeast_43_41_79 (k : Int32 → g_M → Option (g_M)) (x2 : Int32) (x3 : Int32) (M : g_M) : Option (g_M) :=
  (if x3 = 0 then ((g_ld M 42 1024 x2).bind fun v7 => (if v7 = 0 then (f_X6_findLeast_43_41_102 k x2 x3 0 x2 M) else (f_X6_findLeast_43_41_102 k x2 x3 1 x2 M))) else (f_X6_findLeast_43_41_102 k x2 x3 1 x2 M))
set_option maxRecDepth 100000 in
theorem t_X6_findLeast_43_41_79 {l : Launch} {X : g_X} {Y : g_Y} {p : g_M} {k : Int32 → g_M → Option (g_M)} (C : g_C l (g_rm (1)) RX6 cX6_findLeast 5 X Y) (E : g_E none X Y none p) (ih : ∀ (x2 : Int32) (M : g_M), k x2 M = some p → g_G 5 X Y 7 [(0, g_r Y 43), (1, g_r Y 41), (2, .int x2)] [] M) (x2 : Int32) (x3 : Int32) (M : g_M) (h : f_X6_findLeast_43_41_79 k x2 x3 M = some p) : g_G 5 X Y 79 [(0, g_r Y 43), (1, g_r Y 41), (2, .int x2), (3, .int x3)] [] M := by
  unfold f_X6_findLeast_43_41_79 at h
  refine g_aload_n C 0 dX6_findLeast_79 (q := 80) rfl rfl rfl ?_
  refine g_get C (k := 43) (i := 2) (by decide) (gc_43 Y _ _) rfl kU_X6 (by decide) kF_X6_15 rfl dX6_findLeast_80 (q := 83) rfl ?_
  refine g_iload_n C 2 dX6_findLeast_83 (q := 84) rfl rfl rfl ?_
  refine g_iload_n C 3 dX6_findLeast_84 (q := 85) rfl rfl rfl ?_
  have hif := g_if h
  clear h
  refine g_if_ne C dX6_findLeast_85 (q := 88) (tgt := 97) rfl (by decide) (fun c => ?_) (fun c => ?_)
  · have h := hif.2 c
    clear hif
    refine g_iconst C (v := 1) dX6_findLeast_97 (q := 98) rfl (by decide) ?_
    refine g_goto C dX6_findLeast_98 (tgt := 102) (by decide) ?_
    refine g_sub [0, 1, 2, 3] (lv' := [(0, g_r Y 43), (1, g_r Y 41), (2, .int x2), (3, .int x3)]) rfl ?_
    exact t_X6_findLeast_43_41_102 C E ih x2 x3 1 x2 M h
  · have h := hif.1 c
    clear hif
    refine g_aload_n C 1 dX6_findLeast_88 (q := 89) rfl rfl rfl ?_
    refine g_get C (k := 41) (i := 0) (by decide) (gc_41 Y _ _) rfl kU_X1 (by decide) kF_X6_28 rfl dX6_findLeast_89 (q := 92) rfl ?_
    refine g_iload_n C 2 dX6_findLeast_92 (q := 93) rfl rfl rfl ?_
    obtain ⟨v7, hv7, h⟩ := g_bind h
    refine g_zald C (k := 42) (n := 1024) (by decide) (gc_42 Y _ _) hv7 dX6_findLeast_93 (q := 94) rfl ?_
    have hif := g_if h
    clear h
    refine g_if_eq C dX6_findLeast_94 (q := 97) (tgt := 101) rfl (by decide) (fun c => ?_) (fun c => ?_)
    · have h := hif.1 c
      clear hif
      refine g_iconst C (v := 0) dX6_findLeast_101 (q := 102) rfl (by decide) ?_
      refine g_sub [0, 1, 2, 3] (lv' := [(0, g_r Y 43), (1, g_r Y 41), (2, .int x2), (3, .int x3)]) rfl ?_
      exact t_X6_findLeast_43_41_102 C E ih x2 x3 0 x2 M h
    · have h := hif.2 c
      clear hif
      refine g_iconst C (v := 1) dX6_findLeast_97 (q := 98) rfl (by decide) ?_
      refine g_goto C dX6_findLeast_98 (tgt := 102) (by decide) ?_
      refine g_sub [0, 1, 2, 3] (lv' := [(0, g_r Y 43), (1, g_r Y 41), (2, .int x2), (3, .int x3)]) rfl ?_
      exact t_X6_findLeast_43_41_102 C E ih x2 x3 1 x2 M h
theorem r_X6_findLeast_43_41_79 {p : g_M} {k : Int32 → g_M → Option (g_M)} (ih : ∀ (x2 : Int32) (M : g_M), k x2 M = some p → g_fr [44, 45] [(43, 1)] M p) (x2 : Int32) (x3 : Int32) (M : g_M) (h : f_X6_findLeast_43_41_79 k x2 x3 M = some p) : g_fr [44, 45] [(43, 1)] M p := by
  unfold f_X6_findLeast_43_41_79 at h
  have hf := g_fr.rfl (S := [44, 45]) (T := [(43, 1)]) (M := M)
  rcases g_ifs h with h | h
  · obtain ⟨v7, -, h⟩ := g_bind h
    rcases g_ifs h with h | h
    · exact hf.trans (r_X6_findLeast_43_41_102 ih x2 x3 0 x2 M h)
    · exact hf.trans (r_X6_findLeast_43_41_102 ih x2 x3 1 x2 M h)
  · exact hf.trans (r_X6_findLeast_43_41_102 ih x2 x3 1 x2 M h)
def F_X6_findLeast_43_41_7 (k127 : g_M → Option (g_M)) (k : Int32 → g_M → Option (g_M)) (x2 : Int32) (M : g_M) : Option (g_M) :=
  (if (M.1 41 1) < x2 then (k127 M) else ((if (x2 &&& ((M.1 41 1) ^^^ (-1))) = 0 then (g_lp3 (F_X6_findLeast_43_41_31 (fun (x2 : Int32) (x3 : Int32) (M : g_M) => f_X6_findLeast_43_41_79 k x2 x3 M)) 20000000 x2 0 0 M) else (k (x2 + 1) M))))
set_option maxRecDepth 100000 in
theorem t_X6_findLeast_43_41_7 {l : Launch} {X : g_X} {Y : g_Y} {p : g_M} {k127 : g_M → Option (g_M)} (C : g_C l (g_rm (1)) RX6 cX6_findLeast 5 X Y) (E : g_E none X Y none p) (hk127 : ∀ (M : g_M), k127 M = some p → g_G 5 X Y 127 [] [] M) (n : Nat) : ∀ (x2 : Int32) (M : g_M), g_lp1 (F_X6_findLeast_43_41_7 k127) n x2 M = some p → g_G 5 X Y 7 [(0, g_r Y 43), (1, g_r Y 41), (2, .int x2)] [] M := by
  induction n with
  | zero => intro x2 M h; exact (g_nn h).elim
  | succ n ih =>
    intro x2 M h
    have h : F_X6_findLeast_43_41_7 k127 (g_lp1 (F_X6_findLeast_43_41_7 k127) n) x2 M = some p := h
    generalize g_lp1 (F_X6_findLeast_43_41_7 k127) n = k at h ih
    unfold F_X6_findLeast_43_41_7 at h
    refine g_iload_n C 2 dX6_findLeast_7 (q := 8) rfl rfl rfl ?_
    refine g_aload_n C 1 dX6_findLeast_8 (q := 9) rfl rfl rfl ?_
    refine g_get C (k := 41) (i := 1) (by decide) (gc_41 Y _ _) rfl kU_X1 (by decide) kF_X6_23 rfl dX6_findLeast_9 (q := 12) rfl ?_
    have hif := g_if h
    clear h
    refine g_icmp_gt C dX6_findLeast_12 (q := 15) (tgt := 127) rfl (by decide) (fun c => ?_) (fun c => ?_)
    · have h := hif.1 c
      clear hif
      refine g_sub [] (lv' := []) rfl ?_
      exact hk127 M h
    · have h := hif.2 c
      clear hif
      refine g_iload_n C 2 dX6_findLeast_15 (q := 16) rfl rfl rfl ?_
      refine g_aload_n C 1 dX6_findLeast_16 (q := 17) rfl rfl rfl ?_
      refine g_get C (k := 41) (i := 1) (by decide) (gc_41 Y _ _) rfl kU_X1 (by decide) kF_X6_23 rfl dX6_findLeast_17 (q := 20) rfl ?_
      refine g_iconst C (v := (-1)) dX6_findLeast_20 (q := 21) rfl (by decide) ?_
      refine g_ixor C dX6_findLeast_21 (q := 22) rfl ?_
      refine g_iand C dX6_findLeast_22 (q := 23) rfl ?_
      have hif := g_if h
      clear h
      refine g_if_ne C dX6_findLeast_23 (q := 26) (tgt := 121) rfl (by decide) (fun c => ?_) (fun c => ?_)
      · have h := hif.2 c
        clear hif
        refine g_iinc C (k := 2) (v := x2 + 1) dX6_findLeast_121 (q := 124) rfl rfl rfl (by decide) (lv' := [(2, .int (x2 + 1)), (0, g_r Y 43), (1, g_r Y 41)]) rfl ?_
        refine g_goto C dX6_findLeast_124 (tgt := 7) (by decide) ?_
        refine g_sub [1, 2, 0] (lv' := [(0, g_r Y 43), (1, g_r Y 41), (2, .int (x2 + 1))]) rfl ?_
        exact ih (x2 + 1) M h
      · have h := hif.1 c
        clear hif
        refine g_iconst C (v := 0) dX6_findLeast_26 (q := 27) rfl (by decide) ?_
        refine g_istore_n C dX6_findLeast_27 (q := 28) rfl rfl (by decide) (lv' := [(3, .int 0), (0, g_r Y 43), (1, g_r Y 41), (2, .int x2)]) rfl ?_
        refine g_iconst C (v := 0) dX6_findLeast_28 (q := 29) rfl (by decide) ?_
        refine g_istore C dX6_findLeast_29 (q := 31) rfl (by decide) (lv' := [(4, .int 0), (3, .int 0), (0, g_r Y 43), (1, g_r Y 41), (2, .int x2)]) rfl ?_
        refine g_sub [2, 3, 4, 1, 0] (lv' := [(0, g_r Y 43), (1, g_r Y 41), (2, .int x2), (3, .int 0), (4, .int 0)]) rfl ?_
        refine t_X6_findLeast_43_41_31 C E ?_ 20000000 x2 0 0 M h
        · intro x2 x3 M h
          try dsimp only at h
          refine g_sub [0, 1, 2, 3] (lv' := [(0, g_r Y 43), (1, g_r Y 41), (2, .int x2), (3, .int x3)]) rfl ?_
          exact t_X6_findLeast_43_41_79 C E ih x2 x3 M h
theorem r_X6_findLeast_43_41_7 {p : g_M} {k127 : g_M → Option (g_M)} (hk127 : ∀ (M : g_M), k127 M = some p → g_fr [44, 45] [(43, 1)] M p) (n : Nat) : ∀ (x2 : Int32) (M : g_M), g_lp1 (F_X6_findLeast_43_41_7 k127) n x2 M = some p → g_fr [44, 45] [(43, 1)] M p := by
  induction n with
  | zero => intro x2 M h; exact (g_nn h).elim
  | succ n ih =>
    intro x2 M h
    have h : F_X6_findLeast_43_41_7 k127 (g_lp1 (F_X6_findLeast_43_41_7 k127) n) x2 M = some p := h
    generalize g_lp1 (F_X6_findLeast_43_41_7 k127) n = k at h ih
    unfold F_X6_findLeast_43_41_7 at h
    have hf := g_fr.rfl (S := [44, 45]) (T := [(43, 1)]) (M := M)
    rcases g_ifs h with h | h
    · exact hf.trans (hk127 M h)
    · rcases g_ifs h with h | h
      · refine hf.trans (r_X6_findLeast_43_41_31 ?_ 20000000 x2 0 0 M h)
        · intro x2 x3 M h
          try dsimp only at h
          have hf := g_fr.rfl (S := [44, 45]) (T := [(43, 1)]) (M := M)
          exact hf.trans (r_X6_findLeast_43_41_79 ih x2 x3 M h)
      · exact hf.trans (ih (x2 + 1) M h)
def f_X6_findLeast_43_41 (M : g_M) : Option (g_M) :=
  (some (g_u M 43 1 0)).bind fun M1 => g_lp1 (F_X6_findLeast_43_41_7 (fun (M : g_M) => some M)) 20000000 0 M1
set_option maxRecDepth 100000 in
theorem m_X6_findLeast_43_41 {l : Launch} {Y : g_Y} {M : g_M} {p : g_M} (h : f_X6_findLeast_43_41 M = some p) : g_R l Y (1) yX6_findLeast cX6_findLeast 5 none [g_r Y 43, g_r Y 41] M none p := by
  unfold f_X6_findLeast_43_41 at h
  refine g_R_of kP_X6 rfl (Nat.le_of_ble_eq_true rfl) (fun X C E => ?_)
  show g_G 5 X Y 0 [(0, g_r Y 43), (1, g_r Y 41)] [] M
  refine g_aload_n C 0 dX6_findLeast_0 (q := 1) rfl rfl rfl ?_
  refine g_iconst C (v := 0) dX6_findLeast_1 (q := 2) rfl (by decide) ?_
  obtain ⟨M1, hM1, h⟩ := g_bind h
  refine g_put C (k := 43) (i := 1) (ty := .int) (by decide) (gc_43 Y _ _) (gp_43_1 Y _ _ _) rfl kU_X6 tyX6_ok nmX6 (by decide) kF_X6_19 rfl rfl rfl rfl (Nat.le_of_ble_eq_true rfl) dX6_findLeast_2 (q := 5) rfl ?_
  refine g_mem hM1 ?_
  refine g_iconst C (v := 0) dX6_findLeast_5 (q := 6) rfl (by decide) ?_
  refine g_istore_n C dX6_findLeast_6 (q := 7) rfl rfl (by decide) (lv' := [(2, .int 0), (0, g_r Y 43), (1, g_r Y 41)]) rfl ?_
  refine g_sub [1, 2, 0] (lv' := [(0, g_r Y 43), (1, g_r Y 41), (2, .int 0)]) rfl ?_
  refine t_X6_findLeast_43_41_7 C E ?_ 20000000 0 M1 h
  · intro M h
    try dsimp only at h
    obtain rfl := Option.some.inj h
    exact g_vret C E dX6_findLeast_127
theorem r_X6_findLeast_43_41 {M : g_M} {p : g_M} (h : f_X6_findLeast_43_41 M = some p) : g_fr [44, 45] [(43, 1)] M p := by
  unfold f_X6_findLeast_43_41 at h
  have hf := g_fr.rfl (S := [44, 45]) (T := [(43, 1)]) (M := M)
  obtain ⟨M1, hM1, h⟩ := g_bind h
  have hf := hf.pu hM1 (by decide)
  refine hf.trans (r_X6_findLeast_43_41_7 ?_ 20000000 0 M1 h)
  · intro M h
    try dsimp only at h
    have hf := g_fr.rfl (S := [44, 45]) (T := [(43, 1)]) (M := M)
    obtain rfl := Option.some.inj h
    exact hf
def F_X6_findMost_43_41_30 (k83 : Int32 → Int32 → g_M → Option (g_M)) (k : Int32 → Int32 → Int32 → g_M → Option (g_M)) (x2 : Int32) (x3 : Int32) (x4 : Int32) (M : g_M) : Option (g_M) :=
  (if 10 ≤ x4 then (k83 x2 x3 M) else ((if x3 = 0 then ((if (((M.1 41 1) &&& (x2 ^^^ (-1))) &&& ((1 : Int32) <<< (x4 &&& 31))) = 0 then (k x2 0 (x4 + 1) M) else ((g_ld M 45 1024 (x2 ||| ((1 : Int32) <<< (x4 &&& 31)))).bind fun v2 => (if v2 = 0 then (k x2 0 (x4 + 1) M) else (k x2 1 (x4 + 1) M))))) else (k83 x2 x3 M))))
set_option maxRecDepth 100000 in
theorem t_X6_findMost_43_41_30 {l : Launch} {X : g_X} {Y : g_Y} {p : g_M} {k83 : Int32 → Int32 → g_M → Option (g_M)} (C : g_C l (g_rm (1)) RX6 cX6_findMost 5 X Y) (E : g_E none X Y none p) (hk83 : ∀ (x2 : Int32) (x3 : Int32) (M : g_M), k83 x2 x3 M = some p → g_G 5 X Y 83 [(0, g_r Y 43), (1, g_r Y 41), (2, .int x2), (3, .int x3)] [] M) (n : Nat) : ∀ (x2 : Int32) (x3 : Int32) (x4 : Int32) (M : g_M), g_lp3 (F_X6_findMost_43_41_30 k83) n x2 x3 x4 M = some p → g_G 5 X Y 30 [(0, g_r Y 43), (1, g_r Y 41), (2, .int x2), (3, .int x3), (4, .int x4)] [] M := by
  induction n with
  | zero => intro x2 x3 x4 M h; exact (g_nn h).elim
  | succ n ih =>
    intro x2 x3 x4 M h
    have h : F_X6_findMost_43_41_30 k83 (g_lp3 (F_X6_findMost_43_41_30 k83) n) x2 x3 x4 M = some p := h
    generalize g_lp3 (F_X6_findMost_43_41_30 k83) n = k at h ih
    unfold F_X6_findMost_43_41_30 at h
    refine g_iload C 4 dX6_findMost_30 (q := 32) rfl rfl ?_
    refine g_bipush C (v := 10) dX6_findMost_32 (q := 34) rfl (by decide) ?_
    have hif := g_if h
    clear h
    refine g_icmp_ge C dX6_findMost_34 (q := 37) (tgt := 83) rfl (by decide) (fun c => ?_) (fun c => ?_)
    · have h := hif.1 c
      clear hif
      refine g_sub [0, 1, 2, 3] (lv' := [(0, g_r Y 43), (1, g_r Y 41), (2, .int x2), (3, .int x3)]) rfl ?_
      exact hk83 x2 x3 M h
    · have h := hif.2 c
      clear hif
      refine g_iload_n C 3 dX6_findMost_37 (q := 38) rfl rfl rfl ?_
      have hif := g_if h
      clear h
      refine g_if_ne C dX6_findMost_38 (q := 41) (tgt := 83) rfl (by decide) (fun c => ?_) (fun c => ?_)
      · have h := hif.2 c
        clear hif
        refine g_sub [0, 1, 2, 3] (lv' := [(0, g_r Y 43), (1, g_r Y 41), (2, .int x2), (3, .int x3)]) rfl ?_
        exact hk83 x2 x3 M h
      · have h := hif.1 c
        clear hif
        refine g_aload_n C 1 dX6_findMost_41 (q := 42) rfl rfl rfl ?_
        refine g_get C (k := 41) (i := 1) (by decide) (gc_41 Y _ _) rfl kU_X1 (by decide) kF_X6_23 rfl dX6_findMost_42 (q := 45) rfl ?_
        refine g_iload_n C 2 dX6_findMost_45 (q := 46) rfl rfl rfl ?_
        refine g_iconst C (v := (-1)) dX6_findMost_46 (q := 47) rfl (by decide) ?_
        refine g_ixor C dX6_findMost_47 (q := 48) rfl ?_
        refine g_iand C dX6_findMost_48 (q := 49) rfl ?_
        refine g_iconst C (v := 1) dX6_findMost_49 (q := 50) rfl (by decide) ?_
        refine g_iload C 4 dX6_findMost_50 (q := 52) rfl rfl ?_
        refine g_ishl C dX6_findMost_52 (q := 53) rfl ?_
        refine g_iand C dX6_findMost_53 (q := 54) rfl ?_
        have hif := g_if h
        clear h
        refine g_if_eq C dX6_findMost_54 (q := 57) (tgt := 75) rfl (by decide) (fun c => ?_) (fun c => ?_)
        · have h := hif.1 c
          clear hif
          refine g_iconst C (v := 0) dX6_findMost_75 (q := 76) rfl (by decide) ?_
          refine g_istore_n C dX6_findMost_76 (q := 77) rfl rfl (by decide) (lv' := [(3, .int 0), (0, g_r Y 43), (1, g_r Y 41), (2, .int x2), (4, .int x4)]) rfl ?_
          refine g_iinc C (k := 4) (v := x4 + 1) dX6_findMost_77 (q := 80) rfl rfl rfl (by decide) (lv' := [(4, .int (x4 + 1)), (3, .int 0), (0, g_r Y 43), (1, g_r Y 41), (2, .int x2)]) rfl ?_
          refine g_goto C dX6_findMost_80 (tgt := 30) (by decide) ?_
          refine g_sub [2, 3, 4, 1, 0] (lv' := [(0, g_r Y 43), (1, g_r Y 41), (2, .int x2), (3, .int 0), (4, .int (x4 + 1))]) rfl ?_
          exact ih x2 0 (x4 + 1) M h
        · have h := hif.2 c
          clear hif
          refine g_aload_n C 0 dX6_findMost_57 (q := 58) rfl rfl rfl ?_
          refine g_get C (k := 43) (i := 2) (by decide) (gc_43 Y _ _) rfl kU_X6 (by decide) kF_X6_15 rfl dX6_findMost_58 (q := 61) rfl ?_
          refine g_iload_n C 2 dX6_findMost_61 (q := 62) rfl rfl rfl ?_
          refine g_iconst C (v := 1) dX6_findMost_62 (q := 63) rfl (by decide) ?_
          refine g_iload C 4 dX6_findMost_63 (q := 65) rfl rfl ?_
          refine g_ishl C dX6_findMost_65 (q := 66) rfl ?_
          refine g_ior C dX6_findMost_66 (q := 67) rfl ?_
          obtain ⟨v2, hv2, h⟩ := g_bind h
          refine g_zald C (k := 45) (n := 1024) (by decide) (gc_45 Y _ _) hv2 dX6_findMost_67 (q := 68) rfl ?_
          have hif := g_if h
          clear h
          refine g_if_eq C dX6_findMost_68 (q := 71) (tgt := 75) rfl (by decide) (fun c => ?_) (fun c => ?_)
          · have h := hif.1 c
            clear hif
            refine g_iconst C (v := 0) dX6_findMost_75 (q := 76) rfl (by decide) ?_
            refine g_istore_n C dX6_findMost_76 (q := 77) rfl rfl (by decide) (lv' := [(3, .int 0), (0, g_r Y 43), (1, g_r Y 41), (2, .int x2), (4, .int x4)]) rfl ?_
            refine g_iinc C (k := 4) (v := x4 + 1) dX6_findMost_77 (q := 80) rfl rfl rfl (by decide) (lv' := [(4, .int (x4 + 1)), (3, .int 0), (0, g_r Y 43), (1, g_r Y 41), (2, .int x2)]) rfl ?_
            refine g_goto C dX6_findMost_80 (tgt := 30) (by decide) ?_
            refine g_sub [2, 3, 4, 1, 0] (lv' := [(0, g_r Y 43), (1, g_r Y 41), (2, .int x2), (3, .int 0), (4, .int (x4 + 1))]) rfl ?_
            exact ih x2 0 (x4 + 1) M h
          · have h := hif.2 c
            clear hif
            refine g_iconst C (v := 1) dX6_findMost_71 (q := 72) rfl (by decide) ?_
            refine g_goto C dX6_findMost_72 (tgt := 76) (by decide) ?_
            refine g_istore_n C dX6_findMost_76 (q := 77) rfl rfl (by decide) (lv' := [(3, .int 1), (0, g_r Y 43), (1, g_r Y 41), (2, .int x2), (4, .int x4)]) rfl ?_
            refine g_iinc C (k := 4) (v := x4 + 1) dX6_findMost_77 (q := 80) rfl rfl rfl (by decide) (lv' := [(4, .int (x4 + 1)), (3, .int 1), (0, g_r Y 43), (1, g_r Y 41), (2, .int x2)]) rfl ?_
            refine g_goto C dX6_findMost_80 (tgt := 30) (by decide) ?_
            refine g_sub [2, 3, 4, 1, 0] (lv' := [(0, g_r Y 43), (1, g_r Y 41), (2, .int x2), (3, .int 1), (4, .int (x4 + 1))]) rfl ?_
            exact ih x2 1 (x4 + 1) M h
theorem r_X6_findMost_43_41_30 {p : g_M} {k83 : Int32 → Int32 → g_M → Option (g_M)} (hk83 : ∀ (x2 : Int32) (x3 : Int32) (M : g_M), k83 x2 x3 M = some p → g_fr [44, 45] [(43, 1)] M p) (n : Nat) : ∀ (x2 : Int32) (x3 : Int32) (x4 : Int32) (M : g_M), g_lp3 (F_X6_findMost_43_41_30 k83) n x2 x3 x4 M = some p → g_fr [44, 45] [(43, 1)] M p := by
  induction n with
  | zero => intro x2 x3 x4 M h; exact (g_nn h).elim
  | succ n ih =>
    intro x2 x3 x4 M h
    have h : F_X6_findMost_43_41_30 k83 (g_lp3 (F_X6_findMost_43_41_30 k83) n) x2 x3 x4 M = some p := h
    generalize g_lp3 (F_X6_findMost_43_41_30 k83) n = k at h ih
    unfold F_X6_findMost_43_41_30 at h
    have hf := g_fr.rfl (S := [44, 45]) (T := [(43, 1)]) (M := M)
    rcases g_ifs h with h | h
    · exact hf.trans (hk83 x2 x3 M h)
    · rcases g_ifs h with h | h
      · rcases g_ifs h with h | h
        · exact hf.trans (ih x2 0 (x4 + 1) M h)
        · obtain ⟨v2, -, h⟩ := g_bind h
          rcases g_ifs h with h | h
          · exact hf.trans (ih x2 0 (x4 + 1) M h)
          · exact hf.trans (ih x2 1 (x4 + 1) M h)
      · exact hf.trans (hk83 x2 x3 M h)
def f_X6_findMost_43_41_106 (k : Int32 → g_M → Option (g_M)) (x2 : Int32) (x3 : Int32) (s0 : Int32) (s1 : Int32) (M : g_M) : Option (g_M) :=
  (g_bz s0).bind fun z4 => (g_st M 45 1024 s1 z4).bind fun M3 => (g_ld M3 45 1024 x2).bind fun v5 => (if v5 = 0 then (k (x2 + (-1)) M3) else ((if x3 = 0 then ((f_X6_add x2 M3).bind fun p6 => k (x2 + (-1)) p6) else (k (x2 + (-1)) M3))))
set_option maxRecDepth 100000 in
theorem t_X6_findMost_43_41_106 {l : Launch} {X : g_X} {Y : g_Y} {p : g_M} {k : Int32 → g_M → Option (g_M)} (C : g_C l (g_rm (1)) RX6 cX6_findMost 5 X Y) (E : g_E none X Y none p) (ih : ∀ (x2 : Int32) (M : g_M), k x2 M = some p → g_G 5 X Y 10 [(0, g_r Y 43), (1, g_r Y 41), (2, .int x2)] [] M) (x2 : Int32) (x3 : Int32) (s0 : Int32) (s1 : Int32) (M : g_M) (h : f_X6_findMost_43_41_106 k x2 x3 s0 s1 M = some p) : g_G 5 X Y 106 [(0, g_r Y 43), (1, g_r Y 41), (2, .int x2), (3, .int x3)] [.int s0, .int s1, g_r Y 45] M := by
  unfold f_X6_findMost_43_41_106 at h
  obtain ⟨z4, hz4, h⟩ := g_bind h
  obtain ⟨M3, hM3, h⟩ := g_bind h
  refine g_zast C (k := 45) (n := 1024) (by decide) (fun a => gc_45 Y a _) hz4 hM3 dX6_findMost_106 (q := 107) rfl ?_
  refine g_aload_n C 0 dX6_findMost_107 (q := 108) rfl rfl rfl ?_
  refine g_get C (k := 43) (i := 2) (by decide) (gc_43 Y _ _) rfl kU_X6 (by decide) kF_X6_15 rfl dX6_findMost_108 (q := 111) rfl ?_
  refine g_iload_n C 2 dX6_findMost_111 (q := 112) rfl rfl rfl ?_
  obtain ⟨v5, hv5, h⟩ := g_bind h
  refine g_zald C (k := 45) (n := 1024) (by decide) (gc_45 Y _ _) hv5 dX6_findMost_112 (q := 113) rfl ?_
  have hif := g_if h
  clear h
  refine g_if_eq C dX6_findMost_113 (q := 116) (tgt := 125) rfl (by decide) (fun c => ?_) (fun c => ?_)
  · have h := hif.1 c
    clear hif
    refine g_iinc C (k := 2) (v := x2 + (-1)) dX6_findMost_125 (q := 128) rfl rfl rfl (by decide) (lv' := [(2, .int (x2 + (-1))), (0, g_r Y 43), (1, g_r Y 41), (3, .int x3)]) rfl ?_
    refine g_goto C dX6_findMost_128 (tgt := 10) (by decide) ?_
    refine g_sub [1, 2, 0] (lv' := [(0, g_r Y 43), (1, g_r Y 41), (2, .int (x2 + (-1)))]) rfl ?_
    exact ih (x2 + (-1)) M3 h
  · have h := hif.2 c
    clear hif
    refine g_iload_n C 3 dX6_findMost_116 (q := 117) rfl rfl rfl ?_
    have hif := g_if h
    clear h
    refine g_if_ne C dX6_findMost_117 (q := 120) (tgt := 125) rfl (by decide) (fun c => ?_) (fun c => ?_)
    · have h := hif.2 c
      clear hif
      refine g_iinc C (k := 2) (v := x2 + (-1)) dX6_findMost_125 (q := 128) rfl rfl rfl (by decide) (lv' := [(2, .int (x2 + (-1))), (0, g_r Y 43), (1, g_r Y 41), (3, .int x3)]) rfl ?_
      refine g_goto C dX6_findMost_128 (tgt := 10) (by decide) ?_
      refine g_sub [1, 2, 0] (lv' := [(0, g_r Y 43), (1, g_r Y 41), (2, .int (x2 + (-1)))]) rfl ?_
      exact ih (x2 + (-1)) M3 h
    · have h := hif.1 c
      clear hif
      refine g_aload_n C 0 dX6_findMost_120 (q := 121) rfl rfl rfl ?_
      refine g_iload_n C 2 dX6_findMost_121 (q := 122) rfl rfl rfl ?_
      obtain ⟨p6, hp6, h⟩ := g_bind h
      refine g_callV C (k := 43) (as := [.int x2]) (st := []) (m_X6_add hp6) (g_hR (by decide)) (by decide) (by decide) (gc_43 Y _ _) rfl kM_X6_31 kI_X6_add kS_X6_add kN_X6 kC_X6_add kD_X6_add rfl (Nat.le_of_ble_eq_true rfl) dX6_findMost_122 (q := 125) rfl ?_
      show g_G 5 X Y 125 [(0, g_r Y 43), (1, g_r Y 41), (2, .int x2), (3, .int x3)] [] p6
      refine g_iinc C (k := 2) (v := x2 + (-1)) dX6_findMost_125 (q := 128) rfl rfl rfl (by decide) (lv' := [(2, .int (x2 + (-1))), (0, g_r Y 43), (1, g_r Y 41), (3, .int x3)]) rfl ?_
      refine g_goto C dX6_findMost_128 (tgt := 10) (by decide) ?_
      refine g_sub [1, 2, 0] (lv' := [(0, g_r Y 43), (1, g_r Y 41), (2, .int (x2 + (-1)))]) rfl ?_
      exact ih (x2 + (-1)) p6 h
theorem r_X6_findMost_43_41_106 {p : g_M} {k : Int32 → g_M → Option (g_M)} (ih : ∀ (x2 : Int32) (M : g_M), k x2 M = some p → g_fr [44, 45] [(43, 1)] M p) (x2 : Int32) (x3 : Int32) (s0 : Int32) (s1 : Int32) (M : g_M) (h : f_X6_findMost_43_41_106 k x2 x3 s0 s1 M = some p) : g_fr [44, 45] [(43, 1)] M p := by
  unfold f_X6_findMost_43_41_106 at h
  have hf := g_fr.rfl (S := [44, 45]) (T := [(43, 1)]) (M := M)
  obtain ⟨z4, -, h⟩ := g_bind h
  obtain ⟨M3, hM3, h⟩ := g_bind h
  have hf := hf.st hM3 (by decide)
  obtain ⟨v5, -, h⟩ := g_bind h
  rcases g_ifs h with h | h
  · exact hf.trans (ih (x2 + (-1)) M3 h)
  · rcases g_ifs h with h | h
    · obtain ⟨p6, hp6, h⟩ := g_bind h
      have hf := hf.trans ((r_X6_add hp6).mono (by decide) (by decide))
      exact hf.trans (ih (x2 + (-1)) p6 h)
    · exact hf.trans (ih (x2 + (-1)) M3 h)
def f_X6_findMost_43_41_83 (k : Int32 → g_M → Option (g_M)) (x2 : Int32) (x3 : Int32) (M : g_M) : Option (g_M) :=
  (if x3 = 0 then ((g_ld M 42 1024 x2).bind fun v7 => (if v7 = 0 then (f_X6_findMost_43_41_106 k x2 x3 1 x2 M) else (f_X6_findMost_43_41_106 k x2 x3 0 x2 M))) else (f_X6_findMost_43_41_106 k x2 x3 1 x2 M))
set_option maxRecDepth 100000 in
theorem t_X6_findMost_43_41_83 {l : Launch} {X : g_X} {Y : g_Y} {p : g_M} {k : Int32 → g_M → Option (g_M)} (C : g_C l (g_rm (1)) RX6 cX6_findMost 5 X Y) (E : g_E none X Y none p) (ih : ∀ (x2 : Int32) (M : g_M), k x2 M = some p → g_G 5 X Y 10 [(0, g_r Y 43), (1, g_r Y 41), (2, .int x2)] [] M) (x2 : Int32) (x3 : Int32) (M : g_M) (h : f_X6_findMost_43_41_83 k x2 x3 M = some p) : g_G 5 X Y 83 [(0, g_r Y 43), (1, g_r Y 41), (2, .int x2), (3, .int x3)] [] M := by
  unfold f_X6_findMost_43_41_83 at h
  refine g_aload_n C 0 dX6_findMost_83 (q := 84) rfl rfl rfl ?_
  refine g_get C (k := 43) (i := 2) (by decide) (gc_43 Y _ _) rfl kU_X6 (by decide) kF_X6_15 rfl dX6_findMost_84 (q := 87) rfl ?_
  refine g_iload_n C 2 dX6_findMost_87 (q := 88) rfl rfl rfl ?_
  refine g_iload_n C 3 dX6_findMost_88 (q := 89) rfl rfl rfl ?_
  have hif := g_if h
  clear h
  refine g_if_ne C dX6_findMost_89 (q := 92) (tgt := 101) rfl (by decide) (fun c => ?_) (fun c => ?_)
  · have h := hif.2 c
    clear hif
    refine g_iconst C (v := 1) dX6_findMost_101 (q := 102) rfl (by decide) ?_
    refine g_goto C dX6_findMost_102 (tgt := 106) (by decide) ?_
    refine g_sub [0, 1, 2, 3] (lv' := [(0, g_r Y 43), (1, g_r Y 41), (2, .int x2), (3, .int x3)]) rfl ?_
    exact t_X6_findMost_43_41_106 C E ih x2 x3 1 x2 M h
  · have h := hif.1 c
    clear hif
    refine g_aload_n C 1 dX6_findMost_92 (q := 93) rfl rfl rfl ?_
    refine g_get C (k := 41) (i := 0) (by decide) (gc_41 Y _ _) rfl kU_X1 (by decide) kF_X6_28 rfl dX6_findMost_93 (q := 96) rfl ?_
    refine g_iload_n C 2 dX6_findMost_96 (q := 97) rfl rfl rfl ?_
    obtain ⟨v7, hv7, h⟩ := g_bind h
    refine g_zald C (k := 42) (n := 1024) (by decide) (gc_42 Y _ _) hv7 dX6_findMost_97 (q := 98) rfl ?_
    have hif := g_if h
    clear h
    refine g_if_ne C dX6_findMost_98 (q := 101) (tgt := 105) rfl (by decide) (fun c => ?_) (fun c => ?_)
    · have h := hif.2 c
      clear hif
      refine g_iconst C (v := 0) dX6_findMost_105 (q := 106) rfl (by decide) ?_
      refine g_sub [0, 1, 2, 3] (lv' := [(0, g_r Y 43), (1, g_r Y 41), (2, .int x2), (3, .int x3)]) rfl ?_
      exact t_X6_findMost_43_41_106 C E ih x2 x3 0 x2 M h
    · have h := hif.1 c
      clear hif
      refine g_iconst C (v := 1) dX6_findMost_101 (q := 102) rfl (by decide) ?_
      refine g_goto C dX6_findMost_102 (tgt := 106) (by decide) ?_
      refine g_sub [0, 1, 2, 3] (lv' := [(0, g_r Y 43), (1, g_r Y 41), (2, .int x2), (3, .int x3)]) rfl ?_
      exact t_X6_findMost_43_41_106 C E ih x2 x3 1 x2 M h
theorem r_X6_findMost_43_41_83 {p : g_M} {k : Int32 → g_M → Option (g_M)} (ih : ∀ (x2 : Int32) (M : g_M), k x2 M = some p → g_fr [44, 45] [(43, 1)] M p) (x2 : Int32) (x3 : Int32) (M : g_M) (h : f_X6_findMost_43_41_83 k x2 x3 M = some p) : g_fr [44, 45] [(43, 1)] M p := by
  unfold f_X6_findMost_43_41_83 at h
  have hf := g_fr.rfl (S := [44, 45]) (T := [(43, 1)]) (M := M)
  rcases g_ifs h with h | h
  · obtain ⟨v7, -, h⟩ := g_bind h
    rcases g_ifs h with h | h
    · exact hf.trans (r_X6_findMost_43_41_106 ih x2 x3 1 x2 M h)
    · exact hf.trans (r_X6_findMost_43_41_106 ih x2 x3 0 x2 M h)
  · exact hf.trans (r_X6_findMost_43_41_106 ih x2 x3 1 x2 M h)
def F_X6_findMost_43_41_10 (k131 : g_M → Option (g_M)) (k : Int32 → g_M → Option (g_M)) (x2 : Int32) (M : g_M) : Option (g_M) :=
  (if x2 < 0 then (k131 M) else ((if (x2 &&& ((M.1 41 1) ^^^ (-1))) = 0 then (g_lp3 (F_X6_findMost_43_41_30 (fun (x2 : Int32) (x3 : Int32) (M : g_M) => f_X6_findMost_43_41_83 k x2 x3 M)) 20000000 x2 0 0 M) else (k (x2 + (-1)) M))))
set_option maxRecDepth 100000 in
theorem t_X6_findMost_43_41_10 {l : Launch} {X : g_X} {Y : g_Y} {p : g_M} {k131 : g_M → Option (g_M)} (C : g_C l (g_rm (1)) RX6 cX6_findMost 5 X Y) (E : g_E none X Y none p) (hk131 : ∀ (M : g_M), k131 M = some p → g_G 5 X Y 131 [(0, g_r Y 43)] [] M) (n : Nat) : ∀ (x2 : Int32) (M : g_M), g_lp1 (F_X6_findMost_43_41_10 k131) n x2 M = some p → g_G 5 X Y 10 [(0, g_r Y 43), (1, g_r Y 41), (2, .int x2)] [] M := by
  induction n with
  | zero => intro x2 M h; exact (g_nn h).elim
  | succ n ih =>
    intro x2 M h
    have h : F_X6_findMost_43_41_10 k131 (g_lp1 (F_X6_findMost_43_41_10 k131) n) x2 M = some p := h
    generalize g_lp1 (F_X6_findMost_43_41_10 k131) n = k at h ih
    unfold F_X6_findMost_43_41_10 at h
    refine g_iload_n C 2 dX6_findMost_10 (q := 11) rfl rfl rfl ?_
    have hif := g_if h
    clear h
    refine g_if_lt C dX6_findMost_11 (q := 14) (tgt := 131) rfl (by decide) (fun c => ?_) (fun c => ?_)
    · have h := hif.1 c
      clear hif
      refine g_sub [0] (lv' := [(0, g_r Y 43)]) rfl ?_
      exact hk131 M h
    · have h := hif.2 c
      clear hif
      refine g_iload_n C 2 dX6_findMost_14 (q := 15) rfl rfl rfl ?_
      refine g_aload_n C 1 dX6_findMost_15 (q := 16) rfl rfl rfl ?_
      refine g_get C (k := 41) (i := 1) (by decide) (gc_41 Y _ _) rfl kU_X1 (by decide) kF_X6_23 rfl dX6_findMost_16 (q := 19) rfl ?_
      refine g_iconst C (v := (-1)) dX6_findMost_19 (q := 20) rfl (by decide) ?_
      refine g_ixor C dX6_findMost_20 (q := 21) rfl ?_
      refine g_iand C dX6_findMost_21 (q := 22) rfl ?_
      have hif := g_if h
      clear h
      refine g_if_ne C dX6_findMost_22 (q := 25) (tgt := 125) rfl (by decide) (fun c => ?_) (fun c => ?_)
      · have h := hif.2 c
        clear hif
        refine g_iinc C (k := 2) (v := x2 + (-1)) dX6_findMost_125 (q := 128) rfl rfl rfl (by decide) (lv' := [(2, .int (x2 + (-1))), (0, g_r Y 43), (1, g_r Y 41)]) rfl ?_
        refine g_goto C dX6_findMost_128 (tgt := 10) (by decide) ?_
        refine g_sub [1, 2, 0] (lv' := [(0, g_r Y 43), (1, g_r Y 41), (2, .int (x2 + (-1)))]) rfl ?_
        exact ih (x2 + (-1)) M h
      · have h := hif.1 c
        clear hif
        refine g_iconst C (v := 0) dX6_findMost_25 (q := 26) rfl (by decide) ?_
        refine g_istore_n C dX6_findMost_26 (q := 27) rfl rfl (by decide) (lv' := [(3, .int 0), (0, g_r Y 43), (1, g_r Y 41), (2, .int x2)]) rfl ?_
        refine g_iconst C (v := 0) dX6_findMost_27 (q := 28) rfl (by decide) ?_
        refine g_istore C dX6_findMost_28 (q := 30) rfl (by decide) (lv' := [(4, .int 0), (3, .int 0), (0, g_r Y 43), (1, g_r Y 41), (2, .int x2)]) rfl ?_
        refine g_sub [2, 3, 4, 1, 0] (lv' := [(0, g_r Y 43), (1, g_r Y 41), (2, .int x2), (3, .int 0), (4, .int 0)]) rfl ?_
        refine t_X6_findMost_43_41_30 C E ?_ 20000000 x2 0 0 M h
        · intro x2 x3 M h
          try dsimp only at h
          refine g_sub [0, 1, 2, 3] (lv' := [(0, g_r Y 43), (1, g_r Y 41), (2, .int x2), (3, .int x3)]) rfl ?_
          exact t_X6_findMost_43_41_83 C E ih x2 x3 M h
theorem r_X6_findMost_43_41_10 {p : g_M} {k131 : g_M → Option (g_M)} (hk131 : ∀ (M : g_M), k131 M = some p → g_fr [44, 45] [(43, 1)] M p) (n : Nat) : ∀ (x2 : Int32) (M : g_M), g_lp1 (F_X6_findMost_43_41_10 k131) n x2 M = some p → g_fr [44, 45] [(43, 1)] M p := by
  induction n with
  | zero => intro x2 M h; exact (g_nn h).elim
  | succ n ih =>
    intro x2 M h
    have h : F_X6_findMost_43_41_10 k131 (g_lp1 (F_X6_findMost_43_41_10 k131) n) x2 M = some p := h
    generalize g_lp1 (F_X6_findMost_43_41_10 k131) n = k at h ih
    unfold F_X6_findMost_43_41_10 at h
    have hf := g_fr.rfl (S := [44, 45]) (T := [(43, 1)]) (M := M)
    rcases g_ifs h with h | h
    · exact hf.trans (hk131 M h)
    · rcases g_ifs h with h | h
      · refine hf.trans (r_X6_findMost_43_41_30 ?_ 20000000 x2 0 0 M h)
        · intro x2 x3 M h
          try dsimp only at h
          have hf := g_fr.rfl (S := [44, 45]) (T := [(43, 1)]) (M := M)
          exact hf.trans (r_X6_findMost_43_41_83 ih x2 x3 M h)
      · exact hf.trans (ih (x2 + (-1)) M h)
def f_X6_findMost_43_41 (M : g_M) : Option (g_M) :=
  (some (g_u M 43 1 0)).bind fun M1 => g_lp1 (F_X6_findMost_43_41_10 (fun (M : g_M) => (f_X6_turn M).bind fun p8 => some p8)) 20000000 (M1.1 41 1) M1
set_option maxRecDepth 100000 in
theorem m_X6_findMost_43_41 {l : Launch} {Y : g_Y} {M : g_M} {p : g_M} (h : f_X6_findMost_43_41 M = some p) : g_R l Y (1) yX6_findMost cX6_findMost 5 none [g_r Y 43, g_r Y 41] M none p := by
  unfold f_X6_findMost_43_41 at h
  refine g_R_of kP_X6 rfl (Nat.le_of_ble_eq_true rfl) (fun X C E => ?_)
  show g_G 5 X Y 0 [(0, g_r Y 43), (1, g_r Y 41)] [] M
  refine g_aload_n C 0 dX6_findMost_0 (q := 1) rfl rfl rfl ?_
  refine g_iconst C (v := 0) dX6_findMost_1 (q := 2) rfl (by decide) ?_
  obtain ⟨M1, hM1, h⟩ := g_bind h
  refine g_put C (k := 43) (i := 1) (ty := .int) (by decide) (gc_43 Y _ _) (gp_43_1 Y _ _ _) rfl kU_X6 tyX6_ok nmX6 (by decide) kF_X6_19 rfl rfl rfl rfl (Nat.le_of_ble_eq_true rfl) dX6_findMost_2 (q := 5) rfl ?_
  refine g_mem hM1 ?_
  refine g_aload_n C 1 dX6_findMost_5 (q := 6) rfl rfl rfl ?_
  refine g_get C (k := 41) (i := 1) (by decide) (gc_41 Y _ _) rfl kU_X1 (by decide) kF_X6_23 rfl dX6_findMost_6 (q := 9) rfl ?_
  refine g_istore_n C dX6_findMost_9 (q := 10) rfl rfl (by decide) (lv' := [(2, .int (M1.1 41 1)), (0, g_r Y 43), (1, g_r Y 41)]) rfl ?_
  refine g_sub [1, 2, 0] (lv' := [(0, g_r Y 43), (1, g_r Y 41), (2, .int (M1.1 41 1))]) rfl ?_
  refine t_X6_findMost_43_41_10 C E ?_ 20000000 (M1.1 41 1) M1 h
  · intro M h
    try dsimp only at h
    refine g_aload_n C 0 dX6_findMost_131 (q := 132) rfl rfl rfl ?_
    obtain ⟨p8, hp8, h⟩ := g_bind h
    refine g_callV C (k := 43) (as := []) (st := []) (m_X6_turn hp8) (g_hR (by decide)) (by decide) (by decide) (gc_43 Y _ _) rfl kM_X6_35 kI_X6_turn kS_X6_turn kN_X6 kC_X6_turn kD_X6_turn rfl (Nat.le_of_ble_eq_true rfl) dX6_findMost_132 (q := 135) rfl ?_
    show g_G 5 X Y 135 [(0, g_r Y 43)] [] p8
    obtain rfl := Option.some.inj h
    exact g_vret C E dX6_findMost_135
theorem r_X6_findMost_43_41 {M : g_M} {p : g_M} (h : f_X6_findMost_43_41 M = some p) : g_fr [44, 45] [(43, 1)] M p := by
  unfold f_X6_findMost_43_41 at h
  have hf := g_fr.rfl (S := [44, 45]) (T := [(43, 1)]) (M := M)
  obtain ⟨M1, hM1, h⟩ := g_bind h
  have hf := hf.pu hM1 (by decide)
  refine hf.trans (r_X6_findMost_43_41_10 ?_ 20000000 (M1.1 41 1) M1 h)
  · intro M h
    try dsimp only at h
    have hf := g_fr.rfl (S := [44, 45]) (T := [(43, 1)]) (M := M)
    obtain ⟨p8, hp8, h⟩ := g_bind h
    have hf := hf.trans ((r_X6_turn hp8).mono (by decide) (by decide))
    obtain rfl := Option.some.inj h
    exact hf
def f_X0_emptyRings (M : g_M) : Option (g_M) :=
  (f_J7_fill_53178_5 0 M).bind fun p1 => (some (g_u p1 3 3 ((p1.1 3 3) + 1))).bind fun M2 => some M2
set_option maxRecDepth 100000 in
theorem m_X0_emptyRings {l : Launch} {Y : g_Y} {M : g_M} {p : g_M} (h : f_X0_emptyRings M = some p) : g_R l Y (1) yX0_emptyRings cX0_emptyRings 1 none [g_r Y 3] M none p := by
  unfold f_X0_emptyRings at h
  refine g_R_of kP_X0 rfl (Nat.le_of_ble_eq_true rfl) (fun X C E => ?_)
  show g_G 1 X Y 0 [(0, g_r Y 3)] [] M
  refine g_aload_n C 0 dX0_emptyRings_0 (q := 1) rfl rfl rfl ?_
  refine g_get C (k := 3) (i := 5) (by decide) (gc_3 Y _ _) rfl kU_X0 (by decide) kF_X0_15 rfl dX0_emptyRings_1 (q := 4) rfl ?_
  refine g_iconst C (v := 0) dX0_emptyRings_4 (q := 5) rfl (by decide) ?_
  obtain ⟨p1, hp1, h⟩ := g_bind h
  refine g_callS C (as := [g_r Y 5, .int 0]) (st := []) (m_J7_fill_53178_5 hp1) (g_hR (by decide)) (by decide) kM_X0_38 kT_J7_fill_53178 kN_J7 kC_J7_fill_53178 kD_J7_fill_53178 rfl (Nat.le_of_ble_eq_true rfl) dX0_emptyRings_5 (q := 8) rfl ?_
  show g_G 1 X Y 8 [(0, g_r Y 3)] [] p1
  refine g_aload_n C 0 dX0_emptyRings_8 (q := 9) rfl rfl rfl ?_
  refine g_dup C dX0_emptyRings_9 (q := 10) rfl rfl ?_
  refine g_get C (k := 3) (i := 3) (by decide) (gc_3 Y _ _) rfl kU_X0 (by decide) kF_X0_31 rfl dX0_emptyRings_10 (q := 13) rfl ?_
  refine g_iconst C (v := 1) dX0_emptyRings_13 (q := 14) rfl (by decide) ?_
  refine g_iadd C dX0_emptyRings_14 (q := 15) rfl ?_
  obtain ⟨M2, hM2, h⟩ := g_bind h
  refine g_put C (k := 3) (i := 3) (ty := .int) (by decide) (gc_3 Y _ _) (gp_3_3 Y _ _ _) rfl kU_X0 tyX0_ok nmX0 (by decide) kF_X0_31 rfl rfl rfl rfl (Nat.le_of_ble_eq_true rfl) dX0_emptyRings_15 (q := 18) rfl ?_
  refine g_mem hM2 ?_
  obtain rfl := Option.some.inj h
  exact g_vret C E dX0_emptyRings_18
theorem r_X0_emptyRings {M : g_M} {p : g_M} (h : f_X0_emptyRings M = some p) : g_fr [5] [(3, 3)] M p := by
  unfold f_X0_emptyRings at h
  have hf := g_fr.rfl (S := [5]) (T := [(3, 3)]) (M := M)
  obtain ⟨p1, hp1, h⟩ := g_bind h
  have hf := hf.trans ((r_J7_fill_53178_5 hp1).mono (by decide) (by decide))
  obtain ⟨M2, hM2, h⟩ := g_bind h
  have hf := hf.pu hM2 (by decide)
  obtain rfl := Option.some.inj h
  exact hf
def F_X0_giveKey_2 (k32 : g_M → Option (g_M)) (k : Int32 → Int32 → Int32 → g_M → Option (g_M)) (x1 : Int32) (x2 : Int32) (x3 : Int32) (M : g_M) : Option (g_M) :=
  (if (M.1 3 0) ≤ x3 then (k32 M) else ((if ((x1 >>> (x3 &&& 31)) &&& 1) = 0 then (k x1 x2 (x3 + 1) M) else ((f_X0_setKey x3 x2 1 M).bind fun p1 => k x1 x2 (x3 + 1) p1.2))))
set_option maxRecDepth 100000 in
theorem t_X0_giveKey_2 {l : Launch} {X : g_X} {Y : g_Y} {p : g_M} {k32 : g_M → Option (g_M)} (C : g_C l (g_rm (1)) RX0 cX0_giveKey 4 X Y) (E : g_E none X Y none p) (hk32 : ∀ (M : g_M), k32 M = some p → g_G 4 X Y 32 [] [] M) (n : Nat) : ∀ (x1 : Int32) (x2 : Int32) (x3 : Int32) (M : g_M), g_lp3 (F_X0_giveKey_2 k32) n x1 x2 x3 M = some p → g_G 4 X Y 2 [(0, g_r Y 3), (1, .int x1), (2, .int x2), (3, .int x3)] [] M := by
  induction n with
  | zero => intro x1 x2 x3 M h; exact (g_nn h).elim
  | succ n ih =>
    intro x1 x2 x3 M h
    have h : F_X0_giveKey_2 k32 (g_lp3 (F_X0_giveKey_2 k32) n) x1 x2 x3 M = some p := h
    generalize g_lp3 (F_X0_giveKey_2 k32) n = k at h ih
    unfold F_X0_giveKey_2 at h
    refine g_iload_n C 3 dX0_giveKey_2 (q := 3) rfl rfl rfl ?_
    refine g_aload_n C 0 dX0_giveKey_3 (q := 4) rfl rfl rfl ?_
    refine g_get C (k := 3) (i := 0) (by decide) (gc_3 Y _ _) rfl kU_X0 (by decide) kF_X0_24 rfl dX0_giveKey_4 (q := 7) rfl ?_
    have hif := g_if h
    clear h
    refine g_icmp_ge C dX0_giveKey_7 (q := 10) (tgt := 32) rfl (by decide) (fun c => ?_) (fun c => ?_)
    · have h := hif.1 c
      clear hif
      refine g_sub [] (lv' := []) rfl ?_
      exact hk32 M h
    · have h := hif.2 c
      clear hif
      refine g_iload_n C 1 dX0_giveKey_10 (q := 11) rfl rfl rfl ?_
      refine g_iload_n C 3 dX0_giveKey_11 (q := 12) rfl rfl rfl ?_
      refine g_ishr C dX0_giveKey_12 (q := 13) rfl ?_
      refine g_iconst C (v := 1) dX0_giveKey_13 (q := 14) rfl (by decide) ?_
      refine g_iand C dX0_giveKey_14 (q := 15) rfl ?_
      have hif := g_if h
      clear h
      refine g_if_eq C dX0_giveKey_15 (q := 18) (tgt := 26) rfl (by decide) (fun c => ?_) (fun c => ?_)
      · have h := hif.1 c
        clear hif
        refine g_iinc C (k := 3) (v := x3 + 1) dX0_giveKey_26 (q := 29) rfl rfl rfl (by decide) (lv' := [(3, .int (x3 + 1)), (0, g_r Y 3), (1, .int x1), (2, .int x2)]) rfl ?_
        refine g_goto C dX0_giveKey_29 (tgt := 2) (by decide) ?_
        refine g_sub [1, 2, 3, 0] (lv' := [(0, g_r Y 3), (1, .int x1), (2, .int x2), (3, .int (x3 + 1))]) rfl ?_
        exact ih x1 x2 (x3 + 1) M h
      · have h := hif.2 c
        clear hif
        refine g_aload_n C 0 dX0_giveKey_18 (q := 19) rfl rfl rfl ?_
        refine g_iload_n C 3 dX0_giveKey_19 (q := 20) rfl rfl rfl ?_
        refine g_iload_n C 2 dX0_giveKey_20 (q := 21) rfl rfl rfl ?_
        refine g_iconst C (v := 1) dX0_giveKey_21 (q := 22) rfl (by decide) ?_
        obtain ⟨p1, hp1, h⟩ := g_bind h
        refine g_callV C (k := 3) (as := [.int x3, .int x2, .int 1]) (st := []) (m_X0_setKey hp1) (g_hR (by decide)) (by decide) (by decide) (gc_3 Y _ _) rfl kM_X0_34 kI_X0_setKey kS_X0_setKey kN_X0 kC_X0_setKey kD_X0_setKey rfl (Nat.le_of_ble_eq_true rfl) dX0_giveKey_22 (q := 25) rfl ?_
        show g_G 4 X Y 25 [(0, g_r Y 3), (1, .int x1), (2, .int x2), (3, .int x3)] [.int p1.1] p1.2
        refine g_pop C dX0_giveKey_25 (q := 26) rfl rfl ?_
        refine g_iinc C (k := 3) (v := x3 + 1) dX0_giveKey_26 (q := 29) rfl rfl rfl (by decide) (lv' := [(3, .int (x3 + 1)), (0, g_r Y 3), (1, .int x1), (2, .int x2)]) rfl ?_
        refine g_goto C dX0_giveKey_29 (tgt := 2) (by decide) ?_
        refine g_sub [1, 2, 3, 0] (lv' := [(0, g_r Y 3), (1, .int x1), (2, .int x2), (3, .int (x3 + 1))]) rfl ?_
        exact ih x1 x2 (x3 + 1) p1.2 h
theorem r_X0_giveKey_2 {p : g_M} {k32 : g_M → Option (g_M)} (hk32 : ∀ (M : g_M), k32 M = some p → g_fr [5] [(3, 3)] M p) (n : Nat) : ∀ (x1 : Int32) (x2 : Int32) (x3 : Int32) (M : g_M), g_lp3 (F_X0_giveKey_2 k32) n x1 x2 x3 M = some p → g_fr [5] [(3, 3)] M p := by
  induction n with
  | zero => intro x1 x2 x3 M h; exact (g_nn h).elim
  | succ n ih =>
    intro x1 x2 x3 M h
    have h : F_X0_giveKey_2 k32 (g_lp3 (F_X0_giveKey_2 k32) n) x1 x2 x3 M = some p := h
    generalize g_lp3 (F_X0_giveKey_2 k32) n = k at h ih
    unfold F_X0_giveKey_2 at h
    have hf := g_fr.rfl (S := [5]) (T := [(3, 3)]) (M := M)
    rcases g_ifs h with h | h
    · exact hf.trans (hk32 M h)
    · rcases g_ifs h with h | h
      · exact hf.trans (ih x1 x2 (x3 + 1) M h)
      · obtain ⟨p1, hp1, h⟩ := g_bind h
        have hf := hf.trans ((r_X0_setKey hp1).mono (by decide) (by decide))
        exact hf.trans (ih x1 x2 (x3 + 1) p1.2 h)
def f_X0_giveKey (x1 : Int32) (x2 : Int32) (M : g_M) : Option (g_M) :=
  g_lp3 (F_X0_giveKey_2 (fun (M : g_M) => some M)) 20000000 x1 x2 0 M
set_option maxRecDepth 100000 in
theorem m_X0_giveKey {l : Launch} {Y : g_Y} {x1 : Int32} {x2 : Int32} {M : g_M} {p : g_M} (h : f_X0_giveKey x1 x2 M = some p) : g_R l Y (1) yX0_giveKey cX0_giveKey 4 none [g_r Y 3, .int x1, .int x2] M none p := by
  unfold f_X0_giveKey at h
  refine g_R_of kP_X0 rfl (Nat.le_of_ble_eq_true rfl) (fun X C E => ?_)
  show g_G 4 X Y 0 [(0, g_r Y 3), (1, .int x1), (2, .int x2)] [] M
  refine g_iconst C (v := 0) dX0_giveKey_0 (q := 1) rfl (by decide) ?_
  refine g_istore_n C dX0_giveKey_1 (q := 2) rfl rfl (by decide) (lv' := [(3, .int 0), (0, g_r Y 3), (1, .int x1), (2, .int x2)]) rfl ?_
  refine g_sub [1, 2, 3, 0] (lv' := [(0, g_r Y 3), (1, .int x1), (2, .int x2), (3, .int 0)]) rfl ?_
  refine t_X0_giveKey_2 C E ?_ 20000000 x1 x2 0 M h
  · intro M h
    try dsimp only at h
    obtain rfl := Option.some.inj h
    exact g_vret C E dX0_giveKey_32
theorem r_X0_giveKey {x1 : Int32} {x2 : Int32} {M : g_M} {p : g_M} (h : f_X0_giveKey x1 x2 M = some p) : g_fr [5] [(3, 3)] M p := by
  unfold f_X0_giveKey at h
  have hf := g_fr.rfl (S := [5]) (T := [(3, 3)]) (M := M)
  refine hf.trans (r_X0_giveKey_2 ?_ 20000000 x1 x2 0 M h)
  · intro M h
    try dsimp only at h
    have hf := g_fr.rfl (S := [5]) (T := [(3, 3)]) (M := M)
    obtain rfl := Option.some.inj h
    exact hf
