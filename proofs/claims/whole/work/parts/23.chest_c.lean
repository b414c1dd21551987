def F_X11_thinRing_5 (k57 : Int32 → g_M → Option (Int32 × g_M)) (k : Int32 → Int32 → Int32 → Int32 → g_M → Option (Int32 × g_M)) (x1 : Int32) (x2 : Int32) (x3 : Int32) (x4 : Int32) (M : g_M) : Option (Int32 × g_M) :=
  (if 24 ≤ x4 then (k57 x3 M) else ((f_X0_hasKey x2 x4 M).bind fun p1 => (if p1 = 0 then (k x1 x2 x3 (x4 + 1) M) else ((f_X11_isSpare x1 x2 x4 M).bind fun p2 => (if p2 = 0 then (k x1 x2 x3 (x4 + 1) M) else ((f_X0_setKey x2 x4 0 M).bind fun p3 => k x1 x2 (x3 + 1) (x4 + 1) p3.2))))))
set_option maxRecDepth 100000 in
theorem t_X11_thinRing_5 {l : Launch} {X : g_X} {Y : g_Y} {p : Int32 × g_M} {k57 : Int32 → g_M → Option (Int32 × g_M)} (C : g_C l (g_rm (5)) RX11 cX11_thinRing 5 X Y) (E : g_E (some .int) X Y (some (.int p.1)) p.2) (hk57 : ∀ (x3 : Int32) (M : g_M), k57 x3 M = some p → g_G 5 X Y 57 [(3, .int x3)] [] M) (n : Nat) : ∀ (x1 : Int32) (x2 : Int32) (x3 : Int32) (x4 : Int32) (M : g_M), g_lp4 (F_X11_thinRing_5 k57) n x1 x2 x3 x4 M = some p → g_G 5 X Y 5 [(0, g_r Y 0), (1, .int x1), (2, .int x2), (3, .int x3), (4, .int x4)] [] M := by
  induction n with
  | zero => intro x1 x2 x3 x4 M h; exact (g_nn h).elim
  | succ n ih =>
    intro x1 x2 x3 x4 M h
    have h : F_X11_thinRing_5 k57 (g_lp4 (F_X11_thinRing_5 k57) n) x1 x2 x3 x4 M = some p := h
    generalize g_lp4 (F_X11_thinRing_5 k57) n = k at h ih
    unfold F_X11_thinRing_5 at h
    refine g_iload C 4 dX11_thinRing_5 (q := 7) rfl rfl ?_
    refine g_bipush C (v := 24) dX11_thinRing_7 (q := 9) rfl (by decide) ?_
    have hif := g_if h
    clear h
    refine g_icmp_ge C dX11_thinRing_9 (q := 12) (tgt := 57) rfl (by decide) (fun c => ?_) (fun c => ?_)
    · have h := hif.1 c
      clear hif
      refine g_sub [3] (lv' := [(3, .int x3)]) rfl ?_
      exact hk57 x3 M h
    · have h := hif.2 c
      clear hif
      refine g_aload_n C 0 dX11_thinRing_12 (q := 13) rfl rfl rfl ?_
      refine g_get C (k := 0) (i := 1) (by decide) (gc_0 Y _ _) rfl kU_X11 (by decide) kF_X11_19 rfl dX11_thinRing_13 (q := 16) rfl ?_
      refine g_iload_n C 2 dX11_thinRing_16 (q := 17) rfl rfl rfl ?_
      refine g_iload C 4 dX11_thinRing_17 (q := 19) rfl rfl ?_
      obtain ⟨p1, hp1, h⟩ := g_bind h
      refine g_callV C (k := 3) (as := [.int x2, .int x4]) (st := []) (m_X0_hasKey hp1) (g_hR (by decide)) (by decide) (by decide) (gc_3 Y _ _) rfl kM_X11_226 kI_X0_hasKey kS_X0_hasKey kN_X0 kC_X0_hasKey kD_X0_hasKey rfl (Nat.le_of_ble_eq_true rfl) dX11_thinRing_19 (q := 22) rfl ?_
      show g_G 5 X Y 22 [(0, g_r Y 0), (1, .int x1), (2, .int x2), (3, .int x3), (4, .int x4)] [.int p1] M
      have hif := g_if h
      clear h
      refine g_if_eq C dX11_thinRing_22 (q := 25) (tgt := 51) rfl (by decide) (fun c => ?_) (fun c => ?_)
      · have h := hif.1 c
        clear hif
        refine g_iinc C (k := 4) (v := x4 + 1) dX11_thinRing_51 (q := 54) rfl rfl rfl (by decide) (lv' := [(4, .int (x4 + 1)), (0, g_r Y 0), (1, .int x1), (2, .int x2), (3, .int x3)]) rfl ?_
        refine g_goto C dX11_thinRing_54 (tgt := 5) (by decide) ?_
        refine g_sub [1, 2, 3, 4, 0] (lv' := [(0, g_r Y 0), (1, .int x1), (2, .int x2), (3, .int x3), (4, .int (x4 + 1))]) rfl ?_
        exact ih x1 x2 x3 (x4 + 1) M h
      · have h := hif.2 c
        clear hif
        refine g_aload_n C 0 dX11_thinRing_25 (q := 26) rfl rfl rfl ?_
        refine g_iload_n C 1 dX11_thinRing_26 (q := 27) rfl rfl rfl ?_
        refine g_iload_n C 2 dX11_thinRing_27 (q := 28) rfl rfl rfl ?_
        refine g_iload C 4 dX11_thinRing_28 (q := 30) rfl rfl ?_
        obtain ⟨p2, hp2, h⟩ := g_bind h
        refine g_callV C (k := 0) (as := [.int x1, .int x2, .int x4]) (st := []) (m_X11_isSpare hp2) (g_hR (by decide)) (by decide) (by decide) (gc_0 Y _ _) rfl kM_X11_284 kI_X11_isSpare kS_X11_isSpare kN_X11 kC_X11_isSpare kD_X11_isSpare rfl (Nat.le_of_ble_eq_true rfl) dX11_thinRing_30 (q := 33) rfl ?_
        show g_G 5 X Y 33 [(0, g_r Y 0), (1, .int x1), (2, .int x2), (3, .int x3), (4, .int x4)] [.int p2] M
        have hif := g_if h
        clear h
        refine g_if_eq C dX11_thinRing_33 (q := 36) (tgt := 51) rfl (by decide) (fun c => ?_) (fun c => ?_)
        · have h := hif.1 c
          clear hif
          refine g_iinc C (k := 4) (v := x4 + 1) dX11_thinRing_51 (q := 54) rfl rfl rfl (by decide) (lv' := [(4, .int (x4 + 1)), (0, g_r Y 0), (1, .int x1), (2, .int x2), (3, .int x3)]) rfl ?_
          refine g_goto C dX11_thinRing_54 (tgt := 5) (by decide) ?_
          refine g_sub [1, 2, 3, 4, 0] (lv' := [(0, g_r Y 0), (1, .int x1), (2, .int x2), (3, .int x3), (4, .int (x4 + 1))]) rfl ?_
          exact ih x1 x2 x3 (x4 + 1) M h
        · have h := hif.2 c
          clear hif
          refine g_aload_n C 0 dX11_thinRing_36 (q := 37) rfl rfl rfl ?_
          refine g_get C (k := 0) (i := 1) (by decide) (gc_0 Y _ _) rfl kU_X11 (by decide) kF_X11_19 rfl dX11_thinRing_37 (q := 40) rfl ?_
          refine g_iload_n C 2 dX11_thinRing_40 (q := 41) rfl rfl rfl ?_
          refine g_iload C 4 dX11_thinRing_41 (q := 43) rfl rfl ?_
          refine g_iconst C (v := 0) dX11_thinRing_43 (q := 44) rfl (by decide) ?_
          obtain ⟨p3, hp3, h⟩ := g_bind h
          refine g_callV C (k := 3) (as := [.int x2, .int x4, .int 0]) (st := []) (m_X0_setKey hp3) (g_hR (by decide)) (by decide) (by decide) (gc_3 Y _ _) rfl kM_X11_222 kI_X0_setKey kS_X0_setKey kN_X0 kC_X0_setKey kD_X0_setKey rfl (Nat.le_of_ble_eq_true rfl) dX11_thinRing_44 (q := 47) rfl ?_
          show g_G 5 X Y 47 [(0, g_r Y 0), (1, .int x1), (2, .int x2), (3, .int x3), (4, .int x4)] [.int p3.1] p3.2
          refine g_pop C dX11_thinRing_47 (q := 48) rfl rfl ?_
          refine g_iinc C (k := 3) (v := x3 + 1) dX11_thinRing_48 (q := 51) rfl rfl rfl (by decide) (lv' := [(3, .int (x3 + 1)), (0, g_r Y 0), (1, .int x1), (2, .int x2), (4, .int x4)]) rfl ?_
          refine g_iinc C (k := 4) (v := x4 + 1) dX11_thinRing_51 (q := 54) rfl rfl rfl (by decide) (lv' := [(4, .int (x4 + 1)), (3, .int (x3 + 1)), (0, g_r Y 0), (1, .int x1), (2, .int x2)]) rfl ?_
          refine g_goto C dX11_thinRing_54 (tgt := 5) (by decide) ?_
          refine g_sub [2, 3, 4, 1, 0] (lv' := [(0, g_r Y 0), (1, .int x1), (2, .int x2), (3, .int (x3 + 1)), (4, .int (x4 + 1))]) rfl ?_
          exact ih x1 x2 (x3 + 1) (x4 + 1) p3.2 h
theorem r_X11_thinRing_5 {p : Int32 × g_M} {k57 : Int32 → g_M → Option (Int32 × g_M)} (hk57 : ∀ (x3 : Int32) (M : g_M), k57 x3 M = some p → g_fr [5] [(3, 3)] M p.2) (n : Nat) : ∀ (x1 : Int32) (x2 : Int32) (x3 : Int32) (x4 : Int32) (M : g_M), g_lp4 (F_X11_thinRing_5 k57) n x1 x2 x3 x4 M = some p → g_fr [5] [(3, 3)] M p.2 := by
  induction n with
  | zero => intro x1 x2 x3 x4 M h; exact (g_nn h).elim
  | succ n ih =>
    intro x1 x2 x3 x4 M h
    have h : F_X11_thinRing_5 k57 (g_lp4 (F_X11_thinRing_5 k57) n) x1 x2 x3 x4 M = some p := h
    generalize g_lp4 (F_X11_thinRing_5 k57) n = k at h ih
    unfold F_X11_thinRing_5 at h
    have hf := g_fr.rfl (S := [5]) (T := [(3, 3)]) (M := M)
    rcases g_ifs h with h | h
    · exact hf.trans (hk57 x3 M h)
    · obtain ⟨p1, -, h⟩ := g_bind h
      rcases g_ifs h with h | h
      · exact hf.trans (ih x1 x2 x3 (x4 + 1) M h)
      · obtain ⟨p2, -, h⟩ := g_bind h
        rcases g_ifs h with h | h
        · exact hf.trans (ih x1 x2 x3 (x4 + 1) M h)
        · obtain ⟨p3, hp3, h⟩ := g_bind h
          have hf := hf.trans ((r_X0_setKey hp3).mono (by decide) (by decide))
          exact hf.trans (ih x1 x2 (x3 + 1) (x4 + 1) p3.2 h)
def f_X11_thinRing (x1 : Int32) (x2 : Int32) (M : g_M) : Option (Int32 × g_M) :=
  g_lp4 (F_X11_thinRing_5 (fun (x3 : Int32) (M : g_M) => some (x3, M))) 20000000 x1 x2 0 0 M
set_option maxRecDepth 100000 in
theorem m_X11_thinRing {l : Launch} {Y : g_Y} {x1 : Int32} {x2 : Int32} {M : g_M} {p : Int32 × g_M} (h : f_X11_thinRing x1 x2 M = some p) : g_R l Y (5) yX11_thinRing cX11_thinRing 5 (some .int) [g_r Y 0, .int x1, .int x2] M (some (.int p.1)) p.2 := by
  unfold f_X11_thinRing at h
  refine g_R_of kP_X11 rfl (Nat.le_of_ble_eq_true rfl) (fun X C E => ?_)
  show g_G 5 X Y 0 [(0, g_r Y 0), (1, .int x1), (2, .int x2)] [] M
  refine g_iconst C (v := 0) dX11_thinRing_0 (q := 1) rfl (by decide) ?_
  refine g_istore_n C dX11_thinRing_1 (q := 2) rfl rfl (by decide) (lv' := [(3, .int 0), (0, g_r Y 0), (1, .int x1), (2, .int x2)]) rfl ?_
  refine g_iconst C (v := 0) dX11_thinRing_2 (q := 3) rfl (by decide) ?_
  refine g_istore C dX11_thinRing_3 (q := 5) rfl (by decide) (lv' := [(4, .int 0), (3, .int 0), (0, g_r Y 0), (1, .int x1), (2, .int x2)]) rfl ?_
  refine g_sub [2, 3, 4, 1, 0] (lv' := [(0, g_r Y 0), (1, .int x1), (2, .int x2), (3, .int 0), (4, .int 0)]) rfl ?_
  refine t_X11_thinRing_5 C E ?_ 20000000 x1 x2 0 0 M h
  · intro x3 M h
    try dsimp only at h
    refine g_iload_n C 0 dX11_thinRing_57 (q := 58) rfl rfl rfl ?_
    obtain rfl := Option.some.inj h
    exact g_iret C E dX11_thinRing_58
theorem r_X11_thinRing {x1 : Int32} {x2 : Int32} {M : g_M} {p : Int32 × g_M} (h : f_X11_thinRing x1 x2 M = some p) : g_fr [5] [(3, 3)] M p.2 := by
  unfold f_X11_thinRing at h
  have hf := g_fr.rfl (S := [5]) (T := [(3, 3)]) (M := M)
  refine hf.trans (r_X11_thinRing_5 ?_ 20000000 x1 x2 0 0 M h)
  · intro x3 M h
    try dsimp only at h
    have hf := g_fr.rfl (S := [5]) (T := [(3, 3)]) (M := M)
    obtain rfl := Option.some.inj h
    exact hf
def F_X11_thin_25 (k66 : Int32 → g_M → Option (Int32 × g_M)) (k : Int32 → Int32 → Int32 → g_M → Option (Int32 × g_M)) (x1 : Int32) (x2 : Int32) (x3 : Int32) (M : g_M) : Option (Int32 × g_M) :=
  (if (M.1 3 0) ≤ x3 then (k66 x2 M) else ((f_X5_refresh_36_3_24 M).bind fun p2 => (f_X11_thinRing x1 x3 p2).bind fun p3 => k x1 (x2 + p3.1) (x3 + 1) p3.2))
set_option maxRecDepth 100000 in
theorem t_X11_thin_25 {l : Launch} {X : g_X} {Y : g_Y} {p : Int32 × g_M} {k66 : Int32 → g_M → Option (Int32 × g_M)} (C : g_C l (g_rm (6)) RX11 cX11_thin 4 X Y) (E : g_E (some .int) X Y (some (.int p.1)) p.2) (hk66 : ∀ (x2 : Int32) (M : g_M), k66 x2 M = some p → g_G 4 X Y 66 [(2, .int x2)] [] M) (n : Nat) : ∀ (x1 : Int32) (x2 : Int32) (x3 : Int32) (M : g_M), g_lp3 (F_X11_thin_25 k66) n x1 x2 x3 M = some p → g_G 4 X Y 25 [(0, g_r Y 0), (1, .int x1), (2, .int x2), (3, .int x3)] [] M := by
  induction n with
  | zero => intro x1 x2 x3 M h; exact (g_nn h).elim
  | succ n ih =>
    intro x1 x2 x3 M h
    have h : F_X11_thin_25 k66 (g_lp3 (F_X11_thin_25 k66) n) x1 x2 x3 M = some p := h
    generalize g_lp3 (F_X11_thin_25 k66) n = k at h ih
    unfold F_X11_thin_25 at h
    refine g_iload_n C 3 dX11_thin_25 (q := 26) rfl rfl rfl ?_
    refine g_aload_n C 0 dX11_thin_26 (q := 27) rfl rfl rfl ?_
    refine g_get C (k := 0) (i := 1) (by decide) (gc_0 Y _ _) rfl kU_X11 (by decide) kF_X11_19 rfl dX11_thin_27 (q := 30) rfl ?_
    refine g_get C (k := 3) (i := 0) (by decide) (gc_3 Y _ _) rfl kU_X0 (by decide) kF_X11_95 rfl dX11_thin_30 (q := 33) rfl ?_
    have hif := g_if h
    clear h
    refine g_icmp_ge C dX11_thin_33 (q := 36) (tgt := 66) rfl (by decide) (fun c => ?_) (fun c => ?_)
    · have h := hif.1 c
      clear hif
      refine g_sub [2] (lv' := [(2, .int x2)]) rfl ?_
      exact hk66 x2 M h
    · have h := hif.2 c
      clear hif
      refine g_aload_n C 0 dX11_thin_36 (q := 37) rfl rfl rfl ?_
      refine g_get C (k := 0) (i := 11) (by decide) (gc_0 Y _ _) rfl kU_X11 (by decide) kF_X11_55 rfl dX11_thin_37 (q := 40) rfl ?_
      refine g_aload_n C 0 dX11_thin_40 (q := 41) rfl rfl rfl ?_
      refine g_get C (k := 0) (i := 1) (by decide) (gc_0 Y _ _) rfl kU_X11 (by decide) kF_X11_19 rfl dX11_thin_41 (q := 44) rfl ?_
      refine g_aload_n C 0 dX11_thin_44 (q := 45) rfl rfl rfl ?_
      refine g_get C (k := 0) (i := 3) (by decide) (gc_0 Y _ _) rfl kU_X11 (by decide) kF_X11_33 rfl dX11_thin_45 (q := 48) rfl ?_
      obtain ⟨p2, hp2, h⟩ := g_bind h
      refine g_callV C (k := 36) (as := [g_r Y 3, g_r Y 24]) (st := []) (m_X5_refresh_36_3_24 hp2) (g_hR (by decide)) (by decide) (by decide) (gc_36 Y _ _) rfl kM_X11_253 kI_X5_refresh kS_X5_refresh kN_X5 kC_X5_refresh kD_X5_refresh rfl (Nat.le_of_ble_eq_true rfl) dX11_thin_48 (q := 51) rfl ?_
      show g_G 4 X Y 51 [(0, g_r Y 0), (1, .int x1), (2, .int x2), (3, .int x3)] [] p2
      refine g_iload_n C 2 dX11_thin_51 (q := 52) rfl rfl rfl ?_
      refine g_aload_n C 0 dX11_thin_52 (q := 53) rfl rfl rfl ?_
      refine g_iload_n C 1 dX11_thin_53 (q := 54) rfl rfl rfl ?_
      refine g_iload_n C 3 dX11_thin_54 (q := 55) rfl rfl rfl ?_
      obtain ⟨p3, hp3, h⟩ := g_bind h
      refine g_callV C (k := 0) (as := [.int x1, .int x3]) (st := [.int x2]) (m_X11_thinRing hp3) (g_hR (by decide)) (by decide) (by decide) (gc_0 Y _ _) rfl kM_X11_288 kI_X11_thinRing kS_X11_thinRing kN_X11 kC_X11_thinRing kD_X11_thinRing rfl (Nat.le_of_ble_eq_true rfl) dX11_thin_55 (q := 58) rfl ?_
      show g_G 4 X Y 58 [(0, g_r Y 0), (1, .int x1), (2, .int x2), (3, .int x3)] [.int p3.1, .int x2] p3.2
      refine g_iadd C dX11_thin_58 (q := 59) rfl ?_
      refine g_istore_n C dX11_thin_59 (q := 60) rfl rfl (by decide) (lv' := [(2, .int (x2 + p3.1)), (0, g_r Y 0), (1, .int x1), (3, .int x3)]) rfl ?_
      refine g_iinc C (k := 3) (v := x3 + 1) dX11_thin_60 (q := 63) rfl rfl rfl (by decide) (lv' := [(3, .int (x3 + 1)), (2, .int (x2 + p3.1)), (0, g_r Y 0), (1, .int x1)]) rfl ?_
      refine g_goto C dX11_thin_63 (tgt := 25) (by decide) ?_
      refine g_sub [2, 3, 1, 0] (lv' := [(0, g_r Y 0), (1, .int x1), (2, .int (x2 + p3.1)), (3, .int (x3 + 1))]) rfl ?_
      exact ih x1 (x2 + p3.1) (x3 + 1) p3.2 h
theorem r_X11_thin_25 {p : Int32 × g_M} {k66 : Int32 → g_M → Option (Int32 × g_M)} (hk66 : ∀ (x2 : Int32) (M : g_M), k66 x2 M = some p → g_fr [2, 5, 37, 38] [(1, 1), (3, 3), (36, 2)] M p.2) (n : Nat) : ∀ (x1 : Int32) (x2 : Int32) (x3 : Int32) (M : g_M), g_lp3 (F_X11_thin_25 k66) n x1 x2 x3 M = some p → g_fr [2, 5, 37, 38] [(1, 1), (3, 3), (36, 2)] M p.2 := by
  induction n with
  | zero => intro x1 x2 x3 M h; exact (g_nn h).elim
  | succ n ih =>
    intro x1 x2 x3 M h
    have h : F_X11_thin_25 k66 (g_lp3 (F_X11_thin_25 k66) n) x1 x2 x3 M = some p := h
    generalize g_lp3 (F_X11_thin_25 k66) n = k at h ih
    unfold F_X11_thin_25 at h
    have hf := g_fr.rfl (S := [2, 5, 37, 38]) (T := [(1, 1), (3, 3), (36, 2)]) (M := M)
    rcases g_ifs h with h | h
    · exact hf.trans (hk66 x2 M h)
    · obtain ⟨p2, hp2, h⟩ := g_bind h
      have hf := hf.trans ((r_X5_refresh_36_3_24 hp2).mono (by decide) (by decide))
      obtain ⟨p3, hp3, h⟩ := g_bind h
      have hf := hf.trans ((r_X11_thinRing hp3).mono (by decide) (by decide))
      exact hf.trans (ih x1 (x2 + p3.1) (x3 + 1) p3.2 h)
def f_X11_thin (x1 : Int32) (M : g_M) : Option (Int32 × g_M) :=
  (f_X4_has x1 M).bind fun p1 => (if p1 = 0 then ((f_X2_tell (-1000000001) M).bind fun p4 => some (p4.1, p4.2)) else (g_lp3 (F_X11_thin_25 (fun (x2 : Int32) (M : g_M) => some (x2, M))) 20000000 x1 0 0 M))
set_option maxRecDepth 100000 in
theorem m_X11_thin {l : Launch} {Y : g_Y} {x1 : Int32} {M : g_M} {p : Int32 × g_M} (h : f_X11_thin x1 M = some p) : g_R l Y (6) yX11_thin cX11_thin 4 (some .int) [g_r Y 0, .int x1] M (some (.int p.1)) p.2 := by
  unfold f_X11_thin at h
  refine g_R_of kP_X11 rfl (Nat.le_of_ble_eq_true rfl) (fun X C E => ?_)
  show g_G 4 X Y 0 [(0, g_r Y 0), (1, .int x1)] [] M
  refine g_aload_n C 0 dX11_thin_0 (q := 1) rfl rfl rfl ?_
  refine g_get C (k := 0) (i := 3) (by decide) (gc_0 Y _ _) rfl kU_X11 (by decide) kF_X11_33 rfl dX11_thin_1 (q := 4) rfl ?_
  refine g_iload_n C 1 dX11_thin_4 (q := 5) rfl rfl rfl ?_
  obtain ⟨p1, hp1, h⟩ := g_bind h
  refine g_callV C (k := 24) (as := [.int x1]) (st := []) (m_X4_has hp1) (g_hR (by decide)) (by decide) (by decide) (gc_24 Y _ _) rfl kM_X11_191 kI_X4_has kS_X4_has kN_X4 kC_X4_has kD_X4_has rfl (Nat.le_of_ble_eq_true rfl) dX11_thin_5 (q := 8) rfl ?_
  show g_G 4 X Y 8 [(0, g_r Y 0), (1, .int x1)] [.int p1] M
  have hif := g_if h
  clear h
  refine g_if_ne C dX11_thin_8 (q := 11) (tgt := 21) rfl (by decide) (fun c => ?_) (fun c => ?_)
  · have h := hif.2 c
    clear hif
    refine g_iconst C (v := 0) dX11_thin_21 (q := 22) rfl (by decide) ?_
    refine g_istore_n C dX11_thin_22 (q := 23) rfl rfl (by decide) (lv' := [(2, .int 0), (0, g_r Y 0), (1, .int x1)]) rfl ?_
    refine g_iconst C (v := 0) dX11_thin_23 (q := 24) rfl (by decide) ?_
    refine g_istore_n C dX11_thin_24 (q := 25) rfl rfl (by decide) (lv' := [(3, .int 0), (2, .int 0), (0, g_r Y 0), (1, .int x1)]) rfl ?_
    refine g_sub [2, 3, 1, 0] (lv' := [(0, g_r Y 0), (1, .int x1), (2, .int 0), (3, .int 0)]) rfl ?_
    refine t_X11_thin_25 C E ?_ 20000000 x1 0 0 M h
    · intro x2 M h
      try dsimp only at h
      refine g_iload_n C 0 dX11_thin_66 (q := 67) rfl rfl rfl ?_
      obtain rfl := Option.some.inj h
      exact g_iret C E dX11_thin_67
  · have h := hif.1 c
    clear hif
    refine g_aload_n C 0 dX11_thin_11 (q := 12) rfl rfl rfl ?_
    refine g_get C (k := 0) (i := 0) (by decide) (gc_0 Y _ _) rfl kU_X11 (by decide) kF_X11_12 rfl dX11_thin_12 (q := 15) rfl ?_
    refine g_ldc C (v := (-1000000001)) kK_X11_90 dX11_thin_15 (q := 17) rfl ?_
    obtain ⟨p4, hp4, h⟩ := g_bind h
    refine g_callV C (k := 1) (as := [.int (-1000000001)]) (st := []) (m_X2_tell hp4) (g_hR (by decide)) (by decide) (by decide) (gc_1 Y _ _) rfl kM_X11_91 kI_X2_tell kS_X2_tell kN_X2 kC_X2_tell kD_X2_tell rfl (Nat.le_of_ble_eq_true rfl) dX11_thin_17 (q := 20) rfl ?_
    show g_G 4 X Y 20 [(0, g_r Y 0), (1, .int x1)] [.int p4.1] p4.2
    obtain rfl := Option.some.inj h
    exact g_iret C E dX11_thin_20
theorem r_X11_thin {x1 : Int32} {M : g_M} {p : Int32 × g_M} (h : f_X11_thin x1 M = some p) : g_fr [2, 5, 37, 38] [(1, 1), (3, 3), (36, 2)] M p.2 := by
  unfold f_X11_thin at h
  have hf := g_fr.rfl (S := [2, 5, 37, 38]) (T := [(1, 1), (3, 3), (36, 2)]) (M := M)
  obtain ⟨p1, -, h⟩ := g_bind h
  rcases g_ifs h with h | h
  · obtain ⟨p4, hp4, h⟩ := g_bind h
    have hf := hf.trans ((r_X2_tell hp4).mono (by decide) (by decide))
    obtain rfl := Option.some.inj h
    exact hf
  · refine hf.trans (r_X11_thin_25 ?_ 20000000 x1 0 0 M h)
    · intro x2 M h
      try dsimp only at h
      have hf := g_fr.rfl (S := [2, 5, 37, 38]) (T := [(1, 1), (3, 3), (36, 2)]) (M := M)
      obtain rfl := Option.some.inj h
      exact hf
def f_X11_heavy_9 (M : g_M) : Option (Int32 × g_M) :=
  (f_X2_tell (-1000000001) M).bind fun p1 => some (p1.1, p1.2)
set_option maxRecDepth 100000 in
theorem t_X11_heavy_9 {l : Launch} {X : g_X} {Y : g_Y} {p : Int32 × g_M} (C : g_C l (g_rm (2)) RX11 cX11_heavy 3 X Y) (E : g_E (some .int) X Y (some (.int p.1)) p.2) (M : g_M) (h : f_X11_heavy_9 M = some p) : g_G 3 X Y 9 [(0, g_r Y 0)] [] M := by
  unfold f_X11_heavy_9 at h
  refine g_aload_n C 0 dX11_heavy_9 (q := 10) rfl rfl rfl ?_
  refine g_get C (k := 0) (i := 0) (by decide) (gc_0 Y _ _) rfl kU_X11 (by decide) kF_X11_12 rfl dX11_heavy_10 (q := 13) rfl ?_
  refine g_ldc C (v := (-1000000001)) kK_X11_90 dX11_heavy_13 (q := 15) rfl ?_
  obtain ⟨p1, hp1, h⟩ := g_bind h
  refine g_callV C (k := 1) (as := [.int (-1000000001)]) (st := []) (m_X2_tell hp1) (g_hR (by decide)) (by decide) (by decide) (gc_1 Y _ _) rfl kM_X11_91 kI_X2_tell kS_X2_tell kN_X2 kC_X2_tell kD_X2_tell rfl (Nat.le_of_ble_eq_true rfl) dX11_heavy_15 (q := 18) rfl ?_
  show g_G 3 X Y 18 [(0, g_r Y 0)] [.int p1.1] p1.2
  obtain rfl := Option.some.inj h
  exact g_iret C E dX11_heavy_18
theorem r_X11_heavy_9 {p : Int32 × g_M} (M : g_M) (h : f_X11_heavy_9 M = some p) : g_fr [2] [(1, 1)] M p.2 := by
  unfold f_X11_heavy_9 at h
  have hf := g_fr.rfl (S := [2]) (T := [(1, 1)]) (M := M)
  obtain ⟨p1, hp1, h⟩ := g_bind h
  have hf := hf.trans ((r_X2_tell hp1).mono (by decide) (by decide))
  obtain rfl := Option.some.inj h
  exact hf
def f_X11_heavy (x1 : Int32) (M : g_M) : Option (Int32 × g_M) :=
  (if x1 < 0 then (f_X11_heavy_9 M) else ((if x1 ≤ 2 then ((f_X0_present M).bind fun p2 => (if p2 = 0 then ((f_X2_tell (-1000000004) M).bind fun p7 => some (p7.1, p7.2)) else ((f_X0_heaviest M).bind fun p3 => (if x1 = 0 then ((g_ld M 5 10 p3).bind fun v4 => (f_J6_bitCount_0f7a4 v4 M).bind fun p5 => some (p5, M)) else (if x1 = 1 then (some (p3, M)) else (f_X0_keysTogether M).bind fun p6 => some (p6, M)))))) else (f_X11_heavy_9 M))))
set_option maxRecDepth 100000 in
theorem m_X11_heavy {l : Launch} {Y : g_Y} {x1 : Int32} {M : g_M} {p : Int32 × g_M} (h : f_X11_heavy x1 M = some p) : g_R l Y (2) yX11_heavy cX11_heavy 3 (some .int) [g_r Y 0, .int x1] M (some (.int p.1)) p.2 := by
  unfold f_X11_heavy at h
  refine g_R_of kP_X11 rfl (Nat.le_of_ble_eq_true rfl) (fun X C E => ?_)
  show g_G 3 X Y 0 [(0, g_r Y 0), (1, .int x1)] [] M
  refine g_iload_n C 1 dX11_heavy_0 (q := 1) rfl rfl rfl ?_
  have hif := g_if h
  clear h
  refine g_if_lt C dX11_heavy_1 (q := 4) (tgt := 9) rfl (by decide) (fun c => ?_) (fun c => ?_)
  · have h := hif.1 c
    clear hif
    refine g_sub [0] (lv' := [(0, g_r Y 0)]) rfl ?_
    exact t_X11_heavy_9 C E M h
  · have h := hif.2 c
    clear hif
    refine g_iload_n C 1 dX11_heavy_4 (q := 5) rfl rfl rfl ?_
    refine g_iconst C (v := 2) dX11_heavy_5 (q := 6) rfl (by decide) ?_
    have hif := g_if h
    clear h
    refine g_icmp_le C dX11_heavy_6 (q := 9) (tgt := 19) rfl (by decide) (fun c => ?_) (fun c => ?_)
    · have h := hif.1 c
      clear hif
      refine g_aload_n C 0 dX11_heavy_19 (q := 20) rfl rfl rfl ?_
      refine g_get C (k := 0) (i := 1) (by decide) (gc_0 Y _ _) rfl kU_X11 (by decide) kF_X11_19 rfl dX11_heavy_20 (q := 23) rfl ?_
      obtain ⟨p2, hp2, h⟩ := g_bind h
      refine g_callV C (k := 3) (as := []) (st := []) (m_X0_present hp2) (g_hR (by decide)) (by decide) (by decide) (gc_3 Y _ _) rfl kM_X11_159 kI_X0_present kS_X0_present kN_X0 kC_X0_present kD_X0_present rfl (Nat.le_of_ble_eq_true rfl) dX11_heavy_23 (q := 26) rfl ?_
      show g_G 3 X Y 26 [(0, g_r Y 0), (1, .int x1)] [.int p2] M
      have hif := g_if h
      clear h
      refine g_if_ne C dX11_heavy_26 (q := 29) (tgt := 39) rfl (by decide) (fun c => ?_) (fun c => ?_)
      · have h := hif.2 c
        clear hif
        refine g_aload_n C 0 dX11_heavy_39 (q := 40) rfl rfl rfl ?_
        refine g_get C (k := 0) (i := 1) (by decide) (gc_0 Y _ _) rfl kU_X11 (by decide) kF_X11_19 rfl dX11_heavy_40 (q := 43) rfl ?_
        obtain ⟨p3, hp3, h⟩ := g_bind h
        refine g_callV C (k := 3) (as := []) (st := []) (m_X0_heaviest hp3) (g_hR (by decide)) (by decide) (by decide) (gc_3 Y _ _) rfl kM_X11_291 kI_X0_heaviest kS_X0_heaviest kN_X0 kC_X0_heaviest kD_X0_heaviest rfl (Nat.le_of_ble_eq_true rfl) dX11_heavy_43 (q := 46) rfl ?_
        show g_G 3 X Y 46 [(0, g_r Y 0), (1, .int x1)] [.int p3] M
        refine g_istore_n C dX11_heavy_46 (q := 47) rfl rfl (by decide) (lv' := [(2, .int p3), (0, g_r Y 0), (1, .int x1)]) rfl ?_
        refine g_iload_n C 2 dX11_heavy_47 (q := 48) rfl rfl rfl ?_
        by_cases e : x1 = 0
        · rw [if_pos e] at h
          refine g_look C (off := 28) (tgt := 76) dX11_heavy_48 (by decide) (by rw [e]; decide) (by decide) ?_
          refine g_aload_n C 1 dX11_heavy_76 (q := 77) rfl rfl rfl ?_
          refine g_get C (k := 0) (i := 1) (by decide) (gc_0 Y _ _) rfl kU_X11 (by decide) kF_X11_19 rfl dX11_heavy_77 (q := 80) rfl ?_
          refine g_get C (k := 3) (i := 5) (by decide) (gc_3 Y _ _) rfl kU_X0 (by decide) kF_X11_114 rfl dX11_heavy_80 (q := 83) rfl ?_
          refine g_iload_n C 0 dX11_heavy_83 (q := 84) rfl rfl rfl ?_
          obtain ⟨v4, hv4, h⟩ := g_bind h
          refine g_iald C (k := 5) (n := 10) (by decide) (gc_5 Y _ _) hv4 dX11_heavy_84 (q := 85) rfl ?_
          obtain ⟨p5, hp5, h⟩ := g_bind h
          refine g_callS C (as := [.int v4]) (st := []) (m_J6_bitCount_0f7a4 hp5) (g_hR (by decide)) (by decide) kM_X11_117 kT_J6_bitCount_0f7a4 kN_J6 kC_J6_bitCount_0f7a4 kD_J6_bitCount_0f7a4 rfl (Nat.le_of_ble_eq_true rfl) dX11_heavy_85 (q := 88) rfl ?_
          show g_G 3 X Y 88 [(2, .int p3), (0, g_r Y 0), (1, .int x1)] [.int p5] M
          obtain rfl := Option.some.inj h
          exact g_iret C E dX11_heavy_88
        rw [if_neg e] at h
        have n0 := g_toI (n := 0) (v := 0) (by decide) e
        by_cases e : x1 = 1
        · rw [if_pos e] at h
          refine g_look C (off := 41) (tgt := 89) dX11_heavy_48 (by decide) (by rw [e]; decide) (by decide) ?_
          refine g_iload_n C 0 dX11_heavy_89 (q := 90) rfl rfl rfl ?_
          obtain rfl := Option.some.inj h
          exact g_iret C E dX11_heavy_90
        rw [if_neg e] at h
        have n1 := g_toI (n := 1) (v := 1) (by decide) e
        have hdef : g_G 3 X Y 91 [(2, .int p3), (0, g_r Y 0), (1, .int x1)] [] M := by
          refine g_aload_n C 1 dX11_heavy_91 (q := 92) rfl rfl rfl ?_
          refine g_get C (k := 0) (i := 1) (by decide) (gc_0 Y _ _) rfl kU_X11 (by decide) kF_X11_19 rfl dX11_heavy_92 (q := 95) rfl ?_
          obtain ⟨p6, hp6, h⟩ := g_bind h
          refine g_callV C (k := 3) (as := []) (st := []) (m_X0_keysTogether hp6) (g_hR (by decide)) (by decide) (by decide) (gc_3 Y _ _) rfl kM_X11_294 kI_X0_keysTogether kS_X0_keysTogether kN_X0 kC_X0_keysTogether kD_X0_keysTogether rfl (Nat.le_of_ble_eq_true rfl) dX11_heavy_95 (q := 98) rfl ?_
          show g_G 3 X Y 98 [(2, .int p3), (0, g_r Y 0), (1, .int x1)] [.int p6] M
          obtain rfl := Option.some.inj h
          exact g_iret C E dX11_heavy_98
        refine g_look C (off := 43) (tgt := 91) dX11_heavy_48 (by decide) (by simp [Op.lookupswitch.offset, Ne.symm n0, Ne.symm n1]) (by decide) hdef
      · have h := hif.1 c
        clear hif
        refine g_aload_n C 0 dX11_heavy_29 (q := 30) rfl rfl rfl ?_
        refine g_get C (k := 0) (i := 0) (by decide) (gc_0 Y _ _) rfl kU_X11 (by decide) kF_X11_12 rfl dX11_heavy_30 (q := 33) rfl ?_
        refine g_ldc C (v := (-1000000004)) kK_X11_177 dX11_heavy_33 (q := 35) rfl ?_
        obtain ⟨p7, hp7, h⟩ := g_bind h
        refine g_callV C (k := 1) (as := [.int (-1000000004)]) (st := []) (m_X2_tell hp7) (g_hR (by decide)) (by decide) (by decide) (gc_1 Y _ _) rfl kM_X11_91 kI_X2_tell kS_X2_tell kN_X2 kC_X2_tell kD_X2_tell rfl (Nat.le_of_ble_eq_true rfl) dX11_heavy_35 (q := 38) rfl ?_
        show g_G 3 X Y 38 [(0, g_r Y 0), (1, .int x1)] [.int p7.1] p7.2
        obtain rfl := Option.some.inj h
        exact g_iret C E dX11_heavy_38
    · have h := hif.2 c
      clear hif
      refine g_sub [0] (lv' := [(0, g_r Y 0)]) rfl ?_
      exact t_X11_heavy_9 C E M h
theorem r_X11_heavy {x1 : Int32} {M : g_M} {p : Int32 × g_M} (h : f_X11_heavy x1 M = some p) : g_fr [2] [(1, 1)] M p.2 := by
  unfold f_X11_heavy at h
  have hf := g_fr.rfl (S := [2]) (T := [(1, 1)]) (M := M)
  rcases g_ifs h with h | h
  · exact hf.trans (r_X11_heavy_9 M h)
  · rcases g_ifs h with h | h
    · obtain ⟨p2, -, h⟩ := g_bind h
      rcases g_ifs h with h | h
      · obtain ⟨p7, hp7, h⟩ := g_bind h
        have hf := hf.trans ((r_X2_tell hp7).mono (by decide) (by decide))
        obtain rfl := Option.some.inj h
        exact hf
      · obtain ⟨p3, -, h⟩ := g_bind h
        rcases g_ifs h with h | h
        · obtain ⟨v4, -, h⟩ := g_bind h
          obtain ⟨p5, -, h⟩ := g_bind h
          obtain rfl := Option.some.inj h
          exact hf
        rcases g_ifs h with h | h
        · obtain rfl := Option.some.inj h
          exact hf
        obtain ⟨p6, -, h⟩ := g_bind h
        obtain rfl := Option.some.inj h
        exact hf
    · exact hf.trans (r_X11_heavy_9 M h)
def f_X11_isSheet (x0 : Int32) (M : g_M) : Option (Int32) :=
  (if x0 < 0 then (some 0) else ((if 4 ≤ x0 then (some 0) else (some 1))))
set_option maxRecDepth 100000 in
theorem m_X11_isSheet {l : Launch} {Y : g_Y} {x0 : Int32} {M : g_M} {p : Int32} (h : f_X11_isSheet x0 M = some p) : g_R l Y (0) yX11_isSheet cX11_isSheet 1 (some .boolean) [.int x0] M (some (.int p)) M := by
  unfold f_X11_isSheet at h
  refine g_R_of kP_X11 rfl (Nat.le_of_ble_eq_true rfl) (fun X C E => ?_)
  show g_G 1 X Y 0 [(0, .int x0)] [] M
  refine g_iload_n C 0 dX11_isSheet_0 (q := 1) rfl rfl rfl ?_
  have hif := g_if h
  clear h
  refine g_if_lt C dX11_isSheet_1 (q := 4) (tgt := 13) rfl (by decide) (fun c => ?_) (fun c => ?_)
  · have h := hif.1 c
    clear hif
    refine g_iconst C (v := 0) dX11_isSheet_13 (q := 14) rfl (by decide) ?_
    obtain rfl := Option.some.inj h
    exact g_zret C (g_bz_lit (by decide)) E dX11_isSheet_14
  · have h := hif.2 c
    clear hif
    refine g_iload_n C 0 dX11_isSheet_4 (q := 5) rfl rfl rfl ?_
    refine g_iconst C (v := 4) dX11_isSheet_5 (q := 6) rfl (by decide) ?_
    have hif := g_if h
    clear h
    refine g_icmp_ge C dX11_isSheet_6 (q := 9) (tgt := 13) rfl (by decide) (fun c => ?_) (fun c => ?_)
    · have h := hif.1 c
      clear hif
      refine g_iconst C (v := 0) dX11_isSheet_13 (q := 14) rfl (by decide) ?_
      obtain rfl := Option.some.inj h
      exact g_zret C (g_bz_lit (by decide)) E dX11_isSheet_14
    · have h := hif.2 c
      clear hif
      refine g_iconst C (v := 1) dX11_isSheet_9 (q := 10) rfl (by decide) ?_
      refine g_goto C dX11_isSheet_10 (tgt := 14) (by decide) ?_
      obtain rfl := Option.some.inj h
      exact g_zret C (g_bz_lit (by decide)) E dX11_isSheet_14
def f_X11_judge (x1 : Int32) (x2 : Int32) (M : g_M) : Option (Int32 × g_M) :=
  (f_X11_isSheet x1 M).bind fun p1 => (if p1 = 0 then ((f_X2_tell (-1000000001) M).bind fun p12 => some (p12.1, p12.2)) else ((g_in 4 x1).bind fun j2 => (f_X7_isMissing j2 M).bind fun p3 => (if p3 = 0 then ((f_X4_has x2 M).bind fun p4 => (if p4 = 0 then ((f_X2_tell (-1000000001) M).bind fun p10 => some (p10.1, p10.2)) else ((f_X11_openingSets x2 M).bind fun p5 => (f_X6_findLeast_43_41 p5).bind fun p6 => (g_in 4 x1).bind fun j7 => (f_X7_rightOnes_43 j7 p6).bind fun p8 => (if p8 = (p6.1 43 1) then ((g_in 4 x1).bind fun j9 => (if p8 = (p6.1 (51 + j9) 1) then (some (0, p6)) else (some (p8 + 1, p6)))) else (some (p8 + 1, p6)))))) else ((f_X2_tell (-1000000006) M).bind fun p11 => some (p11.1, p11.2)))))
set_option maxRecDepth 100000 in
theorem m_X11_judge {l : Launch} {Y : g_Y} {x1 : Int32} {x2 : Int32} {M : g_M} {p : Int32 × g_M} (h : f_X11_judge x1 x2 M = some p) : g_R l Y (6) yX11_judge cX11_judge 4 (some .int) [g_r Y 0, .int x1, .int x2] M (some (.int p.1)) p.2 := by
  unfold f_X11_judge at h
  refine g_R_of kP_X11 rfl (Nat.le_of_ble_eq_true rfl) (fun X C E => ?_)
  show g_G 4 X Y 0 [(0, g_r Y 0), (1, .int x1), (2, .int x2)] [] M
  refine g_iload_n C 1 dX11_judge_0 (q := 1) rfl rfl rfl ?_
  obtain ⟨p1, hp1, h⟩ := g_bind h
  refine g_callS C (as := [.int x1]) (st := []) (m_X11_isSheet hp1) (g_hR (by decide)) (by decide) kM_X11_297 kT_X11_isSheet kN_X11 kC_X11_isSheet kD_X11_isSheet rfl (Nat.le_of_ble_eq_true rfl) dX11_judge_1 (q := 4) rfl ?_
  show g_G 4 X Y 4 [(0, g_r Y 0), (1, .int x1), (2, .int x2)] [.int p1] M
  have hif := g_if h
  clear h
  refine g_if_ne C dX11_judge_4 (q := 7) (tgt := 17) rfl (by decide) (fun c => ?_) (fun c => ?_)
  · have h := hif.2 c
    clear hif
    refine g_aload_n C 0 dX11_judge_17 (q := 18) rfl rfl rfl ?_
    refine g_get C (k := 0) (i := 16) (by decide) (gc_0 Y _ _) rfl kU_X11 (by decide) kF_X11_85 rfl dX11_judge_18 (q := 21) rfl ?_
    refine g_iload_n C 1 dX11_judge_21 (q := 22) rfl rfl rfl ?_
    obtain ⟨j2, qj2, h⟩ := g_bind h
    have hj2 := (g_in_s qj2).2.2
    refine g_aldS C (k := 50) (n := 4) (b := 51) (by decide) (gc_50 Y _ _) qj2 dX11_judge_22 (q := 23) rfl ?_
    obtain ⟨p3, hp3, h⟩ := g_bind h
    refine g_callV C (k := (51 + j2)) (as := []) (st := []) (m_X7_isMissing j2 hj2 hp3) (g_hR (by decide)) (by decide) (by omega) (gc_sheet Y _ _ hj2) rfl kM_X11_300 kI_X7_isMissing kS_X7_isMissing kN_X7 kC_X7_isMissing kD_X7_isMissing rfl (Nat.le_of_ble_eq_true rfl) dX11_judge_23 (q := 26) rfl ?_
    show g_G 4 X Y 26 [(0, g_r Y 0), (1, .int x1), (2, .int x2)] [.int p3] M
    have hif := g_if h
    clear h
    refine g_if_eq C dX11_judge_26 (q := 29) (tgt := 40) rfl (by decide) (fun c => ?_) (fun c => ?_)
    · have h := hif.1 c
      clear hif
      refine g_aload_n C 0 dX11_judge_40 (q := 41) rfl rfl rfl ?_
      refine g_get C (k := 0) (i := 3) (by decide) (gc_0 Y _ _) rfl kU_X11 (by decide) kF_X11_33 rfl dX11_judge_41 (q := 44) rfl ?_
      refine g_iload_n C 2 dX11_judge_44 (q := 45) rfl rfl rfl ?_
      obtain ⟨p4, hp4, h⟩ := g_bind h
      refine g_callV C (k := 24) (as := [.int x2]) (st := []) (m_X4_has hp4) (g_hR (by decide)) (by decide) (by decide) (gc_24 Y _ _) rfl kM_X11_191 kI_X4_has kS_X4_has kN_X4 kC_X4_has kD_X4_has rfl (Nat.le_of_ble_eq_true rfl) dX11_judge_45 (q := 48) rfl ?_
      show g_G 4 X Y 48 [(0, g_r Y 0), (1, .int x1), (2, .int x2)] [.int p4] M
      have hif := g_if h
      clear h
      refine g_if_ne C dX11_judge_48 (q := 51) (tgt := 61) rfl (by decide) (fun c => ?_) (fun c => ?_)
      · have h := hif.2 c
        clear hif
        refine g_aload_n C 0 dX11_judge_61 (q := 62) rfl rfl rfl ?_
        refine g_get C (k := 0) (i := 14) (by decide) (gc_0 Y _ _) rfl kU_X11 (by decide) kF_X11_72 rfl dX11_judge_62 (q := 65) rfl ?_
        refine g_aload_n C 0 dX11_judge_65 (q := 66) rfl rfl rfl ?_
        refine g_iload_n C 2 dX11_judge_66 (q := 67) rfl rfl rfl ?_
        obtain ⟨p5, hp5, h⟩ := g_bind h
        refine g_callV C (k := 0) (as := [.int x2]) (st := [g_r Y 43]) (m_X11_openingSets hp5) (g_hR (by decide)) (by decide) (by decide) (gc_0 Y _ _) rfl kM_X11_305 kI_X11_openingSets kS_X11_openingSets kN_X11 kC_X11_openingSets kD_X11_openingSets rfl (Nat.le_of_ble_eq_true rfl) dX11_judge_67 (q := 70) rfl ?_
        show g_G 4 X Y 70 [(0, g_r Y 0), (1, .int x1), (2, .int x2)] [g_r Y 41, g_r Y 43] p5
        obtain ⟨p6, hp6, h⟩ := g_bind h
        refine g_callV C (k := 43) (as := [g_r Y 41]) (st := []) (m_X6_findLeast_43_41 hp6) (g_hR (by decide)) (by decide) (by decide) (gc_43 Y _ _) rfl kM_X11_309 kI_X6_findLeast kS_X6_findLeast kN_X6 kC_X6_findLeast kD_X6_findLeast rfl (Nat.le_of_ble_eq_true rfl) dX11_judge_70 (q := 73) rfl ?_
        show g_G 4 X Y 73 [(0, g_r Y 0), (1, .int x1), (2, .int x2)] [] p6
        refine g_aload_n C 0 dX11_judge_73 (q := 74) rfl rfl rfl ?_
        refine g_get C (k := 0) (i := 16) (by decide) (gc_0 Y _ _) rfl kU_X11 (by decide) kF_X11_85 rfl dX11_judge_74 (q := 77) rfl ?_
        refine g_iload_n C 1 dX11_judge_77 (q := 78) rfl rfl rfl ?_
        obtain ⟨j7, qj7, h⟩ := g_bind h
        have hj7 := (g_in_s qj7).2.2
        refine g_aldS C (k := 50) (n := 4) (b := 51) (by decide) (gc_50 Y _ _) qj7 dX11_judge_78 (q := 79) rfl ?_
        refine g_aload_n C 0 dX11_judge_79 (q := 80) rfl rfl rfl ?_
        refine g_get C (k := 0) (i := 14) (by decide) (gc_0 Y _ _) rfl kU_X11 (by decide) kF_X11_72 rfl dX11_judge_80 (q := 83) rfl ?_
        obtain ⟨p8, hp8, h⟩ := g_bind h
        refine g_callV C (k := (51 + j7)) (as := [g_r Y 43]) (st := []) (m_X7_rightOnes_43 j7 hj7 hp8) (g_hR (by decide)) (by decide) (by omega) (gc_sheet Y _ _ hj7) rfl kM_X11_312 kI_X7_rightOnes kS_X7_rightOnes kN_X7 kC_X7_rightOnes kD_X7_rightOnes rfl (Nat.le_of_ble_eq_true rfl) dX11_judge_83 (q := 86) rfl ?_
        show g_G 4 X Y 86 [(0, g_r Y 0), (1, .int x1), (2, .int x2)] [.int p8] p6
        refine g_istore_n C dX11_judge_86 (q := 87) rfl rfl (by decide) (lv' := [(3, .int p8), (0, g_r Y 0), (1, .int x1), (2, .int x2)]) rfl ?_
        refine g_iload_n C 0 dX11_judge_87 (q := 88) rfl rfl rfl ?_
        refine g_aload_n C 1 dX11_judge_88 (q := 89) rfl rfl rfl ?_
        refine g_get C (k := 0) (i := 14) (by decide) (gc_0 Y _ _) rfl kU_X11 (by decide) kF_X11_72 rfl dX11_judge_89 (q := 92) rfl ?_
        refine g_get C (k := 43) (i := 1) (by decide) (gc_43 Y _ _) rfl kU_X6 (by decide) kF_X11_271 rfl dX11_judge_92 (q := 95) rfl ?_
        have hif := g_if h
        clear h
        refine g_icmp_ne C dX11_judge_95 (q := 98) (tgt := 115) rfl (by decide) (fun c => ?_) (fun c => ?_)
        · have h := hif.2 c
          clear hif
          refine g_iload_n C 0 dX11_judge_115 (q := 116) rfl rfl rfl ?_
          refine g_iconst C (v := 1) dX11_judge_116 (q := 117) rfl (by decide) ?_
          refine g_iadd C dX11_judge_117 (q := 118) rfl ?_
          obtain rfl := Option.some.inj h
          exact g_iret C E dX11_judge_118
        · have h := hif.1 c
          clear hif
          refine g_iload_n C 0 dX11_judge_98 (q := 99) rfl rfl rfl ?_
          refine g_aload_n C 1 dX11_judge_99 (q := 100) rfl rfl rfl ?_
          refine g_get C (k := 0) (i := 16) (by decide) (gc_0 Y _ _) rfl kU_X11 (by decide) kF_X11_85 rfl dX11_judge_100 (q := 103) rfl ?_
          refine g_iload_n C 2 dX11_judge_103 (q := 104) rfl rfl rfl ?_
          obtain ⟨j9, qj9, h⟩ := g_bind h
          have hj9 := (g_in_s qj9).2.2
          refine g_aldS C (k := 50) (n := 4) (b := 51) (by decide) (gc_50 Y _ _) qj9 dX11_judge_104 (q := 105) rfl ?_
          refine g_get C (k := (51 + j9)) (i := 1) (by omega) (gc_sheet Y _ _ hj9) rfl kU_X7 (by decide) kF_X11_316 rfl dX11_judge_105 (q := 108) rfl ?_
          have hif := g_if h
          clear h
          refine g_icmp_ne C dX11_judge_108 (q := 111) (tgt := 115) rfl (by decide) (fun c => ?_) (fun c => ?_)
          · have h := hif.2 c
            clear hif
            refine g_iload_n C 0 dX11_judge_115 (q := 116) rfl rfl rfl ?_
            refine g_iconst C (v := 1) dX11_judge_116 (q := 117) rfl (by decide) ?_
            refine g_iadd C dX11_judge_117 (q := 118) rfl ?_
            obtain rfl := Option.some.inj h
            exact g_iret C E dX11_judge_118
          · have h := hif.1 c
            clear hif
            refine g_iconst C (v := 0) dX11_judge_111 (q := 112) rfl (by decide) ?_
            refine g_goto C dX11_judge_112 (tgt := 118) (by decide) ?_
            obtain rfl := Option.some.inj h
            exact g_iret C E dX11_judge_118
      · have h := hif.1 c
        clear hif
        refine g_aload_n C 0 dX11_judge_51 (q := 52) rfl rfl rfl ?_
        refine g_get C (k := 0) (i := 0) (by decide) (gc_0 Y _ _) rfl kU_X11 (by decide) kF_X11_12 rfl dX11_judge_52 (q := 55) rfl ?_
        refine g_ldc C (v := (-1000000001)) kK_X11_90 dX11_judge_55 (q := 57) rfl ?_
        obtain ⟨p10, hp10, h⟩ := g_bind h
        refine g_callV C (k := 1) (as := [.int (-1000000001)]) (st := []) (m_X2_tell hp10) (g_hR (by decide)) (by decide) (by decide) (gc_1 Y _ _) rfl kM_X11_91 kI_X2_tell kS_X2_tell kN_X2 kC_X2_tell kD_X2_tell rfl (Nat.le_of_ble_eq_true rfl) dX11_judge_57 (q := 60) rfl ?_
        show g_G 4 X Y 60 [(0, g_r Y 0), (1, .int x1), (2, .int x2)] [.int p10.1] p10.2
        obtain rfl := Option.some.inj h
        exact g_iret C E dX11_judge_60
    · have h := hif.2 c
      clear hif
      refine g_aload_n C 0 dX11_judge_29 (q := 30) rfl rfl rfl ?_
      refine g_get C (k := 0) (i := 0) (by decide) (gc_0 Y _ _) rfl kU_X11 (by decide) kF_X11_12 rfl dX11_judge_30 (q := 33) rfl ?_
      refine g_ldcw C (v := (-1000000006)) kK_X11_304 dX11_judge_33 (q := 36) rfl ?_
      obtain ⟨p11, hp11, h⟩ := g_bind h
      refine g_callV C (k := 1) (as := [.int (-1000000006)]) (st := []) (m_X2_tell hp11) (g_hR (by decide)) (by decide) (by decide) (gc_1 Y _ _) rfl kM_X11_91 kI_X2_tell kS_X2_tell kN_X2 kC_X2_tell kD_X2_tell rfl (Nat.le_of_ble_eq_true rfl) dX11_judge_36 (q := 39) rfl ?_
      show g_G 4 X Y 39 [(0, g_r Y 0), (1, .int x1), (2, .int x2)] [.int p11.1] p11.2
      obtain rfl := Option.some.inj h
      exact g_iret C E dX11_judge_39
  · have h := hif.1 c
    clear hif
    refine g_aload_n C 0 dX11_judge_7 (q := 8) rfl rfl rfl ?_
    refine g_get C (k := 0) (i := 0) (by decide) (gc_0 Y _ _) rfl kU_X11 (by decide) kF_X11_12 rfl dX11_judge_8 (q := 11) rfl ?_
    refine g_ldc C (v := (-1000000001)) kK_X11_90 dX11_judge_11 (q := 13) rfl ?_
    obtain ⟨p12, hp12, h⟩ := g_bind h
    refine g_callV C (k := 1) (as := [.int (-1000000001)]) (st := []) (m_X2_tell hp12) (g_hR (by decide)) (by decide) (by decide) (gc_1 Y _ _) rfl kM_X11_91 kI_X2_tell kS_X2_tell kN_X2 kC_X2_tell kD_X2_tell rfl (Nat.le_of_ble_eq_true rfl) dX11_judge_13 (q := 16) rfl ?_
    show g_G 4 X Y 16 [(0, g_r Y 0), (1, .int x1), (2, .int x2)] [.int p12.1] p12.2
    obtain rfl := Option.some.inj h
    exact g_iret C E dX11_judge_16
theorem r_X11_judge {x1 : Int32} {x2 : Int32} {M : g_M} {p : Int32 × g_M} (h : f_X11_judge x1 x2 M = some p) : g_fr [2, 37, 38, 42, 44, 45] [(1, 1), (36, 2), (41, 1), (43, 1)] M p.2 := by
  unfold f_X11_judge at h
  have hf := g_fr.rfl (S := [2, 37, 38, 42, 44, 45]) (T := [(1, 1), (36, 2), (41, 1), (43, 1)]) (M := M)
  obtain ⟨p1, -, h⟩ := g_bind h
  rcases g_ifs h with h | h
  · obtain ⟨p12, hp12, h⟩ := g_bind h
    have hf := hf.trans ((r_X2_tell hp12).mono (by decide) (by decide))
    obtain rfl := Option.some.inj h
    exact hf
  · obtain ⟨j2, qj2, h⟩ := g_bind h
    have hj2 := (g_in_s qj2).2.2
    obtain ⟨p3, -, h⟩ := g_bind h
    rcases g_ifs h with h | h
    · obtain ⟨p4, -, h⟩ := g_bind h
      rcases g_ifs h with h | h
      · obtain ⟨p10, hp10, h⟩ := g_bind h
        have hf := hf.trans ((r_X2_tell hp10).mono (by decide) (by decide))
        obtain rfl := Option.some.inj h
        exact hf
      · obtain ⟨p5, hp5, h⟩ := g_bind h
        have hf := hf.trans ((r_X11_openingSets hp5).mono (by decide) (by decide))
        obtain ⟨p6, hp6, h⟩ := g_bind h
        have hf := hf.trans ((r_X6_findLeast_43_41 hp6).mono (by decide) (by decide))
        obtain ⟨j7, qj7, h⟩ := g_bind h
        have hj7 := (g_in_s qj7).2.2
        obtain ⟨p8, -, h⟩ := g_bind h
        rcases g_ifs h with h | h
        · obtain ⟨j9, qj9, h⟩ := g_bind h
          have hj9 := (g_in_s qj9).2.2
          rcases g_ifs h with h | h
          · obtain rfl := Option.some.inj h
            exact hf
          · obtain rfl := Option.some.inj h
            exact hf
        · obtain rfl := Option.some.inj h
          exact hf
    · obtain ⟨p11, hp11, h⟩ := g_bind h
      have hf := hf.trans ((r_X2_tell hp11).mono (by decide) (by decide))
      obtain rfl := Option.some.inj h
      exact hf
def f_X11_sheet_29 (M : g_M) : Option (Int32 × g_M) :=
  (f_X2_tell (-1000000001) M).bind fun p2 => some (p2.1, p2.2)
set_option maxRecDepth 100000 in
theorem t_X11_sheet_29 {l : Launch} {X : g_X} {Y : g_Y} {p : Int32 × g_M} (C : g_C l (g_rm (2)) RX11 cX11_sheet 4 X Y) (E : g_E (some .int) X Y (some (.int p.1)) p.2) (M : g_M) (h : f_X11_sheet_29 M = some p) : g_G 4 X Y 29 [(0, g_r Y 0)] [] M := by
  unfold f_X11_sheet_29 at h
  refine g_aload_n C 0 dX11_sheet_29 (q := 30) rfl rfl rfl ?_
  refine g_get C (k := 0) (i := 0) (by decide) (gc_0 Y _ _) rfl kU_X11 (by decide) kF_X11_12 rfl dX11_sheet_30 (q := 33) rfl ?_
  refine g_ldc C (v := (-1000000001)) kK_X11_90 dX11_sheet_33 (q := 35) rfl ?_
  obtain ⟨p2, hp2, h⟩ := g_bind h
  refine g_callV C (k := 1) (as := [.int (-1000000001)]) (st := []) (m_X2_tell hp2) (g_hR (by decide)) (by decide) (by decide) (gc_1 Y _ _) rfl kM_X11_91 kI_X2_tell kS_X2_tell kN_X2 kC_X2_tell kD_X2_tell rfl (Nat.le_of_ble_eq_true rfl) dX11_sheet_35 (q := 38) rfl ?_
  show g_G 4 X Y 38 [(0, g_r Y 0)] [.int p2.1] p2.2
  obtain rfl := Option.some.inj h
  exact g_iret C E dX11_sheet_38
theorem r_X11_sheet_29 {p : Int32 × g_M} (M : g_M) (h : f_X11_sheet_29 M = some p) : g_fr [2, 55, 56, 57, 58] [(1, 1), (51, 0), (51, 1), (52, 0), (52, 1), (53, 0), (53, 1), (54, 0), (54, 1)] M p.2 := by
  unfold f_X11_sheet_29 at h
  have hf := g_fr.rfl (S := [2, 55, 56, 57, 58]) (T := [(1, 1), (51, 0), (51, 1), (52, 0), (52, 1), (53, 0), (53, 1), (54, 0), (54, 1)]) (M := M)
  obtain ⟨p2, hp2, h⟩ := g_bind h
  have hf := hf.trans ((r_X2_tell hp2).mono (by decide) (by decide))
  obtain rfl := Option.some.inj h
  exact hf
def f_X11_sheet_39 (x1 : Int32) (x2 : Int32) (x3 : Int32) (M : g_M) : Option (Int32 × g_M) :=
  (if 0 ≤ x3 then ((if x3 ≤ 40 then ((g_in 4 x1).bind fun j3 => (f_X7_clear j3 x2 x3 M).bind fun p4 => some (p4.1, p4.2)) else ((f_X2_tell (-1000000001) M).bind fun p5 => some (p5.1, p5.2)))) else ((f_X2_tell (-1000000007) M).bind fun p6 => some (p6.1, p6.2)))
set_option maxRecDepth 100000 in
theorem t_X11_sheet_39 {l : Launch} {X : g_X} {Y : g_Y} {p : Int32 × g_M} (C : g_C l (g_rm (2)) RX11 cX11_sheet 4 X Y) (E : g_E (some .int) X Y (some (.int p.1)) p.2) (x1 : Int32) (x2 : Int32) (x3 : Int32) (M : g_M) (h : f_X11_sheet_39 x1 x2 x3 M = some p) : g_G 4 X Y 39 [(0, g_r Y 0), (1, .int x1), (2, .int x2), (3, .int x3)] [] M := by
  unfold f_X11_sheet_39 at h
  refine g_iload_n C 3 dX11_sheet_39 (q := 40) rfl rfl rfl ?_
  have hif := g_if h
  clear h
  refine g_if_ge C dX11_sheet_40 (q := 43) (tgt := 54) rfl (by decide) (fun c => ?_) (fun c => ?_)
  · have h := hif.1 c
    clear hif
    refine g_iload_n C 3 dX11_sheet_54 (q := 55) rfl rfl rfl ?_
    refine g_bipush C (v := 40) dX11_sheet_55 (q := 57) rfl (by decide) ?_
    have hif := g_if h
    clear h
    refine g_icmp_le C dX11_sheet_57 (q := 60) (tgt := 70) rfl (by decide) (fun c => ?_) (fun c => ?_)
    · have h := hif.1 c
      clear hif
      refine g_aload_n C 0 dX11_sheet_70 (q := 71) rfl rfl rfl ?_
      refine g_get C (k := 0) (i := 16) (by decide) (gc_0 Y _ _) rfl kU_X11 (by decide) kF_X11_85 rfl dX11_sheet_71 (q := 74) rfl ?_
      refine g_iload_n C 1 dX11_sheet_74 (q := 75) rfl rfl rfl ?_
      obtain ⟨j3, qj3, h⟩ := g_bind h
      have hj3 := (g_in_s qj3).2.2
      refine g_aldS C (k := 50) (n := 4) (b := 51) (by decide) (gc_50 Y _ _) qj3 dX11_sheet_75 (q := 76) rfl ?_
      refine g_iload_n C 2 dX11_sheet_76 (q := 77) rfl rfl rfl ?_
      refine g_iload_n C 3 dX11_sheet_77 (q := 78) rfl rfl rfl ?_
      obtain ⟨p4, hp4, h⟩ := g_bind h
      refine g_callV C (k := (51 + j3)) (as := [.int x2, .int x3]) (st := []) (m_X7_clear j3 hj3 hp4) (g_hR (by decide)) (by decide) (by omega) (gc_sheet Y _ _ hj3) rfl kM_X11_317 kI_X7_clear kS_X7_clear kN_X7 kC_X7_clear kD_X7_clear rfl (Nat.le_of_ble_eq_true rfl) dX11_sheet_78 (q := 81) rfl ?_
      show g_G 4 X Y 81 [(0, g_r Y 0), (1, .int x1), (2, .int x2), (3, .int x3)] [.int p4.1] p4.2
      obtain rfl := Option.some.inj h
      exact g_iret C E dX11_sheet_81
    · have h := hif.2 c
      clear hif
      refine g_aload_n C 0 dX11_sheet_60 (q := 61) rfl rfl rfl ?_
      refine g_get C (k := 0) (i := 0) (by decide) (gc_0 Y _ _) rfl kU_X11 (by decide) kF_X11_12 rfl dX11_sheet_61 (q := 64) rfl ?_
      refine g_ldc C (v := (-1000000001)) kK_X11_90 dX11_sheet_64 (q := 66) rfl ?_
      obtain ⟨p5, hp5, h⟩ := g_bind h
      refine g_callV C (k := 1) (as := [.int (-1000000001)]) (st := []) (m_X2_tell hp5) (g_hR (by decide)) (by decide) (by decide) (gc_1 Y _ _) rfl kM_X11_91 kI_X2_tell kS_X2_tell kN_X2 kC_X2_tell kD_X2_tell rfl (Nat.le_of_ble_eq_true rfl) dX11_sheet_66 (q := 69) rfl ?_
      show g_G 4 X Y 69 [(0, g_r Y 0), (1, .int x1), (2, .int x2), (3, .int x3)] [.int p5.1] p5.2
      obtain rfl := Option.some.inj h
      exact g_iret C E dX11_sheet_69
  · have h := hif.2 c
    clear hif
    refine g_aload_n C 0 dX11_sheet_43 (q := 44) rfl rfl rfl ?_
    refine g_get C (k := 0) (i := 0) (by decide) (gc_0 Y _ _) rfl kU_X11 (by decide) kF_X11_12 rfl dX11_sheet_44 (q := 47) rfl ?_
    refine g_ldcw C (v := (-1000000007)) kK_X11_277 dX11_sheet_47 (q := 50) rfl ?_
    obtain ⟨p6, hp6, h⟩ := g_bind h
    refine g_callV C (k := 1) (as := [.int (-1000000007)]) (st := []) (m_X2_tell hp6) (g_hR (by decide)) (by decide) (by decide) (gc_1 Y _ _) rfl kM_X11_91 kI_X2_tell kS_X2_tell kN_X2 kC_X2_tell kD_X2_tell rfl (Nat.le_of_ble_eq_true rfl) dX11_sheet_50 (q := 53) rfl ?_
    show g_G 4 X Y 53 [(0, g_r Y 0), (1, .int x1), (2, .int x2), (3, .int x3)] [.int p6.1] p6.2
    obtain rfl := Option.some.inj h
    exact g_iret C E dX11_sheet_53
theorem r_X11_sheet_39 {p : Int32 × g_M} (x1 : Int32) (x2 : Int32) (x3 : Int32) (M : g_M) (h : f_X11_sheet_39 x1 x2 x3 M = some p) : g_fr [2, 55, 56, 57, 58] [(1, 1), (51, 0), (51, 1), (52, 0), (52, 1), (53, 0), (53, 1), (54, 0), (54, 1)] M p.2 := by
  unfold f_X11_sheet_39 at h
  have hf := g_fr.rfl (S := [2, 55, 56, 57, 58]) (T := [(1, 1), (51, 0), (51, 1), (52, 0), (52, 1), (53, 0), (53, 1), (54, 0), (54, 1)]) (M := M)
  rcases g_ifs h with h | h
  · rcases g_ifs h with h | h
    · obtain ⟨j3, qj3, h⟩ := g_bind h
      have hj3 := (g_in_s qj3).2.2
      obtain ⟨p4, hp4, h⟩ := g_bind h
      have hf := hf.trans ((r_X7_clear j3 hj3 hp4).mono (by decide) (by decide))
      obtain rfl := Option.some.inj h
      exact hf
    · obtain ⟨p5, hp5, h⟩ := g_bind h
      have hf := hf.trans ((r_X2_tell hp5).mono (by decide) (by decide))
      obtain rfl := Option.some.inj h
      exact hf
  · obtain ⟨p6, hp6, h⟩ := g_bind h
    have hf := hf.trans ((r_X2_tell hp6).mono (by decide) (by decide))
    obtain rfl := Option.some.inj h
    exact hf
def f_X11_sheet (x1 : Int32) (x2 : Int32) (x3 : Int32) (M : g_M) : Option (Int32 × g_M) :=
  (f_X11_isSheet x1 M).bind fun p1 => (if p1 = 0 then (f_X11_sheet_29 M) else ((if x2 = 0 then (f_X11_sheet_39 x1 x2 x3 M) else ((if x2 = 8 then (f_X11_sheet_39 x1 x2 x3 M) else ((if x2 = 16 then (f_X11_sheet_39 x1 x2 x3 M) else ((if x2 = 64 then (f_X11_sheet_39 x1 x2 x3 M) else (f_X11_sheet_29 M))))))))))
set_option maxRecDepth 100000 in
theorem m_X11_sheet {l : Launch} {Y : g_Y} {x1 : Int32} {x2 : Int32} {x3 : Int32} {M : g_M} {p : Int32 × g_M} (h : f_X11_sheet x1 x2 x3 M = some p) : g_R l Y (2) yX11_sheet cX11_sheet 4 (some .int) [g_r Y 0, .int x1, .int x2, .int x3] M (some (.int p.1)) p.2 := by
  unfold f_X11_sheet at h
  refine g_R_of kP_X11 rfl (Nat.le_of_ble_eq_true rfl) (fun X C E => ?_)
  show g_G 4 X Y 0 [(0, g_r Y 0), (1, .int x1), (2, .int x2), (3, .int x3)] [] M
  refine g_iload_n C 1 dX11_sheet_0 (q := 1) rfl rfl rfl ?_
  obtain ⟨p1, hp1, h⟩ := g_bind h
  refine g_callS C (as := [.int x1]) (st := []) (m_X11_isSheet hp1) (g_hR (by decide)) (by decide) kM_X11_297 kT_X11_isSheet kN_X11 kC_X11_isSheet kD_X11_isSheet rfl (Nat.le_of_ble_eq_true rfl) dX11_sheet_1 (q := 4) rfl ?_
  show g_G 4 X Y 4 [(0, g_r Y 0), (1, .int x1), (2, .int x2), (3, .int x3)] [.int p1] M
  have hif := g_if h
  clear h
  refine g_if_eq C dX11_sheet_4 (q := 7) (tgt := 29) rfl (by decide) (fun c => ?_) (fun c => ?_)
  · have h := hif.1 c
    clear hif
    refine g_sub [0] (lv' := [(0, g_r Y 0)]) rfl ?_
    exact t_X11_sheet_29 C E M h
  · have h := hif.2 c
    clear hif
    refine g_iload_n C 2 dX11_sheet_7 (q := 8) rfl rfl rfl ?_
    have hif := g_if h
    clear h
    refine g_if_eq C dX11_sheet_8 (q := 11) (tgt := 39) rfl (by decide) (fun c => ?_) (fun c => ?_)
    · have h := hif.1 c
      clear hif
      refine g_sub [0, 1, 2, 3] (lv' := [(0, g_r Y 0), (1, .int x1), (2, .int x2), (3, .int x3)]) rfl ?_
      exact t_X11_sheet_39 C E x1 x2 x3 M h
    · have h := hif.2 c
      clear hif
      refine g_iload_n C 2 dX11_sheet_11 (q := 12) rfl rfl rfl ?_
      refine g_bipush C (v := 8) dX11_sheet_12 (q := 14) rfl (by decide) ?_
      have hif := g_if h
      clear h
      refine g_icmp_eq C dX11_sheet_14 (q := 17) (tgt := 39) rfl (by decide) (fun c => ?_) (fun c => ?_)
      · have h := hif.1 c
        clear hif
        refine g_sub [0, 1, 2, 3] (lv' := [(0, g_r Y 0), (1, .int x1), (2, .int x2), (3, .int x3)]) rfl ?_
        exact t_X11_sheet_39 C E x1 x2 x3 M h
      · have h := hif.2 c
        clear hif
        refine g_iload_n C 2 dX11_sheet_17 (q := 18) rfl rfl rfl ?_
        refine g_bipush C (v := 16) dX11_sheet_18 (q := 20) rfl (by decide) ?_
        have hif := g_if h
        clear h
        refine g_icmp_eq C dX11_sheet_20 (q := 23) (tgt := 39) rfl (by decide) (fun c => ?_) (fun c => ?_)
        · have h := hif.1 c
          clear hif
          refine g_sub [0, 1, 2, 3] (lv' := [(0, g_r Y 0), (1, .int x1), (2, .int x2), (3, .int x3)]) rfl ?_
          exact t_X11_sheet_39 C E x1 x2 x3 M h
        · have h := hif.2 c
          clear hif
          refine g_iload_n C 2 dX11_sheet_23 (q := 24) rfl rfl rfl ?_
          refine g_bipush C (v := 64) dX11_sheet_24 (q := 26) rfl (by decide) ?_
          have hif := g_if h
          clear h
          refine g_icmp_eq C dX11_sheet_26 (q := 29) (tgt := 39) rfl (by decide) (fun c => ?_) (fun c => ?_)
          · have h := hif.1 c
            clear hif
            refine g_sub [0, 1, 2, 3] (lv' := [(0, g_r Y 0), (1, .int x1), (2, .int x2), (3, .int x3)]) rfl ?_
            exact t_X11_sheet_39 C E x1 x2 x3 M h
          · have h := hif.2 c
            clear hif
            refine g_sub [0] (lv' := [(0, g_r Y 0)]) rfl ?_
            exact t_X11_sheet_29 C E M h
theorem r_X11_sheet {x1 : Int32} {x2 : Int32} {x3 : Int32} {M : g_M} {p : Int32 × g_M} (h : f_X11_sheet x1 x2 x3 M = some p) : g_fr [2, 55, 56, 57, 58] [(1, 1), (51, 0), (51, 1), (52, 0), (52, 1), (53, 0), (53, 1), (54, 0), (54, 1)] M p.2 := by
  unfold f_X11_sheet at h
  have hf := g_fr.rfl (S := [2, 55, 56, 57, 58]) (T := [(1, 1), (51, 0), (51, 1), (52, 0), (52, 1), (53, 0), (53, 1), (54, 0), (54, 1)]) (M := M)
  obtain ⟨p1, -, h⟩ := g_bind h
  rcases g_ifs h with h | h
  · exact hf.trans (r_X11_sheet_29 M h)
  · rcases g_ifs h with h | h
    · exact hf.trans (r_X11_sheet_39 x1 x2 x3 M h)
    · rcases g_ifs h with h | h
      · exact hf.trans (r_X11_sheet_39 x1 x2 x3 M h)
      · rcases g_ifs h with h | h
        · exact hf.trans (r_X11_sheet_39 x1 x2 x3 M h)
        · rcases g_ifs h with h | h
          · exact hf.trans (r_X11_sheet_39 x1 x2 x3 M h)
          · exact hf.trans (r_X11_sheet_29 M h)
def f_X11_write_59 (M : g_M) : Option (Int64 × g_M) :=
  (f_X2_tell (-1000000001) M).bind fun p4 => some (Int32.toInt64 p4.1, p4.2)
set_option maxRecDepth 100000 in
theorem t_X11_write_59 {l : Launch} {X : g_X} {Y : g_Y} {p : Int64 × g_M} (C : g_C l (g_rm (1)) RX11 cX11_write 5 X Y) (E : g_E (some .long) X Y (some (.long p.1)) p.2) (M : g_M) (h : f_X11_write_59 M = some p) : g_G 5 X Y 59 [(0, g_r Y 0)] [] M := by
  unfold f_X11_write_59 at h
  refine g_aload_n C 0 dX11_write_59 (q := 60) rfl rfl rfl ?_
  refine g_get C (k := 0) (i := 0) (by decide) (gc_0 Y _ _) rfl kU_X11 (by decide) kF_X11_12 rfl dX11_write_60 (q := 63) rfl ?_
  refine g_ldc C (v := (-1000000001)) kK_X11_90 dX11_write_63 (q := 65) rfl ?_
  obtain ⟨p4, hp4, h⟩ := g_bind h
  refine g_callV C (k := 1) (as := [.int (-1000000001)]) (st := []) (m_X2_tell hp4) (g_hR (by decide)) (by decide) (by decide) (gc_1 Y _ _) rfl kM_X11_91 kI_X2_tell kS_X2_tell kN_X2 kC_X2_tell kD_X2_tell rfl (Nat.le_of_ble_eq_true rfl) dX11_write_65 (q := 68) rfl ?_
  show g_G 5 X Y 68 [(0, g_r Y 0)] [.int p4.1] p4.2
  refine g_i2l C dX11_write_68 (q := 69) rfl ?_
  obtain rfl := Option.some.inj h
  exact g_lret C E dX11_write_69
theorem r_X11_write_59 {p : Int64 × g_M} (M : g_M) (h : f_X11_write_59 M = some p) : g_fr [2, 55, 56, 57, 58] [(1, 1)] M p.2 := by
  unfold f_X11_write_59 at h
  have hf := g_fr.rfl (S := [2, 55, 56, 57, 58]) (T := [(1, 1)]) (M := M)
  obtain ⟨p4, hp4, h⟩ := g_bind h
  have hf := hf.trans ((r_X2_tell hp4).mono (by decide) (by decide))
  obtain rfl := Option.some.inj h
  exact hf
def f_X11_write (x1 : Int32) (x2 : Int32) (x3 : Int64) (M : g_M) : Option (Int64 × g_M) :=
  (f_X11_isSheet x1 M).bind fun p1 => (if p1 = 0 then ((f_X2_tell (-1000000001) M).bind fun p9 => some (Int32.toInt64 p9.1, p9.2)) else ((g_in 4 x1).bind fun j2 => (f_X7_isMissing j2 M).bind fun p3 => (if p3 = 0 then ((if x2 < 0 then (f_X11_write_59 M) else ((g_in 4 x1).bind fun j5 => (if x2 < (M.1 (51 + j5) 1) then ((g_in 4 x1).bind fun j6 => (f_X7_change j6 x2 x3 M).bind fun p7 => some (p7.1, p7.2)) else (f_X11_write_59 M))))) else ((f_X2_tell (-1000000006) M).bind fun p8 => some (Int32.toInt64 p8.1, p8.2)))))
set_option maxRecDepth 100000 in
theorem m_X11_write {l : Launch} {Y : g_Y} {x1 : Int32} {x2 : Int32} {x3 : Int64} {M : g_M} {p : Int64 × g_M} (h : f_X11_write x1 x2 x3 M = some p) : g_R l Y (1) yX11_write cX11_write 5 (some .long) [g_r Y 0, .int x1, .int x2, .long x3] M (some (.long p.1)) p.2 := by
  unfold f_X11_write at h
  refine g_R_of kP_X11 rfl (Nat.le_of_ble_eq_true rfl) (fun X C E => ?_)
  show g_G 5 X Y 0 [(0, g_r Y 0), (1, .int x1), (2, .int x2), (3, .long x3)] [] M
  refine g_iload_n C 1 dX11_write_0 (q := 1) rfl rfl rfl ?_
  obtain ⟨p1, hp1, h⟩ := g_bind h
  refine g_callS C (as := [.int x1]) (st := []) (m_X11_isSheet hp1) (g_hR (by decide)) (by decide) kM_X11_297 kT_X11_isSheet kN_X11 kC_X11_isSheet kD_X11_isSheet rfl (Nat.le_of_ble_eq_true rfl) dX11_write_1 (q := 4) rfl ?_
  show g_G 5 X Y 4 [(0, g_r Y 0), (1, .int x1), (2, .int x2), (3, .long x3)] [.int p1] M
  have hif := g_if h
  clear h
  refine g_if_ne C dX11_write_4 (q := 7) (tgt := 18) rfl (by decide) (fun c => ?_) (fun c => ?_)
  · have h := hif.2 c
    clear hif
    refine g_aload_n C 0 dX11_write_18 (q := 19) rfl rfl rfl ?_
    refine g_get C (k := 0) (i := 16) (by decide) (gc_0 Y _ _) rfl kU_X11 (by decide) kF_X11_85 rfl dX11_write_19 (q := 22) rfl ?_
    refine g_iload_n C 1 dX11_write_22 (q := 23) rfl rfl rfl ?_
    obtain ⟨j2, qj2, h⟩ := g_bind h
    have hj2 := (g_in_s qj2).2.2
    refine g_aldS C (k := 50) (n := 4) (b := 51) (by decide) (gc_50 Y _ _) qj2 dX11_write_23 (q := 24) rfl ?_
    obtain ⟨p3, hp3, h⟩ := g_bind h
    refine g_callV C (k := (51 + j2)) (as := []) (st := []) (m_X7_isMissing j2 hj2 hp3) (g_hR (by decide)) (by decide) (by omega) (gc_sheet Y _ _ hj2) rfl kM_X11_300 kI_X7_isMissing kS_X7_isMissing kN_X7 kC_X7_isMissing kD_X7_isMissing rfl (Nat.le_of_ble_eq_true rfl) dX11_write_24 (q := 27) rfl ?_
    show g_G 5 X Y 27 [(0, g_r Y 0), (1, .int x1), (2, .int x2), (3, .long x3)] [.int p3] M
    have hif := g_if h
    clear h
    refine g_if_eq C dX11_write_27 (q := 30) (tgt := 42) rfl (by decide) (fun c => ?_) (fun c => ?_)
    · have h := hif.1 c
      clear hif
      refine g_iload_n C 2 dX11_write_42 (q := 43) rfl rfl rfl ?_
      have hif := g_if h
      clear h
      refine g_if_lt C dX11_write_43 (q := 46) (tgt := 59) rfl (by decide) (fun c => ?_) (fun c => ?_)
      · have h := hif.1 c
        clear hif
        refine g_sub [0] (lv' := [(0, g_r Y 0)]) rfl ?_
        exact t_X11_write_59 C E M h
      · have h := hif.2 c
        clear hif
        refine g_iload_n C 2 dX11_write_46 (q := 47) rfl rfl rfl ?_
        refine g_aload_n C 0 dX11_write_47 (q := 48) rfl rfl rfl ?_
        refine g_get C (k := 0) (i := 16) (by decide) (gc_0 Y _ _) rfl kU_X11 (by decide) kF_X11_85 rfl dX11_write_48 (q := 51) rfl ?_
        refine g_iload_n C 1 dX11_write_51 (q := 52) rfl rfl rfl ?_
        obtain ⟨j5, qj5, h⟩ := g_bind h
        have hj5 := (g_in_s qj5).2.2
        refine g_aldS C (k := 50) (n := 4) (b := 51) (by decide) (gc_50 Y _ _) qj5 dX11_write_52 (q := 53) rfl ?_
        refine g_get C (k := (51 + j5)) (i := 1) (by omega) (gc_sheet Y _ _ hj5) rfl kU_X7 (by decide) kF_X11_316 rfl dX11_write_53 (q := 56) rfl ?_
        have hif := g_if h
        clear h
        refine g_icmp_lt C dX11_write_56 (q := 59) (tgt := 70) rfl (by decide) (fun c => ?_) (fun c => ?_)
        · have h := hif.1 c
          clear hif
          refine g_aload_n C 0 dX11_write_70 (q := 71) rfl rfl rfl ?_
          refine g_get C (k := 0) (i := 16) (by decide) (gc_0 Y _ _) rfl kU_X11 (by decide) kF_X11_85 rfl dX11_write_71 (q := 74) rfl ?_
          refine g_iload_n C 1 dX11_write_74 (q := 75) rfl rfl rfl ?_
          obtain ⟨j6, qj6, h⟩ := g_bind h
          have hj6 := (g_in_s qj6).2.2
          refine g_aldS C (k := 50) (n := 4) (b := 51) (by decide) (gc_50 Y _ _) qj6 dX11_write_75 (q := 76) rfl ?_
          refine g_iload_n C 2 dX11_write_76 (q := 77) rfl rfl rfl ?_
          refine g_lload_n C 3 dX11_write_77 (q := 78) rfl rfl rfl ?_
          obtain ⟨p7, hp7, h⟩ := g_bind h
          refine g_callV C (k := (51 + j6)) (as := [.int x2, .long x3]) (st := []) (m_X7_change j6 hj6 hp7) (g_hR (by decide)) (by decide) (by omega) (gc_sheet Y _ _ hj6) rfl kM_X11_319 kI_X7_change kS_X7_change kN_X7 kC_X7_change kD_X7_change rfl (Nat.le_of_ble_eq_true rfl) dX11_write_78 (q := 81) rfl ?_
          show g_G 5 X Y 81 [(0, g_r Y 0), (1, .int x1), (2, .int x2), (3, .long x3)] [.long p7.1] p7.2
          obtain rfl := Option.some.inj h
          exact g_lret C E dX11_write_81
        · have h := hif.2 c
          clear hif
          refine g_sub [0] (lv' := [(0, g_r Y 0)]) rfl ?_
          exact t_X11_write_59 C E M h
    · have h := hif.2 c
      clear hif
      refine g_aload_n C 0 dX11_write_30 (q := 31) rfl rfl rfl ?_
      refine g_get C (k := 0) (i := 0) (by decide) (gc_0 Y _ _) rfl kU_X11 (by decide) kF_X11_12 rfl dX11_write_31 (q := 34) rfl ?_
      refine g_ldcw C (v := (-1000000006)) kK_X11_304 dX11_write_34 (q := 37) rfl ?_
      obtain ⟨p8, hp8, h⟩ := g_bind h
      refine g_callV C (k := 1) (as := [.int (-1000000006)]) (st := []) (m_X2_tell hp8) (g_hR (by decide)) (by decide) (by decide) (gc_1 Y _ _) rfl kM_X11_91 kI_X2_tell kS_X2_tell kN_X2 kC_X2_tell kD_X2_tell rfl (Nat.le_of_ble_eq_true rfl) dX11_write_37 (q := 40) rfl ?_
      show g_G 5 X Y 40 [(0, g_r Y 0), (1, .int x1), (2, .int x2), (3, .long x3)] [.int p8.1] p8.2
      refine g_i2l C dX11_write_40 (q := 41) rfl ?_
      obtain rfl := Option.some.inj h
      exact g_lret C E dX11_write_41
  · have h := hif.1 c
    clear hif
    refine g_aload_n C 0 dX11_write_7 (q := 8) rfl rfl rfl ?_
    refine g_get C (k := 0) (i := 0) (by decide) (gc_0 Y _ _) rfl kU_X11 (by decide) kF_X11_12 rfl dX11_write_8 (q := 11) rfl ?_
    refine g_ldc C (v := (-1000000001)) kK_X11_90 dX11_write_11 (q := 13) rfl ?_
    obtain ⟨p9, hp9, h⟩ := g_bind h
    refine g_callV C (k := 1) (as := [.int (-1000000001)]) (st := []) (m_X2_tell hp9) (g_hR (by decide)) (by decide) (by decide) (gc_1 Y _ _) rfl kM_X11_91 kI_X2_tell kS_X2_tell kN_X2 kC_X2_tell kD_X2_tell rfl (Nat.le_of_ble_eq_true rfl) dX11_write_13 (q := 16) rfl ?_
    show g_G 5 X Y 16 [(0, g_r Y 0), (1, .int x1), (2, .int x2), (3, .long x3)] [.int p9.1] p9.2
    refine g_i2l C dX11_write_16 (q := 17) rfl ?_
    obtain rfl := Option.some.inj h
    exact g_lret C E dX11_write_17
theorem r_X11_write {x1 : Int32} {x2 : Int32} {x3 : Int64} {M : g_M} {p : Int64 × g_M} (h : f_X11_write x1 x2 x3 M = some p) : g_fr [2, 55, 56, 57, 58] [(1, 1)] M p.2 := by
  unfold f_X11_write at h
  have hf := g_fr.rfl (S := [2, 55, 56, 57, 58]) (T := [(1, 1)]) (M := M)
  obtain ⟨p1, -, h⟩ := g_bind h
  rcases g_ifs h with h | h
  · obtain ⟨p9, hp9, h⟩ := g_bind h
    have hf := hf.trans ((r_X2_tell hp9).mono (by decide) (by decide))
    obtain rfl := Option.some.inj h
    exact hf
  · obtain ⟨j2, qj2, h⟩ := g_bind h
    have hj2 := (g_in_s qj2).2.2
    obtain ⟨p3, -, h⟩ := g_bind h
    rcases g_ifs h with h | h
    · rcases g_ifs h with h | h
      · exact hf.trans (r_X11_write_59 M h)
      · obtain ⟨j5, qj5, h⟩ := g_bind h
        have hj5 := (g_in_s qj5).2.2
        rcases g_ifs h with h | h
        · obtain ⟨j6, qj6, h⟩ := g_bind h
          have hj6 := (g_in_s qj6).2.2
          obtain ⟨p7, hp7, h⟩ := g_bind h
          have hf := hf.trans ((r_X7_change j6 hj6 hp7).mono (by decide) (by decide))
          obtain rfl := Option.some.inj h
          exact hf
        · exact hf.trans (r_X11_write_59 M h)
    · obtain ⟨p8, hp8, h⟩ := g_bind h
      have hf := hf.trans ((r_X2_tell hp8).mono (by decide) (by decide))
      obtain rfl := Option.some.inj h
      exact hf
def f_X11_copy_14 (M : g_M) : Option (Int32 × g_M) :=
  (f_X2_tell (-1000000001) M).bind fun p2 => some (p2.1, p2.2)
set_option maxRecDepth 100000 in
theorem t_X11_copy_14 {l : Launch} {X : g_X} {Y : g_Y} {p : Int32 × g_M} (C : g_C l (g_rm (1)) RX11 cX11_copy 6 X Y) (E : g_E (some .int) X Y (some (.int p.1)) p.2) (M : g_M) (h : f_X11_copy_14 M = some p) : g_G 6 X Y 14 [(0, g_r Y 0)] [] M := by
  unfold f_X11_copy_14 at h
  refine g_aload_n C 0 dX11_copy_14 (q := 15) rfl rfl rfl ?_
  refine g_get C (k := 0) (i := 0) (by decide) (gc_0 Y _ _) rfl kU_X11 (by decide) kF_X11_12 rfl dX11_copy_15 (q := 18) rfl ?_
  refine g_ldc C (v := (-1000000001)) kK_X11_90 dX11_copy_18 (q := 20) rfl ?_
  obtain ⟨p2, hp2, h⟩ := g_bind h
  refine g_callV C (k := 1) (as := [.int (-1000000001)]) (st := []) (m_X2_tell hp2) (g_hR (by decide)) (by decide) (by decide) (gc_1 Y _ _) rfl kM_X11_91 kI_X2_tell kS_X2_tell kN_X2 kC_X2_tell kD_X2_tell rfl (Nat.le_of_ble_eq_true rfl) dX11_copy_20 (q := 23) rfl ?_
  show g_G 6 X Y 23 [(0, g_r Y 0)] [.int p2.1] p2.2
  obtain rfl := Option.some.inj h
  exact g_iret C E dX11_copy_23
theorem r_X11_copy_14 {p : Int32 × g_M} (M : g_M) (h : f_X11_copy_14 M = some p) : g_fr [2, 55, 56, 57, 58] [(1, 1)] M p.2 := by
  unfold f_X11_copy_14 at h
  have hf := g_fr.rfl (S := [2, 55, 56, 57, 58]) (T := [(1, 1)]) (M := M)
  obtain ⟨p2, hp2, h⟩ := g_bind h
  have hf := hf.trans ((r_X2_tell hp2).mono (by decide) (by decide))
  obtain rfl := Option.some.inj h
  exact hf
def f_X11_copy_48 (M : g_M) : Option (Int32 × g_M) :=
  (f_X2_tell (-1000000006) M).bind fun p6 => some (p6.1, p6.2)
set_option maxRecDepth 100000 in
theorem t_X11_copy_48 {l : Launch} {X : g_X} {Y : g_Y} {p : Int32 × g_M} (C : g_C l (g_rm (1)) RX11 cX11_copy 6 X Y) (E : g_E (some .int) X Y (some (.int p.1)) p.2) (M : g_M) (h : f_X11_copy_48 M = some p) : g_G 6 X Y 48 [(0, g_r Y 0)] [] M := by
  unfold f_X11_copy_48 at h
  refine g_aload_n C 0 dX11_copy_48 (q := 49) rfl rfl rfl ?_
  refine g_get C (k := 0) (i := 0) (by decide) (gc_0 Y _ _) rfl kU_X11 (by decide) kF_X11_12 rfl dX11_copy_49 (q := 52) rfl ?_
  refine g_ldcw C (v := (-1000000006)) kK_X11_304 dX11_copy_52 (q := 55) rfl ?_
  obtain ⟨p6, hp6, h⟩ := g_bind h
  refine g_callV C (k := 1) (as := [.int (-1000000006)]) (st := []) (m_X2_tell hp6) (g_hR (by decide)) (by decide) (by decide) (gc_1 Y _ _) rfl kM_X11_91 kI_X2_tell kS_X2_tell kN_X2 kC_X2_tell kD_X2_tell rfl (Nat.le_of_ble_eq_true rfl) dX11_copy_55 (q := 58) rfl ?_
  show g_G 6 X Y 58 [(0, g_r Y 0)] [.int p6.1] p6.2
  obtain rfl := Option.some.inj h
  exact g_iret C E dX11_copy_58
theorem r_X11_copy_48 {p : Int32 × g_M} (M : g_M) (h : f_X11_copy_48 M = some p) : g_fr [2, 55, 56, 57, 58] [(1, 1)] M p.2 := by
  unfold f_X11_copy_48 at h
  have hf := g_fr.rfl (S := [2, 55, 56, 57, 58]) (T := [(1, 1)]) (M := M)
  obtain ⟨p6, hp6, h⟩ := g_bind h
  have hf := hf.trans ((r_X2_tell hp6).mono (by decide) (by decide))
  obtain rfl := Option.some.inj h
  exact hf
def f_X11_copy_121 (M : g_M) : Option (Int32 × g_M) :=
  (f_X2_tell (-1000000001) M).bind fun p13 => some (p13.1, p13.2)
set_option maxRecDepth 100000 in
theorem t_X11_copy_121 {l : Launch} {X : g_X} {Y : g_Y} {p : Int32 × g_M} (C : g_C l (g_rm (1)) RX11 cX11_copy 6 X Y) (E : g_E (some .int) X Y (some (.int p.1)) p.2) (M : g_M) (h : f_X11_copy_121 M = some p) : g_G 6 X Y 121 [(0, g_r Y 0)] [] M := by
  unfold f_X11_copy_121 at h
  refine g_aload_n C 0 dX11_copy_121 (q := 122) rfl rfl rfl ?_
  refine g_get C (k := 0) (i := 0) (by decide) (gc_0 Y _ _) rfl kU_X11 (by decide) kF_X11_12 rfl dX11_copy_122 (q := 125) rfl ?_
  refine g_ldc C (v := (-1000000001)) kK_X11_90 dX11_copy_125 (q := 127) rfl ?_
  obtain ⟨p13, hp13, h⟩ := g_bind h
  refine g_callV C (k := 1) (as := [.int (-1000000001)]) (st := []) (m_X2_tell hp13) (g_hR (by decide)) (by decide) (by decide) (gc_1 Y _ _) rfl kM_X11_91 kI_X2_tell kS_X2_tell kN_X2 kC_X2_tell kD_X2_tell rfl (Nat.le_of_ble_eq_true rfl) dX11_copy_127 (q := 130) rfl ?_
  show g_G 6 X Y 130 [(0, g_r Y 0)] [.int p13.1] p13.2
  obtain rfl := Option.some.inj h
  exact g_iret C E dX11_copy_130
theorem r_X11_copy_121 {p : Int32 × g_M} (M : g_M) (h : f_X11_copy_121 M = some p) : g_fr [2, 55, 56, 57, 58] [(1, 1)] M p.2 := by
  unfold f_X11_copy_121 at h
  have hf := g_fr.rfl (S := [2, 55, 56, 57, 58]) (T := [(1, 1)]) (M := M)
  obtain ⟨p13, hp13, h⟩ := g_bind h
  have hf := hf.trans ((r_X2_tell hp13).mono (by decide) (by decide))
  obtain rfl := Option.some.inj h
  exact hf
def f_X11_copy (x1 : Int32) (x2 : Int32) (x3 : Int32) (x4 : Int32) (x5 : Int32) (M : g_M) : Option (Int32 × g_M) :=
  (f_X11_isSheet x1 M).bind fun p1 => (if p1 = 0 then (f_X11_copy_14 M) else ((f_X11_isSheet x3 M).bind fun p3 => (if p3 = 0 then (f_X11_copy_14 M) else ((g_in 4 x1).bind fun j4 => (f_X7_isMissing j4 M).bind fun p5 => (if p5 = 0 then ((g_in 4 x3).bind fun j7 => (f_X7_isMissing j7 M).bind fun p8 => (if p8 = 0 then ((g_in 4 x1).bind fun j9 => (g_in 4 x3).bind fun j10 => (if (M.1 (51 + j9) 0) = (M.1 (51 + j10) 0) then ((g_in 4 x1).bind fun j11 => (f_X7_hasFrom j11 x2 x5 M).bind fun p12 => (if p12 = 0 then (f_X11_copy_121 M) else ((g_in 4 x3).bind fun j14 => (f_X7_hasFrom j14 x4 x5 M).bind fun p15 => (if p15 = 0 then (f_X11_copy_121 M) else ((g_in 4 x1).bind fun j16 => (g_in 4 x3).bind fun j17 => (g_cpl M (55 + j16) 40 (55 + j17) 40 x2 x4 x5).bind fun M18 => some (x5, M18)))))) else ((f_X2_tell (-1000000003) M).bind fun p19 => some (p19.1, p19.2)))) else (f_X11_copy_48 M))) else (f_X11_copy_48 M))))))
set_option maxRecDepth 100000 in
theorem m_X11_copy {l : Launch} {Y : g_Y} {x1 : Int32} {x2 : Int32} {x3 : Int32} {x4 : Int32} {x5 : Int32} {M : g_M} {p : Int32 × g_M} (h : f_X11_copy x1 x2 x3 x4 x5 M = some p) : g_R l Y (1) yX11_copy cX11_copy 6 (some .int) [g_r Y 0, .int x1, .int x2, .int x3, .int x4, .int x5] M (some (.int p.1)) p.2 := by
  unfold f_X11_copy at h
  refine g_R_of kP_X11 rfl (Nat.le_of_ble_eq_true rfl) (fun X C E => ?_)
  show g_G 6 X Y 0 [(0, g_r Y 0), (1, .int x1), (2, .int x2), (3, .int x3), (4, .int x4), (5, .int x5)] [] M
  refine g_iload_n C 1 dX11_copy_0 (q := 1) rfl rfl rfl ?_
  obtain ⟨p1, hp1, h⟩ := g_bind h
  refine g_callS C (as := [.int x1]) (st := []) (m_X11_isSheet hp1) (g_hR (by decide)) (by decide) kM_X11_297 kT_X11_isSheet kN_X11 kC_X11_isSheet kD_X11_isSheet rfl (Nat.le_of_ble_eq_true rfl) dX11_copy_1 (q := 4) rfl ?_
  show g_G 6 X Y 4 [(0, g_r Y 0), (1, .int x1), (2, .int x2), (3, .int x3), (4, .int x4), (5, .int x5)] [.int p1] M
  have hif := g_if h
  clear h
  refine g_if_eq C dX11_copy_4 (q := 7) (tgt := 14) rfl (by decide) (fun c => ?_) (fun c => ?_)
  · have h := hif.1 c
    clear hif
    refine g_sub [0] (lv' := [(0, g_r Y 0)]) rfl ?_
    exact t_X11_copy_14 C E M h
  · have h := hif.2 c
    clear hif
    refine g_iload_n C 3 dX11_copy_7 (q := 8) rfl rfl rfl ?_
    obtain ⟨p3, hp3, h⟩ := g_bind h
    refine g_callS C (as := [.int x3]) (st := []) (m_X11_isSheet hp3) (g_hR (by decide)) (by decide) kM_X11_297 kT_X11_isSheet kN_X11 kC_X11_isSheet kD_X11_isSheet rfl (Nat.le_of_ble_eq_true rfl) dX11_copy_8 (q := 11) rfl ?_
    show g_G 6 X Y 11 [(0, g_r Y 0), (1, .int x1), (2, .int x2), (3, .int x3), (4, .int x4), (5, .int x5)] [.int p3] M
    have hif := g_if h
    clear h
    refine g_if_ne C dX11_copy_11 (q := 14) (tgt := 24) rfl (by decide) (fun c => ?_) (fun c => ?_)
    · have h := hif.2 c
      clear hif
      refine g_aload_n C 0 dX11_copy_24 (q := 25) rfl rfl rfl ?_
      refine g_get C (k := 0) (i := 16) (by decide) (gc_0 Y _ _) rfl kU_X11 (by decide) kF_X11_85 rfl dX11_copy_25 (q := 28) rfl ?_
      refine g_iload_n C 1 dX11_copy_28 (q := 29) rfl rfl rfl ?_
      obtain ⟨j4, qj4, h⟩ := g_bind h
      have hj4 := (g_in_s qj4).2.2
      refine g_aldS C (k := 50) (n := 4) (b := 51) (by decide) (gc_50 Y _ _) qj4 dX11_copy_29 (q := 30) rfl ?_
      obtain ⟨p5, hp5, h⟩ := g_bind h
      refine g_callV C (k := (51 + j4)) (as := []) (st := []) (m_X7_isMissing j4 hj4 hp5) (g_hR (by decide)) (by decide) (by omega) (gc_sheet Y _ _ hj4) rfl kM_X11_300 kI_X7_isMissing kS_X7_isMissing kN_X7 kC_X7_isMissing kD_X7_isMissing rfl (Nat.le_of_ble_eq_true rfl) dX11_copy_30 (q := 33) rfl ?_
      show g_G 6 X Y 33 [(0, g_r Y 0), (1, .int x1), (2, .int x2), (3, .int x3), (4, .int x4), (5, .int x5)] [.int p5] M
      have hif := g_if h
      clear h
      refine g_if_ne C dX11_copy_33 (q := 36) (tgt := 48) rfl (by decide) (fun c => ?_) (fun c => ?_)
      · have h := hif.2 c
        clear hif
        refine g_sub [0] (lv' := [(0, g_r Y 0)]) rfl ?_
        exact t_X11_copy_48 C E M h
      · have h := hif.1 c
        clear hif
        refine g_aload_n C 0 dX11_copy_36 (q := 37) rfl rfl rfl ?_
        refine g_get C (k := 0) (i := 16) (by decide) (gc_0 Y _ _) rfl kU_X11 (by decide) kF_X11_85 rfl dX11_copy_37 (q := 40) rfl ?_
        refine g_iload_n C 3 dX11_copy_40 (q := 41) rfl rfl rfl ?_
        obtain ⟨j7, qj7, h⟩ := g_bind h
        have hj7 := (g_in_s qj7).2.2
        refine g_aldS C (k := 50) (n := 4) (b := 51) (by decide) (gc_50 Y _ _) qj7 dX11_copy_41 (q := 42) rfl ?_
        obtain ⟨p8, hp8, h⟩ := g_bind h
        refine g_callV C (k := (51 + j7)) (as := []) (st := []) (m_X7_isMissing j7 hj7 hp8) (g_hR (by decide)) (by decide) (by omega) (gc_sheet Y _ _ hj7) rfl kM_X11_300 kI_X7_isMissing kS_X7_isMissing kN_X7 kC_X7_isMissing kD_X7_isMissing rfl (Nat.le_of_ble_eq_true rfl) dX11_copy_42 (q := 45) rfl ?_
        show g_G 6 X Y 45 [(0, g_r Y 0), (1, .int x1), (2, .int x2), (3, .int x3), (4, .int x4), (5, .int x5)] [.int p8] M
        have hif := g_if h
        clear h
        refine g_if_eq C dX11_copy_45 (q := 48) (tgt := 59) rfl (by decide) (fun c => ?_) (fun c => ?_)
        · have h := hif.1 c
          clear hif
          refine g_aload_n C 0 dX11_copy_59 (q := 60) rfl rfl rfl ?_
          refine g_get C (k := 0) (i := 16) (by decide) (gc_0 Y _ _) rfl kU_X11 (by decide) kF_X11_85 rfl dX11_copy_60 (q := 63) rfl ?_
          refine g_iload_n C 1 dX11_copy_63 (q := 64) rfl rfl rfl ?_
          obtain ⟨j9, qj9, h⟩ := g_bind h
          have hj9 := (g_in_s qj9).2.2
          refine g_aldS C (k := 50) (n := 4) (b := 51) (by decide) (gc_50 Y _ _) qj9 dX11_copy_64 (q := 65) rfl ?_
          refine g_get C (k := (51 + j9)) (i := 0) (by omega) (gc_sheet Y _ _ hj9) rfl kU_X7 (by decide) kF_X11_323 rfl dX11_copy_65 (q := 68) rfl ?_
          refine g_aload_n C 0 dX11_copy_68 (q := 69) rfl rfl rfl ?_
          refine g_get C (k := 0) (i := 16) (by decide) (gc_0 Y _ _) rfl kU_X11 (by decide) kF_X11_85 rfl dX11_copy_69 (q := 72) rfl ?_
          refine g_iload_n C 3 dX11_copy_72 (q := 73) rfl rfl rfl ?_
          obtain ⟨j10, qj10, h⟩ := g_bind h
          have hj10 := (g_in_s qj10).2.2
          refine g_aldS C (k := 50) (n := 4) (b := 51) (by decide) (gc_50 Y _ _) qj10 dX11_copy_73 (q := 74) rfl ?_
          refine g_get C (k := (51 + j10)) (i := 0) (by omega) (gc_sheet Y _ _ hj10) rfl kU_X7 (by decide) kF_X11_323 rfl dX11_copy_74 (q := 77) rfl ?_
          have hif := g_if h
          clear h
          refine g_icmp_eq C dX11_copy_77 (q := 80) (tgt := 90) rfl (by decide) (fun c => ?_) (fun c => ?_)
          · have h := hif.1 c
            clear hif
            refine g_aload_n C 0 dX11_copy_90 (q := 91) rfl rfl rfl ?_
            refine g_get C (k := 0) (i := 16) (by decide) (gc_0 Y _ _) rfl kU_X11 (by decide) kF_X11_85 rfl dX11_copy_91 (q := 94) rfl ?_
            refine g_iload_n C 1 dX11_copy_94 (q := 95) rfl rfl rfl ?_
            obtain ⟨j11, qj11, h⟩ := g_bind h
            have hj11 := (g_in_s qj11).2.2
            refine g_aldS C (k := 50) (n := 4) (b := 51) (by decide) (gc_50 Y _ _) qj11 dX11_copy_95 (q := 96) rfl ?_
            refine g_iload_n C 2 dX11_copy_96 (q := 97) rfl rfl rfl ?_
            refine g_iload C 5 dX11_copy_97 (q := 99) rfl rfl ?_
            obtain ⟨p12, hp12, h⟩ := g_bind h
            refine g_callV C (k := (51 + j11)) (as := [.int x2, .int x5]) (st := []) (m_X7_hasFrom j11 hj11 hp12) (g_hR (by decide)) (by decide) (by omega) (gc_sheet Y _ _ hj11) rfl kM_X11_326 kI_X7_hasFrom kS_X7_hasFrom kN_X7 kC_X7_hasFrom kD_X7_hasFrom rfl (Nat.le_of_ble_eq_true rfl) dX11_copy_99 (q := 102) rfl ?_
            show g_G 6 X Y 102 [(0, g_r Y 0), (1, .int x1), (2, .int x2), (3, .int x3), (4, .int x4), (5, .int x5)] [.int p12] M
            have hif := g_if h
            clear h
            refine g_if_eq C dX11_copy_102 (q := 105) (tgt := 121) rfl (by decide) (fun c => ?_) (fun c => ?_)
            · have h := hif.1 c
              clear hif
              refine g_sub [0] (lv' := [(0, g_r Y 0)]) rfl ?_
              exact t_X11_copy_121 C E M h
            · have h := hif.2 c
              clear hif
              refine g_aload_n C 0 dX11_copy_105 (q := 106) rfl rfl rfl ?_
              refine g_get C (k := 0) (i := 16) (by decide) (gc_0 Y _ _) rfl kU_X11 (by decide) kF_X11_85 rfl dX11_copy_106 (q := 109) rfl ?_
              refine g_iload_n C 3 dX11_copy_109 (q := 110) rfl rfl rfl ?_
              obtain ⟨j14, qj14, h⟩ := g_bind h
              have hj14 := (g_in_s qj14).2.2
              refine g_aldS C (k := 50) (n := 4) (b := 51) (by decide) (gc_50 Y _ _) qj14 dX11_copy_110 (q := 111) rfl ?_
              refine g_iload C 4 dX11_copy_111 (q := 113) rfl rfl ?_
              refine g_iload C 5 dX11_copy_113 (q := 115) rfl rfl ?_
              obtain ⟨p15, hp15, h⟩ := g_bind h
              refine g_callV C (k := (51 + j14)) (as := [.int x4, .int x5]) (st := []) (m_X7_hasFrom j14 hj14 hp15) (g_hR (by decide)) (by decide) (by omega) (gc_sheet Y _ _ hj14) rfl kM_X11_326 kI_X7_hasFrom kS_X7_hasFrom kN_X7 kC_X7_hasFrom kD_X7_hasFrom rfl (Nat.le_of_ble_eq_true rfl) dX11_copy_115 (q := 118) rfl ?_
              show g_G 6 X Y 118 [(0, g_r Y 0), (1, .int x1), (2, .int x2), (3, .int x3), (4, .int x4), (5, .int x5)] [.int p15] M
              have hif := g_if h
              clear h
              refine g_if_ne C dX11_copy_118 (q := 121) (tgt := 131) rfl (by decide) (fun c => ?_) (fun c => ?_)
              · have h := hif.2 c
                clear hif
                refine g_aload_n C 0 dX11_copy_131 (q := 132) rfl rfl rfl ?_
                refine g_get C (k := 0) (i := 16) (by decide) (gc_0 Y _ _) rfl kU_X11 (by decide) kF_X11_85 rfl dX11_copy_132 (q := 135) rfl ?_
                refine g_iload_n C 1 dX11_copy_135 (q := 136) rfl rfl rfl ?_
                obtain ⟨j16, qj16, h⟩ := g_bind h
                have hj16 := (g_in_s qj16).2.2
                refine g_aldS C (k := 50) (n := 4) (b := 51) (by decide) (gc_50 Y _ _) qj16 dX11_copy_136 (q := 137) rfl ?_
                refine g_get C (k := (51 + j16)) (i := 2) (by omega) (gc_sheet Y _ _ hj16) rfl kU_X7 (by decide) kF_X11_329 rfl dX11_copy_137 (q := 140) rfl ?_
                refine g_iload_n C 2 dX11_copy_140 (q := 141) rfl rfl rfl ?_
                refine g_aload_n C 0 dX11_copy_141 (q := 142) rfl rfl rfl ?_
                refine g_get C (k := 0) (i := 16) (by decide) (gc_0 Y _ _) rfl kU_X11 (by decide) kF_X11_85 rfl dX11_copy_142 (q := 145) rfl ?_
                refine g_iload_n C 3 dX11_copy_145 (q := 146) rfl rfl rfl ?_
                obtain ⟨j17, qj17, h⟩ := g_bind h
                have hj17 := (g_in_s qj17).2.2
                refine g_aldS C (k := 50) (n := 4) (b := 51) (by decide) (gc_50 Y _ _) qj17 dX11_copy_146 (q := 147) rfl ?_
                refine g_get C (k := (51 + j17)) (i := 2) (by omega) (gc_sheet Y _ _ hj17) rfl kU_X7 (by decide) kF_X11_329 rfl dX11_copy_147 (q := 150) rfl ?_
                refine g_iload C 4 dX11_copy_150 (q := 152) rfl rfl ?_
                refine g_iload C 5 dX11_copy_152 (q := 154) rfl rfl ?_
                obtain ⟨M18, hM18, h⟩ := g_bind h
                refine g_cpyl C (k := (55 + j16)) (n := 40) (k2 := (55 + j17)) (n2 := 40) (by omega) (gc_nums Y _ _ hj16) (by omega) (fun b => gc_nums Y _ b hj17) hM18 kX_X11_333 (by decide) (by decide) dX11_copy_154 (q := 157) rfl ?_
                refine g_iload C 5 dX11_copy_157 (q := 159) rfl rfl ?_
                obtain rfl := Option.some.inj h
                exact g_iret C E dX11_copy_159
              · have h := hif.1 c
                clear hif
                refine g_sub [0] (lv' := [(0, g_r Y 0)]) rfl ?_
                exact t_X11_copy_121 C E M h
          · have h := hif.2 c
            clear hif
            refine g_aload_n C 0 dX11_copy_80 (q := 81) rfl rfl rfl ?_
            refine g_get C (k := 0) (i := 0) (by decide) (gc_0 Y _ _) rfl kU_X11 (by decide) kF_X11_12 rfl dX11_copy_81 (q := 84) rfl ?_
            refine g_ldc C (v := (-1000000003)) kK_X11_206 dX11_copy_84 (q := 86) rfl ?_
            obtain ⟨p19, hp19, h⟩ := g_bind h
            refine g_callV C (k := 1) (as := [.int (-1000000003)]) (st := []) (m_X2_tell hp19) (g_hR (by decide)) (by decide) (by decide) (gc_1 Y _ _) rfl kM_X11_91 kI_X2_tell kS_X2_tell kN_X2 kC_X2_tell kD_X2_tell rfl (Nat.le_of_ble_eq_true rfl) dX11_copy_86 (q := 89) rfl ?_
            show g_G 6 X Y 89 [(0, g_r Y 0), (1, .int x1), (2, .int x2), (3, .int x3), (4, .int x4), (5, .int x5)] [.int p19.1] p19.2
            obtain rfl := Option.some.inj h
            exact g_iret C E dX11_copy_89
        · have h := hif.2 c
          clear hif
          refine g_sub [0] (lv' := [(0, g_r Y 0)]) rfl ?_
          exact t_X11_copy_48 C E M h
    · have h := hif.1 c
      clear hif
      refine g_sub [0] (lv' := [(0, g_r Y 0)]) rfl ?_
      exact t_X11_copy_14 C E M h
theorem r_X11_copy {x1 : Int32} {x2 : Int32} {x3 : Int32} {x4 : Int32} {x5 : Int32} {M : g_M} {p : Int32 × g_M} (h : f_X11_copy x1 x2 x3 x4 x5 M = some p) : g_fr [2, 55, 56, 57, 58] [(1, 1)] M p.2 := by
  unfold f_X11_copy at h
  have hf := g_fr.rfl (S := [2, 55, 56, 57, 58]) (T := [(1, 1)]) (M := M)
  obtain ⟨p1, -, h⟩ := g_bind h
  rcases g_ifs h with h | h
  · exact hf.trans (r_X11_copy_14 M h)
  · obtain ⟨p3, -, h⟩ := g_bind h
    rcases g_ifs h with h | h
    · exact hf.trans (r_X11_copy_14 M h)
    · obtain ⟨j4, qj4, h⟩ := g_bind h
      have hj4 := (g_in_s qj4).2.2
      obtain ⟨p5, -, h⟩ := g_bind h
      rcases g_ifs h with h | h
      · obtain ⟨j7, qj7, h⟩ := g_bind h
        have hj7 := (g_in_s qj7).2.2
        obtain ⟨p8, -, h⟩ := g_bind h
        rcases g_ifs h with h | h
        · obtain ⟨j9, qj9, h⟩ := g_bind h
          have hj9 := (g_in_s qj9).2.2
          obtain ⟨j10, qj10, h⟩ := g_bind h
          have hj10 := (g_in_s qj10).2.2
          rcases g_ifs h with h | h
          · obtain ⟨j11, qj11, h⟩ := g_bind h
            have hj11 := (g_in_s qj11).2.2
            obtain ⟨p12, -, h⟩ := g_bind h
            rcases g_ifs h with h | h
            · exact hf.trans (r_X11_copy_121 M h)
            · obtain ⟨j14, qj14, h⟩ := g_bind h
              have hj14 := (g_in_s qj14).2.2
              obtain ⟨p15, -, h⟩ := g_bind h
              rcases g_ifs h with h | h
              · exact hf.trans (r_X11_copy_121 M h)
              · obtain ⟨j16, qj16, h⟩ := g_bind h
                have hj16 := (g_in_s qj16).2.2
                obtain ⟨j17, qj17, h⟩ := g_bind h
                have hj17 := (g_in_s qj17).2.2
                obtain ⟨M18, hM18, h⟩ := g_bind h
                have hf := hf.cpl hM18 ((by decide : ∀ z : Nat, z < 4 → (55 + z) ∈ [2, 55, 56, 57, 58]) _ hj17)
                obtain rfl := Option.some.inj h
                exact hf
          · obtain ⟨p19, hp19, h⟩ := g_bind h
            have hf := hf.trans ((r_X2_tell hp19).mono (by decide) (by decide))
            obtain rfl := Option.some.inj h
            exact hf
        · exact hf.trans (r_X11_copy_48 M h)
      · exact hf.trans (r_X11_copy_48 M h)
def f_X11_image (M : g_M) : Option (Int32 × g_M) :=
  (f_X0_takeFrom_8_3 M).bind fun p1 => (some (g_u p1 0 6 (p1.1 13 0))).bind fun M2 => (some (g_u M2 0 7 (M2.1 13 1))).bind fun M3 => (some (g_u M3 0 8 (M3.1 24 0))).bind fun M4 => (some (g_u M4 0 4 1)).bind fun M5 => some (1, M5)
set_option maxRecDepth 100000 in
theorem m_X11_image {l : Launch} {Y : g_Y} {M : g_M} {p : Int32 × g_M} (h : f_X11_image M = some p) : g_R l Y (2) yX11_image cX11_image 1 (some .int) [g_r Y 0] M (some (.int p.1)) p.2 := by
  unfold f_X11_image at h
  refine g_R_of kP_X11 rfl (Nat.le_of_ble_eq_true rfl) (fun X C E => ?_)
  show g_G 1 X Y 0 [(0, g_r Y 0)] [] M
  refine g_aload_n C 0 dX11_image_0 (q := 1) rfl rfl rfl ?_
  refine g_get C (k := 0) (i := 5) (by decide) (gc_0 Y _ _) rfl kU_X11 (by decide) kF_X11_37 rfl dX11_image_1 (q := 4) rfl ?_
  refine g_aload_n C 0 dX11_image_4 (q := 5) rfl rfl rfl ?_
  refine g_get C (k := 0) (i := 1) (by decide) (gc_0 Y _ _) rfl kU_X11 (by decide) kF_X11_19 rfl dX11_image_5 (q := 8) rfl ?_
  obtain ⟨p1, hp1, h⟩ := g_bind h
  refine g_callV C (k := 8) (as := [g_r Y 3]) (st := []) (m_X0_takeFrom_8_3 hp1) (g_hR (by decide)) (by decide) (by decide) (gc_8 Y _ _) rfl kM_X11_339 kI_X0_takeFrom kS_X0_takeFrom kN_X0 kC_X0_takeFrom kD_X0_takeFrom rfl (Nat.le_of_ble_eq_true rfl) dX11_image_8 (q := 11) rfl ?_
  show g_G 1 X Y 11 [(0, g_r Y 0)] [] p1
  refine g_aload_n C 0 dX11_image_11 (q := 12) rfl rfl rfl ?_
  refine g_aload_n C 0 dX11_image_12 (q := 13) rfl rfl rfl ?_
  refine g_get C (k := 0) (i := 2) (by decide) (gc_0 Y _ _) rfl kU_X11 (by decide) kF_X11_26 rfl dX11_image_13 (q := 16) rfl ?_
  refine g_get C (k := 13) (i := 0) (by decide) (gc_13 Y _ _) rfl kU_X10 (by decide) kF_X11_141 rfl dX11_image_16 (q := 19) rfl ?_
  obtain ⟨M2, hM2, h⟩ := g_bind h
  refine g_put C (k := 0) (i := 6) (ty := .int) (by decide) (gc_0 Y _ _) (gp_0_6 Y _ _ _) rfl kU_X11 tyX11_ok nmX11 (by decide) kF_X11_343 rfl rfl rfl rfl (Nat.le_of_ble_eq_true rfl) dX11_image_19 (q := 22) rfl ?_
  refine g_mem hM2 ?_
  refine g_aload_n C 0 dX11_image_22 (q := 23) rfl rfl rfl ?_
  refine g_aload_n C 0 dX11_image_23 (q := 24) rfl rfl rfl ?_
  refine g_get C (k := 0) (i := 2) (by decide) (gc_0 Y _ _) rfl kU_X11 (by decide) kF_X11_26 rfl dX11_image_24 (q := 27) rfl ?_
  refine g_get C (k := 13) (i := 1) (by decide) (gc_13 Y _ _) rfl kU_X10 (by decide) kF_X11_166 rfl dX11_image_27 (q := 30) rfl ?_
  obtain ⟨M3, hM3, h⟩ := g_bind h
  refine g_put C (k := 0) (i := 7) (ty := .int) (by decide) (gc_0 Y _ _) (gp_0_7 Y _ _ _) rfl kU_X11 tyX11_ok nmX11 (by decide) kF_X11_346 rfl rfl rfl rfl (Nat.le_of_ble_eq_true rfl) dX11_image_30 (q := 33) rfl ?_
  refine g_mem hM3 ?_
  refine g_aload_n C 0 dX11_image_33 (q := 34) rfl rfl rfl ?_
  refine g_aload_n C 0 dX11_image_34 (q := 35) rfl rfl rfl ?_
  refine g_get C (k := 0) (i := 3) (by decide) (gc_0 Y _ _) rfl kU_X11 (by decide) kF_X11_33 rfl dX11_image_35 (q := 38) rfl ?_
  refine g_get C (k := 24) (i := 0) (by decide) (gc_24 Y _ _) rfl kU_X4 (by decide) kF_X11_349 rfl dX11_image_38 (q := 41) rfl ?_
  obtain ⟨M4, hM4, h⟩ := g_bind h
  refine g_put C (k := 0) (i := 8) (ty := .int) (by decide) (gc_0 Y _ _) (gp_0_8 Y _ _ _) rfl kU_X11 tyX11_ok nmX11 (by decide) kF_X11_350 rfl rfl rfl rfl (Nat.le_of_ble_eq_true rfl) dX11_image_41 (q := 44) rfl ?_
  refine g_mem hM4 ?_
  refine g_aload_n C 0 dX11_image_44 (q := 45) rfl rfl rfl ?_
  refine g_iconst C (v := 1) dX11_image_45 (q := 46) rfl (by decide) ?_
  obtain ⟨M5, hM5, h⟩ := g_bind h
  refine g_put C (k := 0) (i := 4) (ty := .boolean) (by decide) (gc_0 Y _ _) (gp_0_4 Y _ _ _) rfl kU_X11 tyX11_ok nmX11 (by decide) kF_X11_353 rfl rfl (g_zn (by decide)).1 (g_zn (by decide)).2.1 (Nat.le_of_ble_eq_true rfl) dX11_image_46 (q := 49) rfl ?_
  refine g_mem hM5 ?_
  refine g_iconst C (v := 1) dX11_image_49 (q := 50) rfl (by decide) ?_
  obtain rfl := Option.some.inj h
  exact g_iret C E dX11_image_50
theorem r_X11_image {M : g_M} {p : Int32 × g_M} (h : f_X11_image M = some p) : g_fr [9, 10, 11, 12] [(0, 4), (0, 6), (0, 7), (0, 8), (8, 0), (8, 1), (8, 2), (8, 3)] M p.2 := by
  unfold f_X11_image at h
  have hf := g_fr.rfl (S := [9, 10, 11, 12]) (T := [(0, 4), (0, 6), (0, 7), (0, 8), (8, 0), (8, 1), (8, 2), (8, 3)]) (M := M)
  obtain ⟨p1, hp1, h⟩ := g_bind h
  have hf := hf.trans ((r_X0_takeFrom_8_3 hp1).mono (by decide) (by decide))
  obtain ⟨M2, hM2, h⟩ := g_bind h
  have hf := hf.pu hM2 (by decide)
  obtain ⟨M3, hM3, h⟩ := g_bind h
  have hf := hf.pu hM3 (by decide)
  obtain ⟨M4, hM4, h⟩ := g_bind h
  have hf := hf.pu hM4 (by decide)
  obtain ⟨M5, hM5, h⟩ := g_bind h
  have hf := hf.pu hM5 (by decide)
  obtain rfl := Option.some.inj h
  exact hf
def f_X11_undo (M : g_M) : Option (Int32 × g_M) :=
  (if (M.1 0 4) = 0 then ((f_X2_tell (-1000000004) M).bind fun p4 => some (p4.1, p4.2)) else ((f_X0_takeFrom_3_8 M).bind fun p1 => (f_X10_goBack (p1.1 0 6) (p1.1 0 7) p1).bind fun p2 => (f_X4_goBack (p2.1 0 8) p2).bind fun p3 => some (p3.1 24 0, p3)))
set_option maxRecDepth 100000 in
theorem m_X11_undo {l : Launch} {Y : g_Y} {M : g_M} {p : Int32 × g_M} (h : f_X11_undo M = some p) : g_R l Y (2) yX11_undo cX11_undo 1 (some .int) [g_r Y 0] M (some (.int p.1)) p.2 := by
  unfold f_X11_undo at h
  refine g_R_of kP_X11 rfl (Nat.le_of_ble_eq_true rfl) (fun X C E => ?_)
  show g_G 1 X Y 0 [(0, g_r Y 0)] [] M
  refine g_aload_n C 0 dX11_undo_0 (q := 1) rfl rfl rfl ?_
  refine g_get C (k := 0) (i := 4) (by decide) (gc_0 Y _ _) rfl kU_X11 (by decide) kF_X11_353 rfl dX11_undo_1 (q := 4) rfl ?_
  have hif := g_if h
  clear h
  refine g_if_ne C dX11_undo_4 (q := 7) (tgt := 17) rfl (by decide) (fun c => ?_) (fun c => ?_)
  · have h := hif.2 c
    clear hif
    refine g_aload_n C 0 dX11_undo_17 (q := 18) rfl rfl rfl ?_
    refine g_get C (k := 0) (i := 1) (by decide) (gc_0 Y _ _) rfl kU_X11 (by decide) kF_X11_19 rfl dX11_undo_18 (q := 21) rfl ?_
    refine g_aload_n C 0 dX11_undo_21 (q := 22) rfl rfl rfl ?_
    refine g_get C (k := 0) (i := 5) (by decide) (gc_0 Y _ _) rfl kU_X11 (by decide) kF_X11_37 rfl dX11_undo_22 (q := 25) rfl ?_
    obtain ⟨p1, hp1, h⟩ := g_bind h
    refine g_callV C (k := 3) (as := [g_r Y 8]) (st := []) (m_X0_takeFrom_3_8 hp1) (g_hR (by decide)) (by decide) (by decide) (gc_3 Y _ _) rfl kM_X11_339 kI_X0_takeFrom kS_X0_takeFrom kN_X0 kC_X0_takeFrom kD_X0_takeFrom rfl (Nat.le_of_ble_eq_true rfl) dX11_undo_25 (q := 28) rfl ?_
    show g_G 1 X Y 28 [(0, g_r Y 0)] [] p1
    refine g_aload_n C 0 dX11_undo_28 (q := 29) rfl rfl rfl ?_
    refine g_get C (k := 0) (i := 2) (by decide) (gc_0 Y _ _) rfl kU_X11 (by decide) kF_X11_26 rfl dX11_undo_29 (q := 32) rfl ?_
    refine g_aload_n C 0 dX11_undo_32 (q := 33) rfl rfl rfl ?_
    refine g_get C (k := 0) (i := 6) (by decide) (gc_0 Y _ _) rfl kU_X11 (by decide) kF_X11_343 rfl dX11_undo_33 (q := 36) rfl ?_
    refine g_aload_n C 0 dX11_undo_36 (q := 37) rfl rfl rfl ?_
    refine g_get C (k := 0) (i := 7) (by decide) (gc_0 Y _ _) rfl kU_X11 (by decide) kF_X11_346 rfl dX11_undo_37 (q := 40) rfl ?_
    obtain ⟨p2, hp2, h⟩ := g_bind h
    refine g_callV C (k := 13) (as := [.int (p1.1 0 6), .int (p1.1 0 7)]) (st := []) (m_X10_goBack hp2) (g_hR (by decide)) (by decide) (by decide) (gc_13 Y _ _) rfl kM_X11_357 kI_X10_goBack kS_X10_goBack kN_X10 kC_X10_goBack kD_X10_goBack rfl (Nat.le_of_ble_eq_true rfl) dX11_undo_40 (q := 43) rfl ?_
    show g_G 1 X Y 43 [(0, g_r Y 0)] [] p2
    refine g_aload_n C 0 dX11_undo_43 (q := 44) rfl rfl rfl ?_
    refine g_get C (k := 0) (i := 3) (by decide) (gc_0 Y _ _) rfl kU_X11 (by decide) kF_X11_33 rfl dX11_undo_44 (q := 47) rfl ?_
    refine g_aload_n C 0 dX11_undo_47 (q := 48) rfl rfl rfl ?_
    refine g_get C (k := 0) (i := 8) (by decide) (gc_0 Y _ _) rfl kU_X11 (by decide) kF_X11_350 rfl dX11_undo_48 (q := 51) rfl ?_
    obtain ⟨p3, hp3, h⟩ := g_bind h
    refine g_callV C (k := 24) (as := [.int (p2.1 0 8)]) (st := []) (m_X4_goBack hp3) (g_hR (by decide)) (by decide) (by decide) (gc_24 Y _ _) rfl kM_X11_361 kI_X4_goBack kS_X4_goBack kN_X4 kC_X4_goBack kD_X4_goBack rfl (Nat.le_of_ble_eq_true rfl) dX11_undo_51 (q := 54) rfl ?_
    show g_G 1 X Y 54 [(0, g_r Y 0)] [] p3
    refine g_aload_n C 0 dX11_undo_54 (q := 55) rfl rfl rfl ?_
    refine g_get C (k := 0) (i := 3) (by decide) (gc_0 Y _ _) rfl kU_X11 (by decide) kF_X11_33 rfl dX11_undo_55 (q := 58) rfl ?_
    refine g_get C (k := 24) (i := 0) (by decide) (gc_24 Y _ _) rfl kU_X4 (by decide) kF_X11_349 rfl dX11_undo_58 (q := 61) rfl ?_
    obtain rfl := Option.some.inj h
    exact g_iret C E dX11_undo_61
  · have h := hif.1 c
    clear hif
    refine g_aload_n C 0 dX11_undo_7 (q := 8) rfl rfl rfl ?_
    refine g_get C (k := 0) (i := 0) (by decide) (gc_0 Y _ _) rfl kU_X11 (by decide) kF_X11_12 rfl dX11_undo_8 (q := 11) rfl ?_
    refine g_ldc C (v := (-1000000004)) kK_X11_177 dX11_undo_11 (q := 13) rfl ?_
    obtain ⟨p4, hp4, h⟩ := g_bind h
    refine g_callV C (k := 1) (as := [.int (-1000000004)]) (st := []) (m_X2_tell hp4) (g_hR (by decide)) (by decide) (by decide) (gc_1 Y _ _) rfl kM_X11_91 kI_X2_tell kS_X2_tell kN_X2 kC_X2_tell kD_X2_tell rfl (Nat.le_of_ble_eq_true rfl) dX11_undo_13 (q := 16) rfl ?_
    show g_G 1 X Y 16 [(0, g_r Y 0)] [.int p4.1] p4.2
    obtain rfl := Option.some.inj h
    exact g_iret C E dX11_undo_16
theorem r_X11_undo {M : g_M} {p : Int32 × g_M} (h : f_X11_undo M = some p) : g_fr [2, 4, 5, 6, 7] [(1, 1), (3, 0), (3, 1), (3, 2), (3, 3), (13, 0), (13, 1), (13, 2), (24, 0), (24, 1)] M p.2 := by
  unfold f_X11_undo at h
  have hf := g_fr.rfl (S := [2, 4, 5, 6, 7]) (T := [(1, 1), (3, 0), (3, 1), (3, 2), (3, 3), (13, 0), (13, 1), (13, 2), (24, 0), (24, 1)]) (M := M)
  rcases g_ifs h with h | h
  · obtain ⟨p4, hp4, h⟩ := g_bind h
    have hf := hf.trans ((r_X2_tell hp4).mono (by decide) (by decide))
    obtain rfl := Option.some.inj h
    exact hf
  · obtain ⟨p1, hp1, h⟩ := g_bind h
    have hf := hf.trans ((r_X0_takeFrom_3_8 hp1).mono (by decide) (by decide))
    obtain ⟨p2, hp2, h⟩ := g_bind h
    have hf := hf.trans ((r_X10_goBack hp2).mono (by decide) (by decide))
    obtain ⟨p3, hp3, h⟩ := g_bind h
    have hf := hf.trans ((r_X4_goBack hp3).mono (by decide) (by decide))
    obtain rfl := Option.some.inj h
    exact hf
def f_X11_tear (M : g_M) : Option (Int32 × g_M) :=
  (some (g_u M 0 4 0)).bind fun M1 => (if (M.1 0 4) = 0 then (some (0, M1)) else (some (1, M1)))
set_option maxRecDepth 100000 in
theorem m_X11_tear {l : Launch} {Y : g_Y} {M : g_M} {p : Int32 × g_M} (h : f_X11_tear M = some p) : g_R l Y (0) yX11_tear cX11_tear 2 (some .int) [g_r Y 0] M (some (.int p.1)) p.2 := by
  unfold f_X11_tear at h
  refine g_R_of kP_X11 rfl (Nat.le_of_ble_eq_true rfl) (fun X C E => ?_)
  show g_G 2 X Y 0 [(0, g_r Y 0)] [] M
  refine g_aload_n C 0 dX11_tear_0 (q := 1) rfl rfl rfl ?_
  refine g_get C (k := 0) (i := 4) (by decide) (gc_0 Y _ _) rfl kU_X11 (by decide) kF_X11_353 rfl dX11_tear_1 (q := 4) rfl ?_
  refine g_istore_n C dX11_tear_4 (q := 5) rfl rfl (by decide) (lv' := [(1, .int (M.1 0 4)), (0, g_r Y 0)]) rfl ?_
  refine g_aload_n C 1 dX11_tear_5 (q := 6) rfl rfl rfl ?_
  refine g_iconst C (v := 0) dX11_tear_6 (q := 7) rfl (by decide) ?_
  obtain ⟨M1, hM1, h⟩ := g_bind h
  refine g_put C (k := 0) (i := 4) (ty := .boolean) (by decide) (gc_0 Y _ _) (gp_0_4 Y _ _ _) rfl kU_X11 tyX11_ok nmX11 (by decide) kF_X11_353 rfl rfl (g_zn (by decide)).1 (g_zn (by decide)).2.1 (Nat.le_of_ble_eq_true rfl) dX11_tear_7 (q := 10) rfl ?_
  refine g_mem hM1 ?_
  refine g_iload_n C 0 dX11_tear_10 (q := 11) rfl rfl rfl ?_
  have hif := g_if h
  clear h
  refine g_if_eq C dX11_tear_11 (q := 14) (tgt := 18) rfl (by decide) (fun c => ?_) (fun c => ?_)
  · have h := hif.1 c
    clear hif
    refine g_iconst C (v := 0) dX11_tear_18 (q := 19) rfl (by decide) ?_
    obtain rfl := Option.some.inj h
    exact g_iret C E dX11_tear_19
  · have h := hif.2 c
    clear hif
    refine g_iconst C (v := 1) dX11_tear_14 (q := 15) rfl (by decide) ?_
    refine g_goto C dX11_tear_15 (tgt := 19) (by decide) ?_
    obtain rfl := Option.some.inj h
    exact g_iret C E dX11_tear_19
theorem r_X11_tear {M : g_M} {p : Int32 × g_M} (h : f_X11_tear M = some p) : g_fr [] [(0, 4)] M p.2 := by
  unfold f_X11_tear at h
  have hf := g_fr.rfl (S := []) (T := [(0, 4)]) (M := M)
  obtain ⟨M1, hM1, h⟩ := g_bind h
  have hf := hf.pu hM1 (by decide)
  rcases g_ifs h with h | h
  · obtain rfl := Option.some.inj h
    exact hf
  · obtain rfl := Option.some.inj h
    exact hf
def f_X11_look (x1 : Int32) (M : g_M) : Option (Int32 × g_M) :=
  (if x1 = 0 then (some (M.1 3 0, M)) else (if x1 = 1 then ((f_X0_present M).bind fun p1 => (f_J6_bitCount_0f7a4 p1 M).bind fun p2 => some (p2, M)) else (if x1 = 2 then (some (M.1 13 0, M)) else (if x1 = 3 then (some (M.1 13 1, M)) else (if x1 = 4 then (some (M.1 24 0, M)) else (if x1 = 5 then (some (M.1 3 2, M)) else (if x1 = 6 then (some (M.1 33 1, M)) else (f_X2_tell (-1000000001) M).bind fun p3 => some (p3.1, p3.2))))))))
set_option maxRecDepth 100000 in
theorem m_X11_look {l : Launch} {Y : g_Y} {x1 : Int32} {M : g_M} {p : Int32 × g_M} (h : f_X11_look x1 M = some p) : g_R l Y (1) yX11_look cX11_look 2 (some .int) [g_r Y 0, .int x1] M (some (.int p.1)) p.2 := by
  unfold f_X11_look at h
  refine g_R_of kP_X11 rfl (Nat.le_of_ble_eq_true rfl) (fun X C E => ?_)
  show g_G 2 X Y 0 [(0, g_r Y 0), (1, .int x1)] [] M
  refine g_iload_n C 1 dX11_look_0 (q := 1) rfl rfl rfl ?_
  by_cases e : x1 = 0
  · rw [if_pos e] at h
    refine g_tabI C (off := 43) (tgt := 44) dX11_look_1 (by rw [e]; decide) (by rw [e]; decide) (by rw [e]; decide) (by decide) ?_
    refine g_aload_n C 0 dX11_look_44 (q := 45) rfl rfl rfl ?_
    refine g_get C (k := 0) (i := 1) (by decide) (gc_0 Y _ _) rfl kU_X11 (by decide) kF_X11_19 rfl dX11_look_45 (q := 48) rfl ?_
    refine g_get C (k := 3) (i := 0) (by decide) (gc_3 Y _ _) rfl kU_X0 (by decide) kF_X11_95 rfl dX11_look_48 (q := 51) rfl ?_
    obtain rfl := Option.some.inj h
    exact g_iret C E dX11_look_51
  rw [if_neg e] at h
  have n0 := g_toI (n := 0) (v := 0) (by decide) e
  by_cases e : x1 = 1
  · rw [if_pos e] at h
    refine g_tabI C (off := 51) (tgt := 52) dX11_look_1 (by rw [e]; decide) (by rw [e]; decide) (by rw [e]; decide) (by decide) ?_
    refine g_aload_n C 0 dX11_look_52 (q := 53) rfl rfl rfl ?_
    refine g_get C (k := 0) (i := 1) (by decide) (gc_0 Y _ _) rfl kU_X11 (by decide) kF_X11_19 rfl dX11_look_53 (q := 56) rfl ?_
    obtain ⟨p1, hp1, h⟩ := g_bind h
    refine g_callV C (k := 3) (as := []) (st := []) (m_X0_present hp1) (g_hR (by decide)) (by decide) (by decide) (gc_3 Y _ _) rfl kM_X11_159 kI_X0_present kS_X0_present kN_X0 kC_X0_present kD_X0_present rfl (Nat.le_of_ble_eq_true rfl) dX11_look_56 (q := 59) rfl ?_
    show g_G 2 X Y 59 [(0, g_r Y 0), (1, .int x1)] [.int p1] M
    obtain ⟨p2, hp2, h⟩ := g_bind h
    refine g_callS C (as := [.int p1]) (st := []) (m_J6_bitCount_0f7a4 hp2) (g_hR (by decide)) (by decide) kM_X11_117 kT_J6_bitCount_0f7a4 kN_J6 kC_J6_bitCount_0f7a4 kD_J6_bitCount_0f7a4 rfl (Nat.le_of_ble_eq_true rfl) dX11_look_59 (q := 62) rfl ?_
    show g_G 2 X Y 62 [(0, g_r Y 0), (1, .int x1)] [.int p2] M
    obtain rfl := Option.some.inj h
    exact g_iret C E dX11_look_62
  rw [if_neg e] at h
  have n1 := g_toI (n := 1) (v := 1) (by decide) e
  by_cases e : x1 = 2
  · rw [if_pos e] at h
    refine g_tabI C (off := 62) (tgt := 63) dX11_look_1 (by rw [e]; decide) (by rw [e]; decide) (by rw [e]; decide) (by decide) ?_
    refine g_aload_n C 0 dX11_look_63 (q := 64) rfl rfl rfl ?_
    refine g_get C (k := 0) (i := 2) (by decide) (gc_0 Y _ _) rfl kU_X11 (by decide) kF_X11_26 rfl dX11_look_64 (q := 67) rfl ?_
    refine g_get C (k := 13) (i := 0) (by decide) (gc_13 Y _ _) rfl kU_X10 (by decide) kF_X11_141 rfl dX11_look_67 (q := 70) rfl ?_
    obtain rfl := Option.some.inj h
    exact g_iret C E dX11_look_70
  rw [if_neg e] at h
  have n2 := g_toI (n := 2) (v := 2) (by decide) e
  by_cases e : x1 = 3
  · rw [if_pos e] at h
    refine g_tabI C (off := 70) (tgt := 71) dX11_look_1 (by rw [e]; decide) (by rw [e]; decide) (by rw [e]; decide) (by decide) ?_
    refine g_aload_n C 0 dX11_look_71 (q := 72) rfl rfl rfl ?_
    refine g_get C (k := 0) (i := 2) (by decide) (gc_0 Y _ _) rfl kU_X11 (by decide) kF_X11_26 rfl dX11_look_72 (q := 75) rfl ?_
    refine g_get C (k := 13) (i := 1) (by decide) (gc_13 Y _ _) rfl kU_X10 (by decide) kF_X11_166 rfl dX11_look_75 (q := 78) rfl ?_
    obtain rfl := Option.some.inj h
    exact g_iret C E dX11_look_78
  rw [if_neg e] at h
  have n3 := g_toI (n := 3) (v := 3) (by decide) e
  by_cases e : x1 = 4
  · rw [if_pos e] at h
    refine g_tabI C (off := 78) (tgt := 79) dX11_look_1 (by rw [e]; decide) (by rw [e]; decide) (by rw [e]; decide) (by decide) ?_
    refine g_aload_n C 0 dX11_look_79 (q := 80) rfl rfl rfl ?_
    refine g_get C (k := 0) (i := 3) (by decide) (gc_0 Y _ _) rfl kU_X11 (by decide) kF_X11_33 rfl dX11_look_80 (q := 83) rfl ?_
    refine g_get C (k := 24) (i := 0) (by decide) (gc_24 Y _ _) rfl kU_X4 (by decide) kF_X11_349 rfl dX11_look_83 (q := 86) rfl ?_
    obtain rfl := Option.some.inj h
    exact g_iret C E dX11_look_86
  rw [if_neg e] at h
  have n4 := g_toI (n := 4) (v := 4) (by decide) e
  by_cases e : x1 = 5
  · rw [if_pos e] at h
    refine g_tabI C (off := 86) (tgt := 87) dX11_look_1 (by rw [e]; decide) (by rw [e]; decide) (by rw [e]; decide) (by decide) ?_
    refine g_aload_n C 0 dX11_look_87 (q := 88) rfl rfl rfl ?_
    refine g_get C (k := 0) (i := 1) (by decide) (gc_0 Y _ _) rfl kU_X11 (by decide) kF_X11_19 rfl dX11_look_88 (q := 91) rfl ?_
    refine g_get C (k := 3) (i := 2) (by decide) (gc_3 Y _ _) rfl kU_X0 (by decide) kF_X11_229 rfl dX11_look_91 (q := 94) rfl ?_
    obtain rfl := Option.some.inj h
    exact g_iret C E dX11_look_94
  rw [if_neg e] at h
  have n5 := g_toI (n := 5) (v := 5) (by decide) e
  by_cases e : x1 = 6
  · rw [if_pos e] at h
    refine g_tabI C (off := 94) (tgt := 95) dX11_look_1 (by rw [e]; decide) (by rw [e]; decide) (by rw [e]; decide) (by decide) ?_
    refine g_aload_n C 0 dX11_look_95 (q := 96) rfl rfl rfl ?_
    refine g_get C (k := 0) (i := 10) (by decide) (gc_0 Y _ _) rfl kU_X11 (by decide) kF_X11_51 rfl dX11_look_96 (q := 99) rfl ?_
    refine g_get C (k := 33) (i := 1) (by decide) (gc_33 Y _ _) rfl kU_X8 (by decide) kF_X11_129 rfl dX11_look_99 (q := 102) rfl ?_
    obtain rfl := Option.some.inj h
    exact g_iret C E dX11_look_102
  rw [if_neg e] at h
  have n6 := g_toI (n := 6) (v := 6) (by decide) e
  have hdef : g_G 2 X Y 103 [(0, g_r Y 0), (1, .int x1)] [] M := by
    refine g_aload_n C 0 dX11_look_103 (q := 104) rfl rfl rfl ?_
    refine g_get C (k := 0) (i := 0) (by decide) (gc_0 Y _ _) rfl kU_X11 (by decide) kF_X11_12 rfl dX11_look_104 (q := 107) rfl ?_
    refine g_ldc C (v := (-1000000001)) kK_X11_90 dX11_look_107 (q := 109) rfl ?_
    obtain ⟨p3, hp3, h⟩ := g_bind h
    refine g_callV C (k := 1) (as := [.int (-1000000001)]) (st := []) (m_X2_tell hp3) (g_hR (by decide)) (by decide) (by decide) (gc_1 Y _ _) rfl kM_X11_91 kI_X2_tell kS_X2_tell kN_X2 kC_X2_tell kD_X2_tell rfl (Nat.le_of_ble_eq_true rfl) dX11_look_109 (q := 112) rfl ?_
    show g_G 2 X Y 112 [(0, g_r Y 0), (1, .int x1)] [.int p3.1] p3.2
    obtain rfl := Option.some.inj h
    exact g_iret C E dX11_look_112
  refine g_tabO C (tgt := 103) dX11_look_1 (by omega) (by decide) hdef
theorem r_X11_look {x1 : Int32} {M : g_M} {p : Int32 × g_M} (h : f_X11_look x1 M = some p) : g_fr [2] [(1, 1)] M p.2 := by
  unfold f_X11_look at h
  have hf := g_fr.rfl (S := [2]) (T := [(1, 1)]) (M := M)
  rcases g_ifs h with h | h
  · obtain rfl := Option.some.inj h
    exact hf
  rcases g_ifs h with h | h
  · obtain ⟨p1, -, h⟩ := g_bind h
    obtain ⟨p2, -, h⟩ := g_bind h
    obtain rfl := Option.some.inj h
    exact hf
  rcases g_ifs h with h | h
  · obtain rfl := Option.some.inj h
    exact hf
  rcases g_ifs h with h | h
  · obtain rfl := Option.some.inj h
    exact hf
  rcases g_ifs h with h | h
  · obtain rfl := Option.some.inj h
    exact hf
  rcases g_ifs h with h | h
  · obtain rfl := Option.some.inj h
    exact hf
  rcases g_ifs h with h | h
  · obtain rfl := Option.some.inj h
    exact hf
  obtain ⟨p3, hp3, h⟩ := g_bind h
  have hf := hf.trans ((r_X2_tell hp3).mono (by decide) (by decide))
  obtain rfl := Option.some.inj h
  exact hf
def f_X11_status_11 (M : g_M) : Option (Int32 × g_M) :=
  (f_X2_tell (-1000000001) M).bind fun p1 => some (p1.1, p1.2)
set_option maxRecDepth 100000 in
theorem t_X11_status_11 {l : Launch} {X : g_X} {Y : g_Y} {p : Int32 × g_M} (C : g_C l (g_rm (1)) RX11 cX11_status 2 X Y) (E : g_E (some .int) X Y (some (.int p.1)) p.2) (M : g_M) (h : f_X11_status_11 M = some p) : g_G 2 X Y 11 [(0, g_r Y 0)] [] M := by
  unfold f_X11_status_11 at h
  refine g_aload_n C 0 dX11_status_11 (q := 12) rfl rfl rfl ?_
  refine g_get C (k := 0) (i := 0) (by decide) (gc_0 Y _ _) rfl kU_X11 (by decide) kF_X11_12 rfl dX11_status_12 (q := 15) rfl ?_
  refine g_ldc C (v := (-1000000001)) kK_X11_90 dX11_status_15 (q := 17) rfl ?_
  obtain ⟨p1, hp1, h⟩ := g_bind h
  refine g_callV C (k := 1) (as := [.int (-1000000001)]) (st := []) (m_X2_tell hp1) (g_hR (by decide)) (by decide) (by decide) (gc_1 Y _ _) rfl kM_X11_91 kI_X2_tell kS_X2_tell kN_X2 kC_X2_tell kD_X2_tell rfl (Nat.le_of_ble_eq_true rfl) dX11_status_17 (q := 20) rfl ?_
  show g_G 2 X Y 20 [(0, g_r Y 0)] [.int p1.1] p1.2
  obtain rfl := Option.some.inj h
  exact g_iret C E dX11_status_20
theorem r_X11_status_11 {p : Int32 × g_M} (M : g_M) (h : f_X11_status_11 M = some p) : g_fr [2] [(1, 1)] M p.2 := by
  unfold f_X11_status_11 at h
  have hf := g_fr.rfl (S := [2]) (T := [(1, 1)]) (M := M)
  obtain ⟨p1, hp1, h⟩ := g_bind h
  have hf := hf.trans ((r_X2_tell hp1).mono (by decide) (by decide))
  obtain rfl := Option.some.inj h
  exact hf
def f_X11_status (x1 : Int32) (M : g_M) : Option (Int32 × g_M) :=
  (if x1 < (-1) then (f_X11_status_11 M) else ((if x1 < 7 then ((if 0 ≤ x1 then ((g_ld M 2 7 x1).bind fun v2 => some (v2, M)) else (some (M.1 1 1, M)))) else (f_X11_status_11 M))))
set_option maxRecDepth 100000 in
theorem m_X11_status {l : Launch} {Y : g_Y} {x1 : Int32} {M : g_M} {p : Int32 × g_M} (h : f_X11_status x1 M = some p) : g_R l Y (1) yX11_status cX11_status 2 (some .int) [g_r Y 0, .int x1] M (some (.int p.1)) p.2 := by
  unfold f_X11_status at h
  refine g_R_of kP_X11 rfl (Nat.le_of_ble_eq_true rfl) (fun X C E => ?_)
  show g_G 2 X Y 0 [(0, g_r Y 0), (1, .int x1)] [] M
  refine g_iload_n C 1 dX11_status_0 (q := 1) rfl rfl rfl ?_
  refine g_iconst C (v := (-1)) dX11_status_1 (q := 2) rfl (by decide) ?_
  have hif := g_if h
  clear h
  refine g_icmp_lt C dX11_status_2 (q := 5) (tgt := 11) rfl (by decide) (fun c => ?_) (fun c => ?_)
  · have h := hif.1 c
    clear hif
    refine g_sub [0] (lv' := [(0, g_r Y 0)]) rfl ?_
    exact t_X11_status_11 C E M h
  · have h := hif.2 c
    clear hif
    refine g_iload_n C 1 dX11_status_5 (q := 6) rfl rfl rfl ?_
    refine g_bipush C (v := 7) dX11_status_6 (q := 8) rfl (by decide) ?_
    have hif := g_if h
    clear h
    refine g_icmp_lt C dX11_status_8 (q := 11) (tgt := 21) rfl (by decide) (fun c => ?_) (fun c => ?_)
    · have h := hif.1 c
      clear hif
      refine g_iload_n C 1 dX11_status_21 (q := 22) rfl rfl rfl ?_
      have hif := g_if h
      clear h
      refine g_if_ge C dX11_status_22 (q := 25) (tgt := 35) rfl (by decide) (fun c => ?_) (fun c => ?_)
      · have h := hif.1 c
        clear hif
        refine g_aload_n C 0 dX11_status_35 (q := 36) rfl rfl rfl ?_
        refine g_get C (k := 0) (i := 0) (by decide) (gc_0 Y _ _) rfl kU_X11 (by decide) kF_X11_12 rfl dX11_status_36 (q := 39) rfl ?_
        refine g_get C (k := 1) (i := 0) (by decide) (gc_1 Y _ _) rfl kU_X2 (by decide) kF_X11_367 rfl dX11_status_39 (q := 42) rfl ?_
        refine g_iload_n C 1 dX11_status_42 (q := 43) rfl rfl rfl ?_
        obtain ⟨v2, hv2, h⟩ := g_bind h
        refine g_iald C (k := 2) (n := 7) (by decide) (gc_2 Y _ _) hv2 dX11_status_43 (q := 44) rfl ?_
        obtain rfl := Option.some.inj h
        exact g_iret C E dX11_status_44
      · have h := hif.2 c
        clear hif
        refine g_aload_n C 0 dX11_status_25 (q := 26) rfl rfl rfl ?_
        refine g_get C (k := 0) (i := 0) (by decide) (gc_0 Y _ _) rfl kU_X11 (by decide) kF_X11_12 rfl dX11_status_26 (q := 29) rfl ?_
        refine g_get C (k := 1) (i := 1) (by decide) (gc_1 Y _ _) rfl kU_X2 (by decide) kF_X11_364 rfl dX11_status_29 (q := 32) rfl ?_
        refine g_goto C dX11_status_32 (tgt := 44) (by decide) ?_
        obtain rfl := Option.some.inj h
        exact g_iret C E dX11_status_44
    · have h := hif.2 c
      clear hif
      refine g_sub [0] (lv' := [(0, g_r Y 0)]) rfl ?_
      exact t_X11_status_11 C E M h
theorem r_X11_status {x1 : Int32} {M : g_M} {p : Int32 × g_M} (h : f_X11_status x1 M = some p) : g_fr [2] [(1, 1)] M p.2 := by
  unfold f_X11_status at h
  have hf := g_fr.rfl (S := [2]) (T := [(1, 1)]) (M := M)
  rcases g_ifs h with h | h
  · exact hf.trans (r_X11_status_11 M h)
  · rcases g_ifs h with h | h
    · rcases g_ifs h with h | h
      · obtain ⟨v2, -, h⟩ := g_bind h
        obtain rfl := Option.some.inj h
        exact hf
      · obtain rfl := Option.some.inj h
        exact hf
    · exact hf.trans (r_X11_status_11 M h)
