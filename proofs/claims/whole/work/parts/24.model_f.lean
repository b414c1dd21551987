def F_X12_image_2 (k27 : g_M → Option (Int32 × g_M)) (k : Int32 → g_M → Option (Int32 × g_M)) (x1 : Int32) (M : g_M) : Option (Int32 × g_M) :=
  (if 1208 ≤ x1 then (k27 M) else ((g_ld M 60 1208 x1).bind fun v1 => (g_st M 61 1208 x1 v1).bind fun M2 => k (x1 + 1) M2))
set_option maxRecDepth 100000 in
theorem t_X12_image_2 {l : Launch} {X : g_X} {Y : g_Y} {p : Int32 × g_M} {k27 : g_M → Option (Int32 × g_M)} (C : g_C l (g_rm (0)) RX12 cX12_image 2 X Y) (E : g_E (some .int) X Y (some (.int p.1)) p.2) (hk27 : ∀ (M : g_M), k27 M = some p → g_G 2 X Y 27 [(0, g_r Y 59)] [] M) (n : Nat) : ∀ (x1 : Int32) (M : g_M), g_lp1 (F_X12_image_2 k27) n x1 M = some p → g_G 2 X Y 2 [(0, g_r Y 59), (1, .int x1)] [] M := by
  induction n with
  | zero => intro x1 M h; exact (g_nn h).elim
  | succ n ih =>
    intro x1 M h
    have h : F_X12_image_2 k27 (g_lp1 (F_X12_image_2 k27) n) x1 M = some p := h
    generalize g_lp1 (F_X12_image_2 k27) n = k at h ih
    unfold F_X12_image_2 at h
    refine g_iload_n C 1 dX12_image_2 (q := 3) rfl rfl rfl ?_
    refine g_sipush C (v := 1208) dX12_image_3 (q := 6) rfl (by decide) ?_
    have hif := g_if h
    clear h
    refine g_icmp_ge C dX12_image_6 (q := 9) (tgt := 27) rfl (by decide) (fun c => ?_) (fun c => ?_)
    · have h := hif.1 c
      clear hif
      refine g_sub [0] (lv' := [(0, g_r Y 59)]) rfl ?_
      exact hk27 M h
    · have h := hif.2 c
      clear hif
      refine g_aload_n C 0 dX12_image_9 (q := 10) rfl rfl rfl ?_
      refine g_get C (k := 59) (i := 1) (by decide) (gc_59 Y _ _) rfl kU_X12 (by decide) kF_X12_13 rfl dX12_image_10 (q := 13) rfl ?_
      refine g_iload_n C 1 dX12_image_13 (q := 14) rfl rfl rfl ?_
      refine g_aload_n C 0 dX12_image_14 (q := 15) rfl rfl rfl ?_
      refine g_get C (k := 59) (i := 0) (by decide) (gc_59 Y _ _) rfl kU_X12 (by decide) kF_X12_7 rfl dX12_image_15 (q := 18) rfl ?_
      refine g_iload_n C 1 dX12_image_18 (q := 19) rfl rfl rfl ?_
      obtain ⟨v1, hv1, h⟩ := g_bind h
      refine g_iald C (k := 60) (n := 1208) (by decide) (gc_60 Y _ _) hv1 dX12_image_19 (q := 20) rfl ?_
      obtain ⟨M2, hM2, h⟩ := g_bind h
      refine g_iast C (k := 61) (n := 1208) (by decide) (fun a => gc_61 Y a _) hM2 dX12_image_20 (q := 21) rfl ?_
      refine g_iinc C (k := 1) (v := x1 + 1) dX12_image_21 (q := 24) rfl rfl rfl (by decide) (lv' := [(1, .int (x1 + 1)), (0, g_r Y 59)]) rfl ?_
      refine g_goto C dX12_image_24 (tgt := 2) (by decide) ?_
      refine g_sub [1, 0] (lv' := [(0, g_r Y 59), (1, .int (x1 + 1))]) rfl ?_
      exact ih (x1 + 1) M2 h
theorem r_X12_image_2 {p : Int32 × g_M} {k27 : g_M → Option (Int32 × g_M)} (hk27 : ∀ (M : g_M), k27 M = some p → g_fr [61] [(59, 2)] M p.2) (n : Nat) : ∀ (x1 : Int32) (M : g_M), g_lp1 (F_X12_image_2 k27) n x1 M = some p → g_fr [61] [(59, 2)] M p.2 := by
  induction n with
  | zero => intro x1 M h; exact (g_nn h).elim
  | succ n ih =>
    intro x1 M h
    have h : F_X12_image_2 k27 (g_lp1 (F_X12_image_2 k27) n) x1 M = some p := h
    generalize g_lp1 (F_X12_image_2 k27) n = k at h ih
    unfold F_X12_image_2 at h
    have hf := g_fr.rfl (S := [61]) (T := [(59, 2)]) (M := M)
    rcases g_ifs h with h | h
    · exact hf.trans (hk27 M h)
    · obtain ⟨v1, -, h⟩ := g_bind h
      obtain ⟨M2, hM2, h⟩ := g_bind h
      have hf := hf.st hM2 (by decide)
      exact hf.trans (ih (x1 + 1) M2 h)
def f_X12_image (M : g_M) : Option (Int32 × g_M) :=
  g_lp1 (F_X12_image_2 (fun (M : g_M) => (some (g_u M 59 2 1)).bind fun M3 => some (1, M3))) 20000000 0 M
set_option maxRecDepth 100000 in
theorem m_X12_image {l : Launch} {Y : g_Y} {M : g_M} {p : Int32 × g_M} (h : f_X12_image M = some p) : g_R l Y (0) yX12_image cX12_image 2 (some .int) [g_r Y 59] M (some (.int p.1)) p.2 := by
  unfold f_X12_image at h
  refine g_R_of kP_X12 rfl (Nat.le_of_ble_eq_true rfl) (fun X C E => ?_)
  show g_G 2 X Y 0 [(0, g_r Y 59)] [] M
  refine g_iconst C (v := 0) dX12_image_0 (q := 1) rfl (by decide) ?_
  refine g_istore_n C dX12_image_1 (q := 2) rfl rfl (by decide) (lv' := [(1, .int 0), (0, g_r Y 59)]) rfl ?_
  refine g_sub [1, 0] (lv' := [(0, g_r Y 59), (1, .int 0)]) rfl ?_
  refine t_X12_image_2 C E ?_ 20000000 0 M h
  · intro M h
    try dsimp only at h
    refine g_aload_n C 0 dX12_image_27 (q := 28) rfl rfl rfl ?_
    refine g_iconst C (v := 1) dX12_image_28 (q := 29) rfl (by decide) ?_
    obtain ⟨M3, hM3, h⟩ := g_bind h
    refine g_put C (k := 59) (i := 2) (ty := .boolean) (by decide) (gc_59 Y _ _) (gp_59_2 Y _ _ _) rfl kU_X12 tyX12_ok nmX12 (by decide) kF_X12_306 rfl rfl (g_zn (by decide)).1 (g_zn (by decide)).2.1 (Nat.le_of_ble_eq_true rfl) dX12_image_29 (q := 32) rfl ?_
    refine g_mem hM3 ?_
    refine g_iconst C (v := 1) dX12_image_32 (q := 33) rfl (by decide) ?_
    obtain rfl := Option.some.inj h
    exact g_iret C E dX12_image_33
theorem r_X12_image {M : g_M} {p : Int32 × g_M} (h : f_X12_image M = some p) : g_fr [61] [(59, 2)] M p.2 := by
  unfold f_X12_image at h
  have hf := g_fr.rfl (S := [61]) (T := [(59, 2)]) (M := M)
  refine hf.trans (r_X12_image_2 ?_ 20000000 0 M h)
  · intro M h
    try dsimp only at h
    have hf := g_fr.rfl (S := [61]) (T := [(59, 2)]) (M := M)
    obtain ⟨M3, hM3, h⟩ := g_bind h
    have hf := hf.pu hM3 (by decide)
    obtain rfl := Option.some.inj h
    exact hf
def F_X12_undo_15 (k40 : g_M → Option (Int32 × g_M)) (k : Int32 → g_M → Option (Int32 × g_M)) (x1 : Int32) (M : g_M) : Option (Int32 × g_M) :=
  (if 1208 ≤ x1 then (k40 M) else ((g_ld M 61 1208 x1).bind fun v1 => (g_st M 60 1208 x1 v1).bind fun M2 => k (x1 + 1) M2))
set_option maxRecDepth 100000 in
theorem t_X12_undo_15 {l : Launch} {X : g_X} {Y : g_Y} {p : Int32 × g_M} {k40 : g_M → Option (Int32 × g_M)} (C : g_C l (g_rm (1)) RX12 cX12_undo 2 X Y) (E : g_E (some .int) X Y (some (.int p.1)) p.2) (hk40 : ∀ (M : g_M), k40 M = some p → g_G 2 X Y 40 [(0, g_r Y 59)] [] M) (n : Nat) : ∀ (x1 : Int32) (M : g_M), g_lp1 (F_X12_undo_15 k40) n x1 M = some p → g_G 2 X Y 15 [(0, g_r Y 59), (1, .int x1)] [] M := by
  induction n with
  | zero => intro x1 M h; exact (g_nn h).elim
  | succ n ih =>
    intro x1 M h
    have h : F_X12_undo_15 k40 (g_lp1 (F_X12_undo_15 k40) n) x1 M = some p := h
    generalize g_lp1 (F_X12_undo_15 k40) n = k at h ih
    unfold F_X12_undo_15 at h
    refine g_iload_n C 1 dX12_undo_15 (q := 16) rfl rfl rfl ?_
    refine g_sipush C (v := 1208) dX12_undo_16 (q := 19) rfl (by decide) ?_
    have hif := g_if h
    clear h
    refine g_icmp_ge C dX12_undo_19 (q := 22) (tgt := 40) rfl (by decide) (fun c => ?_) (fun c => ?_)
    · have h := hif.1 c
      clear hif
      refine g_sub [0] (lv' := [(0, g_r Y 59)]) rfl ?_
      exact hk40 M h
    · have h := hif.2 c
      clear hif
      refine g_aload_n C 0 dX12_undo_22 (q := 23) rfl rfl rfl ?_
      refine g_get C (k := 59) (i := 0) (by decide) (gc_59 Y _ _) rfl kU_X12 (by decide) kF_X12_7 rfl dX12_undo_23 (q := 26) rfl ?_
      refine g_iload_n C 1 dX12_undo_26 (q := 27) rfl rfl rfl ?_
      refine g_aload_n C 0 dX12_undo_27 (q := 28) rfl rfl rfl ?_
      refine g_get C (k := 59) (i := 1) (by decide) (gc_59 Y _ _) rfl kU_X12 (by decide) kF_X12_13 rfl dX12_undo_28 (q := 31) rfl ?_
      refine g_iload_n C 1 dX12_undo_31 (q := 32) rfl rfl rfl ?_
      obtain ⟨v1, hv1, h⟩ := g_bind h
      refine g_iald C (k := 61) (n := 1208) (by decide) (gc_61 Y _ _) hv1 dX12_undo_32 (q := 33) rfl ?_
      obtain ⟨M2, hM2, h⟩ := g_bind h
      refine g_iast C (k := 60) (n := 1208) (by decide) (fun a => gc_60 Y a _) hM2 dX12_undo_33 (q := 34) rfl ?_
      refine g_iinc C (k := 1) (v := x1 + 1) dX12_undo_34 (q := 37) rfl rfl rfl (by decide) (lv' := [(1, .int (x1 + 1)), (0, g_r Y 59)]) rfl ?_
      refine g_goto C dX12_undo_37 (tgt := 15) (by decide) ?_
      refine g_sub [1, 0] (lv' := [(0, g_r Y 59), (1, .int (x1 + 1))]) rfl ?_
      exact ih (x1 + 1) M2 h
theorem r_X12_undo_15 {p : Int32 × g_M} {k40 : g_M → Option (Int32 × g_M)} (hk40 : ∀ (M : g_M), k40 M = some p → g_fr [60, 63] [] M p.2) (n : Nat) : ∀ (x1 : Int32) (M : g_M), g_lp1 (F_X12_undo_15 k40) n x1 M = some p → g_fr [60, 63] [] M p.2 := by
  induction n with
  | zero => intro x1 M h; exact (g_nn h).elim
  | succ n ih =>
    intro x1 M h
    have h : F_X12_undo_15 k40 (g_lp1 (F_X12_undo_15 k40) n) x1 M = some p := h
    generalize g_lp1 (F_X12_undo_15 k40) n = k at h ih
    unfold F_X12_undo_15 at h
    have hf := g_fr.rfl (S := [60, 63]) (T := []) (M := M)
    rcases g_ifs h with h | h
    · exact hf.trans (hk40 M h)
    · obtain ⟨v1, -, h⟩ := g_bind h
      obtain ⟨M2, hM2, h⟩ := g_bind h
      have hf := hf.st hM2 (by decide)
      exact hf.trans (ih (x1 + 1) M2 h)
def f_X12_undo (M : g_M) : Option (Int32 × g_M) :=
  (if (M.1 59 2) = 0 then ((f_X12_finding 3 M).bind fun p4 => some (p4.1, p4.2)) else (g_lp1 (F_X12_undo_15 (fun (M : g_M) => (g_ld M 60 1208 3).bind fun v3 => some (v3, M))) 20000000 0 M))
set_option maxRecDepth 100000 in
theorem m_X12_undo {l : Launch} {Y : g_Y} {M : g_M} {p : Int32 × g_M} (h : f_X12_undo M = some p) : g_R l Y (1) yX12_undo cX12_undo 2 (some .int) [g_r Y 59] M (some (.int p.1)) p.2 := by
  unfold f_X12_undo at h
  refine g_R_of kP_X12 rfl (Nat.le_of_ble_eq_true rfl) (fun X C E => ?_)
  show g_G 2 X Y 0 [(0, g_r Y 59)] [] M
  refine g_aload_n C 0 dX12_undo_0 (q := 1) rfl rfl rfl ?_
  refine g_get C (k := 59) (i := 2) (by decide) (gc_59 Y _ _) rfl kU_X12 (by decide) kF_X12_306 rfl dX12_undo_1 (q := 4) rfl ?_
  have hif := g_if h
  clear h
  refine g_if_ne C dX12_undo_4 (q := 7) (tgt := 13) rfl (by decide) (fun c => ?_) (fun c => ?_)
  · have h := hif.2 c
    clear hif
    refine g_iconst C (v := 0) dX12_undo_13 (q := 14) rfl (by decide) ?_
    refine g_istore_n C dX12_undo_14 (q := 15) rfl rfl (by decide) (lv' := [(1, .int 0), (0, g_r Y 59)]) rfl ?_
    refine g_sub [1, 0] (lv' := [(0, g_r Y 59), (1, .int 0)]) rfl ?_
    refine t_X12_undo_15 C E ?_ 20000000 0 M h
    · intro M h
      try dsimp only at h
      refine g_aload_n C 0 dX12_undo_40 (q := 41) rfl rfl rfl ?_
      refine g_get C (k := 59) (i := 0) (by decide) (gc_59 Y _ _) rfl kU_X12 (by decide) kF_X12_7 rfl dX12_undo_41 (q := 44) rfl ?_
      refine g_iconst C (v := 3) dX12_undo_44 (q := 45) rfl (by decide) ?_
      obtain ⟨v3, hv3, h⟩ := g_bind h
      refine g_iald C (k := 60) (n := 1208) (by decide) (gc_60 Y _ _) hv3 dX12_undo_45 (q := 46) rfl ?_
      obtain rfl := Option.some.inj h
      exact g_iret C E dX12_undo_46
  · have h := hif.1 c
    clear hif
    refine g_aload_n C 0 dX12_undo_7 (q := 8) rfl rfl rfl ?_
    refine g_iconst C (v := 3) dX12_undo_8 (q := 9) rfl (by decide) ?_
    obtain ⟨p4, hp4, h⟩ := g_bind h
    refine g_callV C (k := 59) (as := [.int 3]) (st := []) (m_X12_finding hp4) (g_hR (by decide)) (by decide) (by decide) (gc_59 Y _ _) rfl kM_X12_190 kI_X12_finding kS_X12_finding kN_X12 kC_X12_finding kD_X12_finding rfl (Nat.le_of_ble_eq_true rfl) dX12_undo_9 (q := 12) rfl ?_
    show g_G 2 X Y 12 [(0, g_r Y 59)] [.int p4.1] p4.2
    obtain rfl := Option.some.inj h
    exact g_iret C E dX12_undo_12
theorem r_X12_undo {M : g_M} {p : Int32 × g_M} (h : f_X12_undo M = some p) : g_fr [60, 63] [] M p.2 := by
  unfold f_X12_undo at h
  have hf := g_fr.rfl (S := [60, 63]) (T := []) (M := M)
  rcases g_ifs h with h | h
  · obtain ⟨p4, hp4, h⟩ := g_bind h
    have hf := hf.trans ((r_X12_finding hp4).mono (by decide) (by decide))
    obtain rfl := Option.some.inj h
    exact hf
  · refine hf.trans (r_X12_undo_15 ?_ 20000000 0 M h)
    · intro M h
      try dsimp only at h
      have hf := g_fr.rfl (S := [60, 63]) (T := []) (M := M)
      obtain ⟨v3, -, h⟩ := g_bind h
      obtain rfl := Option.some.inj h
      exact hf
def f_X12_tear (M : g_M) : Option (Int32 × g_M) :=
  (if (M.1 59 2) = 0 then ((some (g_u M 59 2 0)).bind fun M1 => some (0, M1)) else ((some (g_u M 59 2 0)).bind fun M2 => some (1, M2)))
set_option maxRecDepth 100000 in
theorem m_X12_tear {l : Launch} {Y : g_Y} {M : g_M} {p : Int32 × g_M} (h : f_X12_tear M = some p) : g_R l Y (0) yX12_tear cX12_tear 2 (some .int) [g_r Y 59] M (some (.int p.1)) p.2 := by
  unfold f_X12_tear at h
  refine g_R_of kP_X12 rfl (Nat.le_of_ble_eq_true rfl) (fun X C E => ?_)
  show g_G 2 X Y 0 [(0, g_r Y 59)] [] M
  refine g_aload_n C 0 dX12_tear_0 (q := 1) rfl rfl rfl ?_
  refine g_get C (k := 59) (i := 2) (by decide) (gc_59 Y _ _) rfl kU_X12 (by decide) kF_X12_306 rfl dX12_tear_1 (q := 4) rfl ?_
  have hif := g_if h
  clear h
  refine g_if_eq C dX12_tear_4 (q := 7) (tgt := 11) rfl (by decide) (fun c => ?_) (fun c => ?_)
  · have h := hif.1 c
    clear hif
    refine g_iconst C (v := 0) dX12_tear_11 (q := 12) rfl (by decide) ?_
    refine g_istore_n C dX12_tear_12 (q := 13) rfl rfl (by decide) (lv' := [(1, .int 0), (0, g_r Y 59)]) rfl ?_
    refine g_aload_n C 1 dX12_tear_13 (q := 14) rfl rfl rfl ?_
    refine g_iconst C (v := 0) dX12_tear_14 (q := 15) rfl (by decide) ?_
    obtain ⟨M1, hM1, h⟩ := g_bind h
    refine g_put C (k := 59) (i := 2) (ty := .boolean) (by decide) (gc_59 Y _ _) (gp_59_2 Y _ _ _) rfl kU_X12 tyX12_ok nmX12 (by decide) kF_X12_306 rfl rfl (g_zn (by decide)).1 (g_zn (by decide)).2.1 (Nat.le_of_ble_eq_true rfl) dX12_tear_15 (q := 18) rfl ?_
    refine g_mem hM1 ?_
    refine g_iload_n C 0 dX12_tear_18 (q := 19) rfl rfl rfl ?_
    obtain rfl := Option.some.inj h
    exact g_iret C E dX12_tear_19
  · have h := hif.2 c
    clear hif
    refine g_iconst C (v := 1) dX12_tear_7 (q := 8) rfl (by decide) ?_
    refine g_goto C dX12_tear_8 (tgt := 12) (by decide) ?_
    refine g_istore_n C dX12_tear_12 (q := 13) rfl rfl (by decide) (lv' := [(1, .int 1), (0, g_r Y 59)]) rfl ?_
    refine g_aload_n C 1 dX12_tear_13 (q := 14) rfl rfl rfl ?_
    refine g_iconst C (v := 0) dX12_tear_14 (q := 15) rfl (by decide) ?_
    obtain ⟨M2, hM2, h⟩ := g_bind h
    refine g_put C (k := 59) (i := 2) (ty := .boolean) (by decide) (gc_59 Y _ _) (gp_59_2 Y _ _ _) rfl kU_X12 tyX12_ok nmX12 (by decide) kF_X12_306 rfl rfl (g_zn (by decide)).1 (g_zn (by decide)).2.1 (Nat.le_of_ble_eq_true rfl) dX12_tear_15 (q := 18) rfl ?_
    refine g_mem hM2 ?_
    refine g_iload_n C 0 dX12_tear_18 (q := 19) rfl rfl rfl ?_
    obtain rfl := Option.some.inj h
    exact g_iret C E dX12_tear_19
theorem r_X12_tear {M : g_M} {p : Int32 × g_M} (h : f_X12_tear M = some p) : g_fr [] [(59, 2)] M p.2 := by
  unfold f_X12_tear at h
  have hf := g_fr.rfl (S := []) (T := [(59, 2)]) (M := M)
  rcases g_ifs h with h | h
  · obtain ⟨M1, hM1, h⟩ := g_bind h
    have hf := hf.pu hM1 (by decide)
    obtain rfl := Option.some.inj h
    exact hf
  · obtain ⟨M2, hM2, h⟩ := g_bind h
    have hf := hf.pu hM2 (by decide)
    obtain rfl := Option.some.inj h
    exact hf
def f_X12_look (x1 : Int32) (M : g_M) : Option (Int32 × g_M) :=
  (if x1 = 0 then ((g_ld M 60 1208 0).bind fun v1 => some (v1, M)) else (if x1 = 1 then ((f_X12_all M).bind fun p2 => (f_X12_many p2 M).bind fun p3 => some (p3, M)) else (if x1 = 2 then ((g_ld M 60 1208 1).bind fun v4 => some (v4, M)) else (if x1 = 3 then ((g_ld M 60 1208 2).bind fun v5 => some (v5, M)) else (if x1 = 4 then ((g_ld M 60 1208 3).bind fun v6 => some (v6, M)) else (if x1 = 5 then ((g_ld M 60 1208 4).bind fun v7 => some (v7, M)) else (if x1 = 6 then (some (M.1 59 4, M)) else (f_X12_finding 0 M).bind fun p8 => some (p8.1, p8.2))))))))
set_option maxRecDepth 100000 in
theorem m_X12_look {l : Launch} {Y : g_Y} {x1 : Int32} {M : g_M} {p : Int32 × g_M} (h : f_X12_look x1 M = some p) : g_R l Y (1) yX12_look cX12_look 2 (some .int) [g_r Y 59, .int x1] M (some (.int p.1)) p.2 := by
  unfold f_X12_look at h
  refine g_R_of kP_X12 rfl (Nat.le_of_ble_eq_true rfl) (fun X C E => ?_)
  show g_G 2 X Y 0 [(0, g_r Y 59), (1, .int x1)] [] M
  refine g_iload_n C 1 dX12_look_0 (q := 1) rfl rfl rfl ?_
  by_cases e : x1 = 0
  · rw [if_pos e] at h
    refine g_tabI C (off := 43) (tgt := 44) dX12_look_1 (by rw [e]; decide) (by rw [e]; decide) (by rw [e]; decide) (by decide) ?_
    refine g_aload_n C 0 dX12_look_44 (q := 45) rfl rfl rfl ?_
    refine g_get C (k := 59) (i := 0) (by decide) (gc_59 Y _ _) rfl kU_X12 (by decide) kF_X12_7 rfl dX12_look_45 (q := 48) rfl ?_
    refine g_iconst C (v := 0) dX12_look_48 (q := 49) rfl (by decide) ?_
    obtain ⟨v1, hv1, h⟩ := g_bind h
    refine g_iald C (k := 60) (n := 1208) (by decide) (gc_60 Y _ _) hv1 dX12_look_49 (q := 50) rfl ?_
    obtain rfl := Option.some.inj h
    exact g_iret C E dX12_look_50
  rw [if_neg e] at h
  have n0 := g_toI (n := 0) (v := 0) (by decide) e
  by_cases e : x1 = 1
  · rw [if_pos e] at h
    refine g_tabI C (off := 50) (tgt := 51) dX12_look_1 (by rw [e]; decide) (by rw [e]; decide) (by rw [e]; decide) (by decide) ?_
    refine g_aload_n C 0 dX12_look_51 (q := 52) rfl rfl rfl ?_
    obtain ⟨p2, hp2, h⟩ := g_bind h
    refine g_callV C (k := 59) (as := []) (st := []) (m_X12_all hp2) (g_hR (by decide)) (by decide) (by decide) (gc_59 Y _ _) rfl kM_X12_181 kI_X12_all kS_X12_all kN_X12 kC_X12_all kD_X12_all rfl (Nat.le_of_ble_eq_true rfl) dX12_look_52 (q := 55) rfl ?_
    show g_G 2 X Y 55 [(0, g_r Y 59), (1, .int x1)] [.int p2] M
    obtain ⟨p3, hp3, h⟩ := g_bind h
    refine g_callS C (as := [.int p2]) (st := []) (m_X12_many hp3) (g_hR (by decide)) (by decide) kM_X12_147 kT_X12_many kN_X12 kC_X12_many kD_X12_many rfl (Nat.le_of_ble_eq_true rfl) dX12_look_55 (q := 58) rfl ?_
    show g_G 2 X Y 58 [(0, g_r Y 59), (1, .int x1)] [.int p3] M
    obtain rfl := Option.some.inj h
    exact g_iret C E dX12_look_58
  rw [if_neg e] at h
  have n1 := g_toI (n := 1) (v := 1) (by decide) e
  by_cases e : x1 = 2
  · rw [if_pos e] at h
    refine g_tabI C (off := 58) (tgt := 59) dX12_look_1 (by rw [e]; decide) (by rw [e]; decide) (by rw [e]; decide) (by decide) ?_
    refine g_aload_n C 0 dX12_look_59 (q := 60) rfl rfl rfl ?_
    refine g_get C (k := 59) (i := 0) (by decide) (gc_59 Y _ _) rfl kU_X12 (by decide) kF_X12_7 rfl dX12_look_60 (q := 63) rfl ?_
    refine g_iconst C (v := 1) dX12_look_63 (q := 64) rfl (by decide) ?_
    obtain ⟨v4, hv4, h⟩ := g_bind h
    refine g_iald C (k := 60) (n := 1208) (by decide) (gc_60 Y _ _) hv4 dX12_look_64 (q := 65) rfl ?_
    obtain rfl := Option.some.inj h
    exact g_iret C E dX12_look_65
  rw [if_neg e] at h
  have n2 := g_toI (n := 2) (v := 2) (by decide) e
  by_cases e : x1 = 3
  · rw [if_pos e] at h
    refine g_tabI C (off := 65) (tgt := 66) dX12_look_1 (by rw [e]; decide) (by rw [e]; decide) (by rw [e]; decide) (by decide) ?_
    refine g_aload_n C 0 dX12_look_66 (q := 67) rfl rfl rfl ?_
    refine g_get C (k := 59) (i := 0) (by decide) (gc_59 Y _ _) rfl kU_X12 (by decide) kF_X12_7 rfl dX12_look_67 (q := 70) rfl ?_
    refine g_iconst C (v := 2) dX12_look_70 (q := 71) rfl (by decide) ?_
    obtain ⟨v5, hv5, h⟩ := g_bind h
    refine g_iald C (k := 60) (n := 1208) (by decide) (gc_60 Y _ _) hv5 dX12_look_71 (q := 72) rfl ?_
    obtain rfl := Option.some.inj h
    exact g_iret C E dX12_look_72
  rw [if_neg e] at h
  have n3 := g_toI (n := 3) (v := 3) (by decide) e
  by_cases e : x1 = 4
  · rw [if_pos e] at h
    refine g_tabI C (off := 72) (tgt := 73) dX12_look_1 (by rw [e]; decide) (by rw [e]; decide) (by rw [e]; decide) (by decide) ?_
    refine g_aload_n C 0 dX12_look_73 (q := 74) rfl rfl rfl ?_
    refine g_get C (k := 59) (i := 0) (by decide) (gc_59 Y _ _) rfl kU_X12 (by decide) kF_X12_7 rfl dX12_look_74 (q := 77) rfl ?_
    refine g_iconst C (v := 3) dX12_look_77 (q := 78) rfl (by decide) ?_
    obtain ⟨v6, hv6, h⟩ := g_bind h
    refine g_iald C (k := 60) (n := 1208) (by decide) (gc_60 Y _ _) hv6 dX12_look_78 (q := 79) rfl ?_
    obtain rfl := Option.some.inj h
    exact g_iret C E dX12_look_79
  rw [if_neg e] at h
  have n4 := g_toI (n := 4) (v := 4) (by decide) e
  by_cases e : x1 = 5
  · rw [if_pos e] at h
    refine g_tabI C (off := 79) (tgt := 80) dX12_look_1 (by rw [e]; decide) (by rw [e]; decide) (by rw [e]; decide) (by decide) ?_
    refine g_aload_n C 0 dX12_look_80 (q := 81) rfl rfl rfl ?_
    refine g_get C (k := 59) (i := 0) (by decide) (gc_59 Y _ _) rfl kU_X12 (by decide) kF_X12_7 rfl dX12_look_81 (q := 84) rfl ?_
    refine g_iconst C (v := 4) dX12_look_84 (q := 85) rfl (by decide) ?_
    obtain ⟨v7, hv7, h⟩ := g_bind h
    refine g_iald C (k := 60) (n := 1208) (by decide) (gc_60 Y _ _) hv7 dX12_look_85 (q := 86) rfl ?_
    obtain rfl := Option.some.inj h
    exact g_iret C E dX12_look_86
  rw [if_neg e] at h
  have n5 := g_toI (n := 5) (v := 5) (by decide) e
  by_cases e : x1 = 6
  · rw [if_pos e] at h
    refine g_tabI C (off := 86) (tgt := 87) dX12_look_1 (by rw [e]; decide) (by rw [e]; decide) (by rw [e]; decide) (by decide) ?_
    refine g_aload_n C 0 dX12_look_87 (q := 88) rfl rfl rfl ?_
    refine g_get C (k := 59) (i := 4) (by decide) (gc_59 Y _ _) rfl kU_X12 (by decide) kF_X12_199 rfl dX12_look_88 (q := 91) rfl ?_
    obtain rfl := Option.some.inj h
    exact g_iret C E dX12_look_91
  rw [if_neg e] at h
  have n6 := g_toI (n := 6) (v := 6) (by decide) e
  have hdef : g_G 2 X Y 92 [(0, g_r Y 59), (1, .int x1)] [] M := by
    refine g_aload_n C 0 dX12_look_92 (q := 93) rfl rfl rfl ?_
    refine g_iconst C (v := 0) dX12_look_93 (q := 94) rfl (by decide) ?_
    obtain ⟨p8, hp8, h⟩ := g_bind h
    refine g_callV C (k := 59) (as := [.int 0]) (st := []) (m_X12_finding hp8) (g_hR (by decide)) (by decide) (by decide) (gc_59 Y _ _) rfl kM_X12_190 kI_X12_finding kS_X12_finding kN_X12 kC_X12_finding kD_X12_finding rfl (Nat.le_of_ble_eq_true rfl) dX12_look_94 (q := 97) rfl ?_
    show g_G 2 X Y 97 [(0, g_r Y 59), (1, .int x1)] [.int p8.1] p8.2
    obtain rfl := Option.some.inj h
    exact g_iret C E dX12_look_97
  refine g_tabO C (tgt := 92) dX12_look_1 (by omega) (by decide) hdef
theorem r_X12_look {x1 : Int32} {M : g_M} {p : Int32 × g_M} (h : f_X12_look x1 M = some p) : g_fr [63] [] M p.2 := by
  unfold f_X12_look at h
  have hf := g_fr.rfl (S := [63]) (T := []) (M := M)
  rcases g_ifs h with h | h
  · obtain ⟨v1, -, h⟩ := g_bind h
    obtain rfl := Option.some.inj h
    exact hf
  rcases g_ifs h with h | h
  · obtain ⟨p2, -, h⟩ := g_bind h
    obtain ⟨p3, -, h⟩ := g_bind h
    obtain rfl := Option.some.inj h
    exact hf
  rcases g_ifs h with h | h
  · obtain ⟨v4, -, h⟩ := g_bind h
    obtain rfl := Option.some.inj h
    exact hf
  rcases g_ifs h with h | h
  · obtain ⟨v5, -, h⟩ := g_bind h
    obtain rfl := Option.some.inj h
    exact hf
  rcases g_ifs h with h | h
  · obtain ⟨v6, -, h⟩ := g_bind h
    obtain rfl := Option.some.inj h
    exact hf
  rcases g_ifs h with h | h
  · obtain ⟨v7, -, h⟩ := g_bind h
    obtain rfl := Option.some.inj h
    exact hf
  rcases g_ifs h with h | h
  · obtain rfl := Option.some.inj h
    exact hf
  obtain ⟨p8, hp8, h⟩ := g_bind h
  have hf := hf.trans ((r_X12_finding hp8).mono (by decide) (by decide))
  obtain rfl := Option.some.inj h
  exact hf
def F_X12_status_20 (k55 : Int32 → g_M → Option (Int32 × g_M)) (k : Int32 → Int32 → Int32 → g_M → Option (Int32 × g_M)) (x1 : Int32) (x2 : Int32) (x3 : Int32) (M : g_M) : Option (Int32 × g_M) :=
  (if 7 ≤ x3 then (k55 x2 M) else ((if x1 = (-1) then ((g_ld M 63 7 x3).bind fun v2 => k x1 (x2 + v2) (x3 + 1) M) else ((if x1 = x3 then ((g_ld M 63 7 x3).bind fun v3 => k x1 (x2 + v3) (x3 + 1) M) else (k x1 (x2 + 0) (x3 + 1) M))))))
set_option maxRecDepth 100000 in
theorem t_X12_status_20 {l : Launch} {X : g_X} {Y : g_Y} {p : Int32 × g_M} {k55 : Int32 → g_M → Option (Int32 × g_M)} (C : g_C l (g_rm (1)) RX12 cX12_status 4 X Y) (E : g_E (some .int) X Y (some (.int p.1)) p.2) (hk55 : ∀ (x2 : Int32) (M : g_M), k55 x2 M = some p → g_G 4 X Y 55 [(2, .int x2)] [] M) (n : Nat) : ∀ (x1 : Int32) (x2 : Int32) (x3 : Int32) (M : g_M), g_lp3 (F_X12_status_20 k55) n x1 x2 x3 M = some p → g_G 4 X Y 20 [(0, g_r Y 59), (1, .int x1), (2, .int x2), (3, .int x3)] [] M := by
  induction n with
  | zero => intro x1 x2 x3 M h; exact (g_nn h).elim
  | succ n ih =>
    intro x1 x2 x3 M h
    have h : F_X12_status_20 k55 (g_lp3 (F_X12_status_20 k55) n) x1 x2 x3 M = some p := h
    generalize g_lp3 (F_X12_status_20 k55) n = k at h ih
    unfold F_X12_status_20 at h
    refine g_iload_n C 3 dX12_status_20 (q := 21) rfl rfl rfl ?_
    refine g_bipush C (v := 7) dX12_status_21 (q := 23) rfl (by decide) ?_
    have hif := g_if h
    clear h
    refine g_icmp_ge C dX12_status_23 (q := 26) (tgt := 55) rfl (by decide) (fun c => ?_) (fun c => ?_)
    · have h := hif.1 c
      clear hif
      refine g_sub [2] (lv' := [(2, .int x2)]) rfl ?_
      exact hk55 x2 M h
    · have h := hif.2 c
      clear hif
      refine g_iload_n C 2 dX12_status_26 (q := 27) rfl rfl rfl ?_
      refine g_iload_n C 1 dX12_status_27 (q := 28) rfl rfl rfl ?_
      refine g_iconst C (v := (-1)) dX12_status_28 (q := 29) rfl (by decide) ?_
      have hif := g_if h
      clear h
      refine g_icmp_eq C dX12_status_29 (q := 32) (tgt := 37) rfl (by decide) (fun c => ?_) (fun c => ?_)
      · have h := hif.1 c
        clear hif
        refine g_aload_n C 0 dX12_status_37 (q := 38) rfl rfl rfl ?_
        refine g_get C (k := 59) (i := 5) (by decide) (gc_59 Y _ _) rfl kU_X12 (by decide) kF_X12_19 rfl dX12_status_38 (q := 41) rfl ?_
        refine g_iload_n C 3 dX12_status_41 (q := 42) rfl rfl rfl ?_
        obtain ⟨v2, hv2, h⟩ := g_bind h
        refine g_iald C (k := 63) (n := 7) (by decide) (gc_63 Y _ _) hv2 dX12_status_42 (q := 43) rfl ?_
        refine g_goto C dX12_status_43 (tgt := 47) (by decide) ?_
        refine g_iadd C dX12_status_47 (q := 48) rfl ?_
        refine g_istore_n C dX12_status_48 (q := 49) rfl rfl (by decide) (lv' := [(2, .int (x2 + v2)), (0, g_r Y 59), (1, .int x1), (3, .int x3)]) rfl ?_
        refine g_iinc C (k := 3) (v := x3 + 1) dX12_status_49 (q := 52) rfl rfl rfl (by decide) (lv' := [(3, .int (x3 + 1)), (2, .int (x2 + v2)), (0, g_r Y 59), (1, .int x1)]) rfl ?_
        refine g_goto C dX12_status_52 (tgt := 20) (by decide) ?_
        refine g_sub [2, 3, 1, 0] (lv' := [(0, g_r Y 59), (1, .int x1), (2, .int (x2 + v2)), (3, .int (x3 + 1))]) rfl ?_
        exact ih x1 (x2 + v2) (x3 + 1) M h
      · have h := hif.2 c
        clear hif
        refine g_iload_n C 1 dX12_status_32 (q := 33) rfl rfl rfl ?_
        refine g_iload_n C 3 dX12_status_33 (q := 34) rfl rfl rfl ?_
        have hif := g_if h
        clear h
        refine g_icmp_ne C dX12_status_34 (q := 37) (tgt := 46) rfl (by decide) (fun c => ?_) (fun c => ?_)
        · have h := hif.2 c
          clear hif
          refine g_iconst C (v := 0) dX12_status_46 (q := 47) rfl (by decide) ?_
          refine g_iadd C dX12_status_47 (q := 48) rfl ?_
          refine g_istore_n C dX12_status_48 (q := 49) rfl rfl (by decide) (lv' := [(2, .int (x2 + 0)), (0, g_r Y 59), (1, .int x1), (3, .int x3)]) rfl ?_
          refine g_iinc C (k := 3) (v := x3 + 1) dX12_status_49 (q := 52) rfl rfl rfl (by decide) (lv' := [(3, .int (x3 + 1)), (2, .int (x2 + 0)), (0, g_r Y 59), (1, .int x1)]) rfl ?_
          refine g_goto C dX12_status_52 (tgt := 20) (by decide) ?_
          refine g_sub [2, 3, 1, 0] (lv' := [(0, g_r Y 59), (1, .int x1), (2, .int (x2 + 0)), (3, .int (x3 + 1))]) rfl ?_
          exact ih x1 (x2 + 0) (x3 + 1) M h
        · have h := hif.1 c
          clear hif
          refine g_aload_n C 0 dX12_status_37 (q := 38) rfl rfl rfl ?_
          refine g_get C (k := 59) (i := 5) (by decide) (gc_59 Y _ _) rfl kU_X12 (by decide) kF_X12_19 rfl dX12_status_38 (q := 41) rfl ?_
          refine g_iload_n C 3 dX12_status_41 (q := 42) rfl rfl rfl ?_
          obtain ⟨v3, hv3, h⟩ := g_bind h
          refine g_iald C (k := 63) (n := 7) (by decide) (gc_63 Y _ _) hv3 dX12_status_42 (q := 43) rfl ?_
          refine g_goto C dX12_status_43 (tgt := 47) (by decide) ?_
          refine g_iadd C dX12_status_47 (q := 48) rfl ?_
          refine g_istore_n C dX12_status_48 (q := 49) rfl rfl (by decide) (lv' := [(2, .int (x2 + v3)), (0, g_r Y 59), (1, .int x1), (3, .int x3)]) rfl ?_
          refine g_iinc C (k := 3) (v := x3 + 1) dX12_status_49 (q := 52) rfl rfl rfl (by decide) (lv' := [(3, .int (x3 + 1)), (2, .int (x2 + v3)), (0, g_r Y 59), (1, .int x1)]) rfl ?_
          refine g_goto C dX12_status_52 (tgt := 20) (by decide) ?_
          refine g_sub [2, 3, 1, 0] (lv' := [(0, g_r Y 59), (1, .int x1), (2, .int (x2 + v3)), (3, .int (x3 + 1))]) rfl ?_
          exact ih x1 (x2 + v3) (x3 + 1) M h
theorem r_X12_status_20 {p : Int32 × g_M} {k55 : Int32 → g_M → Option (Int32 × g_M)} (hk55 : ∀ (x2 : Int32) (M : g_M), k55 x2 M = some p → g_fr [63] [] M p.2) (n : Nat) : ∀ (x1 : Int32) (x2 : Int32) (x3 : Int32) (M : g_M), g_lp3 (F_X12_status_20 k55) n x1 x2 x3 M = some p → g_fr [63] [] M p.2 := by
  induction n with
  | zero => intro x1 x2 x3 M h; exact (g_nn h).elim
  | succ n ih =>
    intro x1 x2 x3 M h
    have h : F_X12_status_20 k55 (g_lp3 (F_X12_status_20 k55) n) x1 x2 x3 M = some p := h
    generalize g_lp3 (F_X12_status_20 k55) n = k at h ih
    unfold F_X12_status_20 at h
    have hf := g_fr.rfl (S := [63]) (T := []) (M := M)
    rcases g_ifs h with h | h
    · exact hf.trans (hk55 x2 M h)
    · rcases g_ifs h with h | h
      · obtain ⟨v2, -, h⟩ := g_bind h
        exact hf.trans (ih x1 (x2 + v2) (x3 + 1) M h)
      · rcases g_ifs h with h | h
        · obtain ⟨v3, -, h⟩ := g_bind h
          exact hf.trans (ih x1 (x2 + v3) (x3 + 1) M h)
        · exact hf.trans (ih x1 (x2 + 0) (x3 + 1) M h)
def f_X12_status (x1 : Int32) (M : g_M) : Option (Int32 × g_M) :=
  (f_X12_in x1 (-1) 6 M).bind fun p1 => (if p1 = 0 then ((f_X12_finding 0 M).bind fun p4 => some (p4.1, p4.2)) else (g_lp3 (F_X12_status_20 (fun (x2 : Int32) (M : g_M) => some (x2, M))) 20000000 x1 0 0 M))
set_option maxRecDepth 100000 in
theorem m_X12_status {l : Launch} {Y : g_Y} {x1 : Int32} {M : g_M} {p : Int32 × g_M} (h : f_X12_status x1 M = some p) : g_R l Y (1) yX12_status cX12_status 4 (some .int) [g_r Y 59, .int x1] M (some (.int p.1)) p.2 := by
  unfold f_X12_status at h
  refine g_R_of kP_X12 rfl (Nat.le_of_ble_eq_true rfl) (fun X C E => ?_)
  show g_G 4 X Y 0 [(0, g_r Y 59), (1, .int x1)] [] M
  refine g_iload_n C 1 dX12_status_0 (q := 1) rfl rfl rfl ?_
  refine g_iconst C (v := (-1)) dX12_status_1 (q := 2) rfl (by decide) ?_
  refine g_bipush C (v := 6) dX12_status_2 (q := 4) rfl (by decide) ?_
  obtain ⟨p1, hp1, h⟩ := g_bind h
  refine g_callS C (as := [.int x1, .int (-1), .int 6]) (st := []) (m_X12_in hp1) (g_hR (by decide)) (by decide) kM_X12_64 kT_X12_in kN_X12 kC_X12_in kD_X12_in rfl (Nat.le_of_ble_eq_true rfl) dX12_status_4 (q := 7) rfl ?_
  show g_G 4 X Y 7 [(0, g_r Y 59), (1, .int x1)] [.int p1] M
  have hif := g_if h
  clear h
  refine g_if_ne C dX12_status_7 (q := 10) (tgt := 16) rfl (by decide) (fun c => ?_) (fun c => ?_)
  · have h := hif.2 c
    clear hif
    refine g_iconst C (v := 0) dX12_status_16 (q := 17) rfl (by decide) ?_
    refine g_istore_n C dX12_status_17 (q := 18) rfl rfl (by decide) (lv' := [(2, .int 0), (0, g_r Y 59), (1, .int x1)]) rfl ?_
    refine g_iconst C (v := 0) dX12_status_18 (q := 19) rfl (by decide) ?_
    refine g_istore_n C dX12_status_19 (q := 20) rfl rfl (by decide) (lv' := [(3, .int 0), (2, .int 0), (0, g_r Y 59), (1, .int x1)]) rfl ?_
    refine g_sub [2, 3, 1, 0] (lv' := [(0, g_r Y 59), (1, .int x1), (2, .int 0), (3, .int 0)]) rfl ?_
    refine t_X12_status_20 C E ?_ 20000000 x1 0 0 M h
    · intro x2 M h
      try dsimp only at h
      refine g_iload_n C 0 dX12_status_55 (q := 56) rfl rfl rfl ?_
      obtain rfl := Option.some.inj h
      exact g_iret C E dX12_status_56
  · have h := hif.1 c
    clear hif
    refine g_aload_n C 0 dX12_status_10 (q := 11) rfl rfl rfl ?_
    refine g_iconst C (v := 0) dX12_status_11 (q := 12) rfl (by decide) ?_
    obtain ⟨p4, hp4, h⟩ := g_bind h
    refine g_callV C (k := 59) (as := [.int 0]) (st := []) (m_X12_finding hp4) (g_hR (by decide)) (by decide) (by decide) (gc_59 Y _ _) rfl kM_X12_190 kI_X12_finding kS_X12_finding kN_X12 kC_X12_finding kD_X12_finding rfl (Nat.le_of_ble_eq_true rfl) dX12_status_12 (q := 15) rfl ?_
    show g_G 4 X Y 15 [(0, g_r Y 59), (1, .int x1)] [.int p4.1] p4.2
    obtain rfl := Option.some.inj h
    exact g_iret C E dX12_status_15
theorem r_X12_status {x1 : Int32} {M : g_M} {p : Int32 × g_M} (h : f_X12_status x1 M = some p) : g_fr [63] [] M p.2 := by
  unfold f_X12_status at h
  have hf := g_fr.rfl (S := [63]) (T := []) (M := M)
  obtain ⟨p1, -, h⟩ := g_bind h
  rcases g_ifs h with h | h
  · obtain ⟨p4, hp4, h⟩ := g_bind h
    have hf := hf.trans ((r_X12_finding hp4).mono (by decide) (by decide))
    obtain rfl := Option.some.inj h
    exact hf
  · refine hf.trans (r_X12_status_20 ?_ 20000000 x1 0 0 M h)
    · intro x2 M h
      try dsimp only at h
      have hf := g_fr.rfl (S := [63]) (T := []) (M := M)
      obtain rfl := Option.some.inj h
      exact hf
