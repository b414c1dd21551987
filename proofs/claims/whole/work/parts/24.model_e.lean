def F_X12_sizeOf_2 (M : g_M) (k20 : Int32 → Option (Int32)) (k33 : Option (Int32)) (k : Int32 → Int32 → Option (Int32)) (x1 : Int32) (x2 : Int32) : Option (Int32) :=
  (if (M.1 59 26) ≤ x2 then (k33) else ((g_ld M 71 200 x2).bind fun v1 => (if v1 = x1 then (k20 x2) else (k x1 (x2 + 1)))))
set_option maxRecDepth 100000 in
theorem t_X12_sizeOf_2 {l : Launch} {X : g_X} {Y : g_Y} {p : Int32} {M : g_M} {k20 : Int32 → Option (Int32)} {k33 : Option (Int32)} (C : g_C l (g_rm (0)) RX12 cX12_sizeOf 3 X Y) (E : g_E (some .int) X Y (some (.int p)) M) (hk20 : ∀ (x2 : Int32), k20 x2 = some p → g_G 3 X Y 20 [(0, g_r Y 59), (2, .int x2)] [] M) (hk33 : k33 = some p → g_G 3 X Y 33 [] [] M) (n : Nat) : ∀ (x1 : Int32) (x2 : Int32), g_lq2 (F_X12_sizeOf_2 M k20 k33) n x1 x2 = some p → g_G 3 X Y 2 [(0, g_r Y 59), (1, .int x1), (2, .int x2)] [] M := by
  induction n with
  | zero => intro x1 x2 h; exact (g_nn h).elim
  | succ n ih =>
    intro x1 x2 h
    have h : F_X12_sizeOf_2 M k20 k33 (g_lq2 (F_X12_sizeOf_2 M k20 k33) n) x1 x2 = some p := h
    generalize g_lq2 (F_X12_sizeOf_2 M k20 k33) n = k at h ih
    unfold F_X12_sizeOf_2 at h
    refine g_iload_n C 2 dX12_sizeOf_2 (q := 3) rfl rfl rfl ?_
    refine g_aload_n C 0 dX12_sizeOf_3 (q := 4) rfl rfl rfl ?_
    refine g_get C (k := 59) (i := 26) (by decide) (gc_59 Y _ _) rfl kU_X12 (by decide) kF_X12_284 rfl dX12_sizeOf_4 (q := 7) rfl ?_
    have hif := g_if h
    clear h
    refine g_icmp_ge C dX12_sizeOf_7 (q := 10) (tgt := 33) rfl (by decide) (fun c => ?_) (fun c => ?_)
    · have h := hif.1 c
      clear hif
      refine g_sub [] (lv' := []) rfl ?_
      exact hk33 h
    · have h := hif.2 c
      clear hif
      refine g_aload_n C 0 dX12_sizeOf_10 (q := 11) rfl rfl rfl ?_
      refine g_get C (k := 59) (i := 24) (by decide) (gc_59 Y _ _) rfl kU_X12 (by decide) kF_X12_44 rfl dX12_sizeOf_11 (q := 14) rfl ?_
      refine g_iload_n C 2 dX12_sizeOf_14 (q := 15) rfl rfl rfl ?_
      obtain ⟨v1, hv1, h⟩ := g_bind h
      refine g_iald C (k := 71) (n := 200) (by decide) (gc_71 Y _ _) hv1 dX12_sizeOf_15 (q := 16) rfl ?_
      refine g_iload_n C 1 dX12_sizeOf_16 (q := 17) rfl rfl rfl ?_
      have hif := g_if h
      clear h
      refine g_icmp_ne C dX12_sizeOf_17 (q := 20) (tgt := 27) rfl (by decide) (fun c => ?_) (fun c => ?_)
      · have h := hif.2 c
        clear hif
        refine g_iinc C (k := 2) (v := x2 + 1) dX12_sizeOf_27 (q := 30) rfl rfl rfl (by decide) (lv' := [(2, .int (x2 + 1)), (0, g_r Y 59), (1, .int x1)]) rfl ?_
        refine g_goto C dX12_sizeOf_30 (tgt := 2) (by decide) ?_
        refine g_sub [1, 2, 0] (lv' := [(0, g_r Y 59), (1, .int x1), (2, .int (x2 + 1))]) rfl ?_
        exact ih x1 (x2 + 1) h
      · have h := hif.1 c
        clear hif
        refine g_sub [0, 2] (lv' := [(0, g_r Y 59), (2, .int x2)]) rfl ?_
        exact hk20 x2 h
def f_X12_sizeOf (x1 : Int32) (M : g_M) : Option (Int32) :=
  g_lq2 (F_X12_sizeOf_2 M (fun (x2 : Int32) => (g_ld M 72 200 x2).bind fun v2 => some v2) (some 0)) 20000000 x1 0
set_option maxRecDepth 100000 in
theorem m_X12_sizeOf {l : Launch} {Y : g_Y} {x1 : Int32} {M : g_M} {p : Int32} (h : f_X12_sizeOf x1 M = some p) : g_R l Y (0) yX12_sizeOf cX12_sizeOf 3 (some .int) [g_r Y 59, .int x1] M (some (.int p)) M := by
  unfold f_X12_sizeOf at h
  refine g_R_of kP_X12 rfl (Nat.le_of_ble_eq_true rfl) (fun X C E => ?_)
  show g_G 3 X Y 0 [(0, g_r Y 59), (1, .int x1)] [] M
  refine g_iconst C (v := 0) dX12_sizeOf_0 (q := 1) rfl (by decide) ?_
  refine g_istore_n C dX12_sizeOf_1 (q := 2) rfl rfl (by decide) (lv' := [(2, .int 0), (0, g_r Y 59), (1, .int x1)]) rfl ?_
  refine g_sub [1, 2, 0] (lv' := [(0, g_r Y 59), (1, .int x1), (2, .int 0)]) rfl ?_
  refine t_X12_sizeOf_2 C E ?_ ?_ 20000000 x1 0 h
  · intro x2 h
    try dsimp only at h
    refine g_aload_n C 0 dX12_sizeOf_20 (q := 21) rfl rfl rfl ?_
    refine g_get C (k := 59) (i := 25) (by decide) (gc_59 Y _ _) rfl kU_X12 (by decide) kF_X12_47 rfl dX12_sizeOf_21 (q := 24) rfl ?_
    refine g_iload_n C 1 dX12_sizeOf_24 (q := 25) rfl rfl rfl ?_
    obtain ⟨v2, hv2, h⟩ := g_bind h
    refine g_iald C (k := 72) (n := 200) (by decide) (gc_72 Y _ _) hv2 dX12_sizeOf_25 (q := 26) rfl ?_
    obtain rfl := Option.some.inj h
    exact g_iret C E dX12_sizeOf_26
  · intro  h
    try dsimp only at h
    refine g_iconst C (v := 0) dX12_sizeOf_33 (q := 34) rfl (by decide) ?_
    obtain rfl := Option.some.inj h
    exact g_iret C E dX12_sizeOf_34
def F_X12_spread_7 (M : g_M) (k44 : Int32 → Option (Int32)) (k : Int32 → Int32 → Int32 → Int32 → Int32 → Option (Int32)) (x0 : Int32) (x1 : Int32) (x2 : Int32) (x3 : Int32) (x4 : Int32) : Option (Int32) :=
  (if 10 ≤ x4 then (k44 x2) else ((if ((x1 >>> (x4 &&& 31)) &&& 1) = 1 then ((some (x2 ||| (((x0 >>> (x3 &&& 31)) &&& 1) <<< (x4 &&& 31)))).bind fun y1 => k x0 x1 y1 (x3 + 1) (x4 + 1)) else (k x0 x1 x2 x3 (x4 + 1)))))
set_option maxRecDepth 100000 in
theorem t_X12_spread_7 {l : Launch} {X : g_X} {Y : g_Y} {p : Int32} {M : g_M} {k44 : Int32 → Option (Int32)} (C : g_C l (g_rm (0)) RX12 cX12_spread 5 X Y) (E : g_E (some .int) X Y (some (.int p)) M) (hk44 : ∀ (x2 : Int32), k44 x2 = some p → g_G 5 X Y 44 [(2, .int x2)] [] M) (n : Nat) : ∀ (x0 : Int32) (x1 : Int32) (x2 : Int32) (x3 : Int32) (x4 : Int32), g_lq5 (F_X12_spread_7 M k44) n x0 x1 x2 x3 x4 = some p → g_G 5 X Y 7 [(0, .int x0), (1, .int x1), (2, .int x2), (3, .int x3), (4, .int x4)] [] M := by
  induction n with
  | zero => intro x0 x1 x2 x3 x4 h; exact (g_nn h).elim
  | succ n ih =>
    intro x0 x1 x2 x3 x4 h
    have h : F_X12_spread_7 M k44 (g_lq5 (F_X12_spread_7 M k44) n) x0 x1 x2 x3 x4 = some p := h
    generalize g_lq5 (F_X12_spread_7 M k44) n = k at h ih
    unfold F_X12_spread_7 at h
    refine g_iload C 4 dX12_spread_7 (q := 9) rfl rfl ?_
    refine g_bipush C (v := 10) dX12_spread_9 (q := 11) rfl (by decide) ?_
    have hif := g_if h
    clear h
    refine g_icmp_ge C dX12_spread_11 (q := 14) (tgt := 44) rfl (by decide) (fun c => ?_) (fun c => ?_)
    · have h := hif.1 c
      clear hif
      refine g_sub [2] (lv' := [(2, .int x2)]) rfl ?_
      exact hk44 x2 h
    · have h := hif.2 c
      clear hif
      refine g_iload_n C 1 dX12_spread_14 (q := 15) rfl rfl rfl ?_
      refine g_iload C 4 dX12_spread_15 (q := 17) rfl rfl ?_
      refine g_ishr C dX12_spread_17 (q := 18) rfl ?_
      refine g_iconst C (v := 1) dX12_spread_18 (q := 19) rfl (by decide) ?_
      refine g_iand C dX12_spread_19 (q := 20) rfl ?_
      refine g_iconst C (v := 1) dX12_spread_20 (q := 21) rfl (by decide) ?_
      have hif := g_if h
      clear h
      refine g_icmp_ne C dX12_spread_21 (q := 24) (tgt := 38) rfl (by decide) (fun c => ?_) (fun c => ?_)
      · have h := hif.2 c
        clear hif
        refine g_iinc C (k := 4) (v := x4 + 1) dX12_spread_38 (q := 41) rfl rfl rfl (by decide) (lv' := [(4, .int (x4 + 1)), (0, .int x0), (1, .int x1), (2, .int x2), (3, .int x3)]) rfl ?_
        refine g_goto C dX12_spread_41 (tgt := 7) (by decide) ?_
        refine g_sub [1, 2, 3, 4, 0] (lv' := [(0, .int x0), (1, .int x1), (2, .int x2), (3, .int x3), (4, .int (x4 + 1))]) rfl ?_
        exact ih x0 x1 x2 x3 (x4 + 1) h
      · have h := hif.1 c
        clear hif
        refine g_iload_n C 2 dX12_spread_24 (q := 25) rfl rfl rfl ?_
        refine g_iload_n C 0 dX12_spread_25 (q := 26) rfl rfl rfl ?_
        refine g_iload_n C 3 dX12_spread_26 (q := 27) rfl rfl rfl ?_
        refine g_ishr C dX12_spread_27 (q := 28) rfl ?_
        refine g_iconst C (v := 1) dX12_spread_28 (q := 29) rfl (by decide) ?_
        refine g_iand C dX12_spread_29 (q := 30) rfl ?_
        refine g_iload C 4 dX12_spread_30 (q := 32) rfl rfl ?_
        refine g_ishl C dX12_spread_32 (q := 33) rfl ?_
        refine g_ior C dX12_spread_33 (q := 34) rfl ?_
        obtain ⟨y1, hy1, h⟩ := g_bind h
        refine g_top hy1 ?_
        refine g_istore_n C dX12_spread_34 (q := 35) rfl rfl (by decide) (lv' := [(2, .int y1), (0, .int x0), (1, .int x1), (3, .int x3), (4, .int x4)]) rfl ?_
        refine g_iinc C (k := 3) (v := x3 + 1) dX12_spread_35 (q := 38) rfl rfl rfl (by decide) (lv' := [(3, .int (x3 + 1)), (2, .int y1), (0, .int x0), (1, .int x1), (4, .int x4)]) rfl ?_
        refine g_iinc C (k := 4) (v := x4 + 1) dX12_spread_38 (q := 41) rfl rfl rfl (by decide) (lv' := [(4, .int (x4 + 1)), (3, .int (x3 + 1)), (2, .int y1), (0, .int x0), (1, .int x1)]) rfl ?_
        refine g_goto C dX12_spread_41 (tgt := 7) (by decide) ?_
        refine g_sub [3, 4, 2, 1, 0] (lv' := [(0, .int x0), (1, .int x1), (2, .int y1), (3, .int (x3 + 1)), (4, .int (x4 + 1))]) rfl ?_
        exact ih x0 x1 y1 (x3 + 1) (x4 + 1) h
def f_X12_spread (x0 : Int32) (x1 : Int32) (M : g_M) : Option (Int32) :=
  g_lq5 (F_X12_spread_7 M (fun (x2 : Int32) => some x2)) 20000000 x0 x1 0 0 0
set_option maxRecDepth 100000 in
theorem m_X12_spread {l : Launch} {Y : g_Y} {x0 : Int32} {x1 : Int32} {M : g_M} {p : Int32} (h : f_X12_spread x0 x1 M = some p) : g_R l Y (0) yX12_spread cX12_spread 5 (some .int) [.int x0, .int x1] M (some (.int p)) M := by
  unfold f_X12_spread at h
  refine g_R_of kP_X12 rfl (Nat.le_of_ble_eq_true rfl) (fun X C E => ?_)
  show g_G 5 X Y 0 [(0, .int x0), (1, .int x1)] [] M
  refine g_iconst C (v := 0) dX12_spread_0 (q := 1) rfl (by decide) ?_
  refine g_istore_n C dX12_spread_1 (q := 2) rfl rfl (by decide) (lv' := [(2, .int 0), (0, .int x0), (1, .int x1)]) rfl ?_
  refine g_iconst C (v := 0) dX12_spread_2 (q := 3) rfl (by decide) ?_
  refine g_istore_n C dX12_spread_3 (q := 4) rfl rfl (by decide) (lv' := [(3, .int 0), (2, .int 0), (0, .int x0), (1, .int x1)]) rfl ?_
  refine g_iconst C (v := 0) dX12_spread_4 (q := 5) rfl (by decide) ?_
  refine g_istore C dX12_spread_5 (q := 7) rfl (by decide) (lv' := [(4, .int 0), (3, .int 0), (2, .int 0), (0, .int x0), (1, .int x1)]) rfl ?_
  refine g_sub [3, 4, 2, 1, 0] (lv' := [(0, .int x0), (1, .int x1), (2, .int 0), (3, .int 0), (4, .int 0)]) rfl ?_
  refine t_X12_spread_7 C E ?_ 20000000 x0 x1 0 0 0 h
  · intro x2 h
    try dsimp only at h
    refine g_iload_n C 0 dX12_spread_44 (q := 45) rfl rfl rfl ?_
    obtain rfl := Option.some.inj h
    exact g_iret C E dX12_spread_45
def f_X12_fewest_34 (M : g_M) : Option (Int32 × g_M) :=
  (f_X12_finding 6 M).bind fun p4 => some (p4.1, p4.2)
set_option maxRecDepth 100000 in
theorem t_X12_fewest_34 {l : Launch} {X : g_X} {Y : g_Y} {p : Int32 × g_M} (C : g_C l (g_rm (203)) RX12 cX12_fewest 9 X Y) (E : g_E (some .int) X Y (some (.int p.1)) p.2) (M : g_M) (h : f_X12_fewest_34 M = some p) : g_G 9 X Y 34 [(0, g_r Y 59)] [] M := by
  unfold f_X12_fewest_34 at h
  refine g_aload_n C 0 dX12_fewest_34 (q := 35) rfl rfl rfl ?_
  refine g_bipush C (v := 6) dX12_fewest_35 (q := 37) rfl (by decide) ?_
  obtain ⟨p4, hp4, h⟩ := g_bind h
  refine g_callV C (k := 59) (as := [.int 6]) (st := []) (m_X12_finding hp4) (g_hR (by decide)) (by decide) (by decide) (gc_59 Y _ _) rfl kM_X12_190 kI_X12_finding kS_X12_finding kN_X12 kC_X12_finding kD_X12_finding rfl (Nat.le_of_ble_eq_true rfl) dX12_fewest_37 (q := 40) rfl ?_
  show g_G 9 X Y 40 [(0, g_r Y 59)] [.int p4.1] p4.2
  obtain rfl := Option.some.inj h
  exact g_iret C E dX12_fewest_40
theorem r_X12_fewest_34 {p : Int32 × g_M} (M : g_M) (h : f_X12_fewest_34 M = some p) : g_fr [63, 64, 71, 72] [(59, 6), (59, 7), (59, 8), (59, 9), (59, 10), (59, 11), (59, 12), (59, 13), (59, 14), (59, 15), (59, 16), (59, 26)] M p.2 := by
  unfold f_X12_fewest_34 at h
  have hf := g_fr.rfl (S := [63, 64, 71, 72]) (T := [(59, 6), (59, 7), (59, 8), (59, 9), (59, 10), (59, 11), (59, 12), (59, 13), (59, 14), (59, 15), (59, 16), (59, 26)]) (M := M)
  obtain ⟨p4, hp4, h⟩ := g_bind h
  have hf := hf.trans ((r_X12_finding hp4).mono (by decide) (by decide))
  obtain rfl := Option.some.inj h
  exact hf
def F_X12_fewest_68 (k107 : Int32 → Int32 → Int32 → g_M → Option (Int32 × g_M)) (k : Int32 → Int32 → Int32 → Int32 → Int32 → g_M → Option (Int32 × g_M)) (x1 : Int32) (x2 : Int32) (x3 : Int32) (x4 : Int32) (x5 : Int32) (M : g_M) : Option (Int32 × g_M) :=
  (if x3 ≤ x5 then (k107 x2 x3 x4 M) else ((f_X12_spread x5 x1 M).bind fun p7 => (g_ld M 64 1024 p7).bind fun v8 => (if v8 = 0 then (k x1 x2 x3 (x4 ||| 0) (x5 + 1) M) else ((some (x4 ||| ((1 : Int32) <<< (x5 &&& 31)))).bind fun y9 => k x1 x2 x3 y9 (x5 + 1) M))))
set_option maxRecDepth 100000 in
theorem t_X12_fewest_68 {l : Launch} {X : g_X} {Y : g_Y} {p : Int32 × g_M} {k107 : Int32 → Int32 → Int32 → g_M → Option (Int32 × g_M)} (C : g_C l (g_rm (203)) RX12 cX12_fewest 9 X Y) (E : g_E (some .int) X Y (some (.int p.1)) p.2) (hk107 : ∀ (x2 : Int32) (x3 : Int32) (x4 : Int32) (M : g_M), k107 x2 x3 x4 M = some p → g_G 9 X Y 107 [(0, g_r Y 59), (2, .int x2), (3, .int x3), (4, .int x4)] [] M) (n : Nat) : ∀ (x1 : Int32) (x2 : Int32) (x3 : Int32) (x4 : Int32) (x5 : Int32) (M : g_M), g_lp5 (F_X12_fewest_68 k107) n x1 x2 x3 x4 x5 M = some p → g_G 9 X Y 68 [(0, g_r Y 59), (1, .int x1), (2, .int x2), (3, .int x3), (4, .int x4), (5, .int x5)] [] M := by
  induction n with
  | zero => intro x1 x2 x3 x4 x5 M h; exact (g_nn h).elim
  | succ n ih =>
    intro x1 x2 x3 x4 x5 M h
    have h : F_X12_fewest_68 k107 (g_lp5 (F_X12_fewest_68 k107) n) x1 x2 x3 x4 x5 M = some p := h
    generalize g_lp5 (F_X12_fewest_68 k107) n = k at h ih
    unfold F_X12_fewest_68 at h
    refine g_iload C 5 dX12_fewest_68 (q := 70) rfl rfl ?_
    refine g_iload_n C 3 dX12_fewest_70 (q := 71) rfl rfl rfl ?_
    have hif := g_if h
    clear h
    refine g_icmp_ge C dX12_fewest_71 (q := 74) (tgt := 107) rfl (by decide) (fun c => ?_) (fun c => ?_)
    · have h := hif.1 c
      clear hif
      refine g_sub [0, 2, 3, 4] (lv' := [(0, g_r Y 59), (2, .int x2), (3, .int x3), (4, .int x4)]) rfl ?_
      exact hk107 x2 x3 x4 M h
    · have h := hif.2 c
      clear hif
      refine g_iload C 4 dX12_fewest_74 (q := 76) rfl rfl ?_
      refine g_aload_n C 0 dX12_fewest_76 (q := 77) rfl rfl rfl ?_
      refine g_get C (k := 59) (i := 17) (by decide) (gc_59 Y _ _) rfl kU_X12 (by decide) kF_X12_22 rfl dX12_fewest_77 (q := 80) rfl ?_
      refine g_iload C 5 dX12_fewest_80 (q := 82) rfl rfl ?_
      refine g_iload_n C 1 dX12_fewest_82 (q := 83) rfl rfl rfl ?_
      obtain ⟨p7, hp7, h⟩ := g_bind h
      refine g_callS C (as := [.int x5, .int x1]) (st := [g_r Y 64, .int x4]) (m_X12_spread hp7) (g_hR (by decide)) (by decide) kM_X12_287 kT_X12_spread kN_X12 kC_X12_spread kD_X12_spread rfl (Nat.le_of_ble_eq_true rfl) dX12_fewest_83 (q := 86) rfl ?_
      show g_G 9 X Y 86 [(0, g_r Y 59), (1, .int x1), (2, .int x2), (3, .int x3), (4, .int x4), (5, .int x5)] [.int p7, g_r Y 64, .int x4] M
      obtain ⟨v8, hv8, h⟩ := g_bind h
      refine g_zald C (k := 64) (n := 1024) (by decide) (gc_64 Y _ _) hv8 dX12_fewest_86 (q := 87) rfl ?_
      have hif := g_if h
      clear h
      refine g_if_eq C dX12_fewest_87 (q := 90) (tgt := 97) rfl (by decide) (fun c => ?_) (fun c => ?_)
      · have h := hif.1 c
        clear hif
        refine g_iconst C (v := 0) dX12_fewest_97 (q := 98) rfl (by decide) ?_
        refine g_ior C dX12_fewest_98 (q := 99) rfl ?_
        refine g_istore C dX12_fewest_99 (q := 101) rfl (by decide) (lv' := [(4, .int (x4 ||| 0)), (0, g_r Y 59), (1, .int x1), (2, .int x2), (3, .int x3), (5, .int x5)]) rfl ?_
        refine g_iinc C (k := 5) (v := x5 + 1) dX12_fewest_101 (q := 104) rfl rfl rfl (by decide) (lv' := [(5, .int (x5 + 1)), (4, .int (x4 ||| 0)), (0, g_r Y 59), (1, .int x1), (2, .int x2), (3, .int x3)]) rfl ?_
        refine g_goto C dX12_fewest_104 (tgt := 68) (by decide) ?_
        refine g_sub [2, 3, 4, 5, 1, 0] (lv' := [(0, g_r Y 59), (1, .int x1), (2, .int x2), (3, .int x3), (4, .int (x4 ||| 0)), (5, .int (x5 + 1))]) rfl ?_
        exact ih x1 x2 x3 (x4 ||| 0) (x5 + 1) M h
      · have h := hif.2 c
        clear hif
        refine g_iconst C (v := 1) dX12_fewest_90 (q := 91) rfl (by decide) ?_
        refine g_iload C 5 dX12_fewest_91 (q := 93) rfl rfl ?_
        refine g_ishl C dX12_fewest_93 (q := 94) rfl ?_
        refine g_goto C dX12_fewest_94 (tgt := 98) (by decide) ?_
        refine g_ior C dX12_fewest_98 (q := 99) rfl ?_
        obtain ⟨y9, hy9, h⟩ := g_bind h
        refine g_top hy9 ?_
        refine g_istore C dX12_fewest_99 (q := 101) rfl (by decide) (lv' := [(4, .int y9), (0, g_r Y 59), (1, .int x1), (2, .int x2), (3, .int x3), (5, .int x5)]) rfl ?_
        refine g_iinc C (k := 5) (v := x5 + 1) dX12_fewest_101 (q := 104) rfl rfl rfl (by decide) (lv' := [(5, .int (x5 + 1)), (4, .int y9), (0, g_r Y 59), (1, .int x1), (2, .int x2), (3, .int x3)]) rfl ?_
        refine g_goto C dX12_fewest_104 (tgt := 68) (by decide) ?_
        refine g_sub [2, 3, 4, 5, 1, 0] (lv' := [(0, g_r Y 59), (1, .int x1), (2, .int x2), (3, .int x3), (4, .int y9), (5, .int (x5 + 1))]) rfl ?_
        exact ih x1 x2 x3 y9 (x5 + 1) M h
theorem r_X12_fewest_68 {p : Int32 × g_M} {k107 : Int32 → Int32 → Int32 → g_M → Option (Int32 × g_M)} (hk107 : ∀ (x2 : Int32) (x3 : Int32) (x4 : Int32) (M : g_M), k107 x2 x3 x4 M = some p → g_fr [63, 64, 71, 72] [(59, 6), (59, 7), (59, 8), (59, 9), (59, 10), (59, 11), (59, 12), (59, 13), (59, 14), (59, 15), (59, 16), (59, 26)] M p.2) (n : Nat) : ∀ (x1 : Int32) (x2 : Int32) (x3 : Int32) (x4 : Int32) (x5 : Int32) (M : g_M), g_lp5 (F_X12_fewest_68 k107) n x1 x2 x3 x4 x5 M = some p → g_fr [63, 64, 71, 72] [(59, 6), (59, 7), (59, 8), (59, 9), (59, 10), (59, 11), (59, 12), (59, 13), (59, 14), (59, 15), (59, 16), (59, 26)] M p.2 := by
  induction n with
  | zero => intro x1 x2 x3 x4 x5 M h; exact (g_nn h).elim
  | succ n ih =>
    intro x1 x2 x3 x4 x5 M h
    have h : F_X12_fewest_68 k107 (g_lp5 (F_X12_fewest_68 k107) n) x1 x2 x3 x4 x5 M = some p := h
    generalize g_lp5 (F_X12_fewest_68 k107) n = k at h ih
    unfold F_X12_fewest_68 at h
    have hf := g_fr.rfl (S := [63, 64, 71, 72]) (T := [(59, 6), (59, 7), (59, 8), (59, 9), (59, 10), (59, 11), (59, 12), (59, 13), (59, 14), (59, 15), (59, 16), (59, 26)]) (M := M)
    rcases g_ifs h with h | h
    · exact hf.trans (hk107 x2 x3 x4 M h)
    · obtain ⟨p7, -, h⟩ := g_bind h
      obtain ⟨v8, -, h⟩ := g_bind h
      rcases g_ifs h with h | h
      · exact hf.trans (ih x1 x2 x3 (x4 ||| 0) (x5 + 1) M h)
      · obtain ⟨y9, -, h⟩ := g_bind h
        exact hf.trans (ih x1 x2 x3 y9 (x5 + 1) M h)
def f_X12_fewest_122 (M : g_M) : Option (Int32 × g_M) :=
  (f_X12_finding 3 M).bind fun p10 => some (p10.1, p10.2)
set_option maxRecDepth 100000 in
theorem t_X12_fewest_122 {l : Launch} {X : g_X} {Y : g_Y} {p : Int32 × g_M} (C : g_C l (g_rm (203)) RX12 cX12_fewest 9 X Y) (E : g_E (some .int) X Y (some (.int p.1)) p.2) (M : g_M) (h : f_X12_fewest_122 M = some p) : g_G 9 X Y 122 [(0, g_r Y 59)] [] M := by
  unfold f_X12_fewest_122 at h
  refine g_aload_n C 0 dX12_fewest_122 (q := 123) rfl rfl rfl ?_
  refine g_iconst C (v := 3) dX12_fewest_123 (q := 124) rfl (by decide) ?_
  obtain ⟨p10, hp10, h⟩ := g_bind h
  refine g_callV C (k := 59) (as := [.int 3]) (st := []) (m_X12_finding hp10) (g_hR (by decide)) (by decide) (by decide) (gc_59 Y _ _) rfl kM_X12_190 kI_X12_finding kS_X12_finding kN_X12 kC_X12_finding kD_X12_finding rfl (Nat.le_of_ble_eq_true rfl) dX12_fewest_124 (q := 127) rfl ?_
  show g_G 9 X Y 127 [(0, g_r Y 59)] [.int p10.1] p10.2
  obtain rfl := Option.some.inj h
  exact g_iret C E dX12_fewest_127
theorem r_X12_fewest_122 {p : Int32 × g_M} (M : g_M) (h : f_X12_fewest_122 M = some p) : g_fr [63, 64, 71, 72] [(59, 6), (59, 7), (59, 8), (59, 9), (59, 10), (59, 11), (59, 12), (59, 13), (59, 14), (59, 15), (59, 16), (59, 26)] M p.2 := by
  unfold f_X12_fewest_122 at h
  have hf := g_fr.rfl (S := [63, 64, 71, 72]) (T := [(59, 6), (59, 7), (59, 8), (59, 9), (59, 10), (59, 11), (59, 12), (59, 13), (59, 14), (59, 15), (59, 16), (59, 26)]) (M := M)
  obtain ⟨p10, hp10, h⟩ := g_bind h
  have hf := hf.trans ((r_X12_finding hp10).mono (by decide) (by decide))
  obtain rfl := Option.some.inj h
  exact hf
def F_X12_fewest_148 (k175 : Int32 → Int32 → Int32 → Int32 → Int32 → g_M → Option (Int32 × g_M)) (k : Int32 → Int32 → Int32 → Int32 → Int32 → Int32 → g_M → Option (Int32 × g_M)) (x2 : Int32) (x3 : Int32) (x4 : Int32) (x5 : Int32) (x6 : Int32) (x7 : Int32) (M : g_M) : Option (Int32 × g_M) :=
  (if x3 ≤ x7 then (k175 x2 x3 x4 x5 x6 M) else ((some (x6 ||| (((x7 >>> (x5 &&& 31)) &&& 1) <<< (x7 &&& 31)))).bind fun y12 => k x2 x3 x4 x5 y12 (x7 + 1) M))
set_option maxRecDepth 100000 in
theorem t_X12_fewest_148 {l : Launch} {X : g_X} {Y : g_Y} {p : Int32 × g_M} {k175 : Int32 → Int32 → Int32 → Int32 → Int32 → g_M → Option (Int32 × g_M)} (C : g_C l (g_rm (203)) RX12 cX12_fewest 9 X Y) (E : g_E (some .int) X Y (some (.int p.1)) p.2) (hk175 : ∀ (x2 : Int32) (x3 : Int32) (x4 : Int32) (x5 : Int32) (x6 : Int32) (M : g_M), k175 x2 x3 x4 x5 x6 M = some p → g_G 9 X Y 175 [(0, g_r Y 59), (2, .int x2), (3, .int x3), (4, .int x4), (5, .int x5), (6, .int x6)] [] M) (n : Nat) : ∀ (x2 : Int32) (x3 : Int32) (x4 : Int32) (x5 : Int32) (x6 : Int32) (x7 : Int32) (M : g_M), g_lp6 (F_X12_fewest_148 k175) n x2 x3 x4 x5 x6 x7 M = some p → g_G 9 X Y 148 [(0, g_r Y 59), (2, .int x2), (3, .int x3), (4, .int x4), (5, .int x5), (6, .int x6), (7, .int x7)] [] M := by
  induction n with
  | zero => intro x2 x3 x4 x5 x6 x7 M h; exact (g_nn h).elim
  | succ n ih =>
    intro x2 x3 x4 x5 x6 x7 M h
    have h : F_X12_fewest_148 k175 (g_lp6 (F_X12_fewest_148 k175) n) x2 x3 x4 x5 x6 x7 M = some p := h
    generalize g_lp6 (F_X12_fewest_148 k175) n = k at h ih
    unfold F_X12_fewest_148 at h
    refine g_iload C 6 dX12_fewest_148 (q := 150) rfl rfl ?_
    refine g_iload_n C 2 dX12_fewest_150 (q := 151) rfl rfl rfl ?_
    have hif := g_if h
    clear h
    refine g_icmp_ge C dX12_fewest_151 (q := 154) (tgt := 175) rfl (by decide) (fun c => ?_) (fun c => ?_)
    · have h := hif.1 c
      clear hif
      refine g_sub [0, 1, 2, 3, 4, 5] (lv' := [(0, g_r Y 59), (2, .int x2), (3, .int x3), (4, .int x4), (5, .int x5), (6, .int x6)]) rfl ?_
      exact hk175 x2 x3 x4 x5 x6 M h
    · have h := hif.2 c
      clear hif
      refine g_iload C 5 dX12_fewest_154 (q := 156) rfl rfl ?_
      refine g_iload C 6 dX12_fewest_156 (q := 158) rfl rfl ?_
      refine g_iload C 4 dX12_fewest_158 (q := 160) rfl rfl ?_
      refine g_ishr C dX12_fewest_160 (q := 161) rfl ?_
      refine g_iconst C (v := 1) dX12_fewest_161 (q := 162) rfl (by decide) ?_
      refine g_iand C dX12_fewest_162 (q := 163) rfl ?_
      refine g_iload C 6 dX12_fewest_163 (q := 165) rfl rfl ?_
      refine g_ishl C dX12_fewest_165 (q := 166) rfl ?_
      refine g_ior C dX12_fewest_166 (q := 167) rfl ?_
      obtain ⟨y12, hy12, h⟩ := g_bind h
      refine g_top hy12 ?_
      refine g_istore C dX12_fewest_167 (q := 169) rfl (by decide) (lv' := [(6, .int y12), (0, g_r Y 59), (2, .int x2), (3, .int x3), (4, .int x4), (5, .int x5), (7, .int x7)]) rfl ?_
      refine g_iinc C (k := 6) (v := x7 + 1) dX12_fewest_169 (q := 172) rfl rfl rfl (by decide) (lv' := [(7, .int (x7 + 1)), (6, .int y12), (0, g_r Y 59), (2, .int x2), (3, .int x3), (4, .int x4), (5, .int x5)]) rfl ?_
      refine g_goto C dX12_fewest_172 (tgt := 148) (by decide) ?_
      refine g_sub [2, 3, 4, 5, 6, 1, 0] (lv' := [(0, g_r Y 59), (2, .int x2), (3, .int x3), (4, .int x4), (5, .int x5), (6, .int y12), (7, .int (x7 + 1))]) rfl ?_
      exact ih x2 x3 x4 x5 y12 (x7 + 1) M h
theorem r_X12_fewest_148 {p : Int32 × g_M} {k175 : Int32 → Int32 → Int32 → Int32 → Int32 → g_M → Option (Int32 × g_M)} (hk175 : ∀ (x2 : Int32) (x3 : Int32) (x4 : Int32) (x5 : Int32) (x6 : Int32) (M : g_M), k175 x2 x3 x4 x5 x6 M = some p → g_fr [63, 64, 71, 72] [(59, 6), (59, 7), (59, 8), (59, 9), (59, 10), (59, 11), (59, 12), (59, 13), (59, 14), (59, 15), (59, 16), (59, 26)] M p.2) (n : Nat) : ∀ (x2 : Int32) (x3 : Int32) (x4 : Int32) (x5 : Int32) (x6 : Int32) (x7 : Int32) (M : g_M), g_lp6 (F_X12_fewest_148 k175) n x2 x3 x4 x5 x6 x7 M = some p → g_fr [63, 64, 71, 72] [(59, 6), (59, 7), (59, 8), (59, 9), (59, 10), (59, 11), (59, 12), (59, 13), (59, 14), (59, 15), (59, 16), (59, 26)] M p.2 := by
  induction n with
  | zero => intro x2 x3 x4 x5 x6 x7 M h; exact (g_nn h).elim
  | succ n ih =>
    intro x2 x3 x4 x5 x6 x7 M h
    have h : F_X12_fewest_148 k175 (g_lp6 (F_X12_fewest_148 k175) n) x2 x3 x4 x5 x6 x7 M = some p := h
    generalize g_lp6 (F_X12_fewest_148 k175) n = k at h ih
    unfold F_X12_fewest_148 at h
    have hf := g_fr.rfl (S := [63, 64, 71, 72]) (T := [(59, 6), (59, 7), (59, 8), (59, 9), (59, 10), (59, 11), (59, 12), (59, 13), (59, 14), (59, 15), (59, 16), (59, 26)]) (M := M)
    rcases g_ifs h with h | h
    · exact hf.trans (hk175 x2 x3 x4 x5 x6 M h)
    · obtain ⟨y12, -, h⟩ := g_bind h
      exact hf.trans (ih x2 x3 x4 x5 y12 (x7 + 1) M h)
def F_X12_fewest_136 (k188 : Int32 → g_M → Option (Int32 × g_M)) (k : Int32 → Int32 → Int32 → Int32 → g_M → Option (Int32 × g_M)) (x2 : Int32) (x3 : Int32) (x4 : Int32) (x5 : Int32) (M : g_M) : Option (Int32 × g_M) :=
  (if x2 ≤ x5 then (k188 x4 M) else (g_lp6 (F_X12_fewest_148 (fun (x2 : Int32) (x3 : Int32) (x4 : Int32) (x5 : Int32) (x6 : Int32) (M : g_M) => (f_X12_adds x6 1 M).bind fun p13 => k x2 x3 x4 (x5 + 1) p13)) 20000000 x2 x3 x4 x5 0 0 M))
set_option maxRecDepth 100000 in
theorem t_X12_fewest_136 {l : Launch} {X : g_X} {Y : g_Y} {p : Int32 × g_M} {k188 : Int32 → g_M → Option (Int32 × g_M)} (C : g_C l (g_rm (203)) RX12 cX12_fewest 9 X Y) (E : g_E (some .int) X Y (some (.int p.1)) p.2) (hk188 : ∀ (x4 : Int32) (M : g_M), k188 x4 M = some p → g_G 9 X Y 188 [(0, g_r Y 59), (4, .int x4)] [] M) (n : Nat) : ∀ (x2 : Int32) (x3 : Int32) (x4 : Int32) (x5 : Int32) (M : g_M), g_lp4 (F_X12_fewest_136 k188) n x2 x3 x4 x5 M = some p → g_G 9 X Y 136 [(0, g_r Y 59), (2, .int x2), (3, .int x3), (4, .int x4), (5, .int x5)] [] M := by
  induction n with
  | zero => intro x2 x3 x4 x5 M h; exact (g_nn h).elim
  | succ n ih =>
    intro x2 x3 x4 x5 M h
    have h : F_X12_fewest_136 k188 (g_lp4 (F_X12_fewest_136 k188) n) x2 x3 x4 x5 M = some p := h
    generalize g_lp4 (F_X12_fewest_136 k188) n = k at h ih
    unfold F_X12_fewest_136 at h
    refine g_iload C 4 dX12_fewest_136 (q := 138) rfl rfl ?_
    refine g_iload_n C 1 dX12_fewest_138 (q := 139) rfl rfl rfl ?_
    have hif := g_if h
    clear h
    refine g_icmp_ge C dX12_fewest_139 (q := 142) (tgt := 188) rfl (by decide) (fun c => ?_) (fun c => ?_)
    · have h := hif.1 c
      clear hif
      refine g_sub [0, 3] (lv' := [(0, g_r Y 59), (4, .int x4)]) rfl ?_
      exact hk188 x4 M h
    · have h := hif.2 c
      clear hif
      refine g_iconst C (v := 0) dX12_fewest_142 (q := 143) rfl (by decide) ?_
      refine g_istore C dX12_fewest_143 (q := 145) rfl (by decide) (lv' := [(6, .int 0), (0, g_r Y 59), (2, .int x2), (3, .int x3), (4, .int x4), (5, .int x5)]) rfl ?_
      refine g_iconst C (v := 0) dX12_fewest_145 (q := 146) rfl (by decide) ?_
      refine g_istore C dX12_fewest_146 (q := 148) rfl (by decide) (lv' := [(7, .int 0), (6, .int 0), (0, g_r Y 59), (2, .int x2), (3, .int x3), (4, .int x4), (5, .int x5)]) rfl ?_
      refine g_sub [2, 3, 4, 5, 6, 1, 0] (lv' := [(0, g_r Y 59), (2, .int x2), (3, .int x3), (4, .int x4), (5, .int x5), (6, .int 0), (7, .int 0)]) rfl ?_
      refine t_X12_fewest_148 C E ?_ 20000000 x2 x3 x4 x5 0 0 M h
      · intro x2 x3 x4 x5 x6 M h
        try dsimp only at h
        refine g_aload_n C 0 dX12_fewest_175 (q := 176) rfl rfl rfl ?_
        refine g_iload C 5 dX12_fewest_176 (q := 178) rfl rfl ?_
        refine g_iconst C (v := 1) dX12_fewest_178 (q := 179) rfl (by decide) ?_
        obtain ⟨p13, hp13, h⟩ := g_bind h
        refine g_callV C (k := 59) (as := [.int x6, .int 1]) (st := []) (m_X12_adds hp13) (g_hR (by decide)) (by decide) (by decide) (gc_59 Y _ _) rfl kM_X12_290 kI_X12_adds kS_X12_adds kN_X12 kC_X12_adds kD_X12_adds rfl (Nat.le_of_ble_eq_true rfl) dX12_fewest_179 (q := 182) rfl ?_
        show g_G 9 X Y 182 [(0, g_r Y 59), (2, .int x2), (3, .int x3), (4, .int x4), (5, .int x5), (6, .int x6)] [] p13
        refine g_iinc C (k := 4) (v := x5 + 1) dX12_fewest_182 (q := 185) rfl rfl rfl (by decide) (lv' := [(5, .int (x5 + 1)), (0, g_r Y 59), (2, .int x2), (3, .int x3), (4, .int x4), (6, .int x6)]) rfl ?_
        refine g_goto C dX12_fewest_185 (tgt := 136) (by decide) ?_
        refine g_sub [1, 2, 3, 4, 0] (lv' := [(0, g_r Y 59), (2, .int x2), (3, .int x3), (4, .int x4), (5, .int (x5 + 1))]) rfl ?_
        exact ih x2 x3 x4 (x5 + 1) p13 h
theorem r_X12_fewest_136 {p : Int32 × g_M} {k188 : Int32 → g_M → Option (Int32 × g_M)} (hk188 : ∀ (x4 : Int32) (M : g_M), k188 x4 M = some p → g_fr [63, 64, 71, 72] [(59, 6), (59, 7), (59, 8), (59, 9), (59, 10), (59, 11), (59, 12), (59, 13), (59, 14), (59, 15), (59, 16), (59, 26)] M p.2) (n : Nat) : ∀ (x2 : Int32) (x3 : Int32) (x4 : Int32) (x5 : Int32) (M : g_M), g_lp4 (F_X12_fewest_136 k188) n x2 x3 x4 x5 M = some p → g_fr [63, 64, 71, 72] [(59, 6), (59, 7), (59, 8), (59, 9), (59, 10), (59, 11), (59, 12), (59, 13), (59, 14), (59, 15), (59, 16), (59, 26)] M p.2 := by
  induction n with
  | zero => intro x2 x3 x4 x5 M h; exact (g_nn h).elim
  | succ n ih =>
    intro x2 x3 x4 x5 M h
    have h : F_X12_fewest_136 k188 (g_lp4 (F_X12_fewest_136 k188) n) x2 x3 x4 x5 M = some p := h
    generalize g_lp4 (F_X12_fewest_136 k188) n = k at h ih
    unfold F_X12_fewest_136 at h
    have hf := g_fr.rfl (S := [63, 64, 71, 72]) (T := [(59, 6), (59, 7), (59, 8), (59, 9), (59, 10), (59, 11), (59, 12), (59, 13), (59, 14), (59, 15), (59, 16), (59, 26)]) (M := M)
    rcases g_ifs h with h | h
    · exact hf.trans (hk188 x4 M h)
    · refine hf.trans (r_X12_fewest_148 ?_ 20000000 x2 x3 x4 x5 0 0 M h)
      · intro x2 x3 x4 x5 x6 M h
        try dsimp only at h
        have hf := g_fr.rfl (S := [63, 64, 71, 72]) (T := [(59, 6), (59, 7), (59, 8), (59, 9), (59, 10), (59, 11), (59, 12), (59, 13), (59, 14), (59, 15), (59, 16), (59, 26)]) (M := M)
        obtain ⟨p13, hp13, h⟩ := g_bind h
        have hf := hf.trans ((r_X12_adds hp13).mono (by decide) (by decide))
        exact hf.trans (ih x2 x3 x4 (x5 + 1) p13 h)
def F_X12_fewest_219 (k294 : Int32 → Int32 → Int32 → Int32 → g_M → Option (Int32 × g_M)) (k : Int32 → Int32 → Int32 → Int32 → Int32 → g_M → Option (Int32 × g_M)) (x4 : Int32) (x5 : Int32) (x6 : Int32) (x7 : Int32) (x8 : Int32) (M : g_M) : Option (Int32 × g_M) :=
  (if x7 < x8 then (k294 x4 x5 x6 x7 M) else ((g_ld M 72 200 x7).bind fun v15 => (g_ld M 72 200 x8).bind fun v16 => (if (v15 + v16) = x5 then ((g_ld M 71 200 x7).bind fun v17 => (g_ld M 71 200 x8).bind fun v18 => (f_X12_adds (v17 ||| v18) x5 M).bind fun p19 => (g_ld p19 71 200 x7).bind fun v20 => (g_ld p19 71 200 x8).bind fun v21 => (f_X12_adds (v20 &&& v21) x5 p19).bind fun p22 => k x4 x5 x6 x7 (x8 + 1) p22) else (k x4 x5 x6 x7 (x8 + 1) M))))
set_option maxRecDepth 100000 in
theorem t_X12_fewest_219 {l : Launch} {X : g_X} {Y : g_Y} {p : Int32 × g_M} {k294 : Int32 → Int32 → Int32 → Int32 → g_M → Option (Int32 × g_M)} (C : g_C l (g_rm (203)) RX12 cX12_fewest 9 X Y) (E : g_E (some .int) X Y (some (.int p.1)) p.2) (hk294 : ∀ (x4 : Int32) (x5 : Int32) (x6 : Int32) (x7 : Int32) (M : g_M), k294 x4 x5 x6 x7 M = some p → g_G 9 X Y 294 [(0, g_r Y 59), (4, .int x4), (5, .int x5), (6, .int x6), (7, .int x7)] [] M) (n : Nat) : ∀ (x4 : Int32) (x5 : Int32) (x6 : Int32) (x7 : Int32) (x8 : Int32) (M : g_M), g_lp5 (F_X12_fewest_219 k294) n x4 x5 x6 x7 x8 M = some p → g_G 9 X Y 219 [(0, g_r Y 59), (4, .int x4), (5, .int x5), (6, .int x6), (7, .int x7), (8, .int x8)] [] M := by
  induction n with
  | zero => intro x4 x5 x6 x7 x8 M h; exact (g_nn h).elim
  | succ n ih =>
    intro x4 x5 x6 x7 x8 M h
    have h : F_X12_fewest_219 k294 (g_lp5 (F_X12_fewest_219 k294) n) x4 x5 x6 x7 x8 M = some p := h
    generalize g_lp5 (F_X12_fewest_219 k294) n = k at h ih
    unfold F_X12_fewest_219 at h
    refine g_iload C 5 dX12_fewest_219 (q := 221) rfl rfl ?_
    refine g_iload C 4 dX12_fewest_221 (q := 223) rfl rfl ?_
    have hif := g_if h
    clear h
    refine g_icmp_gt C dX12_fewest_223 (q := 226) (tgt := 294) rfl (by decide) (fun c => ?_) (fun c => ?_)
    · have h := hif.1 c
      clear hif
      refine g_sub [0, 1, 2, 3, 4] (lv' := [(0, g_r Y 59), (4, .int x4), (5, .int x5), (6, .int x6), (7, .int x7)]) rfl ?_
      exact hk294 x4 x5 x6 x7 M h
    · have h := hif.2 c
      clear hif
      refine g_aload_n C 0 dX12_fewest_226 (q := 227) rfl rfl rfl ?_
      refine g_get C (k := 59) (i := 25) (by decide) (gc_59 Y _ _) rfl kU_X12 (by decide) kF_X12_47 rfl dX12_fewest_227 (q := 230) rfl ?_
      refine g_iload C 4 dX12_fewest_230 (q := 232) rfl rfl ?_
      obtain ⟨v15, hv15, h⟩ := g_bind h
      refine g_iald C (k := 72) (n := 200) (by decide) (gc_72 Y _ _) hv15 dX12_fewest_232 (q := 233) rfl ?_
      refine g_aload_n C 0 dX12_fewest_233 (q := 234) rfl rfl rfl ?_
      refine g_get C (k := 59) (i := 25) (by decide) (gc_59 Y _ _) rfl kU_X12 (by decide) kF_X12_47 rfl dX12_fewest_234 (q := 237) rfl ?_
      refine g_iload C 5 dX12_fewest_237 (q := 239) rfl rfl ?_
      obtain ⟨v16, hv16, h⟩ := g_bind h
      refine g_iald C (k := 72) (n := 200) (by decide) (gc_72 Y _ _) hv16 dX12_fewest_239 (q := 240) rfl ?_
      refine g_iadd C dX12_fewest_240 (q := 241) rfl ?_
      refine g_iload C 2 dX12_fewest_241 (q := 243) rfl rfl ?_
      have hif := g_if h
      clear h
      refine g_icmp_ne C dX12_fewest_243 (q := 246) (tgt := 288) rfl (by decide) (fun c => ?_) (fun c => ?_)
      · have h := hif.2 c
        clear hif
        refine g_iinc C (k := 5) (v := x8 + 1) dX12_fewest_288 (q := 291) rfl rfl rfl (by decide) (lv' := [(8, .int (x8 + 1)), (0, g_r Y 59), (4, .int x4), (5, .int x5), (6, .int x6), (7, .int x7)]) rfl ?_
        refine g_goto C dX12_fewest_291 (tgt := 219) (by decide) ?_
        refine g_sub [1, 2, 3, 4, 5, 0] (lv' := [(0, g_r Y 59), (4, .int x4), (5, .int x5), (6, .int x6), (7, .int x7), (8, .int (x8 + 1))]) rfl ?_
        exact ih x4 x5 x6 x7 (x8 + 1) M h
      · have h := hif.1 c
        clear hif
        refine g_aload_n C 0 dX12_fewest_246 (q := 247) rfl rfl rfl ?_
        refine g_aload_n C 0 dX12_fewest_247 (q := 248) rfl rfl rfl ?_
        refine g_get C (k := 59) (i := 24) (by decide) (gc_59 Y _ _) rfl kU_X12 (by decide) kF_X12_44 rfl dX12_fewest_248 (q := 251) rfl ?_
        refine g_iload C 4 dX12_fewest_251 (q := 253) rfl rfl ?_
        obtain ⟨v17, hv17, h⟩ := g_bind h
        refine g_iald C (k := 71) (n := 200) (by decide) (gc_71 Y _ _) hv17 dX12_fewest_253 (q := 254) rfl ?_
        refine g_aload_n C 0 dX12_fewest_254 (q := 255) rfl rfl rfl ?_
        refine g_get C (k := 59) (i := 24) (by decide) (gc_59 Y _ _) rfl kU_X12 (by decide) kF_X12_44 rfl dX12_fewest_255 (q := 258) rfl ?_
        refine g_iload C 5 dX12_fewest_258 (q := 260) rfl rfl ?_
        obtain ⟨v18, hv18, h⟩ := g_bind h
        refine g_iald C (k := 71) (n := 200) (by decide) (gc_71 Y _ _) hv18 dX12_fewest_260 (q := 261) rfl ?_
        refine g_ior C dX12_fewest_261 (q := 262) rfl ?_
        refine g_iload C 2 dX12_fewest_262 (q := 264) rfl rfl ?_
        obtain ⟨p19, hp19, h⟩ := g_bind h
        refine g_callV C (k := 59) (as := [.int (v17 ||| v18), .int x5]) (st := []) (m_X12_adds hp19) (g_hR (by decide)) (by decide) (by decide) (gc_59 Y _ _) rfl kM_X12_290 kI_X12_adds kS_X12_adds kN_X12 kC_X12_adds kD_X12_adds rfl (Nat.le_of_ble_eq_true rfl) dX12_fewest_264 (q := 267) rfl ?_
        show g_G 9 X Y 267 [(0, g_r Y 59), (4, .int x4), (5, .int x5), (6, .int x6), (7, .int x7), (8, .int x8)] [] p19
        refine g_aload_n C 0 dX12_fewest_267 (q := 268) rfl rfl rfl ?_
        refine g_aload_n C 0 dX12_fewest_268 (q := 269) rfl rfl rfl ?_
        refine g_get C (k := 59) (i := 24) (by decide) (gc_59 Y _ _) rfl kU_X12 (by decide) kF_X12_44 rfl dX12_fewest_269 (q := 272) rfl ?_
        refine g_iload C 4 dX12_fewest_272 (q := 274) rfl rfl ?_
        obtain ⟨v20, hv20, h⟩ := g_bind h
        refine g_iald C (k := 71) (n := 200) (by decide) (gc_71 Y _ _) hv20 dX12_fewest_274 (q := 275) rfl ?_
        refine g_aload_n C 0 dX12_fewest_275 (q := 276) rfl rfl rfl ?_
        refine g_get C (k := 59) (i := 24) (by decide) (gc_59 Y _ _) rfl kU_X12 (by decide) kF_X12_44 rfl dX12_fewest_276 (q := 279) rfl ?_
        refine g_iload C 5 dX12_fewest_279 (q := 281) rfl rfl ?_
        obtain ⟨v21, hv21, h⟩ := g_bind h
        refine g_iald C (k := 71) (n := 200) (by decide) (gc_71 Y _ _) hv21 dX12_fewest_281 (q := 282) rfl ?_
        refine g_iand C dX12_fewest_282 (q := 283) rfl ?_
        refine g_iload C 2 dX12_fewest_283 (q := 285) rfl rfl ?_
        obtain ⟨p22, hp22, h⟩ := g_bind h
        refine g_callV C (k := 59) (as := [.int (v20 &&& v21), .int x5]) (st := []) (m_X12_adds hp22) (g_hR (by decide)) (by decide) (by decide) (gc_59 Y _ _) rfl kM_X12_290 kI_X12_adds kS_X12_adds kN_X12 kC_X12_adds kD_X12_adds rfl (Nat.le_of_ble_eq_true rfl) dX12_fewest_285 (q := 288) rfl ?_
        show g_G 9 X Y 288 [(0, g_r Y 59), (4, .int x4), (5, .int x5), (6, .int x6), (7, .int x7), (8, .int x8)] [] p22
        refine g_iinc C (k := 5) (v := x8 + 1) dX12_fewest_288 (q := 291) rfl rfl rfl (by decide) (lv' := [(8, .int (x8 + 1)), (0, g_r Y 59), (4, .int x4), (5, .int x5), (6, .int x6), (7, .int x7)]) rfl ?_
        refine g_goto C dX12_fewest_291 (tgt := 219) (by decide) ?_
        refine g_sub [1, 2, 3, 4, 5, 0] (lv' := [(0, g_r Y 59), (4, .int x4), (5, .int x5), (6, .int x6), (7, .int x7), (8, .int (x8 + 1))]) rfl ?_
        exact ih x4 x5 x6 x7 (x8 + 1) p22 h
theorem r_X12_fewest_219 {p : Int32 × g_M} {k294 : Int32 → Int32 → Int32 → Int32 → g_M → Option (Int32 × g_M)} (hk294 : ∀ (x4 : Int32) (x5 : Int32) (x6 : Int32) (x7 : Int32) (M : g_M), k294 x4 x5 x6 x7 M = some p → g_fr [63, 64, 71, 72] [(59, 6), (59, 7), (59, 8), (59, 9), (59, 10), (59, 11), (59, 12), (59, 13), (59, 14), (59, 15), (59, 16), (59, 26)] M p.2) (n : Nat) : ∀ (x4 : Int32) (x5 : Int32) (x6 : Int32) (x7 : Int32) (x8 : Int32) (M : g_M), g_lp5 (F_X12_fewest_219 k294) n x4 x5 x6 x7 x8 M = some p → g_fr [63, 64, 71, 72] [(59, 6), (59, 7), (59, 8), (59, 9), (59, 10), (59, 11), (59, 12), (59, 13), (59, 14), (59, 15), (59, 16), (59, 26)] M p.2 := by
  induction n with
  | zero => intro x4 x5 x6 x7 x8 M h; exact (g_nn h).elim
  | succ n ih =>
    intro x4 x5 x6 x7 x8 M h
    have h : F_X12_fewest_219 k294 (g_lp5 (F_X12_fewest_219 k294) n) x4 x5 x6 x7 x8 M = some p := h
    generalize g_lp5 (F_X12_fewest_219 k294) n = k at h ih
    unfold F_X12_fewest_219 at h
    have hf := g_fr.rfl (S := [63, 64, 71, 72]) (T := [(59, 6), (59, 7), (59, 8), (59, 9), (59, 10), (59, 11), (59, 12), (59, 13), (59, 14), (59, 15), (59, 16), (59, 26)]) (M := M)
    rcases g_ifs h with h | h
    · exact hf.trans (hk294 x4 x5 x6 x7 M h)
    · obtain ⟨v15, -, h⟩ := g_bind h
      obtain ⟨v16, -, h⟩ := g_bind h
      rcases g_ifs h with h | h
      · obtain ⟨v17, -, h⟩ := g_bind h
        obtain ⟨v18, -, h⟩ := g_bind h
        obtain ⟨p19, hp19, h⟩ := g_bind h
        have hf := hf.trans ((r_X12_adds hp19).mono (by decide) (by decide))
        obtain ⟨v20, -, h⟩ := g_bind h
        obtain ⟨v21, -, h⟩ := g_bind h
        obtain ⟨p22, hp22, h⟩ := g_bind h
        have hf := hf.trans ((r_X12_adds hp22).mono (by decide) (by decide))
        exact hf.trans (ih x4 x5 x6 x7 (x8 + 1) p22 h)
      · exact hf.trans (ih x4 x5 x6 x7 (x8 + 1) M h)
def F_X12_fewest_209 (k300 : Int32 → Int32 → g_M → Option (Int32 × g_M)) (k : Int32 → Int32 → Int32 → Int32 → g_M → Option (Int32 × g_M)) (x4 : Int32) (x5 : Int32) (x6 : Int32) (x7 : Int32) (M : g_M) : Option (Int32 × g_M) :=
  (if x6 ≤ x7 then (k300 x4 x5 M) else (g_lp5 (F_X12_fewest_219 (fun (x4 : Int32) (x5 : Int32) (x6 : Int32) (x7 : Int32) (M : g_M) => k x4 x5 x6 (x7 + 1) M)) 20000000 x4 x5 x6 x7 0 M))
set_option maxRecDepth 100000 in
theorem t_X12_fewest_209 {l : Launch} {X : g_X} {Y : g_Y} {p : Int32 × g_M} {k300 : Int32 → Int32 → g_M → Option (Int32 × g_M)} (C : g_C l (g_rm (203)) RX12 cX12_fewest 9 X Y) (E : g_E (some .int) X Y (some (.int p.1)) p.2) (hk300 : ∀ (x4 : Int32) (x5 : Int32) (M : g_M), k300 x4 x5 M = some p → g_G 9 X Y 300 [(0, g_r Y 59), (4, .int x4), (5, .int x5)] [] M) (n : Nat) : ∀ (x4 : Int32) (x5 : Int32) (x6 : Int32) (x7 : Int32) (M : g_M), g_lp4 (F_X12_fewest_209 k300) n x4 x5 x6 x7 M = some p → g_G 9 X Y 209 [(0, g_r Y 59), (4, .int x4), (5, .int x5), (6, .int x6), (7, .int x7)] [] M := by
  induction n with
  | zero => intro x4 x5 x6 x7 M h; exact (g_nn h).elim
  | succ n ih =>
    intro x4 x5 x6 x7 M h
    have h : F_X12_fewest_209 k300 (g_lp4 (F_X12_fewest_209 k300) n) x4 x5 x6 x7 M = some p := h
    generalize g_lp4 (F_X12_fewest_209 k300) n = k at h ih
    unfold F_X12_fewest_209 at h
    refine g_iload C 4 dX12_fewest_209 (q := 211) rfl rfl ?_
    refine g_iload C 3 dX12_fewest_211 (q := 213) rfl rfl ?_
    have hif := g_if h
    clear h
    refine g_icmp_ge C dX12_fewest_213 (q := 216) (tgt := 300) rfl (by decide) (fun c => ?_) (fun c => ?_)
    · have h := hif.1 c
      clear hif
      refine g_sub [0, 1, 2] (lv' := [(0, g_r Y 59), (4, .int x4), (5, .int x5)]) rfl ?_
      exact hk300 x4 x5 M h
    · have h := hif.2 c
      clear hif
      refine g_iconst C (v := 0) dX12_fewest_216 (q := 217) rfl (by decide) ?_
      refine g_istore C dX12_fewest_217 (q := 219) rfl (by decide) (lv' := [(8, .int 0), (0, g_r Y 59), (4, .int x4), (5, .int x5), (6, .int x6), (7, .int x7)]) rfl ?_
      refine g_sub [1, 2, 3, 4, 5, 0] (lv' := [(0, g_r Y 59), (4, .int x4), (5, .int x5), (6, .int x6), (7, .int x7), (8, .int 0)]) rfl ?_
      refine t_X12_fewest_219 C E ?_ 20000000 x4 x5 x6 x7 0 M h
      · intro x4 x5 x6 x7 M h
        try dsimp only at h
        refine g_iinc C (k := 4) (v := x7 + 1) dX12_fewest_294 (q := 297) rfl rfl rfl (by decide) (lv' := [(7, .int (x7 + 1)), (0, g_r Y 59), (4, .int x4), (5, .int x5), (6, .int x6)]) rfl ?_
        refine g_goto C dX12_fewest_297 (tgt := 209) (by decide) ?_
        refine g_sub [1, 2, 3, 4, 0] (lv' := [(0, g_r Y 59), (4, .int x4), (5, .int x5), (6, .int x6), (7, .int (x7 + 1))]) rfl ?_
        exact ih x4 x5 x6 (x7 + 1) M h
theorem r_X12_fewest_209 {p : Int32 × g_M} {k300 : Int32 → Int32 → g_M → Option (Int32 × g_M)} (hk300 : ∀ (x4 : Int32) (x5 : Int32) (M : g_M), k300 x4 x5 M = some p → g_fr [63, 64, 71, 72] [(59, 6), (59, 7), (59, 8), (59, 9), (59, 10), (59, 11), (59, 12), (59, 13), (59, 14), (59, 15), (59, 16), (59, 26)] M p.2) (n : Nat) : ∀ (x4 : Int32) (x5 : Int32) (x6 : Int32) (x7 : Int32) (M : g_M), g_lp4 (F_X12_fewest_209 k300) n x4 x5 x6 x7 M = some p → g_fr [63, 64, 71, 72] [(59, 6), (59, 7), (59, 8), (59, 9), (59, 10), (59, 11), (59, 12), (59, 13), (59, 14), (59, 15), (59, 16), (59, 26)] M p.2 := by
  induction n with
  | zero => intro x4 x5 x6 x7 M h; exact (g_nn h).elim
  | succ n ih =>
    intro x4 x5 x6 x7 M h
    have h : F_X12_fewest_209 k300 (g_lp4 (F_X12_fewest_209 k300) n) x4 x5 x6 x7 M = some p := h
    generalize g_lp4 (F_X12_fewest_209 k300) n = k at h ih
    unfold F_X12_fewest_209 at h
    have hf := g_fr.rfl (S := [63, 64, 71, 72]) (T := [(59, 6), (59, 7), (59, 8), (59, 9), (59, 10), (59, 11), (59, 12), (59, 13), (59, 14), (59, 15), (59, 16), (59, 26)]) (M := M)
    rcases g_ifs h with h | h
    · exact hf.trans (hk300 x4 x5 M h)
    · refine hf.trans (r_X12_fewest_219 ?_ 20000000 x4 x5 x6 x7 0 M h)
      · intro x4 x5 x6 x7 M h
        try dsimp only at h
        have hf := g_fr.rfl (S := [63, 64, 71, 72]) (T := [(59, 6), (59, 7), (59, 8), (59, 9), (59, 10), (59, 11), (59, 12), (59, 13), (59, 14), (59, 15), (59, 16), (59, 26)]) (M := M)
        exact hf.trans (ih x4 x5 x6 (x7 + 1) M h)
def F_X12_fewest_191 (k306 : Int32 → g_M → Option (Int32 × g_M)) (k : Int32 → Int32 → g_M → Option (Int32 × g_M)) (x4 : Int32) (x5 : Int32) (M : g_M) : Option (Int32 × g_M) :=
  (f_X12_sizeOf x4 M).bind fun p14 => (if p14 = 0 then (g_lp4 (F_X12_fewest_209 (fun (x4 : Int32) (x5 : Int32) (M : g_M) => k x4 (x5 + 1) M)) 20000000 x4 x5 (M.1 59 26) 0 M) else (k306 x4 M))
set_option maxRecDepth 100000 in
theorem t_X12_fewest_191 {l : Launch} {X : g_X} {Y : g_Y} {p : Int32 × g_M} {k306 : Int32 → g_M → Option (Int32 × g_M)} (C : g_C l (g_rm (203)) RX12 cX12_fewest 9 X Y) (E : g_E (some .int) X Y (some (.int p.1)) p.2) (hk306 : ∀ (x4 : Int32) (M : g_M), k306 x4 M = some p → g_G 9 X Y 306 [(0, g_r Y 59), (4, .int x4)] [] M) (n : Nat) : ∀ (x4 : Int32) (x5 : Int32) (M : g_M), g_lp2 (F_X12_fewest_191 k306) n x4 x5 M = some p → g_G 9 X Y 191 [(0, g_r Y 59), (4, .int x4), (5, .int x5)] [] M := by
  induction n with
  | zero => intro x4 x5 M h; exact (g_nn h).elim
  | succ n ih =>
    intro x4 x5 M h
    have h : F_X12_fewest_191 k306 (g_lp2 (F_X12_fewest_191 k306) n) x4 x5 M = some p := h
    generalize g_lp2 (F_X12_fewest_191 k306) n = k at h ih
    unfold F_X12_fewest_191 at h
    refine g_aload_n C 0 dX12_fewest_191 (q := 192) rfl rfl rfl ?_
    refine g_iload C 1 dX12_fewest_192 (q := 194) rfl rfl ?_
    obtain ⟨p14, hp14, h⟩ := g_bind h
    refine g_callV C (k := 59) (as := [.int x4]) (st := []) (m_X12_sizeOf hp14) (g_hR (by decide)) (by decide) (by decide) (gc_59 Y _ _) rfl kM_X12_294 kI_X12_sizeOf kS_X12_sizeOf kN_X12 kC_X12_sizeOf kD_X12_sizeOf rfl (Nat.le_of_ble_eq_true rfl) dX12_fewest_194 (q := 197) rfl ?_
    show g_G 9 X Y 197 [(0, g_r Y 59), (4, .int x4), (5, .int x5)] [.int p14] M
    have hif := g_if h
    clear h
    refine g_if_ne C dX12_fewest_197 (q := 200) (tgt := 306) rfl (by decide) (fun c => ?_) (fun c => ?_)
    · have h := hif.2 c
      clear hif
      refine g_sub [0, 1] (lv' := [(0, g_r Y 59), (4, .int x4)]) rfl ?_
      exact hk306 x4 M h
    · have h := hif.1 c
      clear hif
      refine g_aload_n C 0 dX12_fewest_200 (q := 201) rfl rfl rfl ?_
      refine g_get C (k := 59) (i := 26) (by decide) (gc_59 Y _ _) rfl kU_X12 (by decide) kF_X12_284 rfl dX12_fewest_201 (q := 204) rfl ?_
      refine g_istore C dX12_fewest_204 (q := 206) rfl (by decide) (lv' := [(6, .int (M.1 59 26)), (0, g_r Y 59), (4, .int x4), (5, .int x5)]) rfl ?_
      refine g_iconst C (v := 0) dX12_fewest_206 (q := 207) rfl (by decide) ?_
      refine g_istore C dX12_fewest_207 (q := 209) rfl (by decide) (lv' := [(7, .int 0), (6, .int (M.1 59 26)), (0, g_r Y 59), (4, .int x4), (5, .int x5)]) rfl ?_
      refine g_sub [2, 3, 4, 1, 0] (lv' := [(0, g_r Y 59), (4, .int x4), (5, .int x5), (6, .int (M.1 59 26)), (7, .int 0)]) rfl ?_
      refine t_X12_fewest_209 C E ?_ 20000000 x4 x5 (M.1 59 26) 0 M h
      · intro x4 x5 M h
        try dsimp only at h
        refine g_iinc C (k := 2) (v := x5 + 1) dX12_fewest_300 (q := 303) rfl rfl rfl (by decide) (lv' := [(5, .int (x5 + 1)), (0, g_r Y 59), (4, .int x4)]) rfl ?_
        refine g_goto C dX12_fewest_303 (tgt := 191) (by decide) ?_
        refine g_sub [1, 2, 0] (lv' := [(0, g_r Y 59), (4, .int x4), (5, .int (x5 + 1))]) rfl ?_
        exact ih x4 (x5 + 1) M h
theorem r_X12_fewest_191 {p : Int32 × g_M} {k306 : Int32 → g_M → Option (Int32 × g_M)} (hk306 : ∀ (x4 : Int32) (M : g_M), k306 x4 M = some p → g_fr [63, 64, 71, 72] [(59, 6), (59, 7), (59, 8), (59, 9), (59, 10), (59, 11), (59, 12), (59, 13), (59, 14), (59, 15), (59, 16), (59, 26)] M p.2) (n : Nat) : ∀ (x4 : Int32) (x5 : Int32) (M : g_M), g_lp2 (F_X12_fewest_191 k306) n x4 x5 M = some p → g_fr [63, 64, 71, 72] [(59, 6), (59, 7), (59, 8), (59, 9), (59, 10), (59, 11), (59, 12), (59, 13), (59, 14), (59, 15), (59, 16), (59, 26)] M p.2 := by
  induction n with
  | zero => intro x4 x5 M h; exact (g_nn h).elim
  | succ n ih =>
    intro x4 x5 M h
    have h : F_X12_fewest_191 k306 (g_lp2 (F_X12_fewest_191 k306) n) x4 x5 M = some p := h
    generalize g_lp2 (F_X12_fewest_191 k306) n = k at h ih
    unfold F_X12_fewest_191 at h
    have hf := g_fr.rfl (S := [63, 64, 71, 72]) (T := [(59, 6), (59, 7), (59, 8), (59, 9), (59, 10), (59, 11), (59, 12), (59, 13), (59, 14), (59, 15), (59, 16), (59, 26)]) (M := M)
    obtain ⟨p14, -, h⟩ := g_bind h
    rcases g_ifs h with h | h
    · refine hf.trans (r_X12_fewest_209 ?_ 20000000 x4 x5 (M.1 59 26) 0 M h)
      · intro x4 x5 M h
        try dsimp only at h
        have hf := g_fr.rfl (S := [63, 64, 71, 72]) (T := [(59, 6), (59, 7), (59, 8), (59, 9), (59, 10), (59, 11), (59, 12), (59, 13), (59, 14), (59, 15), (59, 16), (59, 26)]) (M := M)
        exact hf.trans (ih x4 (x5 + 1) M h)
    · exact hf.trans (hk306 x4 M h)
def f_X12_fewest (M : g_M) : Option (Int32 × g_M) :=
  (g_ld M 60 1208 2).bind fun v1 => (if 0 ≤ v1 then ((f_X12_all M).bind fun p2 => (f_X12_many p2 M).bind fun p3 => (if p3 = 0 then (f_X12_fewest_34 M) else ((if p3 ≤ 4 then ((f_X12_findMay M).bind fun p5 => (f_X12_firstThatLoses p5).bind fun p6 => (if p6 < 0 then (g_lp5 (F_X12_fewest_68 (fun (x2 : Int32) (x3 : Int32) (x4 : Int32) (M : g_M) => (if x4 = 0 then (f_X12_fewest_122 M) else ((if x4 = (((1 : Int32) <<< (x3 &&& 31)) - 1) then (f_X12_fewest_122 M) else ((some (g_u M 59 26 0)).bind fun M11 => g_lp4 (F_X12_fewest_136 (fun (x4 : Int32) (M : g_M) => g_lp2 (F_X12_fewest_191 (fun (x4 : Int32) (M : g_M) => (f_X12_sizeOf x4 M).bind fun p23 => some (p23, M))) 20000000 x4 2 M)) 20000000 x2 x3 x4 0 M11)))))) 20000000 p2 p3 ((1 : Int32) <<< (p3 &&& 31)) 0 0 p5) else ((f_X12_finding 2 p5).bind fun p24 => some (p24.1, p24.2)))) else (f_X12_fewest_34 M))))) else ((f_X12_finding 4 M).bind fun p25 => some (p25.1, p25.2)))
set_option maxRecDepth 100000 in
theorem m_X12_fewest {l : Launch} {Y : g_Y} {M : g_M} {p : Int32 × g_M} (h : f_X12_fewest M = some p) : g_R l Y (203) yX12_fewest cX12_fewest 9 (some .int) [g_r Y 59] M (some (.int p.1)) p.2 := by
  unfold f_X12_fewest at h
  refine g_R_of kP_X12 rfl (Nat.le_of_ble_eq_true rfl) (fun X C E => ?_)
  show g_G 9 X Y 0 [(0, g_r Y 59)] [] M
  refine g_aload_n C 0 dX12_fewest_0 (q := 1) rfl rfl rfl ?_
  refine g_get C (k := 59) (i := 0) (by decide) (gc_59 Y _ _) rfl kU_X12 (by decide) kF_X12_7 rfl dX12_fewest_1 (q := 4) rfl ?_
  refine g_iconst C (v := 2) dX12_fewest_4 (q := 5) rfl (by decide) ?_
  obtain ⟨v1, hv1, h⟩ := g_bind h
  refine g_iald C (k := 60) (n := 1208) (by decide) (gc_60 Y _ _) hv1 dX12_fewest_5 (q := 6) rfl ?_
  have hif := g_if h
  clear h
  refine g_if_ge C dX12_fewest_6 (q := 9) (tgt := 15) rfl (by decide) (fun c => ?_) (fun c => ?_)
  · have h := hif.1 c
    clear hif
    refine g_aload_n C 0 dX12_fewest_15 (q := 16) rfl rfl rfl ?_
    obtain ⟨p2, hp2, h⟩ := g_bind h
    refine g_callV C (k := 59) (as := []) (st := []) (m_X12_all hp2) (g_hR (by decide)) (by decide) (by decide) (gc_59 Y _ _) rfl kM_X12_181 kI_X12_all kS_X12_all kN_X12 kC_X12_all kD_X12_all rfl (Nat.le_of_ble_eq_true rfl) dX12_fewest_16 (q := 19) rfl ?_
    show g_G 9 X Y 19 [(0, g_r Y 59)] [.int p2] M
    refine g_istore_n C dX12_fewest_19 (q := 20) rfl rfl (by decide) (lv' := [(1, .int p2), (0, g_r Y 59)]) rfl ?_
    refine g_iload_n C 0 dX12_fewest_20 (q := 21) rfl rfl rfl ?_
    obtain ⟨p3, hp3, h⟩ := g_bind h
    refine g_callS C (as := [.int p2]) (st := []) (m_X12_many hp3) (g_hR (by decide)) (by decide) kM_X12_147 kT_X12_many kN_X12 kC_X12_many kD_X12_many rfl (Nat.le_of_ble_eq_true rfl) dX12_fewest_21 (q := 24) rfl ?_
    show g_G 9 X Y 24 [(1, .int p2), (0, g_r Y 59)] [.int p3] M
    refine g_istore_n C dX12_fewest_24 (q := 25) rfl rfl (by decide) (lv' := [(2, .int p3), (1, .int p2), (0, g_r Y 59)]) rfl ?_
    refine g_iload_n C 0 dX12_fewest_25 (q := 26) rfl rfl rfl ?_
    have hif := g_if h
    clear h
    refine g_if_eq C dX12_fewest_26 (q := 29) (tgt := 34) rfl (by decide) (fun c => ?_) (fun c => ?_)
    · have h := hif.1 c
      clear hif
      refine g_sub [2] (lv' := [(0, g_r Y 59)]) rfl ?_
      exact t_X12_fewest_34 C E M h
    · have h := hif.2 c
      clear hif
      refine g_iload_n C 0 dX12_fewest_29 (q := 30) rfl rfl rfl ?_
      refine g_iconst C (v := 4) dX12_fewest_30 (q := 31) rfl (by decide) ?_
      have hif := g_if h
      clear h
      refine g_icmp_le C dX12_fewest_31 (q := 34) (tgt := 41) rfl (by decide) (fun c => ?_) (fun c => ?_)
      · have h := hif.1 c
        clear hif
        refine g_aload_n C 2 dX12_fewest_41 (q := 42) rfl rfl rfl ?_
        obtain ⟨p5, hp5, h⟩ := g_bind h
        refine g_callV C (k := 59) (as := []) (st := []) (m_X12_findMay hp5) (g_hR (by decide)) (by decide) (by decide) (gc_59 Y _ _) rfl kM_X12_213 kI_X12_findMay kS_X12_findMay kN_X12 kC_X12_findMay kD_X12_findMay rfl (Nat.le_of_ble_eq_true rfl) dX12_fewest_42 (q := 45) rfl ?_
        show g_G 9 X Y 45 [(2, .int p3), (1, .int p2), (0, g_r Y 59)] [] p5
        refine g_aload_n C 2 dX12_fewest_45 (q := 46) rfl rfl rfl ?_
        obtain ⟨p6, hp6, h⟩ := g_bind h
        refine g_callV C (k := 59) (as := []) (st := []) (m_X12_firstThatLoses hp6) (g_hR (by decide)) (by decide) (by decide) (gc_59 Y _ _) rfl kM_X12_216 kI_X12_firstThatLoses kS_X12_firstThatLoses kN_X12 kC_X12_firstThatLoses kD_X12_firstThatLoses rfl (Nat.le_of_ble_eq_true rfl) dX12_fewest_46 (q := 49) rfl ?_
        show g_G 9 X Y 49 [(2, .int p3), (1, .int p2), (0, g_r Y 59)] [.int p6] p5
        have hif := g_if h
        clear h
        refine g_if_lt C dX12_fewest_49 (q := 52) (tgt := 58) rfl (by decide) (fun c => ?_) (fun c => ?_)
        · have h := hif.1 c
          clear hif
          refine g_iconst C (v := 1) dX12_fewest_58 (q := 59) rfl (by decide) ?_
          refine g_iload_n C 0 dX12_fewest_59 (q := 60) rfl rfl rfl ?_
          refine g_ishl C dX12_fewest_60 (q := 61) rfl ?_
          refine g_istore_n C dX12_fewest_61 (q := 62) rfl rfl (by decide) (lv' := [(3, .int ((1 : Int32) <<< (p3 &&& 31))), (2, .int p3), (1, .int p2), (0, g_r Y 59)]) rfl ?_
          refine g_iconst C (v := 0) dX12_fewest_62 (q := 63) rfl (by decide) ?_
          refine g_istore C dX12_fewest_63 (q := 65) rfl (by decide) (lv' := [(4, .int 0), (3, .int ((1 : Int32) <<< (p3 &&& 31))), (2, .int p3), (1, .int p2), (0, g_r Y 59)]) rfl ?_
          refine g_iconst C (v := 0) dX12_fewest_65 (q := 66) rfl (by decide) ?_
          refine g_istore C dX12_fewest_66 (q := 68) rfl (by decide) (lv' := [(5, .int 0), (4, .int 0), (3, .int ((1 : Int32) <<< (p3 &&& 31))), (2, .int p3), (1, .int p2), (0, g_r Y 59)]) rfl ?_
          refine g_sub [5, 4, 3, 2, 1, 0] (lv' := [(0, g_r Y 59), (1, .int p2), (2, .int p3), (3, .int ((1 : Int32) <<< (p3 &&& 31))), (4, .int 0), (5, .int 0)]) rfl ?_
          refine t_X12_fewest_68 C E ?_ 20000000 p2 p3 ((1 : Int32) <<< (p3 &&& 31)) 0 0 p5 h
          · intro x2 x3 x4 M h
            try dsimp only at h
            refine g_iload C 3 dX12_fewest_107 (q := 109) rfl rfl ?_
            have hif := g_if h
            clear h
            refine g_if_eq C dX12_fewest_109 (q := 112) (tgt := 122) rfl (by decide) (fun c => ?_) (fun c => ?_)
            · have h := hif.1 c
              clear hif
              refine g_sub [0] (lv' := [(0, g_r Y 59)]) rfl ?_
              exact t_X12_fewest_122 C E M h
            · have h := hif.2 c
              clear hif
              refine g_iload C 3 dX12_fewest_112 (q := 114) rfl rfl ?_
              refine g_iconst C (v := 1) dX12_fewest_114 (q := 115) rfl (by decide) ?_
              refine g_iload_n C 2 dX12_fewest_115 (q := 116) rfl rfl rfl ?_
              refine g_ishl C dX12_fewest_116 (q := 117) rfl ?_
              refine g_iconst C (v := 1) dX12_fewest_117 (q := 118) rfl (by decide) ?_
              refine g_isub C dX12_fewest_118 (q := 119) rfl ?_
              have hif := g_if h
              clear h
              refine g_icmp_ne C dX12_fewest_119 (q := 122) (tgt := 128) rfl (by decide) (fun c => ?_) (fun c => ?_)
              · have h := hif.2 c
                clear hif
                refine g_aload_n C 0 dX12_fewest_128 (q := 129) rfl rfl rfl ?_
                refine g_iconst C (v := 0) dX12_fewest_129 (q := 130) rfl (by decide) ?_
                obtain ⟨M11, hM11, h⟩ := g_bind h
                refine g_put C (k := 59) (i := 26) (ty := .int) (by decide) (gc_59 Y _ _) (gp_59_26 Y _ _ _) rfl kU_X12 tyX12_ok nmX12 (by decide) kF_X12_284 rfl rfl rfl rfl (Nat.le_of_ble_eq_true rfl) dX12_fewest_130 (q := 133) rfl ?_
                refine g_mem hM11 ?_
                refine g_iconst C (v := 0) dX12_fewest_133 (q := 134) rfl (by decide) ?_
                refine g_istore C dX12_fewest_134 (q := 136) rfl (by decide) (lv' := [(5, .int 0), (0, g_r Y 59), (2, .int x2), (3, .int x3), (4, .int x4)]) rfl ?_
                refine g_sub [1, 2, 3, 4, 0] (lv' := [(0, g_r Y 59), (2, .int x2), (3, .int x3), (4, .int x4), (5, .int 0)]) rfl ?_
                refine t_X12_fewest_136 C E ?_ 20000000 x2 x3 x4 0 M11 h
                · intro x4 M h
                  try dsimp only at h
                  refine g_iconst C (v := 2) dX12_fewest_188 (q := 189) rfl (by decide) ?_
                  refine g_istore C dX12_fewest_189 (q := 191) rfl (by decide) (lv' := [(5, .int 2), (0, g_r Y 59), (4, .int x4)]) rfl ?_
                  refine g_sub [1, 2, 0] (lv' := [(0, g_r Y 59), (4, .int x4), (5, .int 2)]) rfl ?_
                  refine t_X12_fewest_191 C E ?_ 20000000 x4 2 M h
                  · intro x4 M h
                    try dsimp only at h
                    refine g_aload_n C 0 dX12_fewest_306 (q := 307) rfl rfl rfl ?_
                    refine g_iload C 1 dX12_fewest_307 (q := 309) rfl rfl ?_
                    obtain ⟨p23, hp23, h⟩ := g_bind h
                    refine g_callV C (k := 59) (as := [.int x4]) (st := []) (m_X12_sizeOf hp23) (g_hR (by decide)) (by decide) (by decide) (gc_59 Y _ _) rfl kM_X12_294 kI_X12_sizeOf kS_X12_sizeOf kN_X12 kC_X12_sizeOf kD_X12_sizeOf rfl (Nat.le_of_ble_eq_true rfl) dX12_fewest_309 (q := 312) rfl ?_
                    show g_G 9 X Y 312 [(0, g_r Y 59), (4, .int x4)] [.int p23] M
                    obtain rfl := Option.some.inj h
                    exact g_iret C E dX12_fewest_312
              · have h := hif.1 c
                clear hif
                refine g_sub [0] (lv' := [(0, g_r Y 59)]) rfl ?_
                exact t_X12_fewest_122 C E M h
        · have h := hif.2 c
          clear hif
          refine g_aload_n C 2 dX12_fewest_52 (q := 53) rfl rfl rfl ?_
          refine g_iconst C (v := 2) dX12_fewest_53 (q := 54) rfl (by decide) ?_
          obtain ⟨p24, hp24, h⟩ := g_bind h
          refine g_callV C (k := 59) (as := [.int 2]) (st := []) (m_X12_finding hp24) (g_hR (by decide)) (by decide) (by decide) (gc_59 Y _ _) rfl kM_X12_190 kI_X12_finding kS_X12_finding kN_X12 kC_X12_finding kD_X12_finding rfl (Nat.le_of_ble_eq_true rfl) dX12_fewest_54 (q := 57) rfl ?_
          show g_G 9 X Y 57 [(2, .int p3), (1, .int p2), (0, g_r Y 59)] [.int p24.1] p24.2
          obtain rfl := Option.some.inj h
          exact g_iret C E dX12_fewest_57
      · have h := hif.2 c
        clear hif
        refine g_sub [2] (lv' := [(0, g_r Y 59)]) rfl ?_
        exact t_X12_fewest_34 C E M h
  · have h := hif.2 c
    clear hif
    refine g_aload_n C 0 dX12_fewest_9 (q := 10) rfl rfl rfl ?_
    refine g_iconst C (v := 4) dX12_fewest_10 (q := 11) rfl (by decide) ?_
    obtain ⟨p25, hp25, h⟩ := g_bind h
    refine g_callV C (k := 59) (as := [.int 4]) (st := []) (m_X12_finding hp25) (g_hR (by decide)) (by decide) (by decide) (gc_59 Y _ _) rfl kM_X12_190 kI_X12_finding kS_X12_finding kN_X12 kC_X12_finding kD_X12_finding rfl (Nat.le_of_ble_eq_true rfl) dX12_fewest_11 (q := 14) rfl ?_
    show g_G 9 X Y 14 [(0, g_r Y 59)] [.int p25.1] p25.2
    obtain rfl := Option.some.inj h
    exact g_iret C E dX12_fewest_14
theorem r_X12_fewest {M : g_M} {p : Int32 × g_M} (h : f_X12_fewest M = some p) : g_fr [63, 64, 71, 72] [(59, 6), (59, 7), (59, 8), (59, 9), (59, 10), (59, 11), (59, 12), (59, 13), (59, 14), (59, 15), (59, 16), (59, 26)] M p.2 := by
  unfold f_X12_fewest at h
  have hf := g_fr.rfl (S := [63, 64, 71, 72]) (T := [(59, 6), (59, 7), (59, 8), (59, 9), (59, 10), (59, 11), (59, 12), (59, 13), (59, 14), (59, 15), (59, 16), (59, 26)]) (M := M)
  obtain ⟨v1, -, h⟩ := g_bind h
  rcases g_ifs h with h | h
  · obtain ⟨p2, -, h⟩ := g_bind h
    obtain ⟨p3, -, h⟩ := g_bind h
    rcases g_ifs h with h | h
    · exact hf.trans (r_X12_fewest_34 M h)
    · rcases g_ifs h with h | h
      · obtain ⟨p5, hp5, h⟩ := g_bind h
        have hf := hf.trans ((r_X12_findMay hp5).mono (by decide) (by decide))
        obtain ⟨p6, -, h⟩ := g_bind h
        rcases g_ifs h with h | h
        · refine hf.trans (r_X12_fewest_68 ?_ 20000000 p2 p3 ((1 : Int32) <<< (p3 &&& 31)) 0 0 p5 h)
          · intro x2 x3 x4 M h
            try dsimp only at h
            have hf := g_fr.rfl (S := [63, 64, 71, 72]) (T := [(59, 6), (59, 7), (59, 8), (59, 9), (59, 10), (59, 11), (59, 12), (59, 13), (59, 14), (59, 15), (59, 16), (59, 26)]) (M := M)
            rcases g_ifs h with h | h
            · exact hf.trans (r_X12_fewest_122 M h)
            · rcases g_ifs h with h | h
              · exact hf.trans (r_X12_fewest_122 M h)
              · obtain ⟨M11, hM11, h⟩ := g_bind h
                have hf := hf.pu hM11 (by decide)
                refine hf.trans (r_X12_fewest_136 ?_ 20000000 x2 x3 x4 0 M11 h)
                · intro x4 M h
                  try dsimp only at h
                  have hf := g_fr.rfl (S := [63, 64, 71, 72]) (T := [(59, 6), (59, 7), (59, 8), (59, 9), (59, 10), (59, 11), (59, 12), (59, 13), (59, 14), (59, 15), (59, 16), (59, 26)]) (M := M)
                  refine hf.trans (r_X12_fewest_191 ?_ 20000000 x4 2 M h)
                  · intro x4 M h
                    try dsimp only at h
                    have hf := g_fr.rfl (S := [63, 64, 71, 72]) (T := [(59, 6), (59, 7), (59, 8), (59, 9), (59, 10), (59, 11), (59, 12), (59, 13), (59, 14), (59, 15), (59, 16), (59, 26)]) (M := M)
                    obtain ⟨p23, -, h⟩ := g_bind h
                    obtain rfl := Option.some.inj h
                    exact hf
        · obtain ⟨p24, hp24, h⟩ := g_bind h
          have hf := hf.trans ((r_X12_finding hp24).mono (by decide) (by decide))
          obtain rfl := Option.some.inj h
          exact hf
      · exact hf.trans (r_X12_fewest_34 M h)
  · obtain ⟨p25, hp25, h⟩ := g_bind h
    have hf := hf.trans ((r_X12_finding hp25).mono (by decide) (by decide))
    obtain rfl := Option.some.inj h
    exact hf
def f_X12_isSpare (x1 : Int32) (x2 : Int32) (x3 : Int32) (M : g_M) : Option (Int32 × g_M) :=
  (g_ld M 60 1208 (30 + x2)).bind fun v1 => (g_st M 60 1208 (30 + x2) (v1 &&& (((1 : Int32) <<< (x3 &&& 31)) ^^^ (-1)))).bind fun M2 => (f_X12_findOpens x1 M2).bind fun p3 => (f_X12_isAsOther p3).bind fun p4 => (g_ld p3 60 1208 (30 + x2)).bind fun v5 => (g_st p3 60 1208 (30 + x2) (v5 ||| ((1 : Int32) <<< (x3 &&& 31)))).bind fun M6 => (g_bz p4).bind fun z7 => some (z7, M6)
set_option maxRecDepth 100000 in
theorem m_X12_isSpare {l : Launch} {Y : g_Y} {x1 : Int32} {x2 : Int32} {x3 : Int32} {M : g_M} {p : Int32 × g_M} (h : f_X12_isSpare x1 x2 x3 M = some p) : g_R l Y (5) yX12_isSpare cX12_isSpare 5 (some .boolean) [g_r Y 59, .int x1, .int x2, .int x3] M (some (.int p.1)) p.2 := by
  unfold f_X12_isSpare at h
  refine g_R_of kP_X12 rfl (Nat.le_of_ble_eq_true rfl) (fun X C E => ?_)
  show g_G 5 X Y 0 [(0, g_r Y 59), (1, .int x1), (2, .int x2), (3, .int x3)] [] M
  refine g_aload_n C 0 dX12_isSpare_0 (q := 1) rfl rfl rfl ?_
  refine g_get C (k := 59) (i := 0) (by decide) (gc_59 Y _ _) rfl kU_X12 (by decide) kF_X12_7 rfl dX12_isSpare_1 (q := 4) rfl ?_
  refine g_bipush C (v := 30) dX12_isSpare_4 (q := 6) rfl (by decide) ?_
  refine g_iload_n C 2 dX12_isSpare_6 (q := 7) rfl rfl rfl ?_
  refine g_iadd C dX12_isSpare_7 (q := 8) rfl ?_
  refine g_dup2 C dX12_isSpare_8 (q := 9) rfl rfl rfl ?_
  obtain ⟨v1, hv1, h⟩ := g_bind h
  refine g_iald C (k := 60) (n := 1208) (by decide) (gc_60 Y _ _) hv1 dX12_isSpare_9 (q := 10) rfl ?_
  refine g_iconst C (v := 1) dX12_isSpare_10 (q := 11) rfl (by decide) ?_
  refine g_iload_n C 3 dX12_isSpare_11 (q := 12) rfl rfl rfl ?_
  refine g_ishl C dX12_isSpare_12 (q := 13) rfl ?_
  refine g_iconst C (v := (-1)) dX12_isSpare_13 (q := 14) rfl (by decide) ?_
  refine g_ixor C dX12_isSpare_14 (q := 15) rfl ?_
  refine g_iand C dX12_isSpare_15 (q := 16) rfl ?_
  obtain ⟨M2, hM2, h⟩ := g_bind h
  refine g_iast C (k := 60) (n := 1208) (by decide) (fun a => gc_60 Y a _) hM2 dX12_isSpare_16 (q := 17) rfl ?_
  refine g_aload_n C 0 dX12_isSpare_17 (q := 18) rfl rfl rfl ?_
  refine g_iload_n C 1 dX12_isSpare_18 (q := 19) rfl rfl rfl ?_
  obtain ⟨p3, hp3, h⟩ := g_bind h
  refine g_callV C (k := 59) (as := [.int x1]) (st := []) (m_X12_findOpens hp3) (g_hR (by decide)) (by decide) (by decide) (gc_59 Y _ _) rfl kM_X12_264 kI_X12_findOpens kS_X12_findOpens kN_X12 kC_X12_findOpens kD_X12_findOpens rfl (Nat.le_of_ble_eq_true rfl) dX12_isSpare_19 (q := 22) rfl ?_
  show g_G 5 X Y 22 [(0, g_r Y 59), (1, .int x1), (2, .int x2), (3, .int x3)] [] p3
  refine g_aload_n C 0 dX12_isSpare_22 (q := 23) rfl rfl rfl ?_
  obtain ⟨p4, hp4, h⟩ := g_bind h
  refine g_callV C (k := 59) (as := []) (st := []) (m_X12_isAsOther hp4) (g_hR (by decide)) (by decide) (by decide) (gc_59 Y _ _) rfl kM_X12_281 kI_X12_isAsOther kS_X12_isAsOther kN_X12 kC_X12_isAsOther kD_X12_isAsOther rfl (Nat.le_of_ble_eq_true rfl) dX12_isSpare_23 (q := 26) rfl ?_
  show g_G 5 X Y 26 [(0, g_r Y 59), (1, .int x1), (2, .int x2), (3, .int x3)] [.int p4] p3
  refine g_istore C dX12_isSpare_26 (q := 28) rfl (by decide) (lv' := [(4, .int p4), (0, g_r Y 59), (1, .int x1), (2, .int x2), (3, .int x3)]) rfl ?_
  refine g_aload_n C 1 dX12_isSpare_28 (q := 29) rfl rfl rfl ?_
  refine g_get C (k := 59) (i := 0) (by decide) (gc_59 Y _ _) rfl kU_X12 (by decide) kF_X12_7 rfl dX12_isSpare_29 (q := 32) rfl ?_
  refine g_bipush C (v := 30) dX12_isSpare_32 (q := 34) rfl (by decide) ?_
  refine g_iload_n C 3 dX12_isSpare_34 (q := 35) rfl rfl rfl ?_
  refine g_iadd C dX12_isSpare_35 (q := 36) rfl ?_
  refine g_dup2 C dX12_isSpare_36 (q := 37) rfl rfl rfl ?_
  obtain ⟨v5, hv5, h⟩ := g_bind h
  refine g_iald C (k := 60) (n := 1208) (by decide) (gc_60 Y _ _) hv5 dX12_isSpare_37 (q := 38) rfl ?_
  refine g_iconst C (v := 1) dX12_isSpare_38 (q := 39) rfl (by decide) ?_
  refine g_iload_n C 4 dX12_isSpare_39 (q := 40) rfl rfl rfl ?_
  refine g_ishl C dX12_isSpare_40 (q := 41) rfl ?_
  refine g_ior C dX12_isSpare_41 (q := 42) rfl ?_
  obtain ⟨M6, hM6, h⟩ := g_bind h
  refine g_iast C (k := 60) (n := 1208) (by decide) (fun a => gc_60 Y a _) hM6 dX12_isSpare_42 (q := 43) rfl ?_
  refine g_iload C 0 dX12_isSpare_43 (q := 45) rfl rfl ?_
  obtain ⟨z7, hz7, h⟩ := g_bind h
  obtain rfl := Option.some.inj h
  exact g_zret C hz7 E dX12_isSpare_45
theorem r_X12_isSpare {x1 : Int32} {x2 : Int32} {x3 : Int32} {M : g_M} {p : Int32 × g_M} (h : f_X12_isSpare x1 x2 x3 M = some p) : g_fr [60, 64, 68, 69] [] M p.2 := by
  unfold f_X12_isSpare at h
  have hf := g_fr.rfl (S := [60, 64, 68, 69]) (T := []) (M := M)
  obtain ⟨v1, -, h⟩ := g_bind h
  obtain ⟨M2, hM2, h⟩ := g_bind h
  have hf := hf.st hM2 (by decide)
  obtain ⟨p3, hp3, h⟩ := g_bind h
  have hf := hf.trans ((r_X12_findOpens hp3).mono (by decide) (by decide))
  obtain ⟨p4, -, h⟩ := g_bind h
  obtain ⟨v5, -, h⟩ := g_bind h
  obtain ⟨M6, hM6, h⟩ := g_bind h
  have hf := hf.st hM6 (by decide)
  obtain ⟨z7, -, h⟩ := g_bind h
  obtain rfl := Option.some.inj h
  exact hf
def f_X12_spare_23 (M : g_M) : Option (Int32 × g_M) :=
  (f_X12_finding 0 M).bind fun p2 => some (p2.1, p2.2)
set_option maxRecDepth 100000 in
theorem t_X12_spare_23 {l : Launch} {X : g_X} {Y : g_Y} {p : Int32 × g_M} (C : g_C l (g_rm (6)) RX12 cX12_spare 4 X Y) (E : g_E (some .int) X Y (some (.int p.1)) p.2) (M : g_M) (h : f_X12_spare_23 M = some p) : g_G 4 X Y 23 [(0, g_r Y 59)] [] M := by
  unfold f_X12_spare_23 at h
  refine g_aload_n C 0 dX12_spare_23 (q := 24) rfl rfl rfl ?_
  refine g_iconst C (v := 0) dX12_spare_24 (q := 25) rfl (by decide) ?_
  obtain ⟨p2, hp2, h⟩ := g_bind h
  refine g_callV C (k := 59) (as := [.int 0]) (st := []) (m_X12_finding hp2) (g_hR (by decide)) (by decide) (by decide) (gc_59 Y _ _) rfl kM_X12_190 kI_X12_finding kS_X12_finding kN_X12 kC_X12_finding kD_X12_finding rfl (Nat.le_of_ble_eq_true rfl) dX12_spare_25 (q := 28) rfl ?_
  show g_G 4 X Y 28 [(0, g_r Y 59)] [.int p2.1] p2.2
  obtain rfl := Option.some.inj h
  exact g_iret C E dX12_spare_28
theorem r_X12_spare_23 {p : Int32 × g_M} (M : g_M) (h : f_X12_spare_23 M = some p) : g_fr [60, 63, 64, 65, 68, 69] [] M p.2 := by
  unfold f_X12_spare_23 at h
  have hf := g_fr.rfl (S := [60, 63, 64, 65, 68, 69]) (T := []) (M := M)
  obtain ⟨p2, hp2, h⟩ := g_bind h
  have hf := hf.trans ((r_X12_finding hp2).mono (by decide) (by decide))
  obtain rfl := Option.some.inj h
  exact hf
def f_X12_spare (x1 : Int32) (x2 : Int32) (x3 : Int32) (M : g_M) : Option (Int32 × g_M) :=
  (f_X12_isHanging x1 M).bind fun p1 => (if p1 = 0 then (f_X12_spare_23 M) else ((f_X12_isElder x2 M).bind fun p3 => (if p3 = 0 then (f_X12_spare_23 M) else ((f_X12_isKey x3 M).bind fun p4 => (if p4 = 0 then (f_X12_spare_23 M) else ((g_ld M 60 1208 (30 + x2)).bind fun v5 => (if ((v5 >>> (x3 &&& 31)) &&& 1) = 0 then ((f_X12_finding 3 M).bind fun p9 => some (p9.1, p9.2)) else ((f_X12_findOpens x1 M).bind fun p6 => (f_X12_keepOther p6).bind fun p7 => (f_X12_isSpare x1 x2 x3 p7).bind fun p8 => (if p8.1 = 0 then (some (0, p8.2)) else (some (1, p8.2)))))))))))
set_option maxRecDepth 100000 in
theorem m_X12_spare {l : Launch} {Y : g_Y} {x1 : Int32} {x2 : Int32} {x3 : Int32} {M : g_M} {p : Int32 × g_M} (h : f_X12_spare x1 x2 x3 M = some p) : g_R l Y (6) yX12_spare cX12_spare 4 (some .int) [g_r Y 59, .int x1, .int x2, .int x3] M (some (.int p.1)) p.2 := by
  unfold f_X12_spare at h
  refine g_R_of kP_X12 rfl (Nat.le_of_ble_eq_true rfl) (fun X C E => ?_)
  show g_G 4 X Y 0 [(0, g_r Y 59), (1, .int x1), (2, .int x2), (3, .int x3)] [] M
  refine g_aload_n C 0 dX12_spare_0 (q := 1) rfl rfl rfl ?_
  refine g_iload_n C 1 dX12_spare_1 (q := 2) rfl rfl rfl ?_
  obtain ⟨p1, hp1, h⟩ := g_bind h
  refine g_callV C (k := 59) (as := [.int x1]) (st := []) (m_X12_isHanging hp1) (g_hR (by decide)) (by decide) (by decide) (gc_59 Y _ _) rfl kM_X12_242 kI_X12_isHanging kS_X12_isHanging kN_X12 kC_X12_isHanging kD_X12_isHanging rfl (Nat.le_of_ble_eq_true rfl) dX12_spare_2 (q := 5) rfl ?_
  show g_G 4 X Y 5 [(0, g_r Y 59), (1, .int x1), (2, .int x2), (3, .int x3)] [.int p1] M
  have hif := g_if h
  clear h
  refine g_if_eq C dX12_spare_5 (q := 8) (tgt := 23) rfl (by decide) (fun c => ?_) (fun c => ?_)
  · have h := hif.1 c
    clear hif
    refine g_sub [0] (lv' := [(0, g_r Y 59)]) rfl ?_
    exact t_X12_spare_23 C E M h
  · have h := hif.2 c
    clear hif
    refine g_aload_n C 0 dX12_spare_8 (q := 9) rfl rfl rfl ?_
    refine g_iload_n C 2 dX12_spare_9 (q := 10) rfl rfl rfl ?_
    obtain ⟨p3, hp3, h⟩ := g_bind h
    refine g_callV C (k := 59) (as := [.int x2]) (st := []) (m_X12_isElder hp3) (g_hR (by decide)) (by decide) (by decide) (gc_59 Y _ _) rfl kM_X12_193 kI_X12_isElder kS_X12_isElder kN_X12 kC_X12_isElder kD_X12_isElder rfl (Nat.le_of_ble_eq_true rfl) dX12_spare_10 (q := 13) rfl ?_
    show g_G 4 X Y 13 [(0, g_r Y 59), (1, .int x1), (2, .int x2), (3, .int x3)] [.int p3] M
    have hif := g_if h
    clear h
    refine g_if_eq C dX12_spare_13 (q := 16) (tgt := 23) rfl (by decide) (fun c => ?_) (fun c => ?_)
    · have h := hif.1 c
      clear hif
      refine g_sub [0] (lv' := [(0, g_r Y 59)]) rfl ?_
      exact t_X12_spare_23 C E M h
    · have h := hif.2 c
      clear hif
      refine g_iload_n C 3 dX12_spare_16 (q := 17) rfl rfl rfl ?_
      obtain ⟨p4, hp4, h⟩ := g_bind h
      refine g_callS C (as := [.int x3]) (st := []) (m_X12_isKey hp4) (g_hR (by decide)) (by decide) kM_X12_235 kT_X12_isKey kN_X12 kC_X12_isKey kD_X12_isKey rfl (Nat.le_of_ble_eq_true rfl) dX12_spare_17 (q := 20) rfl ?_
      show g_G 4 X Y 20 [(0, g_r Y 59), (1, .int x1), (2, .int x2), (3, .int x3)] [.int p4] M
      have hif := g_if h
      clear h
      refine g_if_ne C dX12_spare_20 (q := 23) (tgt := 29) rfl (by decide) (fun c => ?_) (fun c => ?_)
      · have h := hif.2 c
        clear hif
        refine g_aload_n C 0 dX12_spare_29 (q := 30) rfl rfl rfl ?_
        refine g_get C (k := 59) (i := 0) (by decide) (gc_59 Y _ _) rfl kU_X12 (by decide) kF_X12_7 rfl dX12_spare_30 (q := 33) rfl ?_
        refine g_bipush C (v := 30) dX12_spare_33 (q := 35) rfl (by decide) ?_
        refine g_iload_n C 2 dX12_spare_35 (q := 36) rfl rfl rfl ?_
        refine g_iadd C dX12_spare_36 (q := 37) rfl ?_
        obtain ⟨v5, hv5, h⟩ := g_bind h
        refine g_iald C (k := 60) (n := 1208) (by decide) (gc_60 Y _ _) hv5 dX12_spare_37 (q := 38) rfl ?_
        refine g_iload_n C 3 dX12_spare_38 (q := 39) rfl rfl rfl ?_
        refine g_ishr C dX12_spare_39 (q := 40) rfl ?_
        refine g_iconst C (v := 1) dX12_spare_40 (q := 41) rfl (by decide) ?_
        refine g_iand C dX12_spare_41 (q := 42) rfl ?_
        have hif := g_if h
        clear h
        refine g_if_ne C dX12_spare_42 (q := 45) (tgt := 51) rfl (by decide) (fun c => ?_) (fun c => ?_)
        · have h := hif.2 c
          clear hif
          refine g_aload_n C 0 dX12_spare_51 (q := 52) rfl rfl rfl ?_
          refine g_iload_n C 1 dX12_spare_52 (q := 53) rfl rfl rfl ?_
          obtain ⟨p6, hp6, h⟩ := g_bind h
          refine g_callV C (k := 59) (as := [.int x1]) (st := []) (m_X12_findOpens hp6) (g_hR (by decide)) (by decide) (by decide) (gc_59 Y _ _) rfl kM_X12_264 kI_X12_findOpens kS_X12_findOpens kN_X12 kC_X12_findOpens kD_X12_findOpens rfl (Nat.le_of_ble_eq_true rfl) dX12_spare_53 (q := 56) rfl ?_
          show g_G 4 X Y 56 [(0, g_r Y 59), (1, .int x1), (2, .int x2), (3, .int x3)] [] p6
          refine g_aload_n C 0 dX12_spare_56 (q := 57) rfl rfl rfl ?_
          obtain ⟨p7, hp7, h⟩ := g_bind h
          refine g_callV C (k := 59) (as := []) (st := []) (m_X12_keepOther hp7) (g_hR (by decide)) (by decide) (by decide) (gc_59 Y _ _) rfl kM_X12_278 kI_X12_keepOther kS_X12_keepOther kN_X12 kC_X12_keepOther kD_X12_keepOther rfl (Nat.le_of_ble_eq_true rfl) dX12_spare_57 (q := 60) rfl ?_
          show g_G 4 X Y 60 [(0, g_r Y 59), (1, .int x1), (2, .int x2), (3, .int x3)] [] p7
          refine g_aload_n C 0 dX12_spare_60 (q := 61) rfl rfl rfl ?_
          refine g_iload_n C 1 dX12_spare_61 (q := 62) rfl rfl rfl ?_
          refine g_iload_n C 2 dX12_spare_62 (q := 63) rfl rfl rfl ?_
          refine g_iload_n C 3 dX12_spare_63 (q := 64) rfl rfl rfl ?_
          obtain ⟨p8, hp8, h⟩ := g_bind h
          refine g_callV C (k := 59) (as := [.int x1, .int x2, .int x3]) (st := []) (m_X12_isSpare hp8) (g_hR (by decide)) (by decide) (by decide) (gc_59 Y _ _) rfl kM_X12_297 kI_X12_isSpare kS_X12_isSpare kN_X12 kC_X12_isSpare kD_X12_isSpare rfl (Nat.le_of_ble_eq_true rfl) dX12_spare_64 (q := 67) rfl ?_
          show g_G 4 X Y 67 [(0, g_r Y 59), (1, .int x1), (2, .int x2), (3, .int x3)] [.int p8.1] p8.2
          have hif := g_if h
          clear h
          refine g_if_eq C dX12_spare_67 (q := 70) (tgt := 74) rfl (by decide) (fun c => ?_) (fun c => ?_)
          · have h := hif.1 c
            clear hif
            refine g_iconst C (v := 0) dX12_spare_74 (q := 75) rfl (by decide) ?_
            obtain rfl := Option.some.inj h
            exact g_iret C E dX12_spare_75
          · have h := hif.2 c
            clear hif
            refine g_iconst C (v := 1) dX12_spare_70 (q := 71) rfl (by decide) ?_
            refine g_goto C dX12_spare_71 (tgt := 75) (by decide) ?_
            obtain rfl := Option.some.inj h
            exact g_iret C E dX12_spare_75
        · have h := hif.1 c
          clear hif
          refine g_aload_n C 0 dX12_spare_45 (q := 46) rfl rfl rfl ?_
          refine g_iconst C (v := 3) dX12_spare_46 (q := 47) rfl (by decide) ?_
          obtain ⟨p9, hp9, h⟩ := g_bind h
          refine g_callV C (k := 59) (as := [.int 3]) (st := []) (m_X12_finding hp9) (g_hR (by decide)) (by decide) (by decide) (gc_59 Y _ _) rfl kM_X12_190 kI_X12_finding kS_X12_finding kN_X12 kC_X12_finding kD_X12_finding rfl (Nat.le_of_ble_eq_true rfl) dX12_spare_47 (q := 50) rfl ?_
          show g_G 4 X Y 50 [(0, g_r Y 59), (1, .int x1), (2, .int x2), (3, .int x3)] [.int p9.1] p9.2
          obtain rfl := Option.some.inj h
          exact g_iret C E dX12_spare_50
      · have h := hif.1 c
        clear hif
        refine g_sub [0] (lv' := [(0, g_r Y 59)]) rfl ?_
        exact t_X12_spare_23 C E M h
theorem r_X12_spare {x1 : Int32} {x2 : Int32} {x3 : Int32} {M : g_M} {p : Int32 × g_M} (h : f_X12_spare x1 x2 x3 M = some p) : g_fr [60, 63, 64, 65, 68, 69] [] M p.2 := by
  unfold f_X12_spare at h
  have hf := g_fr.rfl (S := [60, 63, 64, 65, 68, 69]) (T := []) (M := M)
  obtain ⟨p1, -, h⟩ := g_bind h
  rcases g_ifs h with h | h
  · exact hf.trans (r_X12_spare_23 M h)
  · obtain ⟨p3, -, h⟩ := g_bind h
    rcases g_ifs h with h | h
    · exact hf.trans (r_X12_spare_23 M h)
    · obtain ⟨p4, -, h⟩ := g_bind h
      rcases g_ifs h with h | h
      · exact hf.trans (r_X12_spare_23 M h)
      · obtain ⟨v5, -, h⟩ := g_bind h
        rcases g_ifs h with h | h
        · obtain ⟨p9, hp9, h⟩ := g_bind h
          have hf := hf.trans ((r_X12_finding hp9).mono (by decide) (by decide))
          obtain rfl := Option.some.inj h
          exact hf
        · obtain ⟨p6, hp6, h⟩ := g_bind h
          have hf := hf.trans ((r_X12_findOpens hp6).mono (by decide) (by decide))
          obtain ⟨p7, hp7, h⟩ := g_bind h
          have hf := hf.trans ((r_X12_keepOther hp7).mono (by decide) (by decide))
          obtain ⟨p8, hp8, h⟩ := g_bind h
          have hf := hf.trans ((r_X12_isSpare hp8).mono (by decide) (by decide))
          rcases g_ifs h with h | h
          · obtain rfl := Option.some.inj h
            exact hf
          · obtain rfl := Option.some.inj h
            exact hf
def F_X12_thin_40 (k103 : Int32 → Int32 → Int32 → g_M → Option (Int32 × g_M)) (k : Int32 → Int32 → Int32 → Int32 → g_M → Option (Int32 × g_M)) (x1 : Int32) (x2 : Int32) (x3 : Int32) (x4 : Int32) (M : g_M) : Option (Int32 × g_M) :=
  (if 24 ≤ x4 then (k103 x1 x2 x3 M) else ((g_ld M 60 1208 (30 + x3)).bind fun v5 => (if ((v5 >>> (x4 &&& 31)) &&& 1) = 1 then ((f_X12_isSpare x1 x3 x4 M).bind fun p6 => (if p6.1 = 0 then (k x1 x2 x3 (x4 + 1) p6.2) else ((g_ld p6.2 60 1208 (30 + x3)).bind fun v7 => (g_st p6.2 60 1208 (30 + x3) (v7 &&& (((1 : Int32) <<< (x4 &&& 31)) ^^^ (-1)))).bind fun M8 => k x1 (x2 + 1) x3 (x4 + 1) M8))) else (k x1 x2 x3 (x4 + 1) M))))
set_option maxRecDepth 100000 in
theorem t_X12_thin_40 {l : Launch} {X : g_X} {Y : g_Y} {p : Int32 × g_M} {k103 : Int32 → Int32 → Int32 → g_M → Option (Int32 × g_M)} (C : g_C l (g_rm (6)) RX12 cX12_thin 5 X Y) (E : g_E (some .int) X Y (some (.int p.1)) p.2) (hk103 : ∀ (x1 : Int32) (x2 : Int32) (x3 : Int32) (M : g_M), k103 x1 x2 x3 M = some p → g_G 5 X Y 103 [(0, g_r Y 59), (1, .int x1), (2, .int x2), (3, .int x3)] [] M) (n : Nat) : ∀ (x1 : Int32) (x2 : Int32) (x3 : Int32) (x4 : Int32) (M : g_M), g_lp4 (F_X12_thin_40 k103) n x1 x2 x3 x4 M = some p → g_G 5 X Y 40 [(0, g_r Y 59), (1, .int x1), (2, .int x2), (3, .int x3), (4, .int x4)] [] M := by
  induction n with
  | zero => intro x1 x2 x3 x4 M h; exact (g_nn h).elim
  | succ n ih =>
    intro x1 x2 x3 x4 M h
    have h : F_X12_thin_40 k103 (g_lp4 (F_X12_thin_40 k103) n) x1 x2 x3 x4 M = some p := h
    generalize g_lp4 (F_X12_thin_40 k103) n = k at h ih
    unfold F_X12_thin_40 at h
    refine g_iload C 4 dX12_thin_40 (q := 42) rfl rfl ?_
    refine g_bipush C (v := 24) dX12_thin_42 (q := 44) rfl (by decide) ?_
    have hif := g_if h
    clear h
    refine g_icmp_ge C dX12_thin_44 (q := 47) (tgt := 103) rfl (by decide) (fun c => ?_) (fun c => ?_)
    · have h := hif.1 c
      clear hif
      refine g_sub [0, 1, 2, 3] (lv' := [(0, g_r Y 59), (1, .int x1), (2, .int x2), (3, .int x3)]) rfl ?_
      exact hk103 x1 x2 x3 M h
    · have h := hif.2 c
      clear hif
      refine g_aload_n C 0 dX12_thin_47 (q := 48) rfl rfl rfl ?_
      refine g_get C (k := 59) (i := 0) (by decide) (gc_59 Y _ _) rfl kU_X12 (by decide) kF_X12_7 rfl dX12_thin_48 (q := 51) rfl ?_
      refine g_bipush C (v := 30) dX12_thin_51 (q := 53) rfl (by decide) ?_
      refine g_iload_n C 3 dX12_thin_53 (q := 54) rfl rfl rfl ?_
      refine g_iadd C dX12_thin_54 (q := 55) rfl ?_
      obtain ⟨v5, hv5, h⟩ := g_bind h
      refine g_iald C (k := 60) (n := 1208) (by decide) (gc_60 Y _ _) hv5 dX12_thin_55 (q := 56) rfl ?_
      refine g_iload C 4 dX12_thin_56 (q := 58) rfl rfl ?_
      refine g_ishr C dX12_thin_58 (q := 59) rfl ?_
      refine g_iconst C (v := 1) dX12_thin_59 (q := 60) rfl (by decide) ?_
      refine g_iand C dX12_thin_60 (q := 61) rfl ?_
      refine g_iconst C (v := 1) dX12_thin_61 (q := 62) rfl (by decide) ?_
      have hif := g_if h
      clear h
      refine g_icmp_ne C dX12_thin_62 (q := 65) (tgt := 97) rfl (by decide) (fun c => ?_) (fun c => ?_)
      · have h := hif.2 c
        clear hif
        refine g_iinc C (k := 4) (v := x4 + 1) dX12_thin_97 (q := 100) rfl rfl rfl (by decide) (lv' := [(4, .int (x4 + 1)), (0, g_r Y 59), (1, .int x1), (2, .int x2), (3, .int x3)]) rfl ?_
        refine g_goto C dX12_thin_100 (tgt := 40) (by decide) ?_
        refine g_sub [1, 2, 3, 4, 0] (lv' := [(0, g_r Y 59), (1, .int x1), (2, .int x2), (3, .int x3), (4, .int (x4 + 1))]) rfl ?_
        exact ih x1 x2 x3 (x4 + 1) M h
      · have h := hif.1 c
        clear hif
        refine g_aload_n C 0 dX12_thin_65 (q := 66) rfl rfl rfl ?_
        refine g_iload_n C 1 dX12_thin_66 (q := 67) rfl rfl rfl ?_
        refine g_iload_n C 3 dX12_thin_67 (q := 68) rfl rfl rfl ?_
        refine g_iload C 4 dX12_thin_68 (q := 70) rfl rfl ?_
        obtain ⟨p6, hp6, h⟩ := g_bind h
        refine g_callV C (k := 59) (as := [.int x1, .int x3, .int x4]) (st := []) (m_X12_isSpare hp6) (g_hR (by decide)) (by decide) (by decide) (gc_59 Y _ _) rfl kM_X12_297 kI_X12_isSpare kS_X12_isSpare kN_X12 kC_X12_isSpare kD_X12_isSpare rfl (Nat.le_of_ble_eq_true rfl) dX12_thin_70 (q := 73) rfl ?_
        show g_G 5 X Y 73 [(0, g_r Y 59), (1, .int x1), (2, .int x2), (3, .int x3), (4, .int x4)] [.int p6.1] p6.2
        have hif := g_if h
        clear h
        refine g_if_eq C dX12_thin_73 (q := 76) (tgt := 97) rfl (by decide) (fun c => ?_) (fun c => ?_)
        · have h := hif.1 c
          clear hif
          refine g_iinc C (k := 4) (v := x4 + 1) dX12_thin_97 (q := 100) rfl rfl rfl (by decide) (lv' := [(4, .int (x4 + 1)), (0, g_r Y 59), (1, .int x1), (2, .int x2), (3, .int x3)]) rfl ?_
          refine g_goto C dX12_thin_100 (tgt := 40) (by decide) ?_
          refine g_sub [1, 2, 3, 4, 0] (lv' := [(0, g_r Y 59), (1, .int x1), (2, .int x2), (3, .int x3), (4, .int (x4 + 1))]) rfl ?_
          exact ih x1 x2 x3 (x4 + 1) p6.2 h
        · have h := hif.2 c
          clear hif
          refine g_aload_n C 0 dX12_thin_76 (q := 77) rfl rfl rfl ?_
          refine g_get C (k := 59) (i := 0) (by decide) (gc_59 Y _ _) rfl kU_X12 (by decide) kF_X12_7 rfl dX12_thin_77 (q := 80) rfl ?_
          refine g_bipush C (v := 30) dX12_thin_80 (q := 82) rfl (by decide) ?_
          refine g_iload_n C 3 dX12_thin_82 (q := 83) rfl rfl rfl ?_
          refine g_iadd C dX12_thin_83 (q := 84) rfl ?_
          refine g_dup2 C dX12_thin_84 (q := 85) rfl rfl rfl ?_
          obtain ⟨v7, hv7, h⟩ := g_bind h
          refine g_iald C (k := 60) (n := 1208) (by decide) (gc_60 Y _ _) hv7 dX12_thin_85 (q := 86) rfl ?_
          refine g_iconst C (v := 1) dX12_thin_86 (q := 87) rfl (by decide) ?_
          refine g_iload C 4 dX12_thin_87 (q := 89) rfl rfl ?_
          refine g_ishl C dX12_thin_89 (q := 90) rfl ?_
          refine g_iconst C (v := (-1)) dX12_thin_90 (q := 91) rfl (by decide) ?_
          refine g_ixor C dX12_thin_91 (q := 92) rfl ?_
          refine g_iand C dX12_thin_92 (q := 93) rfl ?_
          obtain ⟨M8, hM8, h⟩ := g_bind h
          refine g_iast C (k := 60) (n := 1208) (by decide) (fun a => gc_60 Y a _) hM8 dX12_thin_93 (q := 94) rfl ?_
          refine g_iinc C (k := 2) (v := x2 + 1) dX12_thin_94 (q := 97) rfl rfl rfl (by decide) (lv' := [(2, .int (x2 + 1)), (0, g_r Y 59), (1, .int x1), (3, .int x3), (4, .int x4)]) rfl ?_
          refine g_iinc C (k := 4) (v := x4 + 1) dX12_thin_97 (q := 100) rfl rfl rfl (by decide) (lv' := [(4, .int (x4 + 1)), (2, .int (x2 + 1)), (0, g_r Y 59), (1, .int x1), (3, .int x3)]) rfl ?_
          refine g_goto C dX12_thin_100 (tgt := 40) (by decide) ?_
          refine g_sub [2, 3, 1, 4, 0] (lv' := [(0, g_r Y 59), (1, .int x1), (2, .int (x2 + 1)), (3, .int x3), (4, .int (x4 + 1))]) rfl ?_
          exact ih x1 (x2 + 1) x3 (x4 + 1) M8 h
theorem r_X12_thin_40 {p : Int32 × g_M} {k103 : Int32 → Int32 → Int32 → g_M → Option (Int32 × g_M)} (hk103 : ∀ (x1 : Int32) (x2 : Int32) (x3 : Int32) (M : g_M), k103 x1 x2 x3 M = some p → g_fr [60, 63, 64, 65, 68, 69] [] M p.2) (n : Nat) : ∀ (x1 : Int32) (x2 : Int32) (x3 : Int32) (x4 : Int32) (M : g_M), g_lp4 (F_X12_thin_40 k103) n x1 x2 x3 x4 M = some p → g_fr [60, 63, 64, 65, 68, 69] [] M p.2 := by
  induction n with
  | zero => intro x1 x2 x3 x4 M h; exact (g_nn h).elim
  | succ n ih =>
    intro x1 x2 x3 x4 M h
    have h : F_X12_thin_40 k103 (g_lp4 (F_X12_thin_40 k103) n) x1 x2 x3 x4 M = some p := h
    generalize g_lp4 (F_X12_thin_40 k103) n = k at h ih
    unfold F_X12_thin_40 at h
    have hf := g_fr.rfl (S := [60, 63, 64, 65, 68, 69]) (T := []) (M := M)
    rcases g_ifs h with h | h
    · exact hf.trans (hk103 x1 x2 x3 M h)
    · obtain ⟨v5, -, h⟩ := g_bind h
      rcases g_ifs h with h | h
      · obtain ⟨p6, hp6, h⟩ := g_bind h
        have hf := hf.trans ((r_X12_isSpare hp6).mono (by decide) (by decide))
        rcases g_ifs h with h | h
        · exact hf.trans (ih x1 x2 x3 (x4 + 1) p6.2 h)
        · obtain ⟨v7, -, h⟩ := g_bind h
          obtain ⟨M8, hM8, h⟩ := g_bind h
          have hf := hf.st hM8 (by decide)
          exact hf.trans (ih x1 (x2 + 1) x3 (x4 + 1) M8 h)
      · exact hf.trans (ih x1 x2 x3 (x4 + 1) M h)
def F_X12_thin_27 (k109 : Int32 → g_M → Option (Int32 × g_M)) (k : Int32 → Int32 → Int32 → g_M → Option (Int32 × g_M)) (x1 : Int32) (x2 : Int32) (x3 : Int32) (M : g_M) : Option (Int32 × g_M) :=
  (g_ld M 60 1208 0).bind fun v4 => (if v4 ≤ x3 then (k109 x2 M) else (g_lp4 (F_X12_thin_40 (fun (x1 : Int32) (x2 : Int32) (x3 : Int32) (M : g_M) => k x1 x2 (x3 + 1) M)) 20000000 x1 x2 x3 0 M))
set_option maxRecDepth 100000 in
theorem t_X12_thin_27 {l : Launch} {X : g_X} {Y : g_Y} {p : Int32 × g_M} {k109 : Int32 → g_M → Option (Int32 × g_M)} (C : g_C l (g_rm (6)) RX12 cX12_thin 5 X Y) (E : g_E (some .int) X Y (some (.int p.1)) p.2) (hk109 : ∀ (x2 : Int32) (M : g_M), k109 x2 M = some p → g_G 5 X Y 109 [(2, .int x2)] [] M) (n : Nat) : ∀ (x1 : Int32) (x2 : Int32) (x3 : Int32) (M : g_M), g_lp3 (F_X12_thin_27 k109) n x1 x2 x3 M = some p → g_G 5 X Y 27 [(0, g_r Y 59), (1, .int x1), (2, .int x2), (3, .int x3)] [] M := by
  induction n with
  | zero => intro x1 x2 x3 M h; exact (g_nn h).elim
  | succ n ih =>
    intro x1 x2 x3 M h
    have h : F_X12_thin_27 k109 (g_lp3 (F_X12_thin_27 k109) n) x1 x2 x3 M = some p := h
    generalize g_lp3 (F_X12_thin_27 k109) n = k at h ih
    unfold F_X12_thin_27 at h
    refine g_iload_n C 3 dX12_thin_27 (q := 28) rfl rfl rfl ?_
    refine g_aload_n C 0 dX12_thin_28 (q := 29) rfl rfl rfl ?_
    refine g_get C (k := 59) (i := 0) (by decide) (gc_59 Y _ _) rfl kU_X12 (by decide) kF_X12_7 rfl dX12_thin_29 (q := 32) rfl ?_
    refine g_iconst C (v := 0) dX12_thin_32 (q := 33) rfl (by decide) ?_
    obtain ⟨v4, hv4, h⟩ := g_bind h
    refine g_iald C (k := 60) (n := 1208) (by decide) (gc_60 Y _ _) hv4 dX12_thin_33 (q := 34) rfl ?_
    have hif := g_if h
    clear h
    refine g_icmp_ge C dX12_thin_34 (q := 37) (tgt := 109) rfl (by decide) (fun c => ?_) (fun c => ?_)
    · have h := hif.1 c
      clear hif
      refine g_sub [2] (lv' := [(2, .int x2)]) rfl ?_
      exact hk109 x2 M h
    · have h := hif.2 c
      clear hif
      refine g_iconst C (v := 0) dX12_thin_37 (q := 38) rfl (by decide) ?_
      refine g_istore C dX12_thin_38 (q := 40) rfl (by decide) (lv' := [(4, .int 0), (0, g_r Y 59), (1, .int x1), (2, .int x2), (3, .int x3)]) rfl ?_
      refine g_sub [1, 2, 3, 4, 0] (lv' := [(0, g_r Y 59), (1, .int x1), (2, .int x2), (3, .int x3), (4, .int 0)]) rfl ?_
      refine t_X12_thin_40 C E ?_ 20000000 x1 x2 x3 0 M h
      · intro x1 x2 x3 M h
        try dsimp only at h
        refine g_iinc C (k := 3) (v := x3 + 1) dX12_thin_103 (q := 106) rfl rfl rfl (by decide) (lv' := [(3, .int (x3 + 1)), (0, g_r Y 59), (1, .int x1), (2, .int x2)]) rfl ?_
        refine g_goto C dX12_thin_106 (tgt := 27) (by decide) ?_
        refine g_sub [1, 2, 3, 0] (lv' := [(0, g_r Y 59), (1, .int x1), (2, .int x2), (3, .int (x3 + 1))]) rfl ?_
        exact ih x1 x2 (x3 + 1) M h
theorem r_X12_thin_27 {p : Int32 × g_M} {k109 : Int32 → g_M → Option (Int32 × g_M)} (hk109 : ∀ (x2 : Int32) (M : g_M), k109 x2 M = some p → g_fr [60, 63, 64, 65, 68, 69] [] M p.2) (n : Nat) : ∀ (x1 : Int32) (x2 : Int32) (x3 : Int32) (M : g_M), g_lp3 (F_X12_thin_27 k109) n x1 x2 x3 M = some p → g_fr [60, 63, 64, 65, 68, 69] [] M p.2 := by
  induction n with
  | zero => intro x1 x2 x3 M h; exact (g_nn h).elim
  | succ n ih =>
    intro x1 x2 x3 M h
    have h : F_X12_thin_27 k109 (g_lp3 (F_X12_thin_27 k109) n) x1 x2 x3 M = some p := h
    generalize g_lp3 (F_X12_thin_27 k109) n = k at h ih
    unfold F_X12_thin_27 at h
    have hf := g_fr.rfl (S := [60, 63, 64, 65, 68, 69]) (T := []) (M := M)
    obtain ⟨v4, -, h⟩ := g_bind h
    rcases g_ifs h with h | h
    · exact hf.trans (hk109 x2 M h)
    · refine hf.trans (r_X12_thin_40 ?_ 20000000 x1 x2 x3 0 M h)
      · intro x1 x2 x3 M h
        try dsimp only at h
        have hf := g_fr.rfl (S := [60, 63, 64, 65, 68, 69]) (T := []) (M := M)
        exact hf.trans (ih x1 x2 (x3 + 1) M h)
def f_X12_thin (x1 : Int32) (M : g_M) : Option (Int32 × g_M) :=
  (f_X12_isHanging x1 M).bind fun p1 => (if p1 = 0 then ((f_X12_finding 0 M).bind fun p9 => some (p9.1, p9.2)) else ((f_X12_findOpens x1 M).bind fun p2 => (f_X12_keepOther p2).bind fun p3 => g_lp3 (F_X12_thin_27 (fun (x2 : Int32) (M : g_M) => some (x2, M))) 20000000 x1 0 0 p3))
set_option maxRecDepth 100000 in
theorem m_X12_thin {l : Launch} {Y : g_Y} {x1 : Int32} {M : g_M} {p : Int32 × g_M} (h : f_X12_thin x1 M = some p) : g_R l Y (6) yX12_thin cX12_thin 5 (some .int) [g_r Y 59, .int x1] M (some (.int p.1)) p.2 := by
  unfold f_X12_thin at h
  refine g_R_of kP_X12 rfl (Nat.le_of_ble_eq_true rfl) (fun X C E => ?_)
  show g_G 5 X Y 0 [(0, g_r Y 59), (1, .int x1)] [] M
  refine g_aload_n C 0 dX12_thin_0 (q := 1) rfl rfl rfl ?_
  refine g_iload_n C 1 dX12_thin_1 (q := 2) rfl rfl rfl ?_
  obtain ⟨p1, hp1, h⟩ := g_bind h
  refine g_callV C (k := 59) (as := [.int x1]) (st := []) (m_X12_isHanging hp1) (g_hR (by decide)) (by decide) (by decide) (gc_59 Y _ _) rfl kM_X12_242 kI_X12_isHanging kS_X12_isHanging kN_X12 kC_X12_isHanging kD_X12_isHanging rfl (Nat.le_of_ble_eq_true rfl) dX12_thin_2 (q := 5) rfl ?_
  show g_G 5 X Y 5 [(0, g_r Y 59), (1, .int x1)] [.int p1] M
  have hif := g_if h
  clear h
  refine g_if_ne C dX12_thin_5 (q := 8) (tgt := 14) rfl (by decide) (fun c => ?_) (fun c => ?_)
  · have h := hif.2 c
    clear hif
    refine g_aload_n C 0 dX12_thin_14 (q := 15) rfl rfl rfl ?_
    refine g_iload_n C 1 dX12_thin_15 (q := 16) rfl rfl rfl ?_
    obtain ⟨p2, hp2, h⟩ := g_bind h
    refine g_callV C (k := 59) (as := [.int x1]) (st := []) (m_X12_findOpens hp2) (g_hR (by decide)) (by decide) (by decide) (gc_59 Y _ _) rfl kM_X12_264 kI_X12_findOpens kS_X12_findOpens kN_X12 kC_X12_findOpens kD_X12_findOpens rfl (Nat.le_of_ble_eq_true rfl) dX12_thin_16 (q := 19) rfl ?_
    show g_G 5 X Y 19 [(0, g_r Y 59), (1, .int x1)] [] p2
    refine g_aload_n C 0 dX12_thin_19 (q := 20) rfl rfl rfl ?_
    obtain ⟨p3, hp3, h⟩ := g_bind h
    refine g_callV C (k := 59) (as := []) (st := []) (m_X12_keepOther hp3) (g_hR (by decide)) (by decide) (by decide) (gc_59 Y _ _) rfl kM_X12_278 kI_X12_keepOther kS_X12_keepOther kN_X12 kC_X12_keepOther kD_X12_keepOther rfl (Nat.le_of_ble_eq_true rfl) dX12_thin_20 (q := 23) rfl ?_
    show g_G 5 X Y 23 [(0, g_r Y 59), (1, .int x1)] [] p3
    refine g_iconst C (v := 0) dX12_thin_23 (q := 24) rfl (by decide) ?_
    refine g_istore_n C dX12_thin_24 (q := 25) rfl rfl (by decide) (lv' := [(2, .int 0), (0, g_r Y 59), (1, .int x1)]) rfl ?_
    refine g_iconst C (v := 0) dX12_thin_25 (q := 26) rfl (by decide) ?_
    refine g_istore_n C dX12_thin_26 (q := 27) rfl rfl (by decide) (lv' := [(3, .int 0), (2, .int 0), (0, g_r Y 59), (1, .int x1)]) rfl ?_
    refine g_sub [2, 3, 1, 0] (lv' := [(0, g_r Y 59), (1, .int x1), (2, .int 0), (3, .int 0)]) rfl ?_
    refine t_X12_thin_27 C E ?_ 20000000 x1 0 0 p3 h
    · intro x2 M h
      try dsimp only at h
      refine g_iload_n C 0 dX12_thin_109 (q := 110) rfl rfl rfl ?_
      obtain rfl := Option.some.inj h
      exact g_iret C E dX12_thin_110
  · have h := hif.1 c
    clear hif
    refine g_aload_n C 0 dX12_thin_8 (q := 9) rfl rfl rfl ?_
    refine g_iconst C (v := 0) dX12_thin_9 (q := 10) rfl (by decide) ?_
    obtain ⟨p9, hp9, h⟩ := g_bind h
    refine g_callV C (k := 59) (as := [.int 0]) (st := []) (m_X12_finding hp9) (g_hR (by decide)) (by decide) (by decide) (gc_59 Y _ _) rfl kM_X12_190 kI_X12_finding kS_X12_finding kN_X12 kC_X12_finding kD_X12_finding rfl (Nat.le_of_ble_eq_true rfl) dX12_thin_10 (q := 13) rfl ?_
    show g_G 5 X Y 13 [(0, g_r Y 59), (1, .int x1)] [.int p9.1] p9.2
    obtain rfl := Option.some.inj h
    exact g_iret C E dX12_thin_13
theorem r_X12_thin {x1 : Int32} {M : g_M} {p : Int32 × g_M} (h : f_X12_thin x1 M = some p) : g_fr [60, 63, 64, 65, 68, 69] [] M p.2 := by
  unfold f_X12_thin at h
  have hf := g_fr.rfl (S := [60, 63, 64, 65, 68, 69]) (T := []) (M := M)
  obtain ⟨p1, -, h⟩ := g_bind h
  rcases g_ifs h with h | h
  · obtain ⟨p9, hp9, h⟩ := g_bind h
    have hf := hf.trans ((r_X12_finding hp9).mono (by decide) (by decide))
    obtain rfl := Option.some.inj h
    exact hf
  · obtain ⟨p2, hp2, h⟩ := g_bind h
    have hf := hf.trans ((r_X12_findOpens hp2).mono (by decide) (by decide))
    obtain ⟨p3, hp3, h⟩ := g_bind h
    have hf := hf.trans ((r_X12_keepOther hp3).mono (by decide) (by decide))
    refine hf.trans (r_X12_thin_27 ?_ 20000000 x1 0 0 p3 h)
    · intro x2 M h
      try dsimp only at h
      have hf := g_fr.rfl (S := [60, 63, 64, 65, 68, 69]) (T := []) (M := M)
      obtain rfl := Option.some.inj h
      exact hf
def F_X12_heavy_35 (k120 : Int32 → Int32 → Int32 → g_M → Option (Int32 × g_M)) (k : Int32 → Int32 → Int32 → Int32 → g_M → Option (Int32 × g_M)) (x1 : Int32) (x2 : Int32) (x3 : Int32) (x4 : Int32) (M : g_M) : Option (Int32 × g_M) :=
  (g_ld M 60 1208 0).bind fun v3 => (if v3 ≤ x4 then (k120 x1 x2 x3 M) else ((g_ld M 60 1208 (20 + x4)).bind fun v4 => (if v4 = 0 then ((g_ld M 60 1208 (30 + x4)).bind fun v5 => (f_X12_many v5 M).bind fun p6 => (if x2 < 0 then (k x1 x4 (x3 + p6) (x4 + 1) M) else ((g_ld M 60 1208 (30 + x4)).bind fun v7 => (f_X12_many v7 M).bind fun p8 => (g_ld M 60 1208 (30 + x2)).bind fun v9 => (f_X12_many v9 M).bind fun p10 => (if p8 ≤ p10 then (k x1 x2 (x3 + p6) (x4 + 1) M) else (k x1 x4 (x3 + p6) (x4 + 1) M))))) else (k x1 x2 x3 (x4 + 1) M))))
set_option maxRecDepth 100000 in
theorem t_X12_heavy_35 {l : Launch} {X : g_X} {Y : g_Y} {p : Int32 × g_M} {k120 : Int32 → Int32 → Int32 → g_M → Option (Int32 × g_M)} (C : g_C l (g_rm (1)) RX12 cX12_heavy 5 X Y) (E : g_E (some .int) X Y (some (.int p.1)) p.2) (hk120 : ∀ (x1 : Int32) (x2 : Int32) (x3 : Int32) (M : g_M), k120 x1 x2 x3 M = some p → g_G 5 X Y 120 [(0, g_r Y 59), (1, .int x1), (2, .int x2), (3, .int x3)] [] M) (n : Nat) : ∀ (x1 : Int32) (x2 : Int32) (x3 : Int32) (x4 : Int32) (M : g_M), g_lp4 (F_X12_heavy_35 k120) n x1 x2 x3 x4 M = some p → g_G 5 X Y 35 [(0, g_r Y 59), (1, .int x1), (2, .int x2), (3, .int x3), (4, .int x4)] [] M := by
  induction n with
  | zero => intro x1 x2 x3 x4 M h; exact (g_nn h).elim
  | succ n ih =>
    intro x1 x2 x3 x4 M h
    have h : F_X12_heavy_35 k120 (g_lp4 (F_X12_heavy_35 k120) n) x1 x2 x3 x4 M = some p := h
    generalize g_lp4 (F_X12_heavy_35 k120) n = k at h ih
    unfold F_X12_heavy_35 at h
    refine g_iload C 4 dX12_heavy_35 (q := 37) rfl rfl ?_
    refine g_aload_n C 0 dX12_heavy_37 (q := 38) rfl rfl rfl ?_
    refine g_get C (k := 59) (i := 0) (by decide) (gc_59 Y _ _) rfl kU_X12 (by decide) kF_X12_7 rfl dX12_heavy_38 (q := 41) rfl ?_
    refine g_iconst C (v := 0) dX12_heavy_41 (q := 42) rfl (by decide) ?_
    obtain ⟨v3, hv3, h⟩ := g_bind h
    refine g_iald C (k := 60) (n := 1208) (by decide) (gc_60 Y _ _) hv3 dX12_heavy_42 (q := 43) rfl ?_
    have hif := g_if h
    clear h
    refine g_icmp_ge C dX12_heavy_43 (q := 46) (tgt := 120) rfl (by decide) (fun c => ?_) (fun c => ?_)
    · have h := hif.1 c
      clear hif
      refine g_sub [0, 1, 2, 3] (lv' := [(0, g_r Y 59), (1, .int x1), (2, .int x2), (3, .int x3)]) rfl ?_
      exact hk120 x1 x2 x3 M h
    · have h := hif.2 c
      clear hif
      refine g_aload_n C 0 dX12_heavy_46 (q := 47) rfl rfl rfl ?_
      refine g_get C (k := 59) (i := 0) (by decide) (gc_59 Y _ _) rfl kU_X12 (by decide) kF_X12_7 rfl dX12_heavy_47 (q := 50) rfl ?_
      refine g_bipush C (v := 20) dX12_heavy_50 (q := 52) rfl (by decide) ?_
      refine g_iload C 4 dX12_heavy_52 (q := 54) rfl rfl ?_
      refine g_iadd C dX12_heavy_54 (q := 55) rfl ?_
      obtain ⟨v4, hv4, h⟩ := g_bind h
      refine g_iald C (k := 60) (n := 1208) (by decide) (gc_60 Y _ _) hv4 dX12_heavy_55 (q := 56) rfl ?_
      have hif := g_if h
      clear h
      refine g_if_ne C dX12_heavy_56 (q := 59) (tgt := 114) rfl (by decide) (fun c => ?_) (fun c => ?_)
      · have h := hif.2 c
        clear hif
        refine g_iinc C (k := 4) (v := x4 + 1) dX12_heavy_114 (q := 117) rfl rfl rfl (by decide) (lv' := [(4, .int (x4 + 1)), (0, g_r Y 59), (1, .int x1), (2, .int x2), (3, .int x3)]) rfl ?_
        refine g_goto C dX12_heavy_117 (tgt := 35) (by decide) ?_
        refine g_sub [1, 2, 3, 4, 0] (lv' := [(0, g_r Y 59), (1, .int x1), (2, .int x2), (3, .int x3), (4, .int (x4 + 1))]) rfl ?_
        exact ih x1 x2 x3 (x4 + 1) M h
      · have h := hif.1 c
        clear hif
        refine g_iload_n C 3 dX12_heavy_59 (q := 60) rfl rfl rfl ?_
        refine g_aload_n C 0 dX12_heavy_60 (q := 61) rfl rfl rfl ?_
        refine g_get C (k := 59) (i := 0) (by decide) (gc_59 Y _ _) rfl kU_X12 (by decide) kF_X12_7 rfl dX12_heavy_61 (q := 64) rfl ?_
        refine g_bipush C (v := 30) dX12_heavy_64 (q := 66) rfl (by decide) ?_
        refine g_iload C 4 dX12_heavy_66 (q := 68) rfl rfl ?_
        refine g_iadd C dX12_heavy_68 (q := 69) rfl ?_
        obtain ⟨v5, hv5, h⟩ := g_bind h
        refine g_iald C (k := 60) (n := 1208) (by decide) (gc_60 Y _ _) hv5 dX12_heavy_69 (q := 70) rfl ?_
        obtain ⟨p6, hp6, h⟩ := g_bind h
        refine g_callS C (as := [.int v5]) (st := [.int x3]) (m_X12_many hp6) (g_hR (by decide)) (by decide) kM_X12_147 kT_X12_many kN_X12 kC_X12_many kD_X12_many rfl (Nat.le_of_ble_eq_true rfl) dX12_heavy_70 (q := 73) rfl ?_
        show g_G 5 X Y 73 [(0, g_r Y 59), (1, .int x1), (2, .int x2), (3, .int x3), (4, .int x4)] [.int p6, .int x3] M
        refine g_iadd C dX12_heavy_73 (q := 74) rfl ?_
        refine g_istore_n C dX12_heavy_74 (q := 75) rfl rfl (by decide) (lv' := [(3, .int (x3 + p6)), (0, g_r Y 59), (1, .int x1), (2, .int x2), (4, .int x4)]) rfl ?_
        refine g_iload_n C 3 dX12_heavy_75 (q := 76) rfl rfl rfl ?_
        have hif := g_if h
        clear h
        refine g_if_lt C dX12_heavy_76 (q := 79) (tgt := 107) rfl (by decide) (fun c => ?_) (fun c => ?_)
        · have h := hif.1 c
          clear hif
          refine g_iload C 4 dX12_heavy_107 (q := 109) rfl rfl ?_
          refine g_goto C dX12_heavy_109 (tgt := 113) (by decide) ?_
          refine g_istore_n C dX12_heavy_113 (q := 114) rfl rfl (by decide) (lv' := [(2, .int x4), (3, .int (x3 + p6)), (0, g_r Y 59), (1, .int x1), (4, .int x4)]) rfl ?_
          refine g_iinc C (k := 4) (v := x4 + 1) dX12_heavy_114 (q := 117) rfl rfl rfl (by decide) (lv' := [(4, .int (x4 + 1)), (2, .int x4), (3, .int (x3 + p6)), (0, g_r Y 59), (1, .int x1)]) rfl ?_
          refine g_goto C dX12_heavy_117 (tgt := 35) (by decide) ?_
          refine g_sub [3, 4, 1, 2, 0] (lv' := [(0, g_r Y 59), (1, .int x1), (2, .int x4), (3, .int (x3 + p6)), (4, .int (x4 + 1))]) rfl ?_
          exact ih x1 x4 (x3 + p6) (x4 + 1) M h
        · have h := hif.2 c
          clear hif
          refine g_aload_n C 1 dX12_heavy_79 (q := 80) rfl rfl rfl ?_
          refine g_get C (k := 59) (i := 0) (by decide) (gc_59 Y _ _) rfl kU_X12 (by decide) kF_X12_7 rfl dX12_heavy_80 (q := 83) rfl ?_
          refine g_bipush C (v := 30) dX12_heavy_83 (q := 85) rfl (by decide) ?_
          refine g_iload C 4 dX12_heavy_85 (q := 87) rfl rfl ?_
          refine g_iadd C dX12_heavy_87 (q := 88) rfl ?_
          obtain ⟨v7, hv7, h⟩ := g_bind h
          refine g_iald C (k := 60) (n := 1208) (by decide) (gc_60 Y _ _) hv7 dX12_heavy_88 (q := 89) rfl ?_
          obtain ⟨p8, hp8, h⟩ := g_bind h
          refine g_callS C (as := [.int v7]) (st := []) (m_X12_many hp8) (g_hR (by decide)) (by decide) kM_X12_147 kT_X12_many kN_X12 kC_X12_many kD_X12_many rfl (Nat.le_of_ble_eq_true rfl) dX12_heavy_89 (q := 92) rfl ?_
          show g_G 5 X Y 92 [(3, .int (x3 + p6)), (0, g_r Y 59), (1, .int x1), (2, .int x2), (4, .int x4)] [.int p8] M
          refine g_aload_n C 1 dX12_heavy_92 (q := 93) rfl rfl rfl ?_
          refine g_get C (k := 59) (i := 0) (by decide) (gc_59 Y _ _) rfl kU_X12 (by decide) kF_X12_7 rfl dX12_heavy_93 (q := 96) rfl ?_
          refine g_bipush C (v := 30) dX12_heavy_96 (q := 98) rfl (by decide) ?_
          refine g_iload_n C 3 dX12_heavy_98 (q := 99) rfl rfl rfl ?_
          refine g_iadd C dX12_heavy_99 (q := 100) rfl ?_
          obtain ⟨v9, hv9, h⟩ := g_bind h
          refine g_iald C (k := 60) (n := 1208) (by decide) (gc_60 Y _ _) hv9 dX12_heavy_100 (q := 101) rfl ?_
          obtain ⟨p10, hp10, h⟩ := g_bind h
          refine g_callS C (as := [.int v9]) (st := [.int p8]) (m_X12_many hp10) (g_hR (by decide)) (by decide) kM_X12_147 kT_X12_many kN_X12 kC_X12_many kD_X12_many rfl (Nat.le_of_ble_eq_true rfl) dX12_heavy_101 (q := 104) rfl ?_
          show g_G 5 X Y 104 [(3, .int (x3 + p6)), (0, g_r Y 59), (1, .int x1), (2, .int x2), (4, .int x4)] [.int p10, .int p8] M
          have hif := g_if h
          clear h
          refine g_icmp_le C dX12_heavy_104 (q := 107) (tgt := 112) rfl (by decide) (fun c => ?_) (fun c => ?_)
          · have h := hif.1 c
            clear hif
            refine g_iload_n C 3 dX12_heavy_112 (q := 113) rfl rfl rfl ?_
            refine g_istore_n C dX12_heavy_113 (q := 114) rfl rfl (by decide) (lv' := [(2, .int x2), (3, .int (x3 + p6)), (0, g_r Y 59), (1, .int x1), (4, .int x4)]) rfl ?_
            refine g_iinc C (k := 4) (v := x4 + 1) dX12_heavy_114 (q := 117) rfl rfl rfl (by decide) (lv' := [(4, .int (x4 + 1)), (2, .int x2), (3, .int (x3 + p6)), (0, g_r Y 59), (1, .int x1)]) rfl ?_
            refine g_goto C dX12_heavy_117 (tgt := 35) (by decide) ?_
            refine g_sub [3, 4, 1, 2, 0] (lv' := [(0, g_r Y 59), (1, .int x1), (2, .int x2), (3, .int (x3 + p6)), (4, .int (x4 + 1))]) rfl ?_
            exact ih x1 x2 (x3 + p6) (x4 + 1) M h
          · have h := hif.2 c
            clear hif
            refine g_iload C 4 dX12_heavy_107 (q := 109) rfl rfl ?_
            refine g_goto C dX12_heavy_109 (tgt := 113) (by decide) ?_
            refine g_istore_n C dX12_heavy_113 (q := 114) rfl rfl (by decide) (lv' := [(2, .int x4), (3, .int (x3 + p6)), (0, g_r Y 59), (1, .int x1), (4, .int x4)]) rfl ?_
            refine g_iinc C (k := 4) (v := x4 + 1) dX12_heavy_114 (q := 117) rfl rfl rfl (by decide) (lv' := [(4, .int (x4 + 1)), (2, .int x4), (3, .int (x3 + p6)), (0, g_r Y 59), (1, .int x1)]) rfl ?_
            refine g_goto C dX12_heavy_117 (tgt := 35) (by decide) ?_
            refine g_sub [3, 4, 1, 2, 0] (lv' := [(0, g_r Y 59), (1, .int x1), (2, .int x4), (3, .int (x3 + p6)), (4, .int (x4 + 1))]) rfl ?_
            exact ih x1 x4 (x3 + p6) (x4 + 1) M h
theorem r_X12_heavy_35 {p : Int32 × g_M} {k120 : Int32 → Int32 → Int32 → g_M → Option (Int32 × g_M)} (hk120 : ∀ (x1 : Int32) (x2 : Int32) (x3 : Int32) (M : g_M), k120 x1 x2 x3 M = some p → g_fr [63] [] M p.2) (n : Nat) : ∀ (x1 : Int32) (x2 : Int32) (x3 : Int32) (x4 : Int32) (M : g_M), g_lp4 (F_X12_heavy_35 k120) n x1 x2 x3 x4 M = some p → g_fr [63] [] M p.2 := by
  induction n with
  | zero => intro x1 x2 x3 x4 M h; exact (g_nn h).elim
  | succ n ih =>
    intro x1 x2 x3 x4 M h
    have h : F_X12_heavy_35 k120 (g_lp4 (F_X12_heavy_35 k120) n) x1 x2 x3 x4 M = some p := h
    generalize g_lp4 (F_X12_heavy_35 k120) n = k at h ih
    unfold F_X12_heavy_35 at h
    have hf := g_fr.rfl (S := [63]) (T := []) (M := M)
    obtain ⟨v3, -, h⟩ := g_bind h
    rcases g_ifs h with h | h
    · exact hf.trans (hk120 x1 x2 x3 M h)
    · obtain ⟨v4, -, h⟩ := g_bind h
      rcases g_ifs h with h | h
      · obtain ⟨v5, -, h⟩ := g_bind h
        obtain ⟨p6, -, h⟩ := g_bind h
        rcases g_ifs h with h | h
        · exact hf.trans (ih x1 x4 (x3 + p6) (x4 + 1) M h)
        · obtain ⟨v7, -, h⟩ := g_bind h
          obtain ⟨p8, -, h⟩ := g_bind h
          obtain ⟨v9, -, h⟩ := g_bind h
          obtain ⟨p10, -, h⟩ := g_bind h
          rcases g_ifs h with h | h
          · exact hf.trans (ih x1 x2 (x3 + p6) (x4 + 1) M h)
          · exact hf.trans (ih x1 x4 (x3 + p6) (x4 + 1) M h)
      · exact hf.trans (ih x1 x2 x3 (x4 + 1) M h)
def f_X12_heavy (x1 : Int32) (M : g_M) : Option (Int32 × g_M) :=
  (f_X12_in x1 0 2 M).bind fun p1 => (if p1 = 0 then ((f_X12_finding 0 M).bind fun p14 => some (p14.1, p14.2)) else ((f_X12_all M).bind fun p2 => (if p2 = 0 then ((f_X12_finding 3 M).bind fun p13 => some (p13.1, p13.2)) else (g_lp4 (F_X12_heavy_35 (fun (x1 : Int32) (x2 : Int32) (x3 : Int32) (M : g_M) => (if x1 = 0 then ((g_ld M 60 1208 (30 + x2)).bind fun v11 => (f_X12_many v11 M).bind fun p12 => some (p12, M)) else ((if x1 = 1 then (some (x2, M)) else (some (x3, M))))))) 20000000 x1 (-1) 0 0 M))))
set_option maxRecDepth 100000 in
theorem m_X12_heavy {l : Launch} {Y : g_Y} {x1 : Int32} {M : g_M} {p : Int32 × g_M} (h : f_X12_heavy x1 M = some p) : g_R l Y (1) yX12_heavy cX12_heavy 5 (some .int) [g_r Y 59, .int x1] M (some (.int p.1)) p.2 := by
  unfold f_X12_heavy at h
  refine g_R_of kP_X12 rfl (Nat.le_of_ble_eq_true rfl) (fun X C E => ?_)
  show g_G 5 X Y 0 [(0, g_r Y 59), (1, .int x1)] [] M
  refine g_iload_n C 1 dX12_heavy_0 (q := 1) rfl rfl rfl ?_
  refine g_iconst C (v := 0) dX12_heavy_1 (q := 2) rfl (by decide) ?_
  refine g_iconst C (v := 2) dX12_heavy_2 (q := 3) rfl (by decide) ?_
  obtain ⟨p1, hp1, h⟩ := g_bind h
  refine g_callS C (as := [.int x1, .int 0, .int 2]) (st := []) (m_X12_in hp1) (g_hR (by decide)) (by decide) kM_X12_64 kT_X12_in kN_X12 kC_X12_in kD_X12_in rfl (Nat.le_of_ble_eq_true rfl) dX12_heavy_3 (q := 6) rfl ?_
  show g_G 5 X Y 6 [(0, g_r Y 59), (1, .int x1)] [.int p1] M
  have hif := g_if h
  clear h
  refine g_if_ne C dX12_heavy_6 (q := 9) (tgt := 15) rfl (by decide) (fun c => ?_) (fun c => ?_)
  · have h := hif.2 c
    clear hif
    refine g_aload_n C 0 dX12_heavy_15 (q := 16) rfl rfl rfl ?_
    obtain ⟨p2, hp2, h⟩ := g_bind h
    refine g_callV C (k := 59) (as := []) (st := []) (m_X12_all hp2) (g_hR (by decide)) (by decide) (by decide) (gc_59 Y _ _) rfl kM_X12_181 kI_X12_all kS_X12_all kN_X12 kC_X12_all kD_X12_all rfl (Nat.le_of_ble_eq_true rfl) dX12_heavy_16 (q := 19) rfl ?_
    show g_G 5 X Y 19 [(0, g_r Y 59), (1, .int x1)] [.int p2] M
    have hif := g_if h
    clear h
    refine g_if_ne C dX12_heavy_19 (q := 22) (tgt := 28) rfl (by decide) (fun c => ?_) (fun c => ?_)
    · have h := hif.2 c
      clear hif
      refine g_iconst C (v := (-1)) dX12_heavy_28 (q := 29) rfl (by decide) ?_
      refine g_istore_n C dX12_heavy_29 (q := 30) rfl rfl (by decide) (lv' := [(2, .int (-1)), (0, g_r Y 59), (1, .int x1)]) rfl ?_
      refine g_iconst C (v := 0) dX12_heavy_30 (q := 31) rfl (by decide) ?_
      refine g_istore_n C dX12_heavy_31 (q := 32) rfl rfl (by decide) (lv' := [(3, .int 0), (2, .int (-1)), (0, g_r Y 59), (1, .int x1)]) rfl ?_
      refine g_iconst C (v := 0) dX12_heavy_32 (q := 33) rfl (by decide) ?_
      refine g_istore C dX12_heavy_33 (q := 35) rfl (by decide) (lv' := [(4, .int 0), (3, .int 0), (2, .int (-1)), (0, g_r Y 59), (1, .int x1)]) rfl ?_
      refine g_sub [3, 4, 2, 1, 0] (lv' := [(0, g_r Y 59), (1, .int x1), (2, .int (-1)), (3, .int 0), (4, .int 0)]) rfl ?_
      refine t_X12_heavy_35 C E ?_ 20000000 x1 (-1) 0 0 M h
      · intro x1 x2 x3 M h
        try dsimp only at h
        refine g_iload_n C 1 dX12_heavy_120 (q := 121) rfl rfl rfl ?_
        have hif := g_if h
        clear h
        refine g_if_ne C dX12_heavy_121 (q := 124) (tgt := 139) rfl (by decide) (fun c => ?_) (fun c => ?_)
        · have h := hif.2 c
          clear hif
          refine g_iload_n C 1 dX12_heavy_139 (q := 140) rfl rfl rfl ?_
          refine g_iconst C (v := 1) dX12_heavy_140 (q := 141) rfl (by decide) ?_
          have hif := g_if h
          clear h
          refine g_icmp_ne C dX12_heavy_141 (q := 144) (tgt := 148) rfl (by decide) (fun c => ?_) (fun c => ?_)
          · have h := hif.2 c
            clear hif
            refine g_iload_n C 3 dX12_heavy_148 (q := 149) rfl rfl rfl ?_
            obtain rfl := Option.some.inj h
            exact g_iret C E dX12_heavy_149
          · have h := hif.1 c
            clear hif
            refine g_iload_n C 2 dX12_heavy_144 (q := 145) rfl rfl rfl ?_
            refine g_goto C dX12_heavy_145 (tgt := 149) (by decide) ?_
            obtain rfl := Option.some.inj h
            exact g_iret C E dX12_heavy_149
        · have h := hif.1 c
          clear hif
          refine g_aload_n C 0 dX12_heavy_124 (q := 125) rfl rfl rfl ?_
          refine g_get C (k := 59) (i := 0) (by decide) (gc_59 Y _ _) rfl kU_X12 (by decide) kF_X12_7 rfl dX12_heavy_125 (q := 128) rfl ?_
          refine g_bipush C (v := 30) dX12_heavy_128 (q := 130) rfl (by decide) ?_
          refine g_iload_n C 2 dX12_heavy_130 (q := 131) rfl rfl rfl ?_
          refine g_iadd C dX12_heavy_131 (q := 132) rfl ?_
          obtain ⟨v11, hv11, h⟩ := g_bind h
          refine g_iald C (k := 60) (n := 1208) (by decide) (gc_60 Y _ _) hv11 dX12_heavy_132 (q := 133) rfl ?_
          obtain ⟨p12, hp12, h⟩ := g_bind h
          refine g_callS C (as := [.int v11]) (st := []) (m_X12_many hp12) (g_hR (by decide)) (by decide) kM_X12_147 kT_X12_many kN_X12 kC_X12_many kD_X12_many rfl (Nat.le_of_ble_eq_true rfl) dX12_heavy_133 (q := 136) rfl ?_
          show g_G 5 X Y 136 [(0, g_r Y 59), (1, .int x1), (2, .int x2), (3, .int x3)] [.int p12] M
          refine g_goto C dX12_heavy_136 (tgt := 149) (by decide) ?_
          obtain rfl := Option.some.inj h
          exact g_iret C E dX12_heavy_149
    · have h := hif.1 c
      clear hif
      refine g_aload_n C 0 dX12_heavy_22 (q := 23) rfl rfl rfl ?_
      refine g_iconst C (v := 3) dX12_heavy_23 (q := 24) rfl (by decide) ?_
      obtain ⟨p13, hp13, h⟩ := g_bind h
      refine g_callV C (k := 59) (as := [.int 3]) (st := []) (m_X12_finding hp13) (g_hR (by decide)) (by decide) (by decide) (gc_59 Y _ _) rfl kM_X12_190 kI_X12_finding kS_X12_finding kN_X12 kC_X12_finding kD_X12_finding rfl (Nat.le_of_ble_eq_true rfl) dX12_heavy_24 (q := 27) rfl ?_
      show g_G 5 X Y 27 [(0, g_r Y 59), (1, .int x1)] [.int p13.1] p13.2
      obtain rfl := Option.some.inj h
      exact g_iret C E dX12_heavy_27
  · have h := hif.1 c
    clear hif
    refine g_aload_n C 0 dX12_heavy_9 (q := 10) rfl rfl rfl ?_
    refine g_iconst C (v := 0) dX12_heavy_10 (q := 11) rfl (by decide) ?_
    obtain ⟨p14, hp14, h⟩ := g_bind h
    refine g_callV C (k := 59) (as := [.int 0]) (st := []) (m_X12_finding hp14) (g_hR (by decide)) (by decide) (by decide) (gc_59 Y _ _) rfl kM_X12_190 kI_X12_finding kS_X12_finding kN_X12 kC_X12_finding kD_X12_finding rfl (Nat.le_of_ble_eq_true rfl) dX12_heavy_11 (q := 14) rfl ?_
    show g_G 5 X Y 14 [(0, g_r Y 59), (1, .int x1)] [.int p14.1] p14.2
    obtain rfl := Option.some.inj h
    exact g_iret C E dX12_heavy_14
theorem r_X12_heavy {x1 : Int32} {M : g_M} {p : Int32 × g_M} (h : f_X12_heavy x1 M = some p) : g_fr [63] [] M p.2 := by
  unfold f_X12_heavy at h
  have hf := g_fr.rfl (S := [63]) (T := []) (M := M)
  obtain ⟨p1, -, h⟩ := g_bind h
  rcases g_ifs h with h | h
  · obtain ⟨p14, hp14, h⟩ := g_bind h
    have hf := hf.trans ((r_X12_finding hp14).mono (by decide) (by decide))
    obtain rfl := Option.some.inj h
    exact hf
  · obtain ⟨p2, -, h⟩ := g_bind h
    rcases g_ifs h with h | h
    · obtain ⟨p13, hp13, h⟩ := g_bind h
      have hf := hf.trans ((r_X12_finding hp13).mono (by decide) (by decide))
      obtain rfl := Option.some.inj h
      exact hf
    · refine hf.trans (r_X12_heavy_35 ?_ 20000000 x1 (-1) 0 0 M h)
      · intro x1 x2 x3 M h
        try dsimp only at h
        have hf := g_fr.rfl (S := [63]) (T := []) (M := M)
        rcases g_ifs h with h | h
        · obtain ⟨v11, -, h⟩ := g_bind h
          obtain ⟨p12, -, h⟩ := g_bind h
          obtain rfl := Option.some.inj h
          exact hf
        · rcases g_ifs h with h | h
          · obtain rfl := Option.some.inj h
            exact hf
          · obtain rfl := Option.some.inj h
            exact hf
def f_X12_isSheet (x0 : Int32) (M : g_M) : Option (Int32) :=
  (f_X12_in x0 0 3 M).bind fun p1 => (g_bz p1).bind fun z2 => some z2
set_option maxRecDepth 100000 in
theorem m_X12_isSheet {l : Launch} {Y : g_Y} {x0 : Int32} {M : g_M} {p : Int32} (h : f_X12_isSheet x0 M = some p) : g_R l Y (1) yX12_isSheet cX12_isSheet 1 (some .boolean) [.int x0] M (some (.int p)) M := by
  unfold f_X12_isSheet at h
  refine g_R_of kP_X12 rfl (Nat.le_of_ble_eq_true rfl) (fun X C E => ?_)
  show g_G 1 X Y 0 [(0, .int x0)] [] M
  refine g_iload_n C 0 dX12_isSheet_0 (q := 1) rfl rfl rfl ?_
  refine g_iconst C (v := 0) dX12_isSheet_1 (q := 2) rfl (by decide) ?_
  refine g_iconst C (v := 3) dX12_isSheet_2 (q := 3) rfl (by decide) ?_
  obtain ⟨p1, hp1, h⟩ := g_bind h
  refine g_callS C (as := [.int x0, .int 0, .int 3]) (st := []) (m_X12_in hp1) (g_hR (by decide)) (by decide) kM_X12_64 kT_X12_in kN_X12 kC_X12_in kD_X12_in rfl (Nat.le_of_ble_eq_true rfl) dX12_isSheet_3 (q := 6) rfl ?_
  show g_G 1 X Y 6 [(0, .int x0)] [.int p1] M
  obtain ⟨z2, hz2, h⟩ := g_bind h
  obtain rfl := Option.some.inj h
  exact g_zret C hz2 E dX12_isSheet_6
def F_X12_judge_57 (k104 : Int32 → Int32 → Int32 → g_M → Option (Int32 × g_M)) (k : Int32 → Int32 → Int32 → g_M → Option (Int32 × g_M)) (x1 : Int32) (x3 : Int32) (x4 : Int32) (M : g_M) : Option (Int32 × g_M) :=
  (g_ld M 74 4 x1).bind fun v6 => (if v6 ≤ x4 then (k104 x1 x3 x4 M) else ((if x3 ≤ x4 then (k104 x1 x3 x4 M) else ((g_ldl M 75 160 ((40 * x1) + x4)).bind fun v7 => (f_X12_find 0 x4 M).bind fun p8 => (if (lg_cmp v7 (Int32.toInt64 p8)) = 0 then (k x1 x3 (x4 + 1) M) else (k104 x1 x3 x4 M))))))
set_option maxRecDepth 100000 in
theorem t_X12_judge_57 {l : Launch} {X : g_X} {Y : g_Y} {p : Int32 × g_M} {k104 : Int32 → Int32 → Int32 → g_M → Option (Int32 × g_M)} (C : g_C l (g_rm (5)) RX12 cX12_judge 5 X Y) (E : g_E (some .int) X Y (some (.int p.1)) p.2) (hk104 : ∀ (x1 : Int32) (x3 : Int32) (x4 : Int32) (M : g_M), k104 x1 x3 x4 M = some p → g_G 5 X Y 104 [(0, g_r Y 59), (1, .int x1), (3, .int x3), (4, .int x4)] [] M) (n : Nat) : ∀ (x1 : Int32) (x3 : Int32) (x4 : Int32) (M : g_M), g_lp3 (F_X12_judge_57 k104) n x1 x3 x4 M = some p → g_G 5 X Y 57 [(0, g_r Y 59), (1, .int x1), (3, .int x3), (4, .int x4)] [] M := by
  induction n with
  | zero => intro x1 x3 x4 M h; exact (g_nn h).elim
  | succ n ih =>
    intro x1 x3 x4 M h
    have h : F_X12_judge_57 k104 (g_lp3 (F_X12_judge_57 k104) n) x1 x3 x4 M = some p := h
    generalize g_lp3 (F_X12_judge_57 k104) n = k at h ih
    unfold F_X12_judge_57 at h
    refine g_iload C 3 dX12_judge_57 (q := 59) rfl rfl ?_
    refine g_aload_n C 0 dX12_judge_59 (q := 60) rfl rfl rfl ?_
    refine g_get C (k := 59) (i := 28) (by decide) (gc_59 Y _ _) rfl kU_X12 (by decide) kF_X12_53 rfl dX12_judge_60 (q := 63) rfl ?_
    refine g_iload_n C 1 dX12_judge_63 (q := 64) rfl rfl rfl ?_
    obtain ⟨v6, hv6, h⟩ := g_bind h
    refine g_iald C (k := 74) (n := 4) (by decide) (gc_74 Y _ _) hv6 dX12_judge_64 (q := 65) rfl ?_
    have hif := g_if h
    clear h
    refine g_icmp_ge C dX12_judge_65 (q := 68) (tgt := 104) rfl (by decide) (fun c => ?_) (fun c => ?_)
    · have h := hif.1 c
      clear hif
      refine g_sub [0, 1, 2, 3] (lv' := [(0, g_r Y 59), (1, .int x1), (3, .int x3), (4, .int x4)]) rfl ?_
      exact hk104 x1 x3 x4 M h
    · have h := hif.2 c
      clear hif
      refine g_iload C 3 dX12_judge_68 (q := 70) rfl rfl ?_
      refine g_iload_n C 2 dX12_judge_70 (q := 71) rfl rfl rfl ?_
      have hif := g_if h
      clear h
      refine g_icmp_ge C dX12_judge_71 (q := 74) (tgt := 104) rfl (by decide) (fun c => ?_) (fun c => ?_)
      · have h := hif.1 c
        clear hif
        refine g_sub [0, 1, 2, 3] (lv' := [(0, g_r Y 59), (1, .int x1), (3, .int x3), (4, .int x4)]) rfl ?_
        exact hk104 x1 x3 x4 M h
      · have h := hif.2 c
        clear hif
        refine g_aload_n C 0 dX12_judge_74 (q := 75) rfl rfl rfl ?_
        refine g_get C (k := 59) (i := 29) (by decide) (gc_59 Y _ _) rfl kU_X12 (by decide) kF_X12_56 rfl dX12_judge_75 (q := 78) rfl ?_
        refine g_bipush C (v := 40) dX12_judge_78 (q := 80) rfl (by decide) ?_
        refine g_iload_n C 1 dX12_judge_80 (q := 81) rfl rfl rfl ?_
        refine g_imul C dX12_judge_81 (q := 82) rfl ?_
        refine g_iload C 3 dX12_judge_82 (q := 84) rfl rfl ?_
        refine g_iadd C dX12_judge_84 (q := 85) rfl ?_
        obtain ⟨v7, hv7, h⟩ := g_bind h
        refine g_lald C (k := 75) (n := 160) (by decide) (gc_75 Y _ _) hv7 dX12_judge_85 (q := 86) rfl ?_
        refine g_aload_n C 0 dX12_judge_86 (q := 87) rfl rfl rfl ?_
        refine g_iconst C (v := 0) dX12_judge_87 (q := 88) rfl (by decide) ?_
        refine g_iload C 3 dX12_judge_88 (q := 90) rfl rfl ?_
        obtain ⟨p8, hp8, h⟩ := g_bind h
        refine g_callV C (k := 59) (as := [.int 0, .int x4]) (st := [.long v7]) (m_X12_find hp8) (g_hR (by decide)) (by decide) (by decide) (gc_59 Y _ _) rfl kM_X12_225 kI_X12_find kS_X12_find kN_X12 kC_X12_find kD_X12_find rfl (Nat.le_of_ble_eq_true rfl) dX12_judge_90 (q := 93) rfl ?_
        show g_G 5 X Y 93 [(0, g_r Y 59), (1, .int x1), (3, .int x3), (4, .int x4)] [.int p8, .long v7] M
        refine g_i2l C dX12_judge_93 (q := 94) rfl ?_
        refine g_lcmp C dX12_judge_94 (q := 95) rfl ?_
        have hif := g_if h
        clear h
        refine g_if_ne C dX12_judge_95 (q := 98) (tgt := 104) rfl (by decide) (fun c => ?_) (fun c => ?_)
        · have h := hif.2 c
          clear hif
          refine g_sub [0, 1, 2, 3] (lv' := [(0, g_r Y 59), (1, .int x1), (3, .int x3), (4, .int x4)]) rfl ?_
          exact hk104 x1 x3 x4 M h
        · have h := hif.1 c
          clear hif
          refine g_iinc C (k := 3) (v := x4 + 1) dX12_judge_98 (q := 101) rfl rfl rfl (by decide) (lv' := [(4, .int (x4 + 1)), (0, g_r Y 59), (1, .int x1), (3, .int x3)]) rfl ?_
          refine g_goto C dX12_judge_101 (tgt := 57) (by decide) ?_
          refine g_sub [1, 2, 3, 0] (lv' := [(0, g_r Y 59), (1, .int x1), (3, .int x3), (4, .int (x4 + 1))]) rfl ?_
          exact ih x1 x3 (x4 + 1) M h
theorem r_X12_judge_57 {p : Int32 × g_M} {k104 : Int32 → Int32 → Int32 → g_M → Option (Int32 × g_M)} (hk104 : ∀ (x1 : Int32) (x3 : Int32) (x4 : Int32) (M : g_M), k104 x1 x3 x4 M = some p → g_fr [63, 64, 68, 69] [] M p.2) (n : Nat) : ∀ (x1 : Int32) (x3 : Int32) (x4 : Int32) (M : g_M), g_lp3 (F_X12_judge_57 k104) n x1 x3 x4 M = some p → g_fr [63, 64, 68, 69] [] M p.2 := by
  induction n with
  | zero => intro x1 x3 x4 M h; exact (g_nn h).elim
  | succ n ih =>
    intro x1 x3 x4 M h
    have h : F_X12_judge_57 k104 (g_lp3 (F_X12_judge_57 k104) n) x1 x3 x4 M = some p := h
    generalize g_lp3 (F_X12_judge_57 k104) n = k at h ih
    unfold F_X12_judge_57 at h
    have hf := g_fr.rfl (S := [63, 64, 68, 69]) (T := []) (M := M)
    obtain ⟨v6, -, h⟩ := g_bind h
    rcases g_ifs h with h | h
    · exact hf.trans (hk104 x1 x3 x4 M h)
    · rcases g_ifs h with h | h
      · exact hf.trans (hk104 x1 x3 x4 M h)
      · obtain ⟨v7, -, h⟩ := g_bind h
        obtain ⟨p8, -, h⟩ := g_bind h
        rcases g_ifs h with h | h
        · exact hf.trans (ih x1 x3 (x4 + 1) M h)
        · exact hf.trans (hk104 x1 x3 x4 M h)
def f_X12_judge_104 (x1 : Int32) (x3 : Int32) (x4 : Int32) (M : g_M) : Option (Int32 × g_M) :=
  (if x4 = x3 then ((g_ld M 74 4 x1).bind fun v9 => (if x4 = v9 then (some (0, M)) else (some (1 + x4, M)))) else (some (1 + x4, M)))
set_option maxRecDepth 100000 in
theorem t_X12_judge_104 {l : Launch} {X : g_X} {Y : g_Y} {p : Int32 × g_M} (C : g_C l (g_rm (5)) RX12 cX12_judge 5 X Y) (E : g_E (some .int) X Y (some (.int p.1)) p.2) (x1 : Int32) (x3 : Int32) (x4 : Int32) (M : g_M) (h : f_X12_judge_104 x1 x3 x4 M = some p) : g_G 5 X Y 104 [(0, g_r Y 59), (1, .int x1), (3, .int x3), (4, .int x4)] [] M := by
  unfold f_X12_judge_104 at h
  refine g_iload C 3 dX12_judge_104 (q := 106) rfl rfl ?_
  refine g_iload_n C 2 dX12_judge_106 (q := 107) rfl rfl rfl ?_
  have hif := g_if h
  clear h
  refine g_icmp_ne C dX12_judge_107 (q := 110) (tgt := 125) rfl (by decide) (fun c => ?_) (fun c => ?_)
  · have h := hif.2 c
    clear hif
    refine g_iconst C (v := 1) dX12_judge_125 (q := 126) rfl (by decide) ?_
    refine g_iload C 3 dX12_judge_126 (q := 128) rfl rfl ?_
    refine g_iadd C dX12_judge_128 (q := 129) rfl ?_
    obtain rfl := Option.some.inj h
    exact g_iret C E dX12_judge_129
  · have h := hif.1 c
    clear hif
    refine g_iload C 3 dX12_judge_110 (q := 112) rfl rfl ?_
    refine g_aload_n C 0 dX12_judge_112 (q := 113) rfl rfl rfl ?_
    refine g_get C (k := 59) (i := 28) (by decide) (gc_59 Y _ _) rfl kU_X12 (by decide) kF_X12_53 rfl dX12_judge_113 (q := 116) rfl ?_
    refine g_iload_n C 1 dX12_judge_116 (q := 117) rfl rfl rfl ?_
    obtain ⟨v9, hv9, h⟩ := g_bind h
    refine g_iald C (k := 74) (n := 4) (by decide) (gc_74 Y _ _) hv9 dX12_judge_117 (q := 118) rfl ?_
    have hif := g_if h
    clear h
    refine g_icmp_ne C dX12_judge_118 (q := 121) (tgt := 125) rfl (by decide) (fun c => ?_) (fun c => ?_)
    · have h := hif.2 c
      clear hif
      refine g_iconst C (v := 1) dX12_judge_125 (q := 126) rfl (by decide) ?_
      refine g_iload C 3 dX12_judge_126 (q := 128) rfl rfl ?_
      refine g_iadd C dX12_judge_128 (q := 129) rfl ?_
      obtain rfl := Option.some.inj h
      exact g_iret C E dX12_judge_129
    · have h := hif.1 c
      clear hif
      refine g_iconst C (v := 0) dX12_judge_121 (q := 122) rfl (by decide) ?_
      refine g_goto C dX12_judge_122 (tgt := 129) (by decide) ?_
      obtain rfl := Option.some.inj h
      exact g_iret C E dX12_judge_129
theorem r_X12_judge_104 {p : Int32 × g_M} (x1 : Int32) (x3 : Int32) (x4 : Int32) (M : g_M) (h : f_X12_judge_104 x1 x3 x4 M = some p) : g_fr [63, 64, 68, 69] [] M p.2 := by
  unfold f_X12_judge_104 at h
  have hf := g_fr.rfl (S := [63, 64, 68, 69]) (T := []) (M := M)
  rcases g_ifs h with h | h
  · obtain ⟨v9, -, h⟩ := g_bind h
    rcases g_ifs h with h | h
    · obtain rfl := Option.some.inj h
      exact hf
    · obtain rfl := Option.some.inj h
      exact hf
  · obtain rfl := Option.some.inj h
    exact hf
def f_X12_judge (x1 : Int32) (x2 : Int32) (M : g_M) : Option (Int32 × g_M) :=
  (f_X12_isSheet x1 M).bind fun p1 => (if p1 = 0 then ((f_X12_finding 0 M).bind fun p12 => some (p12.1, p12.2)) else ((g_ld M 73 4 x1).bind fun v2 => (if v2 = 0 then ((f_X12_finding 5 M).bind fun p11 => some (p11.1, p11.2)) else ((f_X12_isHanging x2 M).bind fun p3 => (if p3 = 0 then ((f_X12_finding 0 M).bind fun p10 => some (p10.1, p10.2)) else ((f_X12_findOpens x2 M).bind fun p4 => (f_X12_find 0 (-1) p4).bind fun p5 => g_lp3 (F_X12_judge_57 (fun (x1 : Int32) (x3 : Int32) (x4 : Int32) (M : g_M) => f_X12_judge_104 x1 x3 x4 M)) 20000000 x1 p5 0 p4))))))
set_option maxRecDepth 100000 in
theorem m_X12_judge {l : Launch} {Y : g_Y} {x1 : Int32} {x2 : Int32} {M : g_M} {p : Int32 × g_M} (h : f_X12_judge x1 x2 M = some p) : g_R l Y (5) yX12_judge cX12_judge 5 (some .int) [g_r Y 59, .int x1, .int x2] M (some (.int p.1)) p.2 := by
  unfold f_X12_judge at h
  refine g_R_of kP_X12 rfl (Nat.le_of_ble_eq_true rfl) (fun X C E => ?_)
  show g_G 5 X Y 0 [(0, g_r Y 59), (1, .int x1), (2, .int x2)] [] M
  refine g_iload_n C 1 dX12_judge_0 (q := 1) rfl rfl rfl ?_
  obtain ⟨p1, hp1, h⟩ := g_bind h
  refine g_callS C (as := [.int x1]) (st := []) (m_X12_isSheet hp1) (g_hR (by decide)) (by decide) kM_X12_300 kT_X12_isSheet kN_X12 kC_X12_isSheet kD_X12_isSheet rfl (Nat.le_of_ble_eq_true rfl) dX12_judge_1 (q := 4) rfl ?_
  show g_G 5 X Y 4 [(0, g_r Y 59), (1, .int x1), (2, .int x2)] [.int p1] M
  have hif := g_if h
  clear h
  refine g_if_ne C dX12_judge_4 (q := 7) (tgt := 13) rfl (by decide) (fun c => ?_) (fun c => ?_)
  · have h := hif.2 c
    clear hif
    refine g_aload_n C 0 dX12_judge_13 (q := 14) rfl rfl rfl ?_
    refine g_get C (k := 59) (i := 27) (by decide) (gc_59 Y _ _) rfl kU_X12 (by decide) kF_X12_50 rfl dX12_judge_14 (q := 17) rfl ?_
    refine g_iload_n C 1 dX12_judge_17 (q := 18) rfl rfl rfl ?_
    obtain ⟨v2, hv2, h⟩ := g_bind h
    refine g_iald C (k := 73) (n := 4) (by decide) (gc_73 Y _ _) hv2 dX12_judge_18 (q := 19) rfl ?_
    have hif := g_if h
    clear h
    refine g_if_ne C dX12_judge_19 (q := 22) (tgt := 28) rfl (by decide) (fun c => ?_) (fun c => ?_)
    · have h := hif.2 c
      clear hif
      refine g_aload_n C 0 dX12_judge_28 (q := 29) rfl rfl rfl ?_
      refine g_iload_n C 2 dX12_judge_29 (q := 30) rfl rfl rfl ?_
      obtain ⟨p3, hp3, h⟩ := g_bind h
      refine g_callV C (k := 59) (as := [.int x2]) (st := []) (m_X12_isHanging hp3) (g_hR (by decide)) (by decide) (by decide) (gc_59 Y _ _) rfl kM_X12_242 kI_X12_isHanging kS_X12_isHanging kN_X12 kC_X12_isHanging kD_X12_isHanging rfl (Nat.le_of_ble_eq_true rfl) dX12_judge_30 (q := 33) rfl ?_
      show g_G 5 X Y 33 [(0, g_r Y 59), (1, .int x1), (2, .int x2)] [.int p3] M
      have hif := g_if h
      clear h
      refine g_if_ne C dX12_judge_33 (q := 36) (tgt := 42) rfl (by decide) (fun c => ?_) (fun c => ?_)
      · have h := hif.2 c
        clear hif
        refine g_aload_n C 0 dX12_judge_42 (q := 43) rfl rfl rfl ?_
        refine g_iload_n C 2 dX12_judge_43 (q := 44) rfl rfl rfl ?_
        obtain ⟨p4, hp4, h⟩ := g_bind h
        refine g_callV C (k := 59) (as := [.int x2]) (st := []) (m_X12_findOpens hp4) (g_hR (by decide)) (by decide) (by decide) (gc_59 Y _ _) rfl kM_X12_264 kI_X12_findOpens kS_X12_findOpens kN_X12 kC_X12_findOpens kD_X12_findOpens rfl (Nat.le_of_ble_eq_true rfl) dX12_judge_44 (q := 47) rfl ?_
        show g_G 5 X Y 47 [(0, g_r Y 59), (1, .int x1), (2, .int x2)] [] p4
        refine g_aload_n C 0 dX12_judge_47 (q := 48) rfl rfl rfl ?_
        refine g_iconst C (v := 0) dX12_judge_48 (q := 49) rfl (by decide) ?_
        refine g_iconst C (v := (-1)) dX12_judge_49 (q := 50) rfl (by decide) ?_
        obtain ⟨p5, hp5, h⟩ := g_bind h
        refine g_callV C (k := 59) (as := [.int 0, .int (-1)]) (st := []) (m_X12_find hp5) (g_hR (by decide)) (by decide) (by decide) (gc_59 Y _ _) rfl kM_X12_225 kI_X12_find kS_X12_find kN_X12 kC_X12_find kD_X12_find rfl (Nat.le_of_ble_eq_true rfl) dX12_judge_50 (q := 53) rfl ?_
        show g_G 5 X Y 53 [(0, g_r Y 59), (1, .int x1), (2, .int x2)] [.int p5] p4
        refine g_istore_n C dX12_judge_53 (q := 54) rfl rfl (by decide) (lv' := [(3, .int p5), (0, g_r Y 59), (1, .int x1), (2, .int x2)]) rfl ?_
        refine g_iconst C (v := 0) dX12_judge_54 (q := 55) rfl (by decide) ?_
        refine g_istore C dX12_judge_55 (q := 57) rfl (by decide) (lv' := [(4, .int 0), (3, .int p5), (0, g_r Y 59), (1, .int x1), (2, .int x2)]) rfl ?_
        refine g_sub [2, 3, 1, 0] (lv' := [(0, g_r Y 59), (1, .int x1), (3, .int p5), (4, .int 0)]) rfl ?_
        refine t_X12_judge_57 C E ?_ 20000000 x1 p5 0 p4 h
        · intro x1 x3 x4 M h
          try dsimp only at h
          refine g_sub [0, 1, 2, 3] (lv' := [(0, g_r Y 59), (1, .int x1), (3, .int x3), (4, .int x4)]) rfl ?_
          exact t_X12_judge_104 C E x1 x3 x4 M h
      · have h := hif.1 c
        clear hif
        refine g_aload_n C 0 dX12_judge_36 (q := 37) rfl rfl rfl ?_
        refine g_iconst C (v := 0) dX12_judge_37 (q := 38) rfl (by decide) ?_
        obtain ⟨p10, hp10, h⟩ := g_bind h
        refine g_callV C (k := 59) (as := [.int 0]) (st := []) (m_X12_finding hp10) (g_hR (by decide)) (by decide) (by decide) (gc_59 Y _ _) rfl kM_X12_190 kI_X12_finding kS_X12_finding kN_X12 kC_X12_finding kD_X12_finding rfl (Nat.le_of_ble_eq_true rfl) dX12_judge_38 (q := 41) rfl ?_
        show g_G 5 X Y 41 [(0, g_r Y 59), (1, .int x1), (2, .int x2)] [.int p10.1] p10.2
        obtain rfl := Option.some.inj h
        exact g_iret C E dX12_judge_41
    · have h := hif.1 c
      clear hif
      refine g_aload_n C 0 dX12_judge_22 (q := 23) rfl rfl rfl ?_
      refine g_iconst C (v := 5) dX12_judge_23 (q := 24) rfl (by decide) ?_
      obtain ⟨p11, hp11, h⟩ := g_bind h
      refine g_callV C (k := 59) (as := [.int 5]) (st := []) (m_X12_finding hp11) (g_hR (by decide)) (by decide) (by decide) (gc_59 Y _ _) rfl kM_X12_190 kI_X12_finding kS_X12_finding kN_X12 kC_X12_finding kD_X12_finding rfl (Nat.le_of_ble_eq_true rfl) dX12_judge_24 (q := 27) rfl ?_
      show g_G 5 X Y 27 [(0, g_r Y 59), (1, .int x1), (2, .int x2)] [.int p11.1] p11.2
      obtain rfl := Option.some.inj h
      exact g_iret C E dX12_judge_27
  · have h := hif.1 c
    clear hif
    refine g_aload_n C 0 dX12_judge_7 (q := 8) rfl rfl rfl ?_
    refine g_iconst C (v := 0) dX12_judge_8 (q := 9) rfl (by decide) ?_
    obtain ⟨p12, hp12, h⟩ := g_bind h
    refine g_callV C (k := 59) (as := [.int 0]) (st := []) (m_X12_finding hp12) (g_hR (by decide)) (by decide) (by decide) (gc_59 Y _ _) rfl kM_X12_190 kI_X12_finding kS_X12_finding kN_X12 kC_X12_finding kD_X12_finding rfl (Nat.le_of_ble_eq_true rfl) dX12_judge_9 (q := 12) rfl ?_
    show g_G 5 X Y 12 [(0, g_r Y 59), (1, .int x1), (2, .int x2)] [.int p12.1] p12.2
    obtain rfl := Option.some.inj h
    exact g_iret C E dX12_judge_12
theorem r_X12_judge {x1 : Int32} {x2 : Int32} {M : g_M} {p : Int32 × g_M} (h : f_X12_judge x1 x2 M = some p) : g_fr [63, 64, 68, 69] [] M p.2 := by
  unfold f_X12_judge at h
  have hf := g_fr.rfl (S := [63, 64, 68, 69]) (T := []) (M := M)
  obtain ⟨p1, -, h⟩ := g_bind h
  rcases g_ifs h with h | h
  · obtain ⟨p12, hp12, h⟩ := g_bind h
    have hf := hf.trans ((r_X12_finding hp12).mono (by decide) (by decide))
    obtain rfl := Option.some.inj h
    exact hf
  · obtain ⟨v2, -, h⟩ := g_bind h
    rcases g_ifs h with h | h
    · obtain ⟨p11, hp11, h⟩ := g_bind h
      have hf := hf.trans ((r_X12_finding hp11).mono (by decide) (by decide))
      obtain rfl := Option.some.inj h
      exact hf
    · obtain ⟨p3, -, h⟩ := g_bind h
      rcases g_ifs h with h | h
      · obtain ⟨p10, hp10, h⟩ := g_bind h
        have hf := hf.trans ((r_X12_finding hp10).mono (by decide) (by decide))
        obtain rfl := Option.some.inj h
        exact hf
      · obtain ⟨p4, hp4, h⟩ := g_bind h
        have hf := hf.trans ((r_X12_findOpens hp4).mono (by decide) (by decide))
        obtain ⟨p5, -, h⟩ := g_bind h
        refine hf.trans (r_X12_judge_57 ?_ 20000000 x1 p5 0 p4 h)
        · intro x1 x3 x4 M h
          try dsimp only at h
          have hf := g_fr.rfl (S := [63, 64, 68, 69]) (T := []) (M := M)
          exact hf.trans (r_X12_judge_104 x1 x3 x4 M h)
def f_X12_sheet_29 (M : g_M) : Option (Int32 × g_M) :=
  (f_X12_finding 0 M).bind fun p2 => some (p2.1, p2.2)
set_option maxRecDepth 100000 in
theorem t_X12_sheet_29 {l : Launch} {X : g_X} {Y : g_Y} {p : Int32 × g_M} (C : g_C l (g_rm (2)) RX12 cX12_sheet 5 X Y) (E : g_E (some .int) X Y (some (.int p.1)) p.2) (M : g_M) (h : f_X12_sheet_29 M = some p) : g_G 5 X Y 29 [(0, g_r Y 59)] [] M := by
  unfold f_X12_sheet_29 at h
  refine g_aload_n C 0 dX12_sheet_29 (q := 30) rfl rfl rfl ?_
  refine g_iconst C (v := 0) dX12_sheet_30 (q := 31) rfl (by decide) ?_
  obtain ⟨p2, hp2, h⟩ := g_bind h
  refine g_callV C (k := 59) (as := [.int 0]) (st := []) (m_X12_finding hp2) (g_hR (by decide)) (by decide) (by decide) (gc_59 Y _ _) rfl kM_X12_190 kI_X12_finding kS_X12_finding kN_X12 kC_X12_finding kD_X12_finding rfl (Nat.le_of_ble_eq_true rfl) dX12_sheet_31 (q := 34) rfl ?_
  show g_G 5 X Y 34 [(0, g_r Y 59)] [.int p2.1] p2.2
  obtain rfl := Option.some.inj h
  exact g_iret C E dX12_sheet_34
theorem r_X12_sheet_29 {p : Int32 × g_M} (M : g_M) (h : f_X12_sheet_29 M = some p) : g_fr [63, 73, 74, 75] [] M p.2 := by
  unfold f_X12_sheet_29 at h
  have hf := g_fr.rfl (S := [63, 73, 74, 75]) (T := []) (M := M)
  obtain ⟨p2, hp2, h⟩ := g_bind h
  have hf := hf.trans ((r_X12_finding hp2).mono (by decide) (by decide))
  obtain rfl := Option.some.inj h
  exact hf
def F_X12_sheet_83 (k109 : Int32 → g_M → Option (Int32 × g_M)) (k : Int32 → Int32 → g_M → Option (Int32 × g_M)) (x1 : Int32) (x4 : Int32) (M : g_M) : Option (Int32 × g_M) :=
  (if 40 ≤ x4 then (k109 x1 M) else ((g_stl M 75 160 ((40 * x1) + x4) 0).bind fun M5 => k x1 (x4 + 1) M5))
set_option maxRecDepth 100000 in
theorem t_X12_sheet_83 {l : Launch} {X : g_X} {Y : g_Y} {p : Int32 × g_M} {k109 : Int32 → g_M → Option (Int32 × g_M)} (C : g_C l (g_rm (2)) RX12 cX12_sheet 5 X Y) (E : g_E (some .int) X Y (some (.int p.1)) p.2) (hk109 : ∀ (x1 : Int32) (M : g_M), k109 x1 M = some p → g_G 5 X Y 109 [(0, g_r Y 59), (1, .int x1)] [] M) (n : Nat) : ∀ (x1 : Int32) (x4 : Int32) (M : g_M), g_lp2 (F_X12_sheet_83 k109) n x1 x4 M = some p → g_G 5 X Y 83 [(0, g_r Y 59), (1, .int x1), (4, .int x4)] [] M := by
  induction n with
  | zero => intro x1 x4 M h; exact (g_nn h).elim
  | succ n ih =>
    intro x1 x4 M h
    have h : F_X12_sheet_83 k109 (g_lp2 (F_X12_sheet_83 k109) n) x1 x4 M = some p := h
    generalize g_lp2 (F_X12_sheet_83 k109) n = k at h ih
    unfold F_X12_sheet_83 at h
    refine g_iload C 2 dX12_sheet_83 (q := 85) rfl rfl ?_
    refine g_bipush C (v := 40) dX12_sheet_85 (q := 87) rfl (by decide) ?_
    have hif := g_if h
    clear h
    refine g_icmp_ge C dX12_sheet_87 (q := 90) (tgt := 109) rfl (by decide) (fun c => ?_) (fun c => ?_)
    · have h := hif.1 c
      clear hif
      refine g_sub [0, 1] (lv' := [(0, g_r Y 59), (1, .int x1)]) rfl ?_
      exact hk109 x1 M h
    · have h := hif.2 c
      clear hif
      refine g_aload_n C 0 dX12_sheet_90 (q := 91) rfl rfl rfl ?_
      refine g_get C (k := 59) (i := 29) (by decide) (gc_59 Y _ _) rfl kU_X12 (by decide) kF_X12_56 rfl dX12_sheet_91 (q := 94) rfl ?_
      refine g_bipush C (v := 40) dX12_sheet_94 (q := 96) rfl (by decide) ?_
      refine g_iload_n C 1 dX12_sheet_96 (q := 97) rfl rfl rfl ?_
      refine g_imul C dX12_sheet_97 (q := 98) rfl ?_
      refine g_iload C 2 dX12_sheet_98 (q := 100) rfl rfl ?_
      refine g_iadd C dX12_sheet_100 (q := 101) rfl ?_
      refine g_lconst C (v := 0) dX12_sheet_101 (q := 102) rfl (by decide) ?_
      obtain ⟨M5, hM5, h⟩ := g_bind h
      refine g_last C (k := 75) (n := 160) (by decide) (fun b => gc_75 Y _ b) hM5 dX12_sheet_102 (q := 103) rfl ?_
      refine g_iinc C (k := 2) (v := x4 + 1) dX12_sheet_103 (q := 106) rfl rfl rfl (by decide) (lv' := [(4, .int (x4 + 1)), (0, g_r Y 59), (1, .int x1)]) rfl ?_
      refine g_goto C dX12_sheet_106 (tgt := 83) (by decide) ?_
      refine g_sub [1, 2, 0] (lv' := [(0, g_r Y 59), (1, .int x1), (4, .int (x4 + 1))]) rfl ?_
      exact ih x1 (x4 + 1) M5 h
theorem r_X12_sheet_83 {p : Int32 × g_M} {k109 : Int32 → g_M → Option (Int32 × g_M)} (hk109 : ∀ (x1 : Int32) (M : g_M), k109 x1 M = some p → g_fr [63, 73, 74, 75] [] M p.2) (n : Nat) : ∀ (x1 : Int32) (x4 : Int32) (M : g_M), g_lp2 (F_X12_sheet_83 k109) n x1 x4 M = some p → g_fr [63, 73, 74, 75] [] M p.2 := by
  induction n with
  | zero => intro x1 x4 M h; exact (g_nn h).elim
  | succ n ih =>
    intro x1 x4 M h
    have h : F_X12_sheet_83 k109 (g_lp2 (F_X12_sheet_83 k109) n) x1 x4 M = some p := h
    generalize g_lp2 (F_X12_sheet_83 k109) n = k at h ih
    unfold F_X12_sheet_83 at h
    have hf := g_fr.rfl (S := [63, 73, 74, 75]) (T := []) (M := M)
    rcases g_ifs h with h | h
    · exact hf.trans (hk109 x1 M h)
    · obtain ⟨M5, hM5, h⟩ := g_bind h
      have hf := hf.stl hM5 (by decide)
      exact hf.trans (ih x1 (x4 + 1) M5 h)
def f_X12_sheet_35 (x1 : Int32) (x2 : Int32) (x3 : Int32) (M : g_M) : Option (Int32 × g_M) :=
  (if 0 ≤ x3 then ((if x3 ≤ 40 then ((g_st M 73 4 x1 x2).bind fun M3 => (if x2 = 0 then ((g_st M3 74 4 x1 0).bind fun M7 => g_lp2 (F_X12_sheet_83 (fun (x1 : Int32) (M : g_M) => (g_ld M 74 4 x1).bind fun v8 => some (v8, M))) 20000000 x1 0 M7) else ((g_st M3 74 4 x1 x3).bind fun M4 => g_lp2 (F_X12_sheet_83 (fun (x1 : Int32) (M : g_M) => (g_ld M 74 4 x1).bind fun v6 => some (v6, M))) 20000000 x1 0 M4))) else ((f_X12_finding 0 M).bind fun p9 => some (p9.1, p9.2)))) else ((f_X12_finding 6 M).bind fun p10 => some (p10.1, p10.2)))
set_option maxRecDepth 100000 in
theorem t_X12_sheet_35 {l : Launch} {X : g_X} {Y : g_Y} {p : Int32 × g_M} (C : g_C l (g_rm (2)) RX12 cX12_sheet 5 X Y) (E : g_E (some .int) X Y (some (.int p.1)) p.2) (x1 : Int32) (x2 : Int32) (x3 : Int32) (M : g_M) (h : f_X12_sheet_35 x1 x2 x3 M = some p) : g_G 5 X Y 35 [(0, g_r Y 59), (1, .int x1), (2, .int x2), (3, .int x3)] [] M := by
  unfold f_X12_sheet_35 at h
  refine g_iload_n C 3 dX12_sheet_35 (q := 36) rfl rfl rfl ?_
  have hif := g_if h
  clear h
  refine g_if_ge C dX12_sheet_36 (q := 39) (tgt := 46) rfl (by decide) (fun c => ?_) (fun c => ?_)
  · have h := hif.1 c
    clear hif
    refine g_iload_n C 3 dX12_sheet_46 (q := 47) rfl rfl rfl ?_
    refine g_bipush C (v := 40) dX12_sheet_47 (q := 49) rfl (by decide) ?_
    have hif := g_if h
    clear h
    refine g_icmp_le C dX12_sheet_49 (q := 52) (tgt := 58) rfl (by decide) (fun c => ?_) (fun c => ?_)
    · have h := hif.1 c
      clear hif
      refine g_aload_n C 0 dX12_sheet_58 (q := 59) rfl rfl rfl ?_
      refine g_get C (k := 59) (i := 27) (by decide) (gc_59 Y _ _) rfl kU_X12 (by decide) kF_X12_50 rfl dX12_sheet_59 (q := 62) rfl ?_
      refine g_iload_n C 1 dX12_sheet_62 (q := 63) rfl rfl rfl ?_
      refine g_iload_n C 2 dX12_sheet_63 (q := 64) rfl rfl rfl ?_
      obtain ⟨M3, hM3, h⟩ := g_bind h
      refine g_iast C (k := 73) (n := 4) (by decide) (fun a => gc_73 Y a _) hM3 dX12_sheet_64 (q := 65) rfl ?_
      refine g_aload_n C 0 dX12_sheet_65 (q := 66) rfl rfl rfl ?_
      refine g_get C (k := 59) (i := 28) (by decide) (gc_59 Y _ _) rfl kU_X12 (by decide) kF_X12_53 rfl dX12_sheet_66 (q := 69) rfl ?_
      refine g_iload_n C 1 dX12_sheet_69 (q := 70) rfl rfl rfl ?_
      refine g_iload_n C 2 dX12_sheet_70 (q := 71) rfl rfl rfl ?_
      have hif := g_if h
      clear h
      refine g_if_ne C dX12_sheet_71 (q := 74) (tgt := 78) rfl (by decide) (fun c => ?_) (fun c => ?_)
      · have h := hif.2 c
        clear hif
        refine g_iload_n C 3 dX12_sheet_78 (q := 79) rfl rfl rfl ?_
        obtain ⟨M4, hM4, h⟩ := g_bind h
        refine g_iast C (k := 74) (n := 4) (by decide) (fun a => gc_74 Y a _) hM4 dX12_sheet_79 (q := 80) rfl ?_
        refine g_iconst C (v := 0) dX12_sheet_80 (q := 81) rfl (by decide) ?_
        refine g_istore C dX12_sheet_81 (q := 83) rfl (by decide) (lv' := [(4, .int 0), (0, g_r Y 59), (1, .int x1), (2, .int x2), (3, .int x3)]) rfl ?_
        refine g_sub [1, 2, 0] (lv' := [(0, g_r Y 59), (1, .int x1), (4, .int 0)]) rfl ?_
        refine t_X12_sheet_83 C E ?_ 20000000 x1 0 M4 h
        · intro x1 M h
          try dsimp only at h
          refine g_aload_n C 0 dX12_sheet_109 (q := 110) rfl rfl rfl ?_
          refine g_get C (k := 59) (i := 28) (by decide) (gc_59 Y _ _) rfl kU_X12 (by decide) kF_X12_53 rfl dX12_sheet_110 (q := 113) rfl ?_
          refine g_iload_n C 1 dX12_sheet_113 (q := 114) rfl rfl rfl ?_
          obtain ⟨v6, hv6, h⟩ := g_bind h
          refine g_iald C (k := 74) (n := 4) (by decide) (gc_74 Y _ _) hv6 dX12_sheet_114 (q := 115) rfl ?_
          obtain rfl := Option.some.inj h
          exact g_iret C E dX12_sheet_115
      · have h := hif.1 c
        clear hif
        refine g_iconst C (v := 0) dX12_sheet_74 (q := 75) rfl (by decide) ?_
        refine g_goto C dX12_sheet_75 (tgt := 79) (by decide) ?_
        obtain ⟨M7, hM7, h⟩ := g_bind h
        refine g_iast C (k := 74) (n := 4) (by decide) (fun a => gc_74 Y a _) hM7 dX12_sheet_79 (q := 80) rfl ?_
        refine g_iconst C (v := 0) dX12_sheet_80 (q := 81) rfl (by decide) ?_
        refine g_istore C dX12_sheet_81 (q := 83) rfl (by decide) (lv' := [(4, .int 0), (0, g_r Y 59), (1, .int x1), (2, .int x2), (3, .int x3)]) rfl ?_
        refine g_sub [1, 2, 0] (lv' := [(0, g_r Y 59), (1, .int x1), (4, .int 0)]) rfl ?_
        refine t_X12_sheet_83 C E ?_ 20000000 x1 0 M7 h
        · intro x1 M h
          try dsimp only at h
          refine g_aload_n C 0 dX12_sheet_109 (q := 110) rfl rfl rfl ?_
          refine g_get C (k := 59) (i := 28) (by decide) (gc_59 Y _ _) rfl kU_X12 (by decide) kF_X12_53 rfl dX12_sheet_110 (q := 113) rfl ?_
          refine g_iload_n C 1 dX12_sheet_113 (q := 114) rfl rfl rfl ?_
          obtain ⟨v8, hv8, h⟩ := g_bind h
          refine g_iald C (k := 74) (n := 4) (by decide) (gc_74 Y _ _) hv8 dX12_sheet_114 (q := 115) rfl ?_
          obtain rfl := Option.some.inj h
          exact g_iret C E dX12_sheet_115
    · have h := hif.2 c
      clear hif
      refine g_aload_n C 0 dX12_sheet_52 (q := 53) rfl rfl rfl ?_
      refine g_iconst C (v := 0) dX12_sheet_53 (q := 54) rfl (by decide) ?_
      obtain ⟨p9, hp9, h⟩ := g_bind h
      refine g_callV C (k := 59) (as := [.int 0]) (st := []) (m_X12_finding hp9) (g_hR (by decide)) (by decide) (by decide) (gc_59 Y _ _) rfl kM_X12_190 kI_X12_finding kS_X12_finding kN_X12 kC_X12_finding kD_X12_finding rfl (Nat.le_of_ble_eq_true rfl) dX12_sheet_54 (q := 57) rfl ?_
      show g_G 5 X Y 57 [(0, g_r Y 59), (1, .int x1), (2, .int x2), (3, .int x3)] [.int p9.1] p9.2
      obtain rfl := Option.some.inj h
      exact g_iret C E dX12_sheet_57
  · have h := hif.2 c
    clear hif
    refine g_aload_n C 0 dX12_sheet_39 (q := 40) rfl rfl rfl ?_
    refine g_bipush C (v := 6) dX12_sheet_40 (q := 42) rfl (by decide) ?_
    obtain ⟨p10, hp10, h⟩ := g_bind h
    refine g_callV C (k := 59) (as := [.int 6]) (st := []) (m_X12_finding hp10) (g_hR (by decide)) (by decide) (by decide) (gc_59 Y _ _) rfl kM_X12_190 kI_X12_finding kS_X12_finding kN_X12 kC_X12_finding kD_X12_finding rfl (Nat.le_of_ble_eq_true rfl) dX12_sheet_42 (q := 45) rfl ?_
    show g_G 5 X Y 45 [(0, g_r Y 59), (1, .int x1), (2, .int x2), (3, .int x3)] [.int p10.1] p10.2
    obtain rfl := Option.some.inj h
    exact g_iret C E dX12_sheet_45
theorem r_X12_sheet_35 {p : Int32 × g_M} (x1 : Int32) (x2 : Int32) (x3 : Int32) (M : g_M) (h : f_X12_sheet_35 x1 x2 x3 M = some p) : g_fr [63, 73, 74, 75] [] M p.2 := by
  unfold f_X12_sheet_35 at h
  have hf := g_fr.rfl (S := [63, 73, 74, 75]) (T := []) (M := M)
  rcases g_ifs h with h | h
  · rcases g_ifs h with h | h
    · obtain ⟨M3, hM3, h⟩ := g_bind h
      have hf := hf.st hM3 (by decide)
      rcases g_ifs h with h | h
      · obtain ⟨M7, hM7, h⟩ := g_bind h
        have hf := hf.st hM7 (by decide)
        refine hf.trans (r_X12_sheet_83 ?_ 20000000 x1 0 M7 h)
        · intro x1 M h
          try dsimp only at h
          have hf := g_fr.rfl (S := [63, 73, 74, 75]) (T := []) (M := M)
          obtain ⟨v8, -, h⟩ := g_bind h
          obtain rfl := Option.some.inj h
          exact hf
      · obtain ⟨M4, hM4, h⟩ := g_bind h
        have hf := hf.st hM4 (by decide)
        refine hf.trans (r_X12_sheet_83 ?_ 20000000 x1 0 M4 h)
        · intro x1 M h
          try dsimp only at h
          have hf := g_fr.rfl (S := [63, 73, 74, 75]) (T := []) (M := M)
          obtain ⟨v6, -, h⟩ := g_bind h
          obtain rfl := Option.some.inj h
          exact hf
    · obtain ⟨p9, hp9, h⟩ := g_bind h
      have hf := hf.trans ((r_X12_finding hp9).mono (by decide) (by decide))
      obtain rfl := Option.some.inj h
      exact hf
  · obtain ⟨p10, hp10, h⟩ := g_bind h
    have hf := hf.trans ((r_X12_finding hp10).mono (by decide) (by decide))
    obtain rfl := Option.some.inj h
    exact hf
def f_X12_sheet (x1 : Int32) (x2 : Int32) (x3 : Int32) (M : g_M) : Option (Int32 × g_M) :=
  (f_X12_isSheet x1 M).bind fun p1 => (if p1 = 0 then (f_X12_sheet_29 M) else ((if x2 = 0 then (f_X12_sheet_35 x1 x2 x3 M) else ((if x2 = 8 then (f_X12_sheet_35 x1 x2 x3 M) else ((if x2 = 16 then (f_X12_sheet_35 x1 x2 x3 M) else ((if x2 = 64 then (f_X12_sheet_35 x1 x2 x3 M) else (f_X12_sheet_29 M))))))))))
set_option maxRecDepth 100000 in
theorem m_X12_sheet {l : Launch} {Y : g_Y} {x1 : Int32} {x2 : Int32} {x3 : Int32} {M : g_M} {p : Int32 × g_M} (h : f_X12_sheet x1 x2 x3 M = some p) : g_R l Y (2) yX12_sheet cX12_sheet 5 (some .int) [g_r Y 59, .int x1, .int x2, .int x3] M (some (.int p.1)) p.2 := by
  unfold f_X12_sheet at h
  refine g_R_of kP_X12 rfl (Nat.le_of_ble_eq_true rfl) (fun X C E => ?_)
  show g_G 5 X Y 0 [(0, g_r Y 59), (1, .int x1), (2, .int x2), (3, .int x3)] [] M
  refine g_iload_n C 1 dX12_sheet_0 (q := 1) rfl rfl rfl ?_
  obtain ⟨p1, hp1, h⟩ := g_bind h
  refine g_callS C (as := [.int x1]) (st := []) (m_X12_isSheet hp1) (g_hR (by decide)) (by decide) kM_X12_300 kT_X12_isSheet kN_X12 kC_X12_isSheet kD_X12_isSheet rfl (Nat.le_of_ble_eq_true rfl) dX12_sheet_1 (q := 4) rfl ?_
  show g_G 5 X Y 4 [(0, g_r Y 59), (1, .int x1), (2, .int x2), (3, .int x3)] [.int p1] M
  have hif := g_if h
  clear h
  refine g_if_eq C dX12_sheet_4 (q := 7) (tgt := 29) rfl (by decide) (fun c => ?_) (fun c => ?_)
  · have h := hif.1 c
    clear hif
    refine g_sub [0] (lv' := [(0, g_r Y 59)]) rfl ?_
    exact t_X12_sheet_29 C E M h
  · have h := hif.2 c
    clear hif
    refine g_iload_n C 2 dX12_sheet_7 (q := 8) rfl rfl rfl ?_
    have hif := g_if h
    clear h
    refine g_if_eq C dX12_sheet_8 (q := 11) (tgt := 35) rfl (by decide) (fun c => ?_) (fun c => ?_)
    · have h := hif.1 c
      clear hif
      refine g_sub [0, 1, 2, 3] (lv' := [(0, g_r Y 59), (1, .int x1), (2, .int x2), (3, .int x3)]) rfl ?_
      exact t_X12_sheet_35 C E x1 x2 x3 M h
    · have h := hif.2 c
      clear hif
      refine g_iload_n C 2 dX12_sheet_11 (q := 12) rfl rfl rfl ?_
      refine g_bipush C (v := 8) dX12_sheet_12 (q := 14) rfl (by decide) ?_
      have hif := g_if h
      clear h
      refine g_icmp_eq C dX12_sheet_14 (q := 17) (tgt := 35) rfl (by decide) (fun c => ?_) (fun c => ?_)
      · have h := hif.1 c
        clear hif
        refine g_sub [0, 1, 2, 3] (lv' := [(0, g_r Y 59), (1, .int x1), (2, .int x2), (3, .int x3)]) rfl ?_
        exact t_X12_sheet_35 C E x1 x2 x3 M h
      · have h := hif.2 c
        clear hif
        refine g_iload_n C 2 dX12_sheet_17 (q := 18) rfl rfl rfl ?_
        refine g_bipush C (v := 16) dX12_sheet_18 (q := 20) rfl (by decide) ?_
        have hif := g_if h
        clear h
        refine g_icmp_eq C dX12_sheet_20 (q := 23) (tgt := 35) rfl (by decide) (fun c => ?_) (fun c => ?_)
        · have h := hif.1 c
          clear hif
          refine g_sub [0, 1, 2, 3] (lv' := [(0, g_r Y 59), (1, .int x1), (2, .int x2), (3, .int x3)]) rfl ?_
          exact t_X12_sheet_35 C E x1 x2 x3 M h
        · have h := hif.2 c
          clear hif
          refine g_iload_n C 2 dX12_sheet_23 (q := 24) rfl rfl rfl ?_
          refine g_bipush C (v := 64) dX12_sheet_24 (q := 26) rfl (by decide) ?_
          have hif := g_if h
          clear h
          refine g_icmp_eq C dX12_sheet_26 (q := 29) (tgt := 35) rfl (by decide) (fun c => ?_) (fun c => ?_)
          · have h := hif.1 c
            clear hif
            refine g_sub [0, 1, 2, 3] (lv' := [(0, g_r Y 59), (1, .int x1), (2, .int x2), (3, .int x3)]) rfl ?_
            exact t_X12_sheet_35 C E x1 x2 x3 M h
          · have h := hif.2 c
            clear hif
            refine g_sub [0] (lv' := [(0, g_r Y 59)]) rfl ?_
            exact t_X12_sheet_29 C E M h
theorem r_X12_sheet {x1 : Int32} {x2 : Int32} {x3 : Int32} {M : g_M} {p : Int32 × g_M} (h : f_X12_sheet x1 x2 x3 M = some p) : g_fr [63, 73, 74, 75] [] M p.2 := by
  unfold f_X12_sheet at h
  have hf := g_fr.rfl (S := [63, 73, 74, 75]) (T := []) (M := M)
  obtain ⟨p1, -, h⟩ := g_bind h
  rcases g_ifs h with h | h
  · exact hf.trans (r_X12_sheet_29 M h)
  · rcases g_ifs h with h | h
    · exact hf.trans (r_X12_sheet_35 x1 x2 x3 M h)
    · rcases g_ifs h with h | h
      · exact hf.trans (r_X12_sheet_35 x1 x2 x3 M h)
      · rcases g_ifs h with h | h
        · exact hf.trans (r_X12_sheet_35 x1 x2 x3 M h)
        · rcases g_ifs h with h | h
          · exact hf.trans (r_X12_sheet_35 x1 x2 x3 M h)
          · exact hf.trans (r_X12_sheet_29 M h)
def f_X12_write (x1 : Int32) (x2 : Int32) (x3 : Int64) (M : g_M) : Option (Int64 × g_M) :=
  (f_X12_isSheet x1 M).bind fun p1 => (if p1 = 0 then ((f_X12_finding 0 M).bind fun p13 => some (Int32.toInt64 p13.1, p13.2)) else ((g_ld M 73 4 x1).bind fun v2 => (if v2 = 0 then ((f_X12_finding 5 M).bind fun p12 => some (Int32.toInt64 p12.1, p12.2)) else ((g_ld M 74 4 x1).bind fun v3 => (f_X12_in x2 0 (v3 - 1) M).bind fun p4 => (if p4 = 0 then ((f_X12_finding 0 M).bind fun p11 => some (Int32.toInt64 p11.1, p11.2)) else ((g_ldl M 75 160 ((40 * x1) + x2)).bind fun v5 => (g_ld M 73 4 x1).bind fun v6 => (if v6 = 8 then ((g_stl M 75 160 ((40 * x1) + x2) (Int32.toInt64 ((Int32.toInt8 (Int64.toInt32 x3)).toInt32))).bind fun M10 => some (v5, M10)) else ((g_ld M 73 4 x1).bind fun v7 => (if v7 = 16 then ((g_stl M 75 160 ((40 * x1) + x2) (Int32.toInt64 ((Int32.toInt16 (Int64.toInt32 x3)).toInt32))).bind fun M9 => some (v5, M9)) else ((g_stl M 75 160 ((40 * x1) + x2) x3).bind fun M8 => some (v5, M8)))))))))))
set_option maxRecDepth 100000 in
theorem m_X12_write {l : Launch} {Y : g_Y} {x1 : Int32} {x2 : Int32} {x3 : Int64} {M : g_M} {p : Int64 × g_M} (h : f_X12_write x1 x2 x3 M = some p) : g_R l Y (2) yX12_write cX12_write 7 (some .long) [g_r Y 59, .int x1, .int x2, .long x3] M (some (.long p.1)) p.2 := by
  unfold f_X12_write at h
  refine g_R_of kP_X12 rfl (Nat.le_of_ble_eq_true rfl) (fun X C E => ?_)
  show g_G 7 X Y 0 [(0, g_r Y 59), (1, .int x1), (2, .int x2), (3, .long x3)] [] M
  refine g_iload_n C 1 dX12_write_0 (q := 1) rfl rfl rfl ?_
  obtain ⟨p1, hp1, h⟩ := g_bind h
  refine g_callS C (as := [.int x1]) (st := []) (m_X12_isSheet hp1) (g_hR (by decide)) (by decide) kM_X12_300 kT_X12_isSheet kN_X12 kC_X12_isSheet kD_X12_isSheet rfl (Nat.le_of_ble_eq_true rfl) dX12_write_1 (q := 4) rfl ?_
  show g_G 7 X Y 4 [(0, g_r Y 59), (1, .int x1), (2, .int x2), (3, .long x3)] [.int p1] M
  have hif := g_if h
  clear h
  refine g_if_ne C dX12_write_4 (q := 7) (tgt := 14) rfl (by decide) (fun c => ?_) (fun c => ?_)
  · have h := hif.2 c
    clear hif
    refine g_aload_n C 0 dX12_write_14 (q := 15) rfl rfl rfl ?_
    refine g_get C (k := 59) (i := 27) (by decide) (gc_59 Y _ _) rfl kU_X12 (by decide) kF_X12_50 rfl dX12_write_15 (q := 18) rfl ?_
    refine g_iload_n C 1 dX12_write_18 (q := 19) rfl rfl rfl ?_
    obtain ⟨v2, hv2, h⟩ := g_bind h
    refine g_iald C (k := 73) (n := 4) (by decide) (gc_73 Y _ _) hv2 dX12_write_19 (q := 20) rfl ?_
    have hif := g_if h
    clear h
    refine g_if_ne C dX12_write_20 (q := 23) (tgt := 30) rfl (by decide) (fun c => ?_) (fun c => ?_)
    · have h := hif.2 c
      clear hif
      refine g_iload_n C 2 dX12_write_30 (q := 31) rfl rfl rfl ?_
      refine g_iconst C (v := 0) dX12_write_31 (q := 32) rfl (by decide) ?_
      refine g_aload_n C 0 dX12_write_32 (q := 33) rfl rfl rfl ?_
      refine g_get C (k := 59) (i := 28) (by decide) (gc_59 Y _ _) rfl kU_X12 (by decide) kF_X12_53 rfl dX12_write_33 (q := 36) rfl ?_
      refine g_iload_n C 1 dX12_write_36 (q := 37) rfl rfl rfl ?_
      obtain ⟨v3, hv3, h⟩ := g_bind h
      refine g_iald C (k := 74) (n := 4) (by decide) (gc_74 Y _ _) hv3 dX12_write_37 (q := 38) rfl ?_
      refine g_iconst C (v := 1) dX12_write_38 (q := 39) rfl (by decide) ?_
      refine g_isub C dX12_write_39 (q := 40) rfl ?_
      obtain ⟨p4, hp4, h⟩ := g_bind h
      refine g_callS C (as := [.int x2, .int 0, .int (v3 - 1)]) (st := []) (m_X12_in hp4) (g_hR (by decide)) (by decide) kM_X12_64 kT_X12_in kN_X12 kC_X12_in kD_X12_in rfl (Nat.le_of_ble_eq_true rfl) dX12_write_40 (q := 43) rfl ?_
      show g_G 7 X Y 43 [(0, g_r Y 59), (1, .int x1), (2, .int x2), (3, .long x3)] [.int p4] M
      have hif := g_if h
      clear h
      refine g_if_ne C dX12_write_43 (q := 46) (tgt := 53) rfl (by decide) (fun c => ?_) (fun c => ?_)
      · have h := hif.2 c
        clear hif
        refine g_aload_n C 0 dX12_write_53 (q := 54) rfl rfl rfl ?_
        refine g_get C (k := 59) (i := 29) (by decide) (gc_59 Y _ _) rfl kU_X12 (by decide) kF_X12_56 rfl dX12_write_54 (q := 57) rfl ?_
        refine g_bipush C (v := 40) dX12_write_57 (q := 59) rfl (by decide) ?_
        refine g_iload_n C 1 dX12_write_59 (q := 60) rfl rfl rfl ?_
        refine g_imul C dX12_write_60 (q := 61) rfl ?_
        refine g_iload_n C 2 dX12_write_61 (q := 62) rfl rfl rfl ?_
        refine g_iadd C dX12_write_62 (q := 63) rfl ?_
        obtain ⟨v5, hv5, h⟩ := g_bind h
        refine g_lald C (k := 75) (n := 160) (by decide) (gc_75 Y _ _) hv5 dX12_write_63 (q := 64) rfl ?_
        refine g_lstore C dX12_write_64 (q := 66) rfl (by decide) (lv' := [(5, .long v5), (0, g_r Y 59), (1, .int x1), (2, .int x2), (3, .long x3)]) rfl ?_
        refine g_aload_n C 1 dX12_write_66 (q := 67) rfl rfl rfl ?_
        refine g_get C (k := 59) (i := 29) (by decide) (gc_59 Y _ _) rfl kU_X12 (by decide) kF_X12_56 rfl dX12_write_67 (q := 70) rfl ?_
        refine g_bipush C (v := 40) dX12_write_70 (q := 72) rfl (by decide) ?_
        refine g_iload_n C 2 dX12_write_72 (q := 73) rfl rfl rfl ?_
        refine g_imul C dX12_write_73 (q := 74) rfl ?_
        refine g_iload_n C 3 dX12_write_74 (q := 75) rfl rfl rfl ?_
        refine g_iadd C dX12_write_75 (q := 76) rfl ?_
        refine g_aload_n C 1 dX12_write_76 (q := 77) rfl rfl rfl ?_
        refine g_get C (k := 59) (i := 27) (by decide) (gc_59 Y _ _) rfl kU_X12 (by decide) kF_X12_50 rfl dX12_write_77 (q := 80) rfl ?_
        refine g_iload_n C 2 dX12_write_80 (q := 81) rfl rfl rfl ?_
        obtain ⟨v6, hv6, h⟩ := g_bind h
        refine g_iald C (k := 73) (n := 4) (by decide) (gc_73 Y _ _) hv6 dX12_write_81 (q := 82) rfl ?_
        refine g_bipush C (v := 8) dX12_write_82 (q := 84) rfl (by decide) ?_
        have hif := g_if h
        clear h
        refine g_icmp_ne C dX12_write_84 (q := 87) (tgt := 94) rfl (by decide) (fun c => ?_) (fun c => ?_)
        · have h := hif.2 c
          clear hif
          refine g_aload_n C 1 dX12_write_94 (q := 95) rfl rfl rfl ?_
          refine g_get C (k := 59) (i := 27) (by decide) (gc_59 Y _ _) rfl kU_X12 (by decide) kF_X12_50 rfl dX12_write_95 (q := 98) rfl ?_
          refine g_iload_n C 2 dX12_write_98 (q := 99) rfl rfl rfl ?_
          obtain ⟨v7, hv7, h⟩ := g_bind h
          refine g_iald C (k := 73) (n := 4) (by decide) (gc_73 Y _ _) hv7 dX12_write_99 (q := 100) rfl ?_
          refine g_bipush C (v := 16) dX12_write_100 (q := 102) rfl (by decide) ?_
          have hif := g_if h
          clear h
          refine g_icmp_ne C dX12_write_102 (q := 105) (tgt := 112) rfl (by decide) (fun c => ?_) (fun c => ?_)
          · have h := hif.2 c
            clear hif
            refine g_lload_n C 4 dX12_write_112 (q := 113) rfl rfl rfl ?_
            obtain ⟨M8, hM8, h⟩ := g_bind h
            refine g_last C (k := 75) (n := 160) (by decide) (fun b => gc_75 Y _ b) hM8 dX12_write_113 (q := 114) rfl ?_
            refine g_lload C 0 dX12_write_114 (q := 116) rfl rfl ?_
            obtain rfl := Option.some.inj h
            exact g_lret C E dX12_write_116
          · have h := hif.1 c
            clear hif
            refine g_lload_n C 4 dX12_write_105 (q := 106) rfl rfl rfl ?_
            refine g_l2i C dX12_write_106 (q := 107) rfl ?_
            refine g_i2s C dX12_write_107 (q := 108) rfl ?_
            refine g_i2l C dX12_write_108 (q := 109) rfl ?_
            refine g_goto C dX12_write_109 (tgt := 113) (by decide) ?_
            obtain ⟨M9, hM9, h⟩ := g_bind h
            refine g_last C (k := 75) (n := 160) (by decide) (fun b => gc_75 Y _ b) hM9 dX12_write_113 (q := 114) rfl ?_
            refine g_lload C 0 dX12_write_114 (q := 116) rfl rfl ?_
            obtain rfl := Option.some.inj h
            exact g_lret C E dX12_write_116
        · have h := hif.1 c
          clear hif
          refine g_lload_n C 4 dX12_write_87 (q := 88) rfl rfl rfl ?_
          refine g_l2i C dX12_write_88 (q := 89) rfl ?_
          refine g_i2b C dX12_write_89 (q := 90) rfl ?_
          refine g_i2l C dX12_write_90 (q := 91) rfl ?_
          refine g_goto C dX12_write_91 (tgt := 113) (by decide) ?_
          obtain ⟨M10, hM10, h⟩ := g_bind h
          refine g_last C (k := 75) (n := 160) (by decide) (fun b => gc_75 Y _ b) hM10 dX12_write_113 (q := 114) rfl ?_
          refine g_lload C 0 dX12_write_114 (q := 116) rfl rfl ?_
          obtain rfl := Option.some.inj h
          exact g_lret C E dX12_write_116
      · have h := hif.1 c
        clear hif
        refine g_aload_n C 0 dX12_write_46 (q := 47) rfl rfl rfl ?_
        refine g_iconst C (v := 0) dX12_write_47 (q := 48) rfl (by decide) ?_
        obtain ⟨p11, hp11, h⟩ := g_bind h
        refine g_callV C (k := 59) (as := [.int 0]) (st := []) (m_X12_finding hp11) (g_hR (by decide)) (by decide) (by decide) (gc_59 Y _ _) rfl kM_X12_190 kI_X12_finding kS_X12_finding kN_X12 kC_X12_finding kD_X12_finding rfl (Nat.le_of_ble_eq_true rfl) dX12_write_48 (q := 51) rfl ?_
        show g_G 7 X Y 51 [(0, g_r Y 59), (1, .int x1), (2, .int x2), (3, .long x3)] [.int p11.1] p11.2
        refine g_i2l C dX12_write_51 (q := 52) rfl ?_
        obtain rfl := Option.some.inj h
        exact g_lret C E dX12_write_52
    · have h := hif.1 c
      clear hif
      refine g_aload_n C 0 dX12_write_23 (q := 24) rfl rfl rfl ?_
      refine g_iconst C (v := 5) dX12_write_24 (q := 25) rfl (by decide) ?_
      obtain ⟨p12, hp12, h⟩ := g_bind h
      refine g_callV C (k := 59) (as := [.int 5]) (st := []) (m_X12_finding hp12) (g_hR (by decide)) (by decide) (by decide) (gc_59 Y _ _) rfl kM_X12_190 kI_X12_finding kS_X12_finding kN_X12 kC_X12_finding kD_X12_finding rfl (Nat.le_of_ble_eq_true rfl) dX12_write_25 (q := 28) rfl ?_
      show g_G 7 X Y 28 [(0, g_r Y 59), (1, .int x1), (2, .int x2), (3, .long x3)] [.int p12.1] p12.2
      refine g_i2l C dX12_write_28 (q := 29) rfl ?_
      obtain rfl := Option.some.inj h
      exact g_lret C E dX12_write_29
  · have h := hif.1 c
    clear hif
    refine g_aload_n C 0 dX12_write_7 (q := 8) rfl rfl rfl ?_
    refine g_iconst C (v := 0) dX12_write_8 (q := 9) rfl (by decide) ?_
    obtain ⟨p13, hp13, h⟩ := g_bind h
    refine g_callV C (k := 59) (as := [.int 0]) (st := []) (m_X12_finding hp13) (g_hR (by decide)) (by decide) (by decide) (gc_59 Y _ _) rfl kM_X12_190 kI_X12_finding kS_X12_finding kN_X12 kC_X12_finding kD_X12_finding rfl (Nat.le_of_ble_eq_true rfl) dX12_write_9 (q := 12) rfl ?_
    show g_G 7 X Y 12 [(0, g_r Y 59), (1, .int x1), (2, .int x2), (3, .long x3)] [.int p13.1] p13.2
    refine g_i2l C dX12_write_12 (q := 13) rfl ?_
    obtain rfl := Option.some.inj h
    exact g_lret C E dX12_write_13
theorem r_X12_write {x1 : Int32} {x2 : Int32} {x3 : Int64} {M : g_M} {p : Int64 × g_M} (h : f_X12_write x1 x2 x3 M = some p) : g_fr [63, 75] [] M p.2 := by
  unfold f_X12_write at h
  have hf := g_fr.rfl (S := [63, 75]) (T := []) (M := M)
  obtain ⟨p1, -, h⟩ := g_bind h
  rcases g_ifs h with h | h
  · obtain ⟨p13, hp13, h⟩ := g_bind h
    have hf := hf.trans ((r_X12_finding hp13).mono (by decide) (by decide))
    obtain rfl := Option.some.inj h
    exact hf
  · obtain ⟨v2, -, h⟩ := g_bind h
    rcases g_ifs h with h | h
    · obtain ⟨p12, hp12, h⟩ := g_bind h
      have hf := hf.trans ((r_X12_finding hp12).mono (by decide) (by decide))
      obtain rfl := Option.some.inj h
      exact hf
    · obtain ⟨v3, -, h⟩ := g_bind h
      obtain ⟨p4, -, h⟩ := g_bind h
      rcases g_ifs h with h | h
      · obtain ⟨p11, hp11, h⟩ := g_bind h
        have hf := hf.trans ((r_X12_finding hp11).mono (by decide) (by decide))
        obtain rfl := Option.some.inj h
        exact hf
      · obtain ⟨v5, -, h⟩ := g_bind h
        obtain ⟨v6, -, h⟩ := g_bind h
        rcases g_ifs h with h | h
        · obtain ⟨M10, hM10, h⟩ := g_bind h
          have hf := hf.stl hM10 (by decide)
          obtain rfl := Option.some.inj h
          exact hf
        · obtain ⟨v7, -, h⟩ := g_bind h
          rcases g_ifs h with h | h
          · obtain ⟨M9, hM9, h⟩ := g_bind h
            have hf := hf.stl hM9 (by decide)
            obtain rfl := Option.some.inj h
            exact hf
          · obtain ⟨M8, hM8, h⟩ := g_bind h
            have hf := hf.stl hM8 (by decide)
            obtain rfl := Option.some.inj h
            exact hf
def f_X12_has (x1 : Int32) (x2 : Int32) (x3 : Int32) (M : g_M) : Option (Int32) :=
  (if x2 < 0 then (some 0) else ((if x3 < 0 then (some 0) else ((g_ld M 74 4 x1).bind fun v1 => (if v1 < x3 then (some 0) else ((g_ld M 74 4 x1).bind fun v2 => (if (v2 - x3) < x2 then (some 0) else (some 1))))))))
set_option maxRecDepth 100000 in
theorem m_X12_has {l : Launch} {Y : g_Y} {x1 : Int32} {x2 : Int32} {x3 : Int32} {M : g_M} {p : Int32} (h : f_X12_has x1 x2 x3 M = some p) : g_R l Y (0) yX12_has cX12_has 4 (some .boolean) [g_r Y 59, .int x1, .int x2, .int x3] M (some (.int p)) M := by
  unfold f_X12_has at h
  refine g_R_of kP_X12 rfl (Nat.le_of_ble_eq_true rfl) (fun X C E => ?_)
  show g_G 4 X Y 0 [(0, g_r Y 59), (1, .int x1), (2, .int x2), (3, .int x3)] [] M
  refine g_iload_n C 2 dX12_has_0 (q := 1) rfl rfl rfl ?_
  have hif := g_if h
  clear h
  refine g_if_lt C dX12_has_1 (q := 4) (tgt := 34) rfl (by decide) (fun c => ?_) (fun c => ?_)
  · have h := hif.1 c
    clear hif
    refine g_iconst C (v := 0) dX12_has_34 (q := 35) rfl (by decide) ?_
    obtain rfl := Option.some.inj h
    exact g_zret C (g_bz_lit (by decide)) E dX12_has_35
  · have h := hif.2 c
    clear hif
    refine g_iload_n C 3 dX12_has_4 (q := 5) rfl rfl rfl ?_
    have hif := g_if h
    clear h
    refine g_if_lt C dX12_has_5 (q := 8) (tgt := 34) rfl (by decide) (fun c => ?_) (fun c => ?_)
    · have h := hif.1 c
      clear hif
      refine g_iconst C (v := 0) dX12_has_34 (q := 35) rfl (by decide) ?_
      obtain rfl := Option.some.inj h
      exact g_zret C (g_bz_lit (by decide)) E dX12_has_35
    · have h := hif.2 c
      clear hif
      refine g_iload_n C 3 dX12_has_8 (q := 9) rfl rfl rfl ?_
      refine g_aload_n C 0 dX12_has_9 (q := 10) rfl rfl rfl ?_
      refine g_get C (k := 59) (i := 28) (by decide) (gc_59 Y _ _) rfl kU_X12 (by decide) kF_X12_53 rfl dX12_has_10 (q := 13) rfl ?_
      refine g_iload_n C 1 dX12_has_13 (q := 14) rfl rfl rfl ?_
      obtain ⟨v1, hv1, h⟩ := g_bind h
      refine g_iald C (k := 74) (n := 4) (by decide) (gc_74 Y _ _) hv1 dX12_has_14 (q := 15) rfl ?_
      have hif := g_if h
      clear h
      refine g_icmp_gt C dX12_has_15 (q := 18) (tgt := 34) rfl (by decide) (fun c => ?_) (fun c => ?_)
      · have h := hif.1 c
        clear hif
        refine g_iconst C (v := 0) dX12_has_34 (q := 35) rfl (by decide) ?_
        obtain rfl := Option.some.inj h
        exact g_zret C (g_bz_lit (by decide)) E dX12_has_35
      · have h := hif.2 c
        clear hif
        refine g_iload_n C 2 dX12_has_18 (q := 19) rfl rfl rfl ?_
        refine g_aload_n C 0 dX12_has_19 (q := 20) rfl rfl rfl ?_
        refine g_get C (k := 59) (i := 28) (by decide) (gc_59 Y _ _) rfl kU_X12 (by decide) kF_X12_53 rfl dX12_has_20 (q := 23) rfl ?_
        refine g_iload_n C 1 dX12_has_23 (q := 24) rfl rfl rfl ?_
        obtain ⟨v2, hv2, h⟩ := g_bind h
        refine g_iald C (k := 74) (n := 4) (by decide) (gc_74 Y _ _) hv2 dX12_has_24 (q := 25) rfl ?_
        refine g_iload_n C 3 dX12_has_25 (q := 26) rfl rfl rfl ?_
        refine g_isub C dX12_has_26 (q := 27) rfl ?_
        have hif := g_if h
        clear h
        refine g_icmp_gt C dX12_has_27 (q := 30) (tgt := 34) rfl (by decide) (fun c => ?_) (fun c => ?_)
        · have h := hif.1 c
          clear hif
          refine g_iconst C (v := 0) dX12_has_34 (q := 35) rfl (by decide) ?_
          obtain rfl := Option.some.inj h
          exact g_zret C (g_bz_lit (by decide)) E dX12_has_35
        · have h := hif.2 c
          clear hif
          refine g_iconst C (v := 1) dX12_has_30 (q := 31) rfl (by decide) ?_
          refine g_goto C dX12_has_31 (tgt := 35) (by decide) ?_
          obtain rfl := Option.some.inj h
          exact g_zret C (g_bz_lit (by decide)) E dX12_has_35
def f_X12_copy_14 (M : g_M) : Option (Int32 × g_M) :=
  (f_X12_finding 0 M).bind fun p2 => some (p2.1, p2.2)
set_option maxRecDepth 100000 in
theorem t_X12_copy_14 {l : Launch} {X : g_X} {Y : g_Y} {p : Int32 × g_M} (C : g_C l (g_rm (2)) RX12 cX12_copy 7 X Y) (E : g_E (some .int) X Y (some (.int p.1)) p.2) (M : g_M) (h : f_X12_copy_14 M = some p) : g_G 7 X Y 14 [(0, g_r Y 59)] [] M := by
  unfold f_X12_copy_14 at h
  refine g_aload_n C 0 dX12_copy_14 (q := 15) rfl rfl rfl ?_
  refine g_iconst C (v := 0) dX12_copy_15 (q := 16) rfl (by decide) ?_
  obtain ⟨p2, hp2, h⟩ := g_bind h
  refine g_callV C (k := 59) (as := [.int 0]) (st := []) (m_X12_finding hp2) (g_hR (by decide)) (by decide) (by decide) (gc_59 Y _ _) rfl kM_X12_190 kI_X12_finding kS_X12_finding kN_X12 kC_X12_finding kD_X12_finding rfl (Nat.le_of_ble_eq_true rfl) dX12_copy_16 (q := 19) rfl ?_
  show g_G 7 X Y 19 [(0, g_r Y 59)] [.int p2.1] p2.2
  obtain rfl := Option.some.inj h
  exact g_iret C E dX12_copy_19
theorem r_X12_copy_14 {p : Int32 × g_M} (M : g_M) (h : f_X12_copy_14 M = some p) : g_fr [63, 75, 76] [] M p.2 := by
  unfold f_X12_copy_14 at h
  have hf := g_fr.rfl (S := [63, 75, 76]) (T := []) (M := M)
  obtain ⟨p2, hp2, h⟩ := g_bind h
  have hf := hf.trans ((r_X12_finding hp2).mono (by decide) (by decide))
  obtain rfl := Option.some.inj h
  exact hf
def f_X12_copy_38 (M : g_M) : Option (Int32 × g_M) :=
  (f_X12_finding 5 M).bind fun p5 => some (p5.1, p5.2)
set_option maxRecDepth 100000 in
theorem t_X12_copy_38 {l : Launch} {X : g_X} {Y : g_Y} {p : Int32 × g_M} (C : g_C l (g_rm (2)) RX12 cX12_copy 7 X Y) (E : g_E (some .int) X Y (some (.int p.1)) p.2) (M : g_M) (h : f_X12_copy_38 M = some p) : g_G 7 X Y 38 [(0, g_r Y 59)] [] M := by
  unfold f_X12_copy_38 at h
  refine g_aload_n C 0 dX12_copy_38 (q := 39) rfl rfl rfl ?_
  refine g_iconst C (v := 5) dX12_copy_39 (q := 40) rfl (by decide) ?_
  obtain ⟨p5, hp5, h⟩ := g_bind h
  refine g_callV C (k := 59) (as := [.int 5]) (st := []) (m_X12_finding hp5) (g_hR (by decide)) (by decide) (by decide) (gc_59 Y _ _) rfl kM_X12_190 kI_X12_finding kS_X12_finding kN_X12 kC_X12_finding kD_X12_finding rfl (Nat.le_of_ble_eq_true rfl) dX12_copy_40 (q := 43) rfl ?_
  show g_G 7 X Y 43 [(0, g_r Y 59)] [.int p5.1] p5.2
  obtain rfl := Option.some.inj h
  exact g_iret C E dX12_copy_43
theorem r_X12_copy_38 {p : Int32 × g_M} (M : g_M) (h : f_X12_copy_38 M = some p) : g_fr [63, 75, 76] [] M p.2 := by
  unfold f_X12_copy_38 at h
  have hf := g_fr.rfl (S := [63, 75, 76]) (T := []) (M := M)
  obtain ⟨p5, hp5, h⟩ := g_bind h
  have hf := hf.trans ((r_X12_finding hp5).mono (by decide) (by decide))
  obtain rfl := Option.some.inj h
  exact hf
def f_X12_copy_88 (M : g_M) : Option (Int32 × g_M) :=
  (f_X12_finding 0 M).bind fun p10 => some (p10.1, p10.2)
set_option maxRecDepth 100000 in
theorem t_X12_copy_88 {l : Launch} {X : g_X} {Y : g_Y} {p : Int32 × g_M} (C : g_C l (g_rm (2)) RX12 cX12_copy 7 X Y) (E : g_E (some .int) X Y (some (.int p.1)) p.2) (M : g_M) (h : f_X12_copy_88 M = some p) : g_G 7 X Y 88 [(0, g_r Y 59)] [] M := by
  unfold f_X12_copy_88 at h
  refine g_aload_n C 0 dX12_copy_88 (q := 89) rfl rfl rfl ?_
  refine g_iconst C (v := 0) dX12_copy_89 (q := 90) rfl (by decide) ?_
  obtain ⟨p10, hp10, h⟩ := g_bind h
  refine g_callV C (k := 59) (as := [.int 0]) (st := []) (m_X12_finding hp10) (g_hR (by decide)) (by decide) (by decide) (gc_59 Y _ _) rfl kM_X12_190 kI_X12_finding kS_X12_finding kN_X12 kC_X12_finding kD_X12_finding rfl (Nat.le_of_ble_eq_true rfl) dX12_copy_90 (q := 93) rfl ?_
  show g_G 7 X Y 93 [(0, g_r Y 59)] [.int p10.1] p10.2
  obtain rfl := Option.some.inj h
  exact g_iret C E dX12_copy_93
theorem r_X12_copy_88 {p : Int32 × g_M} (M : g_M) (h : f_X12_copy_88 M = some p) : g_fr [63, 75, 76] [] M p.2 := by
  unfold f_X12_copy_88 at h
  have hf := g_fr.rfl (S := [63, 75, 76]) (T := []) (M := M)
  obtain ⟨p10, hp10, h⟩ := g_bind h
  have hf := hf.trans ((r_X12_finding hp10).mono (by decide) (by decide))
  obtain rfl := Option.some.inj h
  exact hf
def F_X12_copy_97 (k131 : Int32 → Int32 → Int32 → g_M → Option (Int32 × g_M)) (k : Int32 → Int32 → Int32 → Int32 → Int32 → Int32 → g_M → Option (Int32 × g_M)) (x1 : Int32) (x2 : Int32) (x3 : Int32) (x4 : Int32) (x5 : Int32) (x6 : Int32) (M : g_M) : Option (Int32 × g_M) :=
  (if x5 ≤ x6 then (k131 x3 x4 x5 M) else ((g_ldl M 75 160 (((40 * x1) + x2) + x6)).bind fun v12 => (g_stl M 76 40 x6 v12).bind fun M13 => k x1 x2 x3 x4 x5 (x6 + 1) M13))
set_option maxRecDepth 100000 in
theorem t_X12_copy_97 {l : Launch} {X : g_X} {Y : g_Y} {p : Int32 × g_M} {k131 : Int32 → Int32 → Int32 → g_M → Option (Int32 × g_M)} (C : g_C l (g_rm (2)) RX12 cX12_copy 7 X Y) (E : g_E (some .int) X Y (some (.int p.1)) p.2) (hk131 : ∀ (x3 : Int32) (x4 : Int32) (x5 : Int32) (M : g_M), k131 x3 x4 x5 M = some p → g_G 7 X Y 131 [(0, g_r Y 59), (3, .int x3), (4, .int x4), (5, .int x5)] [] M) (n : Nat) : ∀ (x1 : Int32) (x2 : Int32) (x3 : Int32) (x4 : Int32) (x5 : Int32) (x6 : Int32) (M : g_M), g_lp6 (F_X12_copy_97 k131) n x1 x2 x3 x4 x5 x6 M = some p → g_G 7 X Y 97 [(0, g_r Y 59), (1, .int x1), (2, .int x2), (3, .int x3), (4, .int x4), (5, .int x5), (6, .int x6)] [] M := by
  induction n with
  | zero => intro x1 x2 x3 x4 x5 x6 M h; exact (g_nn h).elim
  | succ n ih =>
    intro x1 x2 x3 x4 x5 x6 M h
    have h : F_X12_copy_97 k131 (g_lp6 (F_X12_copy_97 k131) n) x1 x2 x3 x4 x5 x6 M = some p := h
    generalize g_lp6 (F_X12_copy_97 k131) n = k at h ih
    unfold F_X12_copy_97 at h
    refine g_iload C 6 dX12_copy_97 (q := 99) rfl rfl ?_
    refine g_iload C 5 dX12_copy_99 (q := 101) rfl rfl ?_
    have hif := g_if h
    clear h
    refine g_icmp_ge C dX12_copy_101 (q := 104) (tgt := 131) rfl (by decide) (fun c => ?_) (fun c => ?_)
    · have h := hif.1 c
      clear hif
      refine g_sub [0, 3, 4, 5] (lv' := [(0, g_r Y 59), (3, .int x3), (4, .int x4), (5, .int x5)]) rfl ?_
      exact hk131 x3 x4 x5 M h
    · have h := hif.2 c
      clear hif
      refine g_aload_n C 0 dX12_copy_104 (q := 105) rfl rfl rfl ?_
      refine g_get C (k := 59) (i := 30) (by decide) (gc_59 Y _ _) rfl kU_X12 (by decide) kF_X12_60 rfl dX12_copy_105 (q := 108) rfl ?_
      refine g_iload C 6 dX12_copy_108 (q := 110) rfl rfl ?_
      refine g_aload_n C 0 dX12_copy_110 (q := 111) rfl rfl rfl ?_
      refine g_get C (k := 59) (i := 29) (by decide) (gc_59 Y _ _) rfl kU_X12 (by decide) kF_X12_56 rfl dX12_copy_111 (q := 114) rfl ?_
      refine g_bipush C (v := 40) dX12_copy_114 (q := 116) rfl (by decide) ?_
      refine g_iload_n C 1 dX12_copy_116 (q := 117) rfl rfl rfl ?_
      refine g_imul C dX12_copy_117 (q := 118) rfl ?_
      refine g_iload_n C 2 dX12_copy_118 (q := 119) rfl rfl rfl ?_
      refine g_iadd C dX12_copy_119 (q := 120) rfl ?_
      refine g_iload C 6 dX12_copy_120 (q := 122) rfl rfl ?_
      refine g_iadd C dX12_copy_122 (q := 123) rfl ?_
      obtain ⟨v12, hv12, h⟩ := g_bind h
      refine g_lald C (k := 75) (n := 160) (by decide) (gc_75 Y _ _) hv12 dX12_copy_123 (q := 124) rfl ?_
      obtain ⟨M13, hM13, h⟩ := g_bind h
      refine g_last C (k := 76) (n := 40) (by decide) (fun b => gc_76 Y _ b) hM13 dX12_copy_124 (q := 125) rfl ?_
      refine g_iinc C (k := 6) (v := x6 + 1) dX12_copy_125 (q := 128) rfl rfl rfl (by decide) (lv' := [(6, .int (x6 + 1)), (0, g_r Y 59), (1, .int x1), (2, .int x2), (3, .int x3), (4, .int x4), (5, .int x5)]) rfl ?_
      refine g_goto C dX12_copy_128 (tgt := 97) (by decide) ?_
      refine g_sub [1, 2, 3, 4, 5, 6, 0] (lv' := [(0, g_r Y 59), (1, .int x1), (2, .int x2), (3, .int x3), (4, .int x4), (5, .int x5), (6, .int (x6 + 1))]) rfl ?_
      exact ih x1 x2 x3 x4 x5 (x6 + 1) M13 h
theorem r_X12_copy_97 {p : Int32 × g_M} {k131 : Int32 → Int32 → Int32 → g_M → Option (Int32 × g_M)} (hk131 : ∀ (x3 : Int32) (x4 : Int32) (x5 : Int32) (M : g_M), k131 x3 x4 x5 M = some p → g_fr [63, 75, 76] [] M p.2) (n : Nat) : ∀ (x1 : Int32) (x2 : Int32) (x3 : Int32) (x4 : Int32) (x5 : Int32) (x6 : Int32) (M : g_M), g_lp6 (F_X12_copy_97 k131) n x1 x2 x3 x4 x5 x6 M = some p → g_fr [63, 75, 76] [] M p.2 := by
  induction n with
  | zero => intro x1 x2 x3 x4 x5 x6 M h; exact (g_nn h).elim
  | succ n ih =>
    intro x1 x2 x3 x4 x5 x6 M h
    have h : F_X12_copy_97 k131 (g_lp6 (F_X12_copy_97 k131) n) x1 x2 x3 x4 x5 x6 M = some p := h
    generalize g_lp6 (F_X12_copy_97 k131) n = k at h ih
    unfold F_X12_copy_97 at h
    have hf := g_fr.rfl (S := [63, 75, 76]) (T := []) (M := M)
    rcases g_ifs h with h | h
    · exact hf.trans (hk131 x3 x4 x5 M h)
    · obtain ⟨v12, -, h⟩ := g_bind h
      obtain ⟨M13, hM13, h⟩ := g_bind h
      have hf := hf.stl hM13 (by decide)
      exact hf.trans (ih x1 x2 x3 x4 x5 (x6 + 1) M13 h)
def F_X12_copy_134 (k169 : Int32 → g_M → Option (Int32 × g_M)) (k : Int32 → Int32 → Int32 → Int32 → g_M → Option (Int32 × g_M)) (x3 : Int32) (x4 : Int32) (x5 : Int32) (x6 : Int32) (M : g_M) : Option (Int32 × g_M) :=
  (if x5 ≤ x6 then (k169 x5 M) else ((g_ldl M 76 40 x6).bind fun v14 => (g_stl M 75 160 (((40 * x3) + x4) + x6) v14).bind fun M15 => k x3 x4 x5 (x6 + 1) M15))
set_option maxRecDepth 100000 in
theorem t_X12_copy_134 {l : Launch} {X : g_X} {Y : g_Y} {p : Int32 × g_M} {k169 : Int32 → g_M → Option (Int32 × g_M)} (C : g_C l (g_rm (2)) RX12 cX12_copy 7 X Y) (E : g_E (some .int) X Y (some (.int p.1)) p.2) (hk169 : ∀ (x5 : Int32) (M : g_M), k169 x5 M = some p → g_G 7 X Y 169 [(5, .int x5)] [] M) (n : Nat) : ∀ (x3 : Int32) (x4 : Int32) (x5 : Int32) (x6 : Int32) (M : g_M), g_lp4 (F_X12_copy_134 k169) n x3 x4 x5 x6 M = some p → g_G 7 X Y 134 [(0, g_r Y 59), (3, .int x3), (4, .int x4), (5, .int x5), (6, .int x6)] [] M := by
  induction n with
  | zero => intro x3 x4 x5 x6 M h; exact (g_nn h).elim
  | succ n ih =>
    intro x3 x4 x5 x6 M h
    have h : F_X12_copy_134 k169 (g_lp4 (F_X12_copy_134 k169) n) x3 x4 x5 x6 M = some p := h
    generalize g_lp4 (F_X12_copy_134 k169) n = k at h ih
    unfold F_X12_copy_134 at h
    refine g_iload C 4 dX12_copy_134 (q := 136) rfl rfl ?_
    refine g_iload C 3 dX12_copy_136 (q := 138) rfl rfl ?_
    have hif := g_if h
    clear h
    refine g_icmp_ge C dX12_copy_138 (q := 141) (tgt := 169) rfl (by decide) (fun c => ?_) (fun c => ?_)
    · have h := hif.1 c
      clear hif
      refine g_sub [3] (lv' := [(5, .int x5)]) rfl ?_
      exact hk169 x5 M h
    · have h := hif.2 c
      clear hif
      refine g_aload_n C 0 dX12_copy_141 (q := 142) rfl rfl rfl ?_
      refine g_get C (k := 59) (i := 29) (by decide) (gc_59 Y _ _) rfl kU_X12 (by decide) kF_X12_56 rfl dX12_copy_142 (q := 145) rfl ?_
      refine g_bipush C (v := 40) dX12_copy_145 (q := 147) rfl (by decide) ?_
      refine g_iload_n C 1 dX12_copy_147 (q := 148) rfl rfl rfl ?_
      refine g_imul C dX12_copy_148 (q := 149) rfl ?_
      refine g_iload C 2 dX12_copy_149 (q := 151) rfl rfl ?_
      refine g_iadd C dX12_copy_151 (q := 152) rfl ?_
      refine g_iload C 4 dX12_copy_152 (q := 154) rfl rfl ?_
      refine g_iadd C dX12_copy_154 (q := 155) rfl ?_
      refine g_aload_n C 0 dX12_copy_155 (q := 156) rfl rfl rfl ?_
      refine g_get C (k := 59) (i := 30) (by decide) (gc_59 Y _ _) rfl kU_X12 (by decide) kF_X12_60 rfl dX12_copy_156 (q := 159) rfl ?_
      refine g_iload C 4 dX12_copy_159 (q := 161) rfl rfl ?_
      obtain ⟨v14, hv14, h⟩ := g_bind h
      refine g_lald C (k := 76) (n := 40) (by decide) (gc_76 Y _ _) hv14 dX12_copy_161 (q := 162) rfl ?_
      obtain ⟨M15, hM15, h⟩ := g_bind h
      refine g_last C (k := 75) (n := 160) (by decide) (fun b => gc_75 Y _ b) hM15 dX12_copy_162 (q := 163) rfl ?_
      refine g_iinc C (k := 4) (v := x6 + 1) dX12_copy_163 (q := 166) rfl rfl rfl (by decide) (lv' := [(6, .int (x6 + 1)), (0, g_r Y 59), (3, .int x3), (4, .int x4), (5, .int x5)]) rfl ?_
      refine g_goto C dX12_copy_166 (tgt := 134) (by decide) ?_
      refine g_sub [1, 2, 3, 4, 0] (lv' := [(0, g_r Y 59), (3, .int x3), (4, .int x4), (5, .int x5), (6, .int (x6 + 1))]) rfl ?_
      exact ih x3 x4 x5 (x6 + 1) M15 h
theorem r_X12_copy_134 {p : Int32 × g_M} {k169 : Int32 → g_M → Option (Int32 × g_M)} (hk169 : ∀ (x5 : Int32) (M : g_M), k169 x5 M = some p → g_fr [63, 75, 76] [] M p.2) (n : Nat) : ∀ (x3 : Int32) (x4 : Int32) (x5 : Int32) (x6 : Int32) (M : g_M), g_lp4 (F_X12_copy_134 k169) n x3 x4 x5 x6 M = some p → g_fr [63, 75, 76] [] M p.2 := by
  induction n with
  | zero => intro x3 x4 x5 x6 M h; exact (g_nn h).elim
  | succ n ih =>
    intro x3 x4 x5 x6 M h
    have h : F_X12_copy_134 k169 (g_lp4 (F_X12_copy_134 k169) n) x3 x4 x5 x6 M = some p := h
    generalize g_lp4 (F_X12_copy_134 k169) n = k at h ih
    unfold F_X12_copy_134 at h
    have hf := g_fr.rfl (S := [63, 75, 76]) (T := []) (M := M)
    rcases g_ifs h with h | h
    · exact hf.trans (hk169 x5 M h)
    · obtain ⟨v14, -, h⟩ := g_bind h
      obtain ⟨M15, hM15, h⟩ := g_bind h
      have hf := hf.stl hM15 (by decide)
      exact hf.trans (ih x3 x4 x5 (x6 + 1) M15 h)
def f_X12_copy (x1 : Int32) (x2 : Int32) (x3 : Int32) (x4 : Int32) (x5 : Int32) (M : g_M) : Option (Int32 × g_M) :=
  (f_X12_isSheet x1 M).bind fun p1 => (if p1 = 0 then (f_X12_copy_14 M) else ((f_X12_isSheet x3 M).bind fun p3 => (if p3 = 0 then (f_X12_copy_14 M) else ((g_ld M 73 4 x1).bind fun v4 => (if v4 = 0 then (f_X12_copy_38 M) else ((g_ld M 73 4 x3).bind fun v6 => (if v6 = 0 then (f_X12_copy_38 M) else ((g_ld M 73 4 x1).bind fun v7 => (g_ld M 73 4 x3).bind fun v8 => (if v7 = v8 then ((f_X12_has x1 x2 x5 M).bind fun p9 => (if p9 = 0 then (f_X12_copy_88 M) else ((f_X12_has x3 x4 x5 M).bind fun p11 => (if p11 = 0 then (f_X12_copy_88 M) else (g_lp6 (F_X12_copy_97 (fun (x3 : Int32) (x4 : Int32) (x5 : Int32) (M : g_M) => g_lp4 (F_X12_copy_134 (fun (x5 : Int32) (M : g_M) => some (x5, M))) 20000000 x3 x4 x5 0 M)) 20000000 x1 x2 x3 x4 x5 0 M))))) else ((f_X12_finding 2 M).bind fun p16 => some (p16.1, p16.2)))))))))))
set_option maxRecDepth 100000 in
theorem m_X12_copy {l : Launch} {Y : g_Y} {x1 : Int32} {x2 : Int32} {x3 : Int32} {x4 : Int32} {x5 : Int32} {M : g_M} {p : Int32 × g_M} (h : f_X12_copy x1 x2 x3 x4 x5 M = some p) : g_R l Y (2) yX12_copy cX12_copy 7 (some .int) [g_r Y 59, .int x1, .int x2, .int x3, .int x4, .int x5] M (some (.int p.1)) p.2 := by
  unfold f_X12_copy at h
  refine g_R_of kP_X12 rfl (Nat.le_of_ble_eq_true rfl) (fun X C E => ?_)
  show g_G 7 X Y 0 [(0, g_r Y 59), (1, .int x1), (2, .int x2), (3, .int x3), (4, .int x4), (5, .int x5)] [] M
  refine g_iload_n C 1 dX12_copy_0 (q := 1) rfl rfl rfl ?_
  obtain ⟨p1, hp1, h⟩ := g_bind h
  refine g_callS C (as := [.int x1]) (st := []) (m_X12_isSheet hp1) (g_hR (by decide)) (by decide) kM_X12_300 kT_X12_isSheet kN_X12 kC_X12_isSheet kD_X12_isSheet rfl (Nat.le_of_ble_eq_true rfl) dX12_copy_1 (q := 4) rfl ?_
  show g_G 7 X Y 4 [(0, g_r Y 59), (1, .int x1), (2, .int x2), (3, .int x3), (4, .int x4), (5, .int x5)] [.int p1] M
  have hif := g_if h
  clear h
  refine g_if_eq C dX12_copy_4 (q := 7) (tgt := 14) rfl (by decide) (fun c => ?_) (fun c => ?_)
  · have h := hif.1 c
    clear hif
    refine g_sub [0] (lv' := [(0, g_r Y 59)]) rfl ?_
    exact t_X12_copy_14 C E M h
  · have h := hif.2 c
    clear hif
    refine g_iload_n C 3 dX12_copy_7 (q := 8) rfl rfl rfl ?_
    obtain ⟨p3, hp3, h⟩ := g_bind h
    refine g_callS C (as := [.int x3]) (st := []) (m_X12_isSheet hp3) (g_hR (by decide)) (by decide) kM_X12_300 kT_X12_isSheet kN_X12 kC_X12_isSheet kD_X12_isSheet rfl (Nat.le_of_ble_eq_true rfl) dX12_copy_8 (q := 11) rfl ?_
    show g_G 7 X Y 11 [(0, g_r Y 59), (1, .int x1), (2, .int x2), (3, .int x3), (4, .int x4), (5, .int x5)] [.int p3] M
    have hif := g_if h
    clear h
    refine g_if_ne C dX12_copy_11 (q := 14) (tgt := 20) rfl (by decide) (fun c => ?_) (fun c => ?_)
    · have h := hif.2 c
      clear hif
      refine g_aload_n C 0 dX12_copy_20 (q := 21) rfl rfl rfl ?_
      refine g_get C (k := 59) (i := 27) (by decide) (gc_59 Y _ _) rfl kU_X12 (by decide) kF_X12_50 rfl dX12_copy_21 (q := 24) rfl ?_
      refine g_iload_n C 1 dX12_copy_24 (q := 25) rfl rfl rfl ?_
      obtain ⟨v4, hv4, h⟩ := g_bind h
      refine g_iald C (k := 73) (n := 4) (by decide) (gc_73 Y _ _) hv4 dX12_copy_25 (q := 26) rfl ?_
      have hif := g_if h
      clear h
      refine g_if_eq C dX12_copy_26 (q := 29) (tgt := 38) rfl (by decide) (fun c => ?_) (fun c => ?_)
      · have h := hif.1 c
        clear hif
        refine g_sub [0] (lv' := [(0, g_r Y 59)]) rfl ?_
        exact t_X12_copy_38 C E M h
      · have h := hif.2 c
        clear hif
        refine g_aload_n C 0 dX12_copy_29 (q := 30) rfl rfl rfl ?_
        refine g_get C (k := 59) (i := 27) (by decide) (gc_59 Y _ _) rfl kU_X12 (by decide) kF_X12_50 rfl dX12_copy_30 (q := 33) rfl ?_
        refine g_iload_n C 3 dX12_copy_33 (q := 34) rfl rfl rfl ?_
        obtain ⟨v6, hv6, h⟩ := g_bind h
        refine g_iald C (k := 73) (n := 4) (by decide) (gc_73 Y _ _) hv6 dX12_copy_34 (q := 35) rfl ?_
        have hif := g_if h
        clear h
        refine g_if_ne C dX12_copy_35 (q := 38) (tgt := 44) rfl (by decide) (fun c => ?_) (fun c => ?_)
        · have h := hif.2 c
          clear hif
          refine g_aload_n C 0 dX12_copy_44 (q := 45) rfl rfl rfl ?_
          refine g_get C (k := 59) (i := 27) (by decide) (gc_59 Y _ _) rfl kU_X12 (by decide) kF_X12_50 rfl dX12_copy_45 (q := 48) rfl ?_
          refine g_iload_n C 1 dX12_copy_48 (q := 49) rfl rfl rfl ?_
          obtain ⟨v7, hv7, h⟩ := g_bind h
          refine g_iald C (k := 73) (n := 4) (by decide) (gc_73 Y _ _) hv7 dX12_copy_49 (q := 50) rfl ?_
          refine g_aload_n C 0 dX12_copy_50 (q := 51) rfl rfl rfl ?_
          refine g_get C (k := 59) (i := 27) (by decide) (gc_59 Y _ _) rfl kU_X12 (by decide) kF_X12_50 rfl dX12_copy_51 (q := 54) rfl ?_
          refine g_iload_n C 3 dX12_copy_54 (q := 55) rfl rfl rfl ?_
          obtain ⟨v8, hv8, h⟩ := g_bind h
          refine g_iald C (k := 73) (n := 4) (by decide) (gc_73 Y _ _) hv8 dX12_copy_55 (q := 56) rfl ?_
          have hif := g_if h
          clear h
          refine g_icmp_eq C dX12_copy_56 (q := 59) (tgt := 65) rfl (by decide) (fun c => ?_) (fun c => ?_)
          · have h := hif.1 c
            clear hif
            refine g_aload_n C 0 dX12_copy_65 (q := 66) rfl rfl rfl ?_
            refine g_iload_n C 1 dX12_copy_66 (q := 67) rfl rfl rfl ?_
            refine g_iload_n C 2 dX12_copy_67 (q := 68) rfl rfl rfl ?_
            refine g_iload C 5 dX12_copy_68 (q := 70) rfl rfl ?_
            obtain ⟨p9, hp9, h⟩ := g_bind h
            refine g_callV C (k := 59) (as := [.int x1, .int x2, .int x5]) (st := []) (m_X12_has hp9) (g_hR (by decide)) (by decide) (by decide) (gc_59 Y _ _) rfl kM_X12_303 kI_X12_has kS_X12_has kN_X12 kC_X12_has kD_X12_has rfl (Nat.le_of_ble_eq_true rfl) dX12_copy_70 (q := 73) rfl ?_
            show g_G 7 X Y 73 [(0, g_r Y 59), (1, .int x1), (2, .int x2), (3, .int x3), (4, .int x4), (5, .int x5)] [.int p9] M
            have hif := g_if h
            clear h
            refine g_if_eq C dX12_copy_73 (q := 76) (tgt := 88) rfl (by decide) (fun c => ?_) (fun c => ?_)
            · have h := hif.1 c
              clear hif
              refine g_sub [0] (lv' := [(0, g_r Y 59)]) rfl ?_
              exact t_X12_copy_88 C E M h
            · have h := hif.2 c
              clear hif
              refine g_aload_n C 0 dX12_copy_76 (q := 77) rfl rfl rfl ?_
              refine g_iload_n C 3 dX12_copy_77 (q := 78) rfl rfl rfl ?_
              refine g_iload C 4 dX12_copy_78 (q := 80) rfl rfl ?_
              refine g_iload C 5 dX12_copy_80 (q := 82) rfl rfl ?_
              obtain ⟨p11, hp11, h⟩ := g_bind h
              refine g_callV C (k := 59) (as := [.int x3, .int x4, .int x5]) (st := []) (m_X12_has hp11) (g_hR (by decide)) (by decide) (by decide) (gc_59 Y _ _) rfl kM_X12_303 kI_X12_has kS_X12_has kN_X12 kC_X12_has kD_X12_has rfl (Nat.le_of_ble_eq_true rfl) dX12_copy_82 (q := 85) rfl ?_
              show g_G 7 X Y 85 [(0, g_r Y 59), (1, .int x1), (2, .int x2), (3, .int x3), (4, .int x4), (5, .int x5)] [.int p11] M
              have hif := g_if h
              clear h
              refine g_if_ne C dX12_copy_85 (q := 88) (tgt := 94) rfl (by decide) (fun c => ?_) (fun c => ?_)
              · have h := hif.2 c
                clear hif
                refine g_iconst C (v := 0) dX12_copy_94 (q := 95) rfl (by decide) ?_
                refine g_istore C dX12_copy_95 (q := 97) rfl (by decide) (lv' := [(6, .int 0), (0, g_r Y 59), (1, .int x1), (2, .int x2), (3, .int x3), (4, .int x4), (5, .int x5)]) rfl ?_
                refine g_sub [1, 2, 3, 4, 5, 6, 0] (lv' := [(0, g_r Y 59), (1, .int x1), (2, .int x2), (3, .int x3), (4, .int x4), (5, .int x5), (6, .int 0)]) rfl ?_
                refine t_X12_copy_97 C E ?_ 20000000 x1 x2 x3 x4 x5 0 M h
                · intro x3 x4 x5 M h
                  try dsimp only at h
                  refine g_iconst C (v := 0) dX12_copy_131 (q := 132) rfl (by decide) ?_
                  refine g_istore C dX12_copy_132 (q := 134) rfl (by decide) (lv' := [(6, .int 0), (0, g_r Y 59), (3, .int x3), (4, .int x4), (5, .int x5)]) rfl ?_
                  refine g_sub [1, 2, 3, 4, 0] (lv' := [(0, g_r Y 59), (3, .int x3), (4, .int x4), (5, .int x5), (6, .int 0)]) rfl ?_
                  refine t_X12_copy_134 C E ?_ 20000000 x3 x4 x5 0 M h
                  · intro x5 M h
                    try dsimp only at h
                    refine g_iload C 0 dX12_copy_169 (q := 171) rfl rfl ?_
                    obtain rfl := Option.some.inj h
                    exact g_iret C E dX12_copy_171
              · have h := hif.1 c
                clear hif
                refine g_sub [0] (lv' := [(0, g_r Y 59)]) rfl ?_
                exact t_X12_copy_88 C E M h
          · have h := hif.2 c
            clear hif
            refine g_aload_n C 0 dX12_copy_59 (q := 60) rfl rfl rfl ?_
            refine g_iconst C (v := 2) dX12_copy_60 (q := 61) rfl (by decide) ?_
            obtain ⟨p16, hp16, h⟩ := g_bind h
            refine g_callV C (k := 59) (as := [.int 2]) (st := []) (m_X12_finding hp16) (g_hR (by decide)) (by decide) (by decide) (gc_59 Y _ _) rfl kM_X12_190 kI_X12_finding kS_X12_finding kN_X12 kC_X12_finding kD_X12_finding rfl (Nat.le_of_ble_eq_true rfl) dX12_copy_61 (q := 64) rfl ?_
            show g_G 7 X Y 64 [(0, g_r Y 59), (1, .int x1), (2, .int x2), (3, .int x3), (4, .int x4), (5, .int x5)] [.int p16.1] p16.2
            obtain rfl := Option.some.inj h
            exact g_iret C E dX12_copy_64
        · have h := hif.1 c
          clear hif
          refine g_sub [0] (lv' := [(0, g_r Y 59)]) rfl ?_
          exact t_X12_copy_38 C E M h
    · have h := hif.1 c
      clear hif
      refine g_sub [0] (lv' := [(0, g_r Y 59)]) rfl ?_
      exact t_X12_copy_14 C E M h
theorem r_X12_copy {x1 : Int32} {x2 : Int32} {x3 : Int32} {x4 : Int32} {x5 : Int32} {M : g_M} {p : Int32 × g_M} (h : f_X12_copy x1 x2 x3 x4 x5 M = some p) : g_fr [63, 75, 76] [] M p.2 := by
  unfold f_X12_copy at h
  have hf := g_fr.rfl (S := [63, 75, 76]) (T := []) (M := M)
  obtain ⟨p1, -, h⟩ := g_bind h
  rcases g_ifs h with h | h
  · exact hf.trans (r_X12_copy_14 M h)
  · obtain ⟨p3, -, h⟩ := g_bind h
    rcases g_ifs h with h | h
    · exact hf.trans (r_X12_copy_14 M h)
    · obtain ⟨v4, -, h⟩ := g_bind h
      rcases g_ifs h with h | h
      · exact hf.trans (r_X12_copy_38 M h)
      · obtain ⟨v6, -, h⟩ := g_bind h
        rcases g_ifs h with h | h
        · exact hf.trans (r_X12_copy_38 M h)
        · obtain ⟨v7, -, h⟩ := g_bind h
          obtain ⟨v8, -, h⟩ := g_bind h
          rcases g_ifs h with h | h
          · obtain ⟨p9, -, h⟩ := g_bind h
            rcases g_ifs h with h | h
            · exact hf.trans (r_X12_copy_88 M h)
            · obtain ⟨p11, -, h⟩ := g_bind h
              rcases g_ifs h with h | h
              · exact hf.trans (r_X12_copy_88 M h)
              · refine hf.trans (r_X12_copy_97 ?_ 20000000 x1 x2 x3 x4 x5 0 M h)
                · intro x3 x4 x5 M h
                  try dsimp only at h
                  have hf := g_fr.rfl (S := [63, 75, 76]) (T := []) (M := M)
                  refine hf.trans (r_X12_copy_134 ?_ 20000000 x3 x4 x5 0 M h)
                  · intro x5 M h
                    try dsimp only at h
                    have hf := g_fr.rfl (S := [63, 75, 76]) (T := []) (M := M)
                    obtain rfl := Option.some.inj h
                    exact hf
          · obtain ⟨p16, hp16, h⟩ := g_bind h
            have hf := hf.trans ((r_X12_finding hp16).mono (by decide) (by decide))
            obtain rfl := Option.some.inj h
            exact hf
