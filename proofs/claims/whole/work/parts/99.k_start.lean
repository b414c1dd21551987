/-! ===== the start: what the tables and the Statement say of classes, rows and texts ===== -/
def st_ix : List Nat := [106, 112, 114, 116, 118, 120, 122, 124, 126, 128, 130]
def st_iy : List Nat := [183, 185, 179, 174, 166, 137, 139, 150, 152, 154, 119]
def st_tm (i : Nat) : Term := .string RX9 (st_ix.getD i 0)
def st_fl : List Cond := flatC (Jvm.Cond.and given_1 narrow_1)
theorem st_m1 : ∀ i : Nat, i < 11 → Cond.exactly (st_tm i) "java/lang/String" ∈ st_fl := by decide +kernel
theorem st_m2 : ∀ i : Nat, i < 11 → Cond.eq (.field (st_tm i) "java/lang/String" "coder" "B") (.int 0) ∈ st_fl := by decide +kernel
theorem st_m3 : ∀ i : Nat, i < 11 → Cond.arrayOf (.field (st_tm i) "java/lang/String" "value" "[B") .byte ∈ st_fl := by decide +kernel
theorem st_m4 : ∀ i : Nat, i < 11 → Cond.eq (.length (.field (st_tm i) "java/lang/String" "value" "[B")) (.int (Int32.ofNat (g_slen.getD i 0))) ∈ st_fl := by decide +kernel
theorem st_m5 : ∀ i : Nat, i < 11 → ∀ j : Nat, j < g_slen.getD i 0 → Cond.eq (.elem (.field (st_tm i) "java/lang/String" "value" "[B") (.int (Int32.ofNat j))) (.int ((g_sbyt.getD i []).getD j 0)) ∈ st_fl := by decide +kernel
def st_px : List (List Nat) := [[0, 25, 32, 41, 51, 64, 75, 88, 102, 119, 140], [0, 0, 33, 42, 52, 65, 76, 89, 103, 120, 141], [0, 0, 0, 43, 53, 66, 77, 90, 104, 121, 142], [0, 0, 0, 0, 54, 67, 78, 91, 105, 122, 143], [0, 0, 0, 0, 0, 68, 79, 92, 106, 123, 144], [0, 0, 0, 0, 0, 0, 80, 93, 107, 124, 145], [0, 0, 0, 0, 0, 0, 0, 94, 108, 125, 146], [0, 0, 0, 0, 0, 0, 0, 0, 109, 126, 147], [0, 0, 0, 0, 0, 0, 0, 0, 0, 127, 148], [0, 0, 0, 0, 0, 0, 0, 0, 0, 0, 149], [0, 0, 0, 0, 0, 0, 0, 0, 0, 0, 0]]
theorem st_m6 : ∀ i : Nat, i < 11 → ∀ j : Nat, j < 11 → j ≤ i ∨ st_fl[(st_px.getD i []).getD j 0]? = some (Cond.not (Cond.eq (st_tm i) (st_tm j))) := by decide +kernel
theorem st_m7 : ∀ i : Nat, i < 11 → Cond.eq (st_tm i) (.string RX12 (st_iy.getD i 0)) ∈ st_fl := by decide +kernel
theorem st_m8 : Cond.eq (.static "java/lang/String" "COMPACT_STRINGS" "Z") (.int 1) ∈ st_fl := by decide +kernel
theorem st_m9 : Cond.isRef (.static "jdk/internal/util/Preconditions" "SIOOBE_FORMATTER" "Ljava/util/function/BiFunction;") ∈ st_fl := by decide +kernel
theorem st_S {s : State} {args : Array Value} {A : Nat → Prop} (hts : ∀ w ∈ lw_tbl, w.before args s = true) (h : (Jvm.Cond.and given_1 narrow_1).before args s = true) (hA : ∀ a : Nat, a < s.heap.size → ¬ A a) : ∃ S1 S2 : Nat → Nat, ∀ (D : va_G) (cy : Nat → ClassId) (ad : Nat → Nat), g_S (D, cy, ad, S1, S2) A s s.heap := by
  have hs : ∀ c ∈ st_fl, c.before args s = true := flat_of_before _ h
  obtain ⟨S1, S2, h1, h2⟩ := vk_Sof (args := args) (s := s) (N := 11) (tm := st_tm) (len := g_slen) (byt := g_sbyt) (A := A) (by decide +kernel) (fun i hi => hs _ (st_m1 i hi)) (fun i hi => hs _ (st_m2 i hi)) (fun i hi => hs _ (st_m3 i hi)) (fun i hi => hs _ (st_m4 i hi)) (fun i hi j hj => hs _ (st_m5 i hi j hj)) (fun i j hi hj hne => by
    rcases Nat.lt_or_gt_of_ne hne with c | c
    · rcases st_m6 i hi j hj with q | q
      · exact absurd q (by omega)
      · exact Or.inl (hs _ (List.mem_of_getElem? q))
    · rcases st_m6 j hj i hi with q | q
      · exact absurd q (by omega)
      · exact Or.inr (hs _ (List.mem_of_getElem? q))) hA
  have h3 : ∀ i : Nat, i < 11 → (Term.string RX12 (st_iy.getD i 0)).eval args s none [] s = some (.ref (S1 i)) := fun i hi => va_eqR (hs _ (st_m7 i hi)) (h2 i hi)
  refine ⟨S1, S2, fun D cy ad => ⟨?_, h1, ?_, ?_⟩⟩
  · show ∀ q ∈ g_strs, vk_R q.1 q.2.1 q.2.2.1 (S1 q.2.2.2) s
    exact List.forall_mem_cons.mpr ⟨vk_R.of (hts _ (tb2 _ (List.mem_of_getElem? (i := 203) rfl))) (h2 0 (by decide)), List.forall_mem_cons.mpr ⟨vk_R.of (hts _ (tb3 _ (List.mem_of_getElem? (i := 16) rfl))) (h2 1 (by decide)), List.forall_mem_cons.mpr ⟨vk_R.of (hts _ (tb3 _ (List.mem_of_getElem? (i := 17) rfl))) (h2 2 (by decide)), List.forall_mem_cons.mpr ⟨vk_R.of (hts _ (tb3 _ (List.mem_of_getElem? (i := 18) rfl))) (h2 3 (by decide)), List.forall_mem_cons.mpr ⟨vk_R.of (hts _ (tb3 _ (List.mem_of_getElem? (i := 19) rfl))) (h2 4 (by decide)), List.forall_mem_cons.mpr ⟨vk_R.of (hts _ (tb3 _ (List.mem_of_getElem? (i := 20) rfl))) (h2 5 (by decide)), List.forall_mem_cons.mpr ⟨vk_R.of (hts _ (tb3 _ (List.mem_of_getElem? (i := 21) rfl))) (h2 6 (by decide)), List.forall_mem_cons.mpr ⟨vk_R.of (hts _ (tb3 _ (List.mem_of_getElem? (i := 22) rfl))) (h2 7 (by decide)), List.forall_mem_cons.mpr ⟨vk_R.of (hts _ (tb3 _ (List.mem_of_getElem? (i := 23) rfl))) (h2 8 (by decide)), List.forall_mem_cons.mpr ⟨vk_R.of (hts _ (tb3 _ (List.mem_of_getElem? (i := 24) rfl))) (h2 9 (by decide)), List.forall_mem_cons.mpr ⟨vk_R.of (hts _ (tb3 _ (List.mem_of_getElem? (i := 25) rfl))) (h2 10 (by decide)), List.forall_mem_cons.mpr ⟨vk_R.of (hts _ (tb5 _ (List.mem_of_getElem? (i := 188) rfl))) (h3 0 (by decide)), List.forall_mem_cons.mpr ⟨vk_R.of (hts _ (tb6 _ (List.mem_of_getElem? (i := 0) rfl))) (h3 1 (by decide)), List.forall_mem_cons.mpr ⟨vk_R.of (hts _ (tb5 _ (List.mem_of_getElem? (i := 239) rfl))) (h3 2 (by decide)), List.forall_mem_cons.mpr ⟨vk_R.of (hts _ (tb5 _ (List.mem_of_getElem? (i := 238) rfl))) (h3 3 (by decide)), List.forall_mem_cons.mpr ⟨vk_R.of (hts _ (tb5 _ (List.mem_of_getElem? (i := 211) rfl))) (h3 4 (by decide)), List.forall_mem_cons.mpr ⟨vk_R.of (hts _ (tb5 _ (List.mem_of_getElem? (i := 216) rfl))) (h3 5 (by decide)), List.forall_mem_cons.mpr ⟨vk_R.of (hts _ (tb5 _ (List.mem_of_getElem? (i := 221) rfl))) (h3 6 (by decide)), List.forall_mem_cons.mpr ⟨vk_R.of (hts _ (tb5 _ (List.mem_of_getElem? (i := 231) rfl))) (h3 7 (by decide)), List.forall_mem_cons.mpr ⟨vk_R.of (hts _ (tb5 _ (List.mem_of_getElem? (i := 232) rfl))) (h3 8 (by decide)), List.forall_mem_cons.mpr ⟨vk_R.of (hts _ (tb5 _ (List.mem_of_getElem? (i := 233) rfl))) (h3 9 (by decide)), List.forall_mem_cons.mpr ⟨vk_R.of (hts _ (tb5 _ (List.mem_of_getElem? (i := 226) rfl))) (h3 10 (by decide)), fun _ h => absurd h List.not_mem_nil⟩⟩⟩⟩⟩⟩⟩⟩⟩⟩⟩⟩⟩⟩⟩⟩⟩⟩⟩⟩⟩⟩
  · exact va_Zof (hts _ (tb2 _ (List.mem_of_getElem? (i := 217) rfl))) (hts _ (g_wi _ kN_J0)) (va_eqt (hs _ st_m8)) hA
  · exact va_Zqof (hts _ (tb2 _ (List.mem_of_getElem? (i := 233) rfl))) (hts _ (g_wi _ kN_J3)) (hs _ st_m9) hA
theorem st_classes {s : State} (cl : List vw_C) (h : ∀ q ∈ cl, ∃ (cC : ClassId) (iS : Nat → Nat), u_Kn s q.1 q.2.1 q.2.2 cC iS) : ∃ D : va_G, ∀ (c : Nat) (q : vw_C), cl[c]? = some q → u_Kn s q.1 q.2.1 q.2.2 (D.1 c) (D.2 c) := by
  have h0 : ∀ c : Nat, ∃ d : ClassId × (Nat → Nat), ∀ q : vw_C, cl[c]? = some q → u_Kn s q.1 q.2.1 q.2.2 d.1 d.2 := by
    intro c
    cases e : cl[c]? with
    | none => exact ⟨(0, fun _ => 0), fun q hq => by cases hq⟩
    | some q =>
      obtain ⟨cC, iS, hk⟩ := h q (List.mem_of_getElem? e)
      exact ⟨(cC, iS), fun q' hq => by cases hq; exact hk⟩
  obtain ⟨d, hd⟩ := Classical.axiomOfChoice h0
  exact ⟨(fun c => (d c).1, fun c => (d c).2), fun c q hq => hd c q hq⟩
theorem st_vw {s : State} {args : Array Value} (hts : ∀ w ∈ g_ws, w.before args s = true) : ∀ q ∈ vwCl, ∃ (cC : ClassId) (iS : Nat → Nat), u_Kn s q.1 q.2.1 q.2.2 cC iS :=
  List.forall_mem_cons.mpr ⟨u_known hts kU_X0 (hts _ kZ_X0), List.forall_mem_cons.mpr ⟨u_known hts kU_X1 (hts _ kZ_X1), List.forall_mem_cons.mpr ⟨u_known hts kU_X2 (hts _ kZ_X2), List.forall_mem_cons.mpr ⟨u_known hts kU_X3 (hts _ kZ_X3), List.forall_mem_cons.mpr ⟨u_known hts kU_X4 (hts _ kZ_X4), List.forall_mem_cons.mpr ⟨u_known hts kU_X5 (hts _ kZ_X5), List.forall_mem_cons.mpr ⟨u_known hts kU_X6 (hts _ kZ_X6), List.forall_mem_cons.mpr ⟨u_known hts kU_X7 (hts _ kZ_X7), List.forall_mem_cons.mpr ⟨u_known hts kU_X8 (hts _ kZ_X8), List.forall_mem_cons.mpr ⟨u_known hts kU_X9 (hts _ kZ_X9), List.forall_mem_cons.mpr ⟨u_known hts kU_X10 (hts _ kZ_X10), List.forall_mem_cons.mpr ⟨u_known hts kU_X11 (hts _ kZ_X11), List.forall_mem_cons.mpr ⟨u_known hts kU_X12 (hts _ kZ_X12), fun _ h => absurd h List.not_mem_nil⟩⟩⟩⟩⟩⟩⟩⟩⟩⟩⟩⟩⟩
theorem st_arr {s : State} {args : Array Value} {ty : FieldType} (hp : ty = .int ∨ ty = .long ∨ ty = .boolean) (h : (Cond.arrayClass ty).before args s = true) : ∃ cA : ClassId, ArrOfT s cA ty ∧ va_RA s cA ty := by
  obtain ⟨c, k, comp, h1, h2, h3⟩ := Cond.arrayClass_spec h
  refine ⟨c, fun n z => ⟨(fun k h => (by cases h)), k, h2, comp, h3⟩, ?_⟩
  rcases hp with rfl | rfl | rfl <;> exact h1
theorem st_arrS {s : State} {args : Array Value} {C : String} (h : (Cond.arrayOver (.object C)).before args s = true) : ∃ cA : ClassId, ArrOfT s cA (.object C) ∧ va_RA s cA (.object C) := by
  obtain ⟨comp, c, k, h1, -, h2, h3, h4⟩ := Cond.arrayOver_spec h
  exact ⟨c, fun n z => ⟨(fun k h => (by cases h)), k, h2, comp, h3⟩, k, comp, h2, h3, h1, h4⟩
theorem st_arrA {s : State} {args : Array Value} (h : (Cond.arrayOver (.array .int)).before args s = true) : ∃ cA : ClassId, ArrOfT s cA (.array .int) ∧ va_RA s cA (.array .int) := by
  obtain ⟨comp, c, k, h1, h2, h3, h4⟩ := ao_spec h
  exact ⟨c, fun n z => ⟨(fun k h => (by cases h)), k, h2, comp, h3⟩, h4⟩
theorem st_Z {s : State} {args : Array Value} (hts : ∀ w ∈ lw_tbl, w.before args s = true) : n_Z s := by
  refine ⟨?_, va_AO.of (hts _ (tb2 _ (List.mem_of_getElem? (i := 49) rfl))), (hts _ (tb1 _ (List.mem_of_getElem? (i := 94) rfl)))⟩
  exact List.forall_mem_cons.mpr ⟨va_Nw.of rfl (hts _ (tb1 _ (List.mem_of_getElem? (i := 32) rfl))), List.forall_mem_cons.mpr ⟨va_Nw.of rfl (hts _ (tb1 _ (List.mem_of_getElem? (i := 48) rfl))), List.forall_mem_cons.mpr ⟨va_Nw.of rfl (hts _ (tb1 _ (List.mem_of_getElem? (i := 89) rfl))), List.forall_mem_cons.mpr ⟨va_Nw.of rfl (hts _ (tb1 _ (List.mem_of_getElem? (i := 116) rfl))), List.forall_mem_cons.mpr ⟨va_Nw.of rfl (hts _ (tb1 _ (List.mem_of_getElem? (i := 158) rfl))), List.forall_mem_cons.mpr ⟨va_Nw.of rfl (hts _ (tb1 _ (List.mem_of_getElem? (i := 208) rfl))), List.forall_mem_cons.mpr ⟨va_Nw.of rfl (hts _ (tb1 _ (List.mem_of_getElem? (i := 226) rfl))), List.forall_mem_cons.mpr ⟨va_Nw.of rfl (hts _ (tb2 _ (List.mem_of_getElem? (i := 8) rfl))), List.forall_mem_cons.mpr ⟨va_Nw.of rfl (hts _ (tb2 _ (List.mem_of_getElem? (i := 28) rfl))), List.forall_mem_cons.mpr ⟨va_Nw.of rfl (hts _ (tb2 _ (List.mem_of_getElem? (i := 51) rfl))), List.forall_mem_cons.mpr ⟨va_Nw.of rfl (hts _ (tb1 _ (List.mem_of_getElem? (i := 164) rfl))), fun _ h => absurd h List.not_mem_nil⟩⟩⟩⟩⟩⟩⟩⟩⟩⟩⟩
theorem st_K {s : State} {args : Array Value} (hts : ∀ w ∈ g_ws, w.before args s = true) (hZ : n_Z s) : ∃ (D : va_G) (cy : Nat → ClassId), va_K D vwCl (n_tys cy) s := by
  obtain ⟨D, hD⟩ := st_classes vwCl (st_vw hts)
  obtain ⟨c0, a0, b0⟩ := st_arr (Or.inl rfl) (hts _ kA_I)
  obtain ⟨c1, a1, b1⟩ := st_arr (Or.inr (Or.inl rfl)) (hts _ kA_J)
  obtain ⟨c2, a2, b2⟩ := st_arr (Or.inr (Or.inr rfl)) (hts _ kA_Z)
  obtain ⟨c3, a3, b3⟩ := st_arrS (args := args) hZ.2.1
  obtain ⟨c4, a4, b4⟩ := st_arrA (args := args) hZ.2.2
  refine ⟨D, fun k => match k with | 0 => c0 | 1 => c1 | 2 => c2 | 3 => c3 | _ => c4, hD, fun k q hk => ?_⟩
  match k, hk with
  | 0, hk => obtain rfl := Option.some.inj hk; exact ⟨a0, b0⟩
  | 1, hk => obtain rfl := Option.some.inj hk; exact ⟨a1, b1⟩
  | 2, hk => obtain rfl := Option.some.inj hk; exact ⟨a2, b2⟩
  | 3, hk => obtain rfl := Option.some.inj hk; exact ⟨a3, b3⟩
  | 4, hk => obtain rfl := Option.some.inj hk; exact ⟨a4, b4⟩
  | n + 5, hk => simp [n_tys] at hk
