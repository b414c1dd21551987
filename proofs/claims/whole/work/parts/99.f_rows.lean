/-! ===== constructors: their surroundings and rows ===== -/
def n_tys (cy : Nat → ClassId) : List (ClassId × FieldType) := [(cy 0, .int), (cy 1, .long), (cy 2, .boolean), (cy 3, .object "ElderChest$Sheet"), (cy 4, .array .int)]
def n_C (l : Launch) (R : Room) (own : String) (cc : ByteArray) (nL : Nat) (X : g_X) (D : va_G) (cy : Nat → ClassId) : Prop :=
  X.p.tables.exec = Jvm.exec ∧ X.c.code = cc ∧ X.c.maxLocals = nL ∧ X.s.vm.findClass own = some X.m.cls ∧ (∀ w ∈ g_ws, w.before X.args X.s = true) ∧ va_K D vwCl (n_tys cy) X.s ∧ (∀ q, X.s.heap.size ≤ q → X.A q) ∧ X.l = l ∧ X.R = R
/-- from this pc, these places, this stack, over this world, with k cells of n slots made, the body comes to its end -/
def n_G (nL : Nat) (X : g_X) (D : va_G) (k n pc : Nat) (lv : List (Nat × Value)) (st : List Value) (w : va_W) : Prop :=
  ∀ (H : Heap) (locs : List Loc) (ls : Array Slot), va_P D vwCl w H → va_D X.A w → va_S X.A X.s.heap H locs → lv_has ls nL lv → W X.p X.l X.e X.R X.s X.m X.args X.below X.meth X.c H locs k n X.Q (F0 X.m pc ls st)
section NROWS
variable {l : Launch} {R : Room} {own : String} {cc : ByteArray} {nL : Nat} {X : g_X} {D : va_G} {cy : Nat → ClassId} {k n pc q tgt : Nat} {lv lv' : List (Nat × Value)} {st : List Value} {w : va_W}
theorem n_aload (C : n_C l R own cc nL X D cy) {m : Fin 4} (j : Nat) {i : Nat} {x : Nat} (hd : decode cc pc = .ok (.aload_n m, 1)) (hq : pc + 1 = q) (hi : (m : Nat) = i) (hk : lv[j]? = some (i, .ref x)) (kk : n_G nL X D k n q lv (.ref x :: st) w) : n_G nL X D k n pc lv st w := by
  subst hq
  intro H locs ls hP hD hS hl
  exact lv_aload_n C.1 C.2.1 hd hi (lv_at hl j hk) (kk H locs ls hP hD hS hl)
theorem n_iload (C : n_C l R own cc nL X D cy) {m : Fin 4} (j : Nat) {i : Nat} {x : Int32} (hd : decode cc pc = .ok (.iload_n m, 1)) (hq : pc + 1 = q) (hi : (m : Nat) = i) (hk : lv[j]? = some (i, .int x)) (kk : n_G nL X D k n q lv (.int x :: st) w) : n_G nL X D k n pc lv st w := by
  subst hq
  intro H locs ls hP hD hS hl
  exact lv_iload_n C.1 C.2.1 hd hi (lv_at hl j hk) (kk H locs ls hP hD hS hl)
theorem n_istore (C : n_C l R own cc nL X D cy) {m : Fin 4} {i : Nat} {x : Int32} (hd : decode cc pc = .ok (.istore_n m, 1)) (hq : pc + 1 = q) (hi : (m : Nat) = i) (hn : i < nL) (hv : (i, Value.int x) :: lv.filter (fun q => !(q.1 == i) && !(q.1 + 1 == i && q.2.category == 2)) = lv') (kk : n_G nL X D k n q lv' st w) : n_G nL X D k n pc lv (.int x :: st) w := by
  subst hq
  intro H locs ls hP hD hS hl
  exact lv_istore_n C.1 C.2.1 hd hi hl hn hv (fun ls hl => kk H locs ls hP hD hS hl)
theorem n_astore (C : n_C l R own cc nL X D cy) {m : Fin 4} {i : Nat} {x : Nat} (hd : decode cc pc = .ok (.astore_n m, 1)) (hq : pc + 1 = q) (hi : (m : Nat) = i) (hn : i < nL) (hv : (i, Value.ref x) :: lv.filter (fun q => !(q.1 == i) && !(q.1 + 1 == i && q.2.category == 2)) = lv') (kk : n_G nL X D k n q lv' st w) : n_G nL X D k n pc lv (.ref x :: st) w := by
  subst hq
  intro H locs ls hP hD hS hl
  exact lv_astore_n C.1 C.2.1 hd hi hl hn hv (fun ls hl => kk H locs ls hP hD hS hl)
theorem n_iinc (C : n_C l R own cc nL X D cy) {i j : Nat} {m : Int} {x v : Int32} (hd : decode cc pc = .ok (.iinc i m, 3)) (hq : pc + 3 = q) (hk : lv[j]? = some (i, .int x)) (hx : x + Int32.ofInt m = v) (hn : i < nL) (hv : (i, Value.int v) :: lv.filter (fun q => !(q.1 == i) && !(q.1 + 1 == i && q.2.category == 2)) = lv') (kk : n_G nL X D k n q lv' st w) : n_G nL X D k n pc lv st w := by
  subst hq
  intro H locs ls hP hD hS hl
  exact lv_iinc C.1 C.2.1 hd hl hk hx hn hv (fun ls hl => kk H locs ls hP hD hS hl)
theorem n_iconst (C : n_C l R own cc nL X D cy) {m : Int} {v : Int32} (hd : decode cc pc = .ok (.iconst m, 1)) (hq : pc + 1 = q) (hv : Int32.ofInt m = v) (kk : n_G nL X D k n q lv (.int v :: st) w) : n_G nL X D k n pc lv st w := by
  subst hq
  intro H locs ls hP hD hS hl
  exact lv_iconst C.1 C.2.1 hd hv (kk H locs ls hP hD hS hl)
theorem n_bipush (C : n_C l R own cc nL X D cy) {m : Int} {v : Int32} (hd : decode cc pc = .ok (.bipush m, 2)) (hq : pc + 2 = q) (hv : (Int8.ofInt m).toInt32 = v) (kk : n_G nL X D k n q lv (.int v :: st) w) : n_G nL X D k n pc lv st w := by
  subst hq
  intro H locs ls hP hD hS hl
  exact lv_bipush C.1 C.2.1 hd hv (kk H locs ls hP hD hS hl)
theorem n_sipush (C : n_C l R own cc nL X D cy) {m : Int} {v : Int32} (hd : decode cc pc = .ok (.sipush m, 3)) (hq : pc + 3 = q) (hv : (Int16.ofInt m).toInt32 = v) (kk : n_G nL X D k n q lv (.int v :: st) w) : n_G nL X D k n pc lv st w := by
  subst hq
  intro H locs ls hP hD hS hl
  exact lv_sipush C.1 C.2.1 hd hv (kk H locs ls hP hD hS hl)
theorem n_dup (C : n_C l R own cc nL X D cy) {va : Value} (hd : decode cc pc = .ok (.dup, 1)) (hq : pc + 1 = q) (hva : va.category = 1) (kk : n_G nL X D k n q lv (va :: va :: st) w) : n_G nL X D k n pc lv (va :: st) w := by
  subst hq
  intro H locs ls hP hD hS hl
  exact lv_dup C.1 C.2.1 hd hva (kk H locs ls hP hD hS hl)
theorem n_goto (C : n_C l R own cc nL X D cy) {off : Int} (hd : decode cc pc = .ok (.goto off, 3)) (ht : (pc : Int) + off = (tgt : Int)) (kk : n_G nL X D k n tgt lv st w) : n_G nL X D k n pc lv st w := by
  intro H locs ls hP hD hS hl
  exact lv_goto C.1 C.2.1 hd ht (kk H locs ls hP hD hS hl)
theorem n_icmp_ge (C : n_C l R own cc nL X D cy) {x y : Int32} {off : Int} (hd : decode cc pc = .ok (.if_icmp .ge off, 3)) (hq : pc + 3 = q) (ht : (pc : Int) + off = (tgt : Int)) (kt : y ≤ x → n_G nL X D k n tgt lv st w) (kf : ¬ y ≤ x → n_G nL X D k n q lv st w) : n_G nL X D k n pc lv (.int y :: .int x :: st) w := by
  subst hq
  intro H locs ls hP hD hS hl
  exact lv_icmp_ge C.1 C.2.1 hd ht (fun c => kt c H locs ls hP hD hS hl) (fun c => kf c H locs ls hP hD hS hl)
theorem n_obj (C : n_C l R own cc nL X D cy) {i x : Nat} (h1 : Cond.methodLink own i objectInit ∈ g_ws) (hd : decode cc pc = .ok (.invokespecial i, 3)) (hq : pc + 3 = q) (hI : Cond.instanceMethod objectInit ∈ g_ws) (hCo : Cond.code objectInit ⟨#[0xb1]⟩ 1 none ∈ g_ws) (hf : 1 ≤ R.frames) (hg : 12 ≤ R.locals) (kk : n_G nL X D k n q lv [] w) : n_G nL X D k n pc lv [.ref x] w := by
  subst hq
  intro H locs ls hP hD hS hl
  obtain ⟨hx, hb, hml, hown, hts, hK, hA, rfl, rfl⟩ := C
  refine W.objInit hx hb hown (hts _ h1) (hts _ hI) (hts _ hCo) rfl (by rw [hml]; exact hl.1) rfl hd hf hg ?_
  exact W.eq (g2 := F0 X.m (pc + 3) ls []) rfl (kk H locs ls hP hD hS hl)
/-- a new array whose class stands among the kept ones -/
theorem n_newa (C : n_C l R own cc nL X D cy) {atype : ArrayType} {ty : FieldType} (hty : Jvm.Op.newarray.typeOf atype = ty) (hw : Cond.arrayClass ty ∈ g_ws) {t0 : Nat} {cA0 : ClassId} (ht0 : (n_tys cy)[t0]? = some (cA0, ty)) (hno : va_RA X.s cA0 ty → X.s.vm.findClass ("[" ++ ty.toString) = some cA0) {m : Int32} {N' : Nat} {a0 : vp_A} (ha : ∀ cA : ClassId, vp_cell cA a0 = arrV cA N' (fun _ => defaultValue ty)) (hn : ¬ m < 0) (hN : m.toNatClampNeg = N') (hbytes : N' * componentBytes ty ≤ 536870912) (hc : k + 1 ≤ R.cells) (hs : n + N' ≤ R.slots) (hd : decode cc pc = .ok (.newarray atype, 2)) (hq : pc + 2 = q)
    (kk : ∀ x, n_G nL X D (k + 1) (n + N') q lv (.ref x :: st) (w ++ [(x, .inl (cA0, a0))])) : n_G nL X D k n pc lv (.int m :: st) w := by
  subst hq
  intro H locs ls hP hD hS hl
  obtain ⟨hx, hb, hml, hown, hts, hK, hA, rfl, rfl⟩ := C
  subst hty
  refine va_newa hx hb (atype := atype) (hts _ hw) rfl hK hP hD hS hA ha hn hN hbytes hc hs hd (fun x cA H1 hK1 hP1 hD1 hS1 => ?_)
  have e : cA = cA0 := by
    have h1 := (hK1.2 5 _ rfl).2
    have h2 := hno (hK.2 t0 _ ht0).2
    have h3 : X.s.vm.findClass ("[" ++ (Jvm.Op.newarray.typeOf atype).toString) = some cA := by cases atype <;> exact h1
    exact Option.some.inj (h3.symm.trans h2)
  subst e
  exact kk x H1 locs ls hP1 hD1 hS1 hl
theorem n_newI (C : n_C l R own cc nL X D cy) (hw : Cond.arrayClass .int ∈ g_ws) {m : Int32} {N' : Nat} (hn : ¬ m < 0) (hN : m.toNatClampNeg = N') (hbytes : N' * 4 ≤ 536870912) (hc : k + 1 ≤ R.cells) (hs : n + N' ≤ R.slots) (hd : decode cc pc = .ok (.newarray .int, 2)) (hq : pc + 2 = q)
    (kk : ∀ x, n_G nL X D (k + 1) (n + N') q lv (.ref x :: st) (w ++ [(x, .inl (cy 0, N', .inl z32))])) : n_G nL X D k n pc lv (.int m :: st) w :=
  n_newa C (atype := .int) rfl hw (t0 := 0) rfl (fun h => h) (fun _ => rfl) hn hN hbytes hc hs hd hq kk
theorem n_newJ (C : n_C l R own cc nL X D cy) (hw : Cond.arrayClass .long ∈ g_ws) {m : Int32} {N' : Nat} (hn : ¬ m < 0) (hN : m.toNatClampNeg = N') (hbytes : N' * 8 ≤ 536870912) (hc : k + 1 ≤ R.cells) (hs : n + N' ≤ R.slots) (hd : decode cc pc = .ok (.newarray .long, 2)) (hq : pc + 2 = q)
    (kk : ∀ x, n_G nL X D (k + 1) (n + N') q lv (.ref x :: st) (w ++ [(x, .inl (cy 1, N', .inr (.inl z64)))])) : n_G nL X D k n pc lv (.int m :: st) w :=
  n_newa C (atype := .long) rfl hw (t0 := 1) rfl (fun h => h) (fun _ => rfl) hn hN hbytes hc hs hd hq kk
theorem n_newZ (C : n_C l R own cc nL X D cy) (hw : Cond.arrayClass .boolean ∈ g_ws) {m : Int32} {N' : Nat} (hn : ¬ m < 0) (hN : m.toNatClampNeg = N') (hbytes : N' * 1 ≤ 536870912) (hc : k + 1 ≤ R.cells) (hs : n + N' ≤ R.slots) (hd : decode cc pc = .ok (.newarray .boolean, 2)) (hq : pc + 2 = q)
    (kk : ∀ x, n_G nL X D (k + 1) (n + N') q lv (.ref x :: st) (w ++ [(x, .inl (cy 2, N', .inl z32))])) : n_G nL X D k n pc lv (.int m :: st) w :=
  n_newa C (atype := .boolean) rfl hw (t0 := 2) rfl (fun h => h) (fun _ => rfl) hn hN hbytes hc hs hd hq kk
theorem n_putF (C : n_C l R own cc nL X D cy) (hin2 : X.meth.name = "<init>") {ci i index N : Nat} {Cn : String} {T : u_T} {ty0 : Nat → FieldType} {fs : List Value} {v : Value} {a : Nat} {ty : FieldType} (q0 : Nat) (he : w[q0]? = some (a, .inr (ci, fs))) (hcl : vwCl[ci]? = some (Cn, T, N)) (hin : ∀ w ∈ u_ws Cn T N, w ∈ g_ws) (hty : ∀ k, k < N → parseFieldDescriptor (T k).2.2.1 = some (ty0 k)) (hnm : ∀ a, a < N → ∀ b, b < N → a ≠ b → (T a).2.1 ≠ (T b).2.1) (hi : i < N) (hw : Cond.fieldLink own index (T i).1 (T i).2.1 (T i).2.2.1 ∈ g_ws) (hf : (T i).2.2.2 = true) (ho : (T i).1 = own) (ht : ty0 i = ty) (hn : narrow ty v = v) (hfit : fits ty v = true) (hlen : i < fs.length) (hd : decode cc pc = .ok (.putfield index, 3)) (hq : pc + 3 = q)
    (kk : n_G nL X D k n q lv st (w.set q0 (a, .inr (ci, fs.set i v)))) : n_G nL X D k n pc lv (v :: .ref a :: st) w := by
  subst hq
  intro H locs ls hP hD hS hl
  obtain ⟨hx, hb, hml, hown, hts, hK, hA, rfl, rfl⟩ := C
  exact va_putF hx hb hts hin ty0 hty hnm hown hK hP hD hS q0 he hcl i hi (hts _ hw) (fun _ h => h) hf hin2 ho (by rw [hty i hi, ht]) hn hfit hlen hd (fun H1 locs1 hP1 hD1 hS1 => kk H1 locs1 ls hP1 hD1 hS1 hl)
theorem n_put (C : n_C l R own cc nL X D cy) {ci i index N : Nat} {Cn : String} {T : u_T} {ty0 : Nat → FieldType} {fs : List Value} {v : Value} {a : Nat} {ty : FieldType} (q0 : Nat) (he : w[q0]? = some (a, .inr (ci, fs))) (hcl : vwCl[ci]? = some (Cn, T, N)) (hin : ∀ w ∈ u_ws Cn T N, w ∈ g_ws) (hty : ∀ k, k < N → parseFieldDescriptor (T k).2.2.1 = some (ty0 k)) (hnm : ∀ a, a < N → ∀ b, b < N → a ≠ b → (T a).2.1 ≠ (T b).2.1) (hi : i < N) (hw : Cond.fieldLink own index (T i).1 (T i).2.1 (T i).2.2.1 ∈ g_ws) (hf : (T i).2.2.2 = false) (ht : ty0 i = ty) (hn : narrow ty v = v) (hfit : fits ty v = true) (hlen : i < fs.length) (hd : decode cc pc = .ok (.putfield index, 3)) (hq : pc + 3 = q)
    (kk : n_G nL X D k n q lv st (w.set q0 (a, .inr (ci, fs.set i v)))) : n_G nL X D k n pc lv (v :: .ref a :: st) w := by
  subst hq
  intro H locs ls hP hD hS hl
  obtain ⟨hx, hb, hml, hown, hts, hK, hA, rfl, rfl⟩ := C
  exact va_put hx hb hts hin ty0 hty hnm hown hK hP hD hS q0 he hcl i hi (hts _ hw) (fun _ h => h) hf (by rw [hty i hi, ht]) hn hfit hlen hd (fun H1 locs1 hP1 hD1 hS1 => kk H1 locs1 ls hP1 hD1 hS1 hl)
theorem n_get (C : n_C l R own cc nL X D cy) {ci i index N : Nat} {Cn : String} {T : u_T} {fs : List Value} {v : Value} {a : Nat} (q0 : Nat) (he : w[q0]? = some (a, .inr (ci, fs))) (hcl : vwCl[ci]? = some (Cn, T, N)) (hin : ∀ w ∈ u_ws Cn T N, w ∈ g_ws) (hi : i < N) (hw : Cond.fieldLink own index (T i).1 (T i).2.1 (T i).2.2.1 ∈ g_ws) (hv : fs[i]? = some v) (hd : decode cc pc = .ok (.getfield index, 3)) (hq : pc + 3 = q)
    (kk : n_G nL X D k n q lv (v :: st) w) : n_G nL X D k n pc lv (.ref a :: st) w := by
  subst hq
  intro H locs ls hP hD hS hl
  obtain ⟨hx, hb, hml, hown, hts, hK, hA, rfl, rfl⟩ := C
  exact va_get hx hb hts hin hown hK hP q0 he hcl i hi (hts _ hw) (fun _ h => h) hv hd (kk H locs ls hP hD hS hl)
theorem n_new (C : n_C l R own cc nL X D cy) {ci index N : Nat} {Cn : String} {T : u_T} (ty0 : Nat → FieldType) (fs : List Value) (hcl : vwCl[ci]? = some (Cn, T, N)) (hin : ∀ w ∈ u_ws Cn T N, w ∈ g_ws) (hty : ∀ k, k < N → parseFieldDescriptor (T k).2.2.1 = some (ty0 k)) (h1 : Cond.classLink own index Cn ∈ g_ws) (h2 : Cond.instantiable Cn N ∈ g_ws) (h3 : Cond.initialized Cn ∈ g_ws) (hfs : ∀ j, j < N → defaultValue (ty0 j) = vp_V fs j) (hc : k + 1 ≤ R.cells) (hs : n + N ≤ R.slots) (hd : decode cc pc = .ok (.new index, 3)) (hq : pc + 3 = q)
    (kk : ∀ x, n_G nL X D (k + 1) (n + N) q lv (.ref x :: st) (w ++ [(x, .inr (ci, fs))])) : n_G nL X D k n pc lv st w := by
  subst hq
  intro H locs ls hP hD hS hl
  obtain ⟨hx, hb, hml, hown, hts, hK, hA, rfl, rfl⟩ := C
  exact va_new hx hb hts hin ty0 hty hown (hts _ h1) (hts _ h2) (hts _ h3) hK hP hD hS hA hcl hfs hc hs hd (fun x H1 hP1 hD1 hS1 => kk x H1 locs ls hP1 hD1 hS1 hl)
end NROWS
/-- the words that a warm start keeps, though they aren't 'good' ones -/
def n_zs : List Cond := [.methodLinkNest RX11 11 yX2_init "ElderChest", .methodLinkNest RX11 18 yX0_init "ElderChest", .methodLinkNest RX11 25 yX10_init "ElderChest", .methodLinkNest RX11 32 yX4_init "ElderChest", .methodLinkNest RX11 42 yX9_init "ElderChest", .methodLinkNest RX11 54 yX5_init "ElderChest", .methodLinkNest RX11 61 yX1_init "ElderChest", .methodLinkNest RX11 71 yX6_init "ElderChest", .methodLinkNest RX11 78 yX3_init "ElderChest", .methodLinkNest RX11 89 yX7_init "ElderChest", .methodLinkNest RX9 11 yX8_init "ElderChest"]
def n_AA (U : State) : Prop := (Cond.arrayOver (.array .int)).before #[] U = true
theorem n_AA.moved {u U : State} (hvm : u.vm.Alike U.vm) (h : n_AA u) : n_AA U := by
  unfold n_AA at h ⊢
  simp only [Cond.before, Cond.holds, Cond.value, beq_iff_eq, Option.bind_eq_some_iff, Option.map_eq_some_iff] at h ⊢
  obtain ⟨comp, h1, c, h2, k, h3, h4⟩ := h
  obtain ⟨k1, h5, h6⟩ := hvm.2.2 _ _ h3
  refine ⟨comp, by rw [hvm.findClass]; exact h1, c, by rw [hvm.findIdx?_eqK _ (fun _ => rfl)]; exact h2, k1, h5, ?_⟩
  rw [h6, hvm.findClass]
  exact h4
def n_Z (U : State) : Prop := (∀ w ∈ n_zs, va_Nw w U) ∧ va_AO "ElderChest$Sheet" U ∧ n_AA U
theorem n_zs_nest : ∀ w ∈ n_zs, ∃ a i x h, w = Cond.methodLinkNest a i x h := by
  intro w hw
  simp only [n_zs, List.mem_cons, List.not_mem_nil, or_false] at hw
  rcases hw with rfl | rfl | rfl | rfl | rfl | rfl | rfl | rfl | rfl | rfl | rfl <;> exact ⟨_, _, _, _, rfl⟩
theorem n_Z.warm {s U : State} (hW : s.WarmedH U.vm) (h : n_Z s) : n_Z U := by
  refine ⟨fun w hw => ?_, h.2.1.moved hW.alike, h.2.2.moved hW.alike⟩
  obtain ⟨a, i, x, g, rfl⟩ := n_zs_nest w hw
  exact va_Nw.warmM hW (h.1 _ hw)
theorem n_Z.same {s U : State} (hv : s.vm = U.vm) (h : n_Z s) : n_Z U := by
  refine ⟨fun w hw => ?_, h.2.1.moved (by rw [hv]; exact Vm.Alike.refl _), h.2.2.moved (by rw [hv]; exact Vm.Alike.refl _)⟩
  obtain ⟨a, i, x, g, rfl⟩ := n_zs_nest w hw
  exact va_Nw.same rfl hv (h.1 _ hw)
/-- THE CONTRACT of a constructor: from a fresh cell to a world that 'post' names, with mc cells of ms slots made -/
def n_R (l : Launch) (D : va_G) (cy : Nat → ClassId) (rm : Room) (y : MethodName) (cc : ByteArray) (nL h0 ci : Nat) (fs0 : List Value) (mc ms : Nat) (post : va_W → Prop) : Prop :=
  ∀ sz : Nat, Met l y (Cond.code y cc nL none :: g_ws) rm (va_Pc [.ref h0] (fun U => U.heap.size = sz ∧ va_P D vwCl [(h0, .inr (ci, fs0))] U.heap ∧ va_K D vwCl (n_tys cy) U ∧ n_Z U))
    (va_Qv post (fun (w : va_W) t => va_P D vwCl w t.heap ∧ va_D (va_A [(h0, .inr (ci, fs0))] sz) w) (va_A [(h0, .inr (ci, fs0))] sz)) mc ms (va_A [(h0, .inr (ci, fs0))] sz)
def n_E (X : g_X) (D : va_G) (mc ms : Nat) (post : va_W → Prop) : Prop := X.Q = MQ X.below (va_Qv post (fun (w : va_W) t => va_P D vwCl w t.heap ∧ va_D X.A w) X.A) X.args X.s mc ms X.A ∧ X.meth.sig.returnType = none ∧ X.meth.locks = false ∧ X.meth.name = "<init>"
theorem n_R_of {l : Launch} {D : va_G} {cy : Nat → ClassId} {rm : Room} {y : MethodName} {cc : ByteArray} {nL h0 ci mc ms : Nat} {fs0 : List Value} {post : va_W → Prop} {own : String} (hy : plainName y.cls = true) (ho : y.cls = own) (hi : y.name = "<init>") (hn : 1 ≤ nL)
    (body : ∀ X : g_X, n_C l rm own cc nL X D cy → n_Z X.s → n_E X D mc ms post → n_G nL X D 0 0 0 [(0, .ref h0)] [] [(h0, .inr (ci, fs0))]) : n_R l D cy rm y cc nL h0 ci fs0 mc ms post := by
  subst ho
  intro sz
  refine Met.ofW (cc := cc) (maxL := nL) (ret := none) hy rfl ?_
  intro p e s m args below meth c s₁ B hml hv
  obtain ⟨rfl, rfl, hP, hK, hZ⟩ := hv
  have hts := atoms_spec (ws := Cond.code y cc nL none :: g_ws) B.pre
  have hown : s.vm.findClass y.cls = some m.cls := findClass_of_methodNamed B.named
  have hin : meth.name = "<init>" := (name_of_methodNamed B.named B.method).1.trans hi
  have hl := lv_entry [.ref h0] (n := nL) hn
  rw [lg_entry_eq]
  have hD : va_D (va_A [(h0, .inr (ci, fs0))] s.heap.size) [(h0, .inr (ci, fs0))] := by
    refine ⟨fun i j a b hi hj _ => ?_, fun k q hq => ?_⟩
    · have h1 := (List.getElem?_eq_some_iff.mp hi).1
      have h2 := (List.getElem?_eq_some_iff.mp hj).1
      simp at h1 h2
      omega
    · exact va_A.in hq
  exact body (p, l, e, (headSpec (Cond.code y cc nL none :: g_ws) rm).room, s, m, [Value.ref h0].toArray, below, meth, c, MQ below (va_Qv post (fun (w : va_W) t => va_P D vwCl w t.heap ∧ va_D (va_A [(h0, .inr (ci, fs0))] s.heap.size) w) (va_A [(h0, .inr (ci, fs0))] s.heap.size)) [Value.ref h0].toArray s mc ms (va_A [(h0, .inr (ci, fs0))] s.heap.size), va_A [(h0, .inr (ci, fs0))] s.heap.size, 0, 0)
    ⟨B.exec, B.bytes, hml, hown, fun w hw => hts w (List.mem_cons_of_mem _ hw), hK, fun q h => Or.inr h, rfl, rfl⟩ hZ ⟨rfl, B.returns, B.notSynchronized, hin⟩ s.heap [] _ hP hD va_S.rf hl
theorem n_vret {l : Launch} {R : Room} {own : String} {cc : ByteArray} {nL : Nat} {X : g_X} {D : va_G} {cy : Nat → ClassId} {k n pc mc ms : Nat} {lv : List (Nat × Value)} {w : va_W} {post : va_W → Prop} (C : n_C l R own cc nL X D cy) (E : n_E X D mc ms post) (hk : k = mc) (hn : n = ms) (hw : post w) (hd : decode cc pc = .ok (.return_, 1)) : n_G nL X D k n pc lv [] w := by
  intro H locs ls hP hD hS hl
  obtain ⟨e1, e2, e3, e4⟩ := E
  subst hk
  subst hn
  rw [e1]
  exact W.vret C.1 C.2.1 e2 (fun t ht hW => ⟨⟨w, rfl, hw, by rw [ht]; exact hP, hD⟩, hS.F ht⟩) hS.2.2 hd e3
theorem n_nd : ∀ (l : List Nat), l.Nodup → va_nd l = true
  | [], _ => rfl
  | a :: l, h => by
    rw [List.nodup_cons] at h
    show (decide (a ∉ l) && va_nd l) = true
    rw [n_nd l h.2, Bool.and_true]
    exact decide_eq_true h.1
theorem n_join {A0 : Nat → Prop} {D : va_G} {wr w1 : va_W} {c : Nat × va_E} {H H1 : Heap} (hP : va_P D vwCl (wr ++ [c]) H) (hD : va_D A0 (wr ++ [c]))
    (hk : ∀ q : Nat, q < H.size → ¬ va_A [c] H.size q → H1[q]? = H[q]?) (hF : ∀ q, va_A [c] H.size q → A0 q) (hP1 : va_P D vwCl w1 H1) (hD1 : va_D (va_A [c] H.size) w1) : va_P D vwCl (wr ++ w1) H1 ∧ va_D A0 (wr ++ w1) := by
  refine va_join (wc := [c]) hP hD [wr.length] (List.range wr.length) ?_ ?_ (n_nd _ List.nodup_range) ?_ hk hF hP1 hD1
  · simp
  · apply List.ext_getElem?
    intro i
    simp only [List.getElem?_map]
    by_cases h : i < wr.length
    · rw [List.getElem?_range h, Option.map_some, List.getElem?_append_left h, List.getElem?_eq_getElem h]
      rfl
    · rw [List.getElem?_eq_none (by simp; omega), List.getElem?_eq_none (by omega)]
      rfl
  · intro i hi
    have := List.mem_range.mp hi
    simp
    omega
/-- a call of a private constructor of a nest mate, right behind 'new' -/
theorem n_callN {l : Launch} {R : Room} {own : String} {cc : ByteArray} {nL : Nat} {X : g_X} {D : va_G} {cy : Nat → ClassId} {k n pc q : Nat} {lv : List (Nat × Value)} {st : List Value} {w : va_W} (C : n_C l R own cc nL X D cy) (hZ : n_Z X.s) {rm : Room} {y : MethodName} {cc2 : ByteArray} {nL2 ci mc ms idx x : Nat} {fs0 : List Value} {post : va_W → Prop} {host : String}
    (hm : n_R l D cy rm y cc2 nL2 x ci fs0 mc ms post) (hrc : rm.cells = mc) (hrs : rm.slots = ms) (hR : rm.frames + 1 ≤ R.frames ∧ 8 + (nL2 + 11) + rm.locals ≤ R.locals) (hc : k + mc ≤ R.cells) (hs : n + ms ≤ R.slots)
    (h1 : Cond.methodLinkNest own idx y host ∈ n_zs) (h2 : Cond.instanceMethod y ∈ g_ws) (h3 : Cond.initialized y.cls ∈ g_ws) (h4 : Cond.code y cc2 nL2 none ∈ g_ws) (h5 : y.cls ≠ "java/lang/invoke/MethodHandle" ∧ y.cls ≠ "java/lang/invoke/VarHandle" ∧ (parseMethodDescriptor y.desc).map (fun d => d.parameters.length) = some 0) (h6 : y.name = "<init>") (hst : (st.map fun v => v.category).sum ≤ 8) (hd : decode cc pc = .ok (.invokespecial idx, 3)) (hq : pc + 3 = q)
    (kk : ∀ w1, post w1 → n_G nL X D (k + mc) (n + ms) q lv st (w ++ w1)) : n_G nL X D k n pc lv (.ref x :: st) (w ++ [(x, .inr (ci, fs0))]) := by
  subst hq
  intro H locs ls hP hD hS hl
  obtain ⟨hx, hb, hml, hown, hts, hK, hA, rfl, rfl⟩ := C
  have hG : GoodIn g_ws (Cond.code y cc2 nL2 none :: g_ws) := fun z hz => by
    rcases List.mem_cons.mp hz with rfl | hz
    · exact g_good _ h4
    · exact g_good _ hz
  have hPc : va_P D vwCl [(x, .inr (ci, fs0))] H := fun i c hi => by
    have hi0 : i = 0 := by have := (List.getElem?_eq_some_iff.mp hi).1; simp at this; omega
    subst hi0
    exact hP w.length c (by rw [List.getElem?_append_right (Nat.le_refl _), Nat.sub_self]; exact hi)
  have hF := va_free (wc := [(x, .inr (ci, fs0))]) hD hS hA [w.length] (by simp)
  refine va_callv (va_runIN (As := []) (rest := st) (b := x) ⟨hx, hb, hml, hown, hts⟩ (hm H.size) ⟨va_cnB 0 hts hG rfl hrc hrs (hZ.1 _ h1) (hts _ h3) h5 hR, h6, hts _ h2⟩ ⟨fun a U g mk z => ?_, fun U hU hW => ⟨rfl, by rw [hU], by rw [hU]; exact hPc, va_K.moved hW.alike hK, hZ.warm hW⟩⟩ rfl rfl hl.1 rfl ?_ hd ⟨hc, hs⟩) hS (fun z _ h => hF z h) (fun z h => hF z h) (fun w1 t H1 locs1 ht hvm hp hB hz1 hk1 hS1 => ?_)
  · obtain ⟨q0, q1, qP, qK, qZ⟩ := z
    exact ⟨q0, q1, qP, va_K.moved (u := U) (U := U.calling g mk a) (Vm.Alike.refl U.vm) qK, n_Z.same (s := U) (U := U.calling g mk a) rfl qZ⟩
  · exact lv_room hst
  · obtain ⟨hP1, hD1⟩ := hB
    rw [ht] at hP1
    obtain ⟨hP2, hD2⟩ := n_join hP hD hk1 hF hP1 hD1
    exact kk w1 hp H1 locs1 ls hP2 hD2 hS1 hl
theorem n_iast {l : Launch} {R : Room} {own : String} {cc : ByteArray} {nL : Nat} {X : g_X} {D : va_G} {cy : Nat → ClassId} {k n pc q : Nat} {lv : List (Nat × Value)} {st : List Value} {w : va_W} (C : n_C l R own cc nL X D cy) (q0 : Nat) {a N j : Nat} {f : Nat → Int32} {i x : Int32} (ha : w[q0]? = some (a, .inl (cy 0, N, .inl f))) (hin : vp_in i N) (hj : i.toNatClampNeg = j) (hd : decode cc pc = .ok (.iastore, 1)) (hq : pc + 1 = q) (kk : n_G nL X D k n q lv st (w.set q0 (a, .inl (cy 0, N, .inl (upd f j x))))) : n_G nL X D k n pc lv (.int x :: .int i :: .ref a :: st) w := by
  subst hq
  subst hj
  intro H locs ls hP hD hS hl
  obtain ⟨hx, hb, hml, hown, hts, hK, hA, rfl, rfl⟩ := C
  exact va_iast hx hb hK hP hD hS q0 0 ha rfl hin hd (fun H1 locs1 hP1 hD1 hS1 => kk H1 locs1 ls hP1 hD1 hS1 hl)
/-- a call of a public constructor, right behind 'new' -/
theorem n_callI {l : Launch} {R : Room} {own : String} {cc : ByteArray} {nL : Nat} {X : g_X} {D : va_G} {cy : Nat → ClassId} {k n pc q : Nat} {lv : List (Nat × Value)} {st : List Value} {w : va_W} (C : n_C l R own cc nL X D cy) (hZ : n_Z X.s) {rm : Room} {y : MethodName} {cc2 : ByteArray} {nL2 ci mc ms idx x : Nat} {fs0 : List Value} {post : va_W → Prop}
    (hm : n_R l D cy rm y cc2 nL2 x ci fs0 mc ms post) (hrc : rm.cells = mc) (hrs : rm.slots = ms) (hR : rm.frames + 1 ≤ R.frames ∧ 8 + (nL2 + 11) + rm.locals ≤ R.locals) (hc : k + mc ≤ R.cells) (hs : n + ms ≤ R.slots)
    (h1 : Cond.methodLink own idx y ∈ g_ws) (h2 : Cond.instanceMethod y ∈ g_ws) (h3 : Cond.initialized y.cls ∈ g_ws) (h4 : Cond.code y cc2 nL2 none ∈ g_ws) (h5 : y.cls ≠ "java/lang/invoke/MethodHandle" ∧ y.cls ≠ "java/lang/invoke/VarHandle" ∧ (parseMethodDescriptor y.desc).map (fun d => d.parameters.length) = some 0) (h6 : y.name = "<init>") (hst : (st.map fun v => v.category).sum ≤ 8) (hd : decode cc pc = .ok (.invokespecial idx, 3)) (hq : pc + 3 = q)
    (kk : ∀ w1, post w1 → n_G nL X D (k + mc) (n + ms) q lv st (w ++ w1)) : n_G nL X D k n pc lv (.ref x :: st) (w ++ [(x, .inr (ci, fs0))]) := by
  subst hq
  intro H locs ls hP hD hS hl
  obtain ⟨hx, hb, hml, hown, hts, hK, hA, rfl, rfl⟩ := C
  have hG : GoodIn g_ws (Cond.code y cc2 nL2 none :: g_ws) := fun z hz => by
    rcases List.mem_cons.mp hz with rfl | hz
    · exact g_good _ h4
    · exact g_good _ hz
  have hPc : va_P D vwCl [(x, .inr (ci, fs0))] H := fun i c hi => by
    have hi0 : i = 0 := by have := (List.getElem?_eq_some_iff.mp hi).1; simp at this; omega
    subst hi0
    exact hP w.length c (by rw [List.getElem?_append_right (Nat.le_refl _), Nat.sub_self]; exact hi)
  have hF := va_free (wc := [(x, .inr (ci, fs0))]) hD hS hA [w.length] (by simp)
  refine va_callv (va_runI (As := []) (rest := st) (b := x) ⟨hx, hb, hml, hown, hts⟩ (hm H.size) (cwI 0 hts hG rfl hrc hrs (hts _ h3) (hts _ h1) (hts _ h2) h6 h5 hR) ⟨fun a U g mk z => ?_, fun U hU hW => ⟨rfl, by rw [hU], by rw [hU]; exact hPc, va_K.moved hW.alike hK, hZ.warm hW⟩⟩ rfl rfl hl.1 rfl ?_ hd ⟨hc, hs⟩) hS (fun z _ h => hF z h) (fun z h => hF z h) (fun w1 t H1 locs1 ht hvm hp hB hz1 hk1 hS1 => ?_)
  · obtain ⟨q0, q1, qP, qK, qZ⟩ := z
    exact ⟨q0, q1, qP, va_K.moved (u := U) (U := U.calling g mk a) (Vm.Alike.refl U.vm) qK, n_Z.same (s := U) (U := U.calling g mk a) rfl qZ⟩
  · exact lv_room hst
  · obtain ⟨hP1, hD1⟩ := hB
    rw [ht] at hP1
    obtain ⟨hP2, hD2⟩ := n_join hP hD hk1 hF hP1 hD1
    exact kk w1 hp H1 locs1 ls hP2 hD2 hS1 hl
