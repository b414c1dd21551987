/-! ===== a row of rows (multianewarray with two counts), out of the model's own words ===== -/
/-- what "there is an array class over int[]" says -/
theorem ao_spec {U : State} {args : Array Value} (h : (Cond.arrayOver (.array .int)).before args U = true) : ∃ (comp c : ClassId) (k : Class), U.vm.findClass (FieldType.array .int).toString = some comp ∧ U.vm.classes[c]? = some k ∧ k.kind = .array comp (.array .int) ∧ U.vm.findClass ("[" ++ (FieldType.array .int).toString) = some c := by
  simp only [Cond.before, Cond.holds, Cond.value, beq_iff_eq, Option.bind_eq_some_iff, Option.map_eq_some_iff] at h
  obtain ⟨comp, h1, c, h2, k, h3, h4⟩ := h
  obtain ⟨h5, h6, -⟩ := Array.findIdx?_eq_some_iff_getElem.mp h2
  rw [(Array.getElem?_eq_some_iff.mp h3).2] at h6
  refine ⟨comp, c, k, h1, h3, ?_, ?_⟩
  · cases e : k.kind with
    | array x y =>
      rw [e] at h4 h6
      simp at h4 h6
      rw [h4.1, h6]
    | _ => rw [e] at h4; simp at h4
  · cases e : k.kind with
    | array x y =>
      rw [e] at h4
      simp at h4
      exact h4.2
    | _ => rw [e] at h4; simp at h4
/-- the outer row, its first j places filled -/
def ma_f (h0 j : Nat) : Nat → Value := fun i => if i < j then .ref (h0 + 1 + i) else .null
theorem ma_f_s (h0 j : Nat) : updV (ma_f h0 j) j (.ref (h0 + 1 + j)) = ma_f h0 (j + 1) := by
  funext i
  unfold updV ma_f
  by_cases c : i = j
  · subst c
    rw [if_pos rfl, if_pos (Nat.lt_succ_self i)]
  · rw [if_neg c]
    by_cases d : i < j
    · rw [if_pos d, if_pos (by omega)]
    · rw [if_neg d, if_neg (by omega)]
/-- the state with the outer row and j inner ones -/
def ma_st (T : State) (cA cC : ClassId) (N M : Nat) : Nat → State
  | 0 => T.pushCell (arrV cA N (ma_f T.heap.size 0))
  | j + 1 => ((ma_st T cA cC N M j).pushCell (arrV cC M (fun _ => .int 0))).setCell T.heap.size (arrV cA N (ma_f T.heap.size (j + 1)))
section MANY
variable {T : State} {cA cC : ClassId} {N M : Nat}
theorem ma_vm : ∀ j, (ma_st T cA cC N M j).vm = T.vm
  | 0 => rfl
  | j + 1 => by
    show (ma_st T cA cC N M j).vm = T.vm
    exact ma_vm j
theorem ma_hs (j : Nat) : (ma_st T cA cC N M (j + 1)).heap = ((ma_st T cA cC N M j).heap.push (arrV cC M (fun _ => .int 0))).setIfInBounds T.heap.size (arrV cA N (ma_f T.heap.size (j + 1))) := rfl
theorem ma_size : ∀ j, (ma_st T cA cC N M j).heap.size = T.heap.size + 1 + j
  | 0 => by
    show (T.heap.push _).size = _
    rw [Array.size_push]
  | j + 1 => by
    rw [ma_hs, Array.size_setIfInBounds, Array.size_push, ma_size j]
    omega
theorem ma_out : ∀ j, (ma_st T cA cC N M j).heap[T.heap.size]? = some (arrV cA N (ma_f T.heap.size j))
  | 0 => by
    show (T.heap.push _)[T.heap.size]? = _
    rw [Array.getElem?_push_size]
  | j + 1 => by
    rw [ma_hs, Array.getElem?_setIfInBounds, if_pos rfl, if_pos (by rw [Array.size_push, ma_size j]; omega)]
theorem ma_old {z : Nat} (hz : z < T.heap.size) : ∀ j, (ma_st T cA cC N M j).heap[z]? = T.heap[z]?
  | 0 => by
    show (T.heap.push _)[z]? = _
    rw [Array.getElem?_push, if_neg (by omega)]
  | j + 1 => by
    rw [ma_hs, Array.getElem?_setIfInBounds, if_neg (by omega), Array.getElem?_push, if_neg (by rw [ma_size j]; omega)]
    exact ma_old hz j
theorem ma_inn {i : Nat} : ∀ j, i < j → (ma_st T cA cC N M j).heap[T.heap.size + 1 + i]? = some (arrV cC M (fun _ => .int 0))
  | 0, h => absurd h (Nat.not_lt_zero i)
  | j + 1, h => by
    rw [ma_hs, Array.getElem?_setIfInBounds, if_neg (by omega), Array.getElem?_push]
    by_cases c : i = j
    · rw [if_pos (by rw [ma_size j, c])]
    · rw [if_neg (by rw [ma_size j]; omega)]
      exact ma_inn j (by omega)
end MANY
section MASTAND
variable {p : Program} {l : Launch} {e : Env} {R : Room} {s : State} {m : MethodId} {args : Array Value} {below : List Frame} {meth : Method} {c : Code} {T : State} {locs : List Loc} {cells slots : Nat} {cA cC : ClassId} {N M : Nat}
theorem ma_stand (X : Stand p l e R s m args below meth c T locs cells slots) : ∀ j, ∃ locs', Stand p l e R s m args below meth c (ma_st T cA cC N M j) locs' (cells + 1 + j) (slots + N + j * M) ∧ ∀ q ∈ locs', q ∈ locs ∨ q.base = T.heap.size
  | 0 => by
    have h := X.pushed (arrV cA N (ma_f T.heap.size 0))
    rw [arrV_size] at h
    refine ⟨locs, ?_, fun q hq => Or.inl hq⟩
    rw [Nat.add_zero, Nat.zero_mul, Nat.add_zero]
    exact h
  | j + 1 => by
    obtain ⟨locs', h1, h2⟩ := ma_stand X j
    have h3 := h1.pushed (arrV cC M (fun _ => .int 0))
    rw [arrV_size] at h3
    have h4 : ((ma_st T cA cC N M j).pushCell (arrV cC M (fun _ => .int 0))).heap[T.heap.size]? = some (arrV cA N (ma_f T.heap.size j)) := by
      show ((ma_st T cA cC N M j).heap.push _)[T.heap.size]? = _
      rw [Array.getElem?_push, if_neg (by rw [ma_size j]; omega)]
      exact ma_out j
    have h5 := h3.stored h4 j (.ref (T.heap.size + 1 + j))
    rw [arrV_store, ma_f_s] at h5
    refine ⟨locs' ++ [⟨T.heap.size, j⟩], ?_, fun q hq => ?_⟩
    · rw [show slots + N + (j + 1) * M = slots + N + j * M + M by rw [Nat.succ_mul]; omega]
      exact h5
    · rcases List.mem_append.mp hq with hq | hq
      · exact h2 q hq
      · right
        rw [List.mem_singleton.mp hq]
end MASTAND
section MAWP
variable {E : CtlPost} {e : Env} {d : Bool} {acts : List Action} {s : State}
theorem ma_one {cC c2 : ClassId} {kC : Class} {b : Int32} {Q : Addr → Pre} (hk : s.vm.classes[cC]? = some kC) (hkind : kC.kind = .array c2 .int) (hb : ¬ b < 0) (hlimit : ¬ b.toNatClampNeg > e.platform.arrayLengthLimit) (hheap : ¬ b.toNatClampNeg * componentBytes .int > e.platform.maxHeapBytes) (hcells : s.heap.size < e.platform.maxCells) (hslots : s.slotsUsed + b.toNatClampNeg ≤ e.platform.maxSlots) (hq : ∀ acts', Q s.heap.size d acts' (s.pushCell (arrV cC b.toNatClampNeg (fun _ => .int 0)))) : Jvm.Sem.wp (Jvm.Op.multianewarray.make cC [b]) Q E e d acts s := by
  rw [Jvm.Op.multianewarray.make]
  simp only [Jvm.Sem.wp_bind', Jvm.W.ite, hb, if_false, Jvm.Sem.wp_pure', Jvm.W.theClass, hk, Option.some.injEq, exists_eq_left', hkind]
  refine Jvm.W.newArray_of hk hkind hlimit hheap hcells hslots rfl (fun acts' => ?_)
  have h := hq acts'
  rw [← arrV_new] at h
  exact h
theorem ma_two {T : State} {g0 : JFrame} {cA cC c2 : ClassId} {kA kC : Class} {a b : Int32} {Q : Addr → Pre} (hkA : T.vm.classes[cA]? = some kA) (hkindA : kA.kind = .array cC (.array .int)) (hkC : T.vm.classes[cC]? = some kC) (hkindC : kC.kind = .array c2 .int) (ha : ¬ a < 0) (ha0 : (a == 0) = false) (hb : ¬ b < 0)
    (l1 : ¬ a.toNatClampNeg > e.platform.arrayLengthLimit) (l2 : ¬ a.toNatClampNeg * componentBytes (.array .int) > e.platform.maxHeapBytes) (l3 : ¬ b.toNatClampNeg > e.platform.arrayLengthLimit) (l4 : ¬ b.toNatClampNeg * componentBytes .int > e.platform.maxHeapBytes)
    (r1 : T.heap.size < e.platform.maxCells) (r2 : T.slotsUsed + a.toNatClampNeg ≤ e.platform.maxSlots) (hr : ∀ j, j < a.toNatClampNeg → (ma_st T cA cC a.toNatClampNeg b.toNatClampNeg j).heap.size < e.platform.maxCells ∧ (ma_st T cA cC a.toNatClampNeg b.toNatClampNeg j).slotsUsed + b.toNatClampNeg ≤ e.platform.maxSlots)
    (hq : ∀ d' acts', Q T.heap.size d' acts' ((ma_st T cA cC a.toNatClampNeg b.toNatClampNeg a.toNatClampNeg).setTop g0)) : Jvm.Sem.wp (Jvm.Op.multianewarray.make cA [a, b]) Q E e d acts (T.setTop g0) := by
  rw [Jvm.Op.multianewarray.make]
  simp only [Jvm.Sem.wp_bind', Jvm.W.ite, ha, if_false, Jvm.Sem.wp_pure', Jvm.W.theClass, State.vm_setTop, hkA, Option.some.injEq, exists_eq_left', hkindA]
  refine Jvm.W.newArray_of (s := T.setTop g0) hkA hkindA l1 l2 r1 r2 rfl (fun acts' => ?_)
  simp only [ha0, Bool.false_eq_true, if_false, Jvm.Sem.wp_bind', Jvm.Sem.wp_pure']
  rw [Std.Legacy.Range.forIn_eq_forIn_range']
  have e1 : ({ cls := cA, slots := Array.replicate a.toNatClampNeg .null } : Cell) = arrV cA a.toNatClampNeg (ma_f T.heap.size 0) := by
    rw [show ma_f T.heap.size 0 = (fun _ => Value.null) from funext (fun i => if_neg (Nat.not_lt_zero i))]
    exact arrV_new cA a.toNatClampNeg .null
  have e0 : (T.setTop g0).pushCell { cls := cA, slots := Array.replicate a.toNatClampNeg .null } = (ma_st T cA cC a.toNatClampNeg b.toNatClampNeg 0).setTop g0 := by
    rw [State.pushCell_setTop, e1]
    rfl
  rw [e0]
  refine Jvm.wp_forIn_inv (fun rest s' => ∃ j, j ≤ a.toNatClampNeg ∧ rest = List.range' j (a.toNatClampNeg - j) ∧ s' = (ma_st T cA cC a.toNatClampNeg b.toNatClampNeg j).setTop g0) _ _ ⟨0, Nat.zero_le _, ?_, rfl⟩ ?_ ?_
  · simp [Std.Legacy.Range.size]
  · rintro x rest s' d' acts' Q' ⟨j, j1, j2, rfl⟩ hn
    have hj : j < a.toNatClampNeg := by
      rcases Nat.lt_or_ge j a.toNatClampNeg with h | h
      · exact h
      · rw [show a.toNatClampNeg - j = 0 by omega] at j2
        cases j2
    obtain ⟨k, hk⟩ : ∃ k, a.toNatClampNeg - j = k + 1 := ⟨a.toNatClampNeg - j - 1, by omega⟩
    rw [hk, List.range'_succ] at j2
    obtain ⟨rfl, rfl⟩ := List.cons.inj j2
    have vmj : ((ma_st T cA cC a.toNatClampNeg b.toNatClampNeg x).setTop g0).vm = T.vm := ma_vm x
    have szj : ((ma_st T cA cC a.toNatClampNeg b.toNatClampNeg x).setTop g0).heap.size = T.heap.size + 1 + x := ma_size x
    simp only [Jvm.Sem.wp_bind']
    refine ma_one (s := (ma_st T cA cC a.toNatClampNeg b.toNatClampNeg x).setTop g0) (by rw [vmj]; exact hkC) hkindC hb l3 l4 (hr x hj).1 (hr x hj).2 (fun acts2 => ?_)
    simp only [Jvm.Sem.wp_bind', Jvm.W.writeLoc, Jvm.Sem.wp_pure']
    have h4 : (((ma_st T cA cC a.toNatClampNeg b.toNatClampNeg x).setTop g0).pushCell (arrV cC b.toNatClampNeg (fun _ => .int 0))).heap[T.heap.size]? = some (arrV cA a.toNatClampNeg (ma_f T.heap.size x)) := by
      show ((ma_st T cA cC a.toNatClampNeg b.toNatClampNeg x).heap.push _)[T.heap.size]? = _
      rw [Array.getElem?_push, if_neg (by rw [ma_size x]; omega)]
      exact ma_out x
    have kA' : (((ma_st T cA cC a.toNatClampNeg b.toNatClampNeg x).setTop g0).pushCell (arrV cC b.toNatClampNeg (fun _ => .int 0))).vm.classes[cA]? = some kA := by
      show ((ma_st T cA cC a.toNatClampNeg b.toNatClampNeg x).setTop g0).vm.classes[cA]? = _
      rw [vmj]
      exact hkA
    refine ⟨_, h4, (fun q => by cases q), by rw [arrV_size]; exact hj, ?_, hn _ _ _ ⟨x + 1, hj, ?_, ?_⟩⟩
    · show State.fitsSlot _ cA .none x _ = true
      simp only [State.fitsSlot, State.slotType?, kA', Option.bind_eq_bind, Option.bind_some, hkindA]
      rfl
    · rw [show a.toNatClampNeg - (x + 1) = k by omega]
    · rw [szj, arrV_store, ma_f_s]
      rfl
  · rintro s' d' acts' ⟨j, j1, j2, rfl⟩
    have hj : j = a.toNatClampNeg := by
      rcases Nat.lt_or_ge j a.toNatClampNeg with h | h
      · obtain ⟨k, hk⟩ : ∃ k, a.toNatClampNeg - j = k + 1 := ⟨a.toNatClampNeg - j - 1, by omega⟩
        rw [hk, List.range'_succ] at j2
        cases j2
      · omega
    subst hj
    exact hq _ _
theorem ma_pop {U : State} {g : JFrame} {a b : Int32} {rest : List Value} (hs : U.topJava?.isSome) (hstack : g.stack = .int b :: .int a :: rest) {Q : List Value → Pre} (hq : ∀ d', Q [.int a, .int b] d' acts (U.setTop { g with stack := rest })) : Jvm.Sem.wp (Jvm.popN 2) Q E e d acts (U.setTop g) := by
  simp only [Jvm.popN, Jvm.Sem.wp_bind', Jvm.W.pop, Jvm.Sem.wp_pure']
  refine ⟨g, State.topJava?_setTop' g hs, .int b, .int a :: rest, hstack, { g with stack := .int a :: rest }, ?_, .int a, rest, rfl, ?_⟩
  · rw [State.setTop_setTop]
    exact State.topJava?_setTop' _ hs
  · rw [State.setTop_setTop, State.setTop_setTop]
    simp only [List.nil_append, List.cons_append]
    exact hq _
theorem ma_sem {T : State} {g : JFrame} {vm₁ : Vm} {index : Nat} {cA cC c2 : ClassId} {kA kC : Class} {a b : Int32} {rest : List Value} {Q : Unit → Pre} (hs : T.topJava?.isSome) (hg : (Jvm.resolveClass g.method.cls index).Gives e.toSetting T.vm (.ok cA) vm₁) (hsz : vm₁.classes.size ≤ T.vm.classes.size) (hstack : g.stack = .int b :: .int a :: rest)
    (hkA : vm₁.classes[cA]? = some kA) (hkindA : kA.kind = .array cC (.array .int)) (hkC : vm₁.classes[cC]? = some kC) (hkindC : kC.kind = .array c2 .int) (ha : ¬ a < 0) (ha0 : (a == 0) = false) (hb : ¬ b < 0)
    (l1 : ¬ a.toNatClampNeg > e.platform.arrayLengthLimit) (l2 : ¬ a.toNatClampNeg * componentBytes (.array .int) > e.platform.maxHeapBytes) (l3 : ¬ b.toNatClampNeg > e.platform.arrayLengthLimit) (l4 : ¬ b.toNatClampNeg * componentBytes .int > e.platform.maxHeapBytes)
    (r1 : T.heap.size < e.platform.maxCells) (r2 : T.slotsUsed + a.toNatClampNeg ≤ e.platform.maxSlots) (hr : ∀ j, j < a.toNatClampNeg → (ma_st (T.setVm vm₁) cA cC a.toNatClampNeg b.toNatClampNeg j).heap.size < e.platform.maxCells ∧ (ma_st (T.setVm vm₁) cA cC a.toNatClampNeg b.toNatClampNeg j).slotsUsed + b.toNatClampNeg ≤ e.platform.maxSlots)
    (ht : (ma_st (T.setVm vm₁) cA cC a.toNatClampNeg b.toNatClampNeg a.toNatClampNeg).topJava?.isSome)
    (hq : ∀ d' acts', Q () d' acts' ((ma_st (T.setVm vm₁) cA cC a.toNatClampNeg b.toNatClampNeg a.toNatClampNeg).setTop { g with stack := .ref T.heap.size :: rest })) : Jvm.Sem.wp (Jvm.Op.multianewarray.sem index 2) Q E e d acts (T.setTop g) := by
  simp only [Jvm.Op.multianewarray.sem, Jvm.Sem.wp_bind']
  refine (Jvm.W.resolveClassAt_links (t := T.setTop g) (State.method?_setTop g hs) hg hsz).mpr ?_
  rw [State.setVm_setTop, Jvm.Sem.wp_bind']
  refine ma_pop (U := T.setVm vm₁) (show (T.setVm vm₁).topJava?.isSome from hs) hstack (fun d' => ?_)
  simp only [List.mapM_cons, List.mapM_nil, Jvm.Sem.wp_bind', Jvm.Sem.wp_pure']
  refine ma_two hkA hkindA hkC hkindC ha ha0 hb l1 l2 l3 l4 r1 r2 hr (fun d2 acts2 => ?_)
  simp only [Jvm.Sem.wp_bind', Jvm.W.mark, Jvm.W.pushRef]
  refine ⟨_, State.topJava?_setTop' _ ht, ?_⟩
  rw [State.setTop_setTop]
  exact hq _ _
end MAWP
section MAROW
variable {p : Program} {l : Launch} {e : Env} {R : Room} {s : State} {m : MethodId} {args : Array Value} {below : List Frame} {meth : Method} {c : Code} {T : State} {locs : List Loc} {cells slots : Nat}
theorem ma_row (X : Stand p l e R s m args below meth c T locs cells slots) (hexec : p.tables.exec = Jvm.exec) {own : String} {index : Nat} (hown : s.vm.findClass own = some m.cls) (hclink : (Cond.classLink own index "[[I").before args s = true) {cA cC c2 : ClassId} {kA kC : Class} (hfA : s.vm.findClass "[[I" = some cA) (hkA : s.vm.classes[cA]? = some kA) (hkindA : kA.kind = .array cC (.array .int)) (hkC : s.vm.classes[cC]? = some kC) (hkindC : kC.kind = .array c2 .int)
    {g : JFrame} (hg : g.method = m) (hdg : decode c.code g.pc = .ok (.multianewarray index 2, 4)) {a b : Int32} {rest : List Value} (hstack : g.stack = .int b :: .int a :: rest) (ha : ¬ a < 0) (ha0 : (a == 0) = false) (hb : ¬ b < 0) (hb1 : a.toNatClampNeg * 4 ≤ 536870912) (hb2 : b.toNatClampNeg * 4 ≤ 536870912) (hc : cells + (1 + a.toNatClampNeg) ≤ R.cells) (hs : slots + (a.toNatClampNeg + a.toNatClampNeg * b.toNatClampNeg) ≤ R.slots) :
    ∃ (vm₁ : Vm) (locs' : List Loc), Stand p l e R s m args below meth c (ma_st (T.setVm vm₁) cA cC a.toNatClampNeg b.toNatClampNeg a.toNatClampNeg) locs' (cells + 1 + a.toNatClampNeg) (slots + a.toNatClampNeg + a.toNatClampNeg * b.toNatClampNeg) ∧ (∀ q ∈ locs', q ∈ locs ∨ q.base = T.heap.size) ∧
      ∀ target, Steps p.tables e below ((ma_st (T.setVm vm₁) cA cC a.toNatClampNeg b.toNatClampNeg a.toNatClampNeg).setTop { g with pc := g.pc + 4, stack := .ref T.heap.size :: rest }) target → Steps p.tables e below (T.setTop g) target := by
  subst hg
  have hpl : e.platform.magicAccessors = ({} : Platform).magicAccessors := by rw [X.admits.platform]
  obtain ⟨cc, hfcc, hcl⟩ := Cond.classLink_spec hown hclink e.platform hpl
  have ecc : cA = cc := Option.some.inj (hfA.symm.trans hfcc)
  subst ecc
  obtain ⟨hg₁, hwarm₁, hready₁⟩ := State.classEntry (e := e) X.warmed hcl
  have hsz : (T.vm.noted g.method.cls index (.cls cA)).classes.size ≤ T.vm.classes.size := by no_record
  generalize T.vm.noted g.method.cls index (.cls cA) = vm₁ at hg₁ hwarm₁ hready₁ hsz
  have hal : s.vm.Alike vm₁ := hwarm₁.alike
  obtain ⟨kA₁, hkA₁, heA⟩ := hal.2.2 _ _ hkA
  obtain ⟨kC₁, hkC₁, heC⟩ := hal.2.2 _ _ hkC
  have X₁ := X.noted hwarm₁
  have hr : ∀ j, j < a.toNatClampNeg → (ma_st (T.setVm vm₁) cA cC a.toNatClampNeg b.toNatClampNeg j).heap.size < e.platform.maxCells ∧ (ma_st (T.setVm vm₁) cA cC a.toNatClampNeg b.toNatClampNeg j).slotsUsed + b.toNatClampNeg ≤ e.platform.maxSlots := fun j hj => by
    obtain ⟨lj, Xj, -⟩ := ma_stand (cA := cA) (cC := cC) (N := a.toNatClampNeg) (M := b.toNatClampNeg) X₁ j
    have hm : j * b.toNatClampNeg + b.toNatClampNeg ≤ a.toNatClampNeg * b.toNatClampNeg := by
      rw [← Nat.succ_mul]
      exact Nat.mul_le_mul_right _ hj
    obtain ⟨q1, q2⟩ := Xj.roomAbove (a := 1) (b := b.toNatClampNeg) (by omega) (by omega)
    exact ⟨by omega, q2⟩
  obtain ⟨q1, q2⟩ := X.roomAbove (a := 1) (b := a.toNatClampNeg) (by omega) (by omega)
  obtain ⟨locs', X2, hl⟩ := ma_stand (cA := cA) (cC := cC) (N := a.toNatClampNeg) (M := b.toNatClampNeg) X₁ a.toNatClampNeg
  refine ⟨vm₁, locs', X2, hl, fun target hrest => ?_⟩
  refine Steps.instr (c := c) (by simpa using X.here) ?_
  rw [hdg]
  show Jvm.Sem.wp (p.tables.exec (.multianewarray index 2)) _ _ e false [] (T.setTop g)
  rw [hexec]
  show Jvm.Sem.wp (Jvm.Op.multianewarray.sem index 2) _ _ e false [] (T.setTop g)
  refine ma_sem X.here.top hg₁ hsz hstack hkA₁ (by rw [heA]; exact hkindA) hkC₁ (by rw [heC]; exact hkindC) ha ha0 hb ?_ ?_ ?_ ?_ (by omega) q2 hr X2.here.top (fun d' acts' acts2 => ?_)
  · rw [Launch.admits_arrayLengthLimit X.admits]
    omega
  · rw [Launch.admits_maxHeapBytes X.admits]
    show ¬ a.toNatClampNeg * 4 > 536870912
    omega
  · rw [Launch.admits_arrayLengthLimit X.admits]
    omega
  · rw [Launch.admits_maxHeapBytes X.admits]
    show ¬ b.toNatClampNeg * 4 > 536870912
    omega
  · simp [jvm, X2.here.top]
    exact hrest
end MAROW
def n_mw (cy : Nat → ClassId) (x N M : Nat) : va_W := (x, .inl (cy 4, N, .inr (.inr (.inr (.inr (fun j => some (x + 1 + j))))))) :: (List.range N).map (fun j => (x + 1 + j, .inl (cy 0, M, .inl z32)))
theorem n_mw_at {cy : Nat → ClassId} {x N M i : Nat} {q : Nat × va_E} (h : (n_mw cy x N M)[i]? = some q) : q.1 = x + i ∧ ((i = 0 ∧ q.2 = .inl (cy 4, N, .inr (.inr (.inr (.inr (fun j => some (x + 1 + j))))))) ∨ (1 ≤ i ∧ i ≤ N ∧ q.2 = .inl (cy 0, M, .inl z32))) := by
  cases i with
  | zero =>
    cases h
    exact ⟨rfl, Or.inl ⟨rfl, rfl⟩⟩
  | succ i =>
    have h1 : ((List.range N).map (fun j => ((x + 1 + j, .inl (cy 0, M, .inl z32)) : Nat × va_E)))[i]? = some q := h
    rw [List.getElem?_map] at h1
    by_cases hi : i < N
    · rw [List.getElem?_range hi] at h1
      cases h1
      exact ⟨by show x + 1 + i = x + (i + 1); omega, Or.inr ⟨by omega, by omega, rfl⟩⟩
    · rw [List.getElem?_eq_none (by simp; omega)] at h1
      cases h1
/-- new cells, one behind another, are apart from the old ones -/
theorem n_Dapp {A : Nat → Prop} {D : va_G} {w w' : va_W} {H : Heap} (hP : va_P D vwCl w H) (hD : va_D A w) (ha : ∀ i q, w'[i]? = some q → q.1 = H.size + i) (hA : ∀ q, H.size ≤ q → A q) : va_D A (w ++ w') := by
  refine ⟨fun i j a b hi hj e => ?_, fun i a hi => ?_⟩
  · by_cases h1 : i < w.length
    · rw [List.getElem?_append_left h1] at hi
      by_cases h2 : j < w.length
      · rw [List.getElem?_append_left h2] at hj
        exact hD.1 i j a b hi hj e
      · rw [List.getElem?_append_right (by omega)] at hj
        have h3 := ha _ _ hj
        have h4 := (hP i a hi).lt
        omega
    · rw [List.getElem?_append_right (by omega)] at hi
      by_cases h2 : j < w.length
      · rw [List.getElem?_append_left h2] at hj
        have h3 := ha _ _ hi
        have h4 := (hP j b hj).lt
        omega
      · rw [List.getElem?_append_right (by omega)] at hj
        have h3 := ha _ _ hi
        have h4 := ha _ _ hj
        omega
  · by_cases h1 : i < w.length
    · rw [List.getElem?_append_left h1] at hi
      exact hD.2 i a hi
    · rw [List.getElem?_append_right (by omega)] at hi
      have h3 := ha _ _ hi
      exact hA _ (by omega)
theorem ma_arrV {c : ClassId} {n : Nat} {f g : Nat → Value} (h : ∀ j, j < n → f j = g j) : arrV c n f = arrV c n g := by
  unfold arrV
  congr 1
  apply congrArg
  funext j
  exact h j.val j.isLt
theorem n_multi {l : Launch} {R : Room} {own : String} {cc : ByteArray} {nL : Nat} {X : g_X} {D : va_G} {cy : Nat → ClassId} {k n pc q : Nat} {lv : List (Nat × Value)} {st : List Value} {w : va_W} (C : n_C l R own cc nL X D cy) (hZ : n_Z X.s) {idx N M : Nat} {a b : Int32} (h1 : Cond.classLink own idx "[[I" ∈ g_ws) (hw : Cond.arrayClass .int ∈ g_ws) (ha : ¬ a < 0) (hb0 : ¬ b < 0) (hN : a.toNatClampNeg = N) (hM : b.toNatClampNeg = M) (hb1 : N * 4 ≤ 536870912) (hb2 : M * 4 ≤ 536870912) (hb3 : 1 ≤ N) (hc : k + (1 + N) ≤ R.cells) (hs : n + (N + N * M) ≤ R.slots) (hd : decode cc pc = .ok (.multianewarray idx 2, 4)) (hq : pc + 4 = q)
    (kk : ∀ x, n_G nL X D (k + 1 + N) (n + N + N * M) q lv (.ref x :: st) (w ++ n_mw cy x N M)) : n_G nL X D k n pc lv (.int b :: .int a :: st) w := by
  subst hq
  subst hN
  subst hM
  have ha0 : (a == 0) = false := by
    rw [beq_eq_false_iff_ne]
    intro z
    rw [z] at hb3
    exact absurd hb3 (by decide)
  intro H locs ls hP hD hS hl
  obtain ⟨hx, hb, hml, hown, hts, hK, hA, rfl, rfl⟩ := C
  intro T hT Xs
  obtain ⟨comp, cA, kA, hfC, hkA, hkindA, hfA⟩ := ao_spec hZ.2.2
  obtain ⟨cC, kC, c2, hfC2, hkC, hkindC⟩ := Cond.arrayClass_spec (hts _ hw)
  have e : "[" ++ (FieldType.array .int).toString = "[[I" := by decide
  have e1 : (FieldType.array .int).toString = "[" ++ FieldType.int.toString := by decide
  have eC : comp = cC := Option.some.inj (hfC.symm.trans (by rw [e1]; exact hfC2))
  subst eC
  have eA : cA = cy 4 := Option.some.inj (hfA.symm.trans (hK.2 4 _ rfl).2)
  have eC : comp = cy 0 := Option.some.inj (hfC2.symm.trans (hK.2 0 _ rfl).2)
  subst eA
  subst eC
  obtain ⟨vm₁, locs', X1, hl', step⟩ := ma_row Xs hx hown (hts _ h1) (by rw [← e]; exact hfA) hkA hkindA hkC hkindC (g := F0 X.m pc ls (.int b :: .int a :: st)) rfl (by rw [hb]; exact hd) rfl ha ha0 hb0 hb1 hb2 hc hs
  have hsz : (T.setVm vm₁).heap.size = H.size := by rw [← hT]; rfl
  have f1 := ma_size (T := T.setVm vm₁) (cA := cy 4) (cC := cy 0) (N := a.toNatClampNeg) (M := b.toNatClampNeg) a.toNatClampNeg
  have f2 := ma_out (T := T.setVm vm₁) (cA := cy 4) (cC := cy 0) (N := a.toNatClampNeg) (M := b.toNatClampNeg) a.toNatClampNeg
  have f3 := fun (z : Nat) (hz : z < (T.setVm vm₁).heap.size) => ma_old (T := T.setVm vm₁) (cA := cy 4) (cC := cy 0) (N := a.toNatClampNeg) (M := b.toNatClampNeg) hz a.toNatClampNeg
  have f4 := fun (i : Nat) (hi : i < a.toNatClampNeg) => ma_inn (T := T.setVm vm₁) (cA := cy 4) (cC := cy 0) (N := a.toNatClampNeg) (M := b.toNatClampNeg) a.toNatClampNeg hi
  rw [hsz] at f1 f2
  simp only [hsz] at f3 f4
  generalize ma_st (T.setVm vm₁) (cy 4) (cy 0) a.toNatClampNeg b.toNatClampNeg a.toNatClampNeg = F at X1 step f1 f2 f3 f4
  have fo2 : ∀ z : Nat, z < H.size → F.heap[z]? = H[z]? := fun z hz => by
    rw [f3 z hz, ← hT]
    rfl
  have hP2 : va_P D vwCl (w ++ n_mw cy H.size a.toNatClampNeg b.toNatClampNeg) F.heap := by
    refine va_P.app (hP.kept (fun i z hz => fo2 z.1 (hP i z hz).lt)) (fun i z hz => ?_)
    obtain ⟨z1, z2⟩ := n_mw_at hz
    obtain ⟨za, ze⟩ := z
    simp only at z1 z2
    subst z1
    rcases z2 with ⟨rfl, rfl⟩ | ⟨i1, i2, rfl⟩
    · show F.heap[H.size + 0]? = some (vp_cell _ _)
      rw [vp_cell_q, Nat.add_zero, f2, ma_arrV (f := ma_f H.size a.toNatClampNeg) (g := fun j => .ref (H.size + 1 + j)) (fun j hj => if_pos hj)]
      rfl
    · show F.heap[H.size + i]? = some (vp_cell _ _)
      have h := f4 (i - 1) (by omega)
      rw [show H.size + 1 + (i - 1) = H.size + i by omega] at h
      rw [h, vp_cell_i]
      rfl
  have hD2 : va_D X.A (w ++ n_mw cy H.size a.toNatClampNeg b.toNatClampNeg) := n_Dapp hP hD (fun i z hz => (n_mw_at hz).1) (fun z hz => hA z (Nat.le_trans hS.1 hz))
  have hS2 : va_S X.A X.s.heap F.heap locs' := ⟨Nat.le_trans hS.1 (by rw [f1]; omega), fun z z1 z2 => (fo2 z (Nat.lt_of_lt_of_le z1 hS.1)).trans (hS.2.1 z z1 z2), fun z hz => by
    rcases hl' z hz with h | h
    · exact hS.2.2 z h
    · rw [h, hT]
      exact hA _ hS.1⟩
  obtain ⟨t, a1, b1⟩ := kk H.size F.heap locs' ls hP2 hD2 hS2 hl F rfl X1
  refine ⟨t, step t ?_, b1⟩
  rw [show T.heap.size = H.size by rw [hT]]
  exact a1
/-- a new array of sheets, all null -/
theorem n_newq {l : Launch} {R : Room} {own : String} {cc : ByteArray} {nL : Nat} {X : g_X} {D : va_G} {cy : Nat → ClassId} {k n pc q : Nat} {lv : List (Nat × Value)} {st : List Value} {w : va_W} (C : n_C l R own cc nL X D cy) (hZ : n_Z X.s) {idx N : Nat} {m : Int32} (h1 : Cond.classLink own idx "ElderChest$Sheet" ∈ g_ws) (hn : ¬ m < 0) (hN : m.toNatClampNeg = N) (hb1 : N * 4 ≤ 536870912) (hc : k + 1 ≤ R.cells) (hs : n + N ≤ R.slots) (hd : decode cc pc = .ok (.anewarray idx, 3)) (hq : pc + 3 = q)
    (kk : ∀ x, n_G nL X D (k + 1) (n + N) q lv (.ref x :: st) (w ++ [(x, .inl (cy 3, N, .inr (.inr (.inr (.inr (fun _ => none))))))])) : n_G nL X D k n pc lv (.int m :: st) w := by
  subst hq
  intro H locs ls hP hD hS hl
  obtain ⟨hx, hb, hml, hown, hts, hK, hA, rfl, rfl⟩ := C
  refine va_newq hx hb hown (hts _ h1) hZ.2.1 hK hP hD hS hA hn hN hb1 hc hs hd (fun x cA H1 hK1 hP1 hD1 hS1 => ?_)
  have e : cA = cy 3 := by
    obtain ⟨_, _, _, _, _, h3⟩ := (hK1.2 5 _ rfl).2
    obtain ⟨_, _, _, _, _, h4⟩ := (hK.2 3 _ rfl).2
    exact Option.some.inj (h3.symm.trans h4)
  subst e
  exact kk x H1 locs ls hP1 hD1 hS1 hl
theorem n_astq {l : Launch} {R : Room} {own : String} {cc : ByteArray} {nL : Nat} {X : g_X} {D : va_G} {cy : Nat → ClassId} {k n pc q : Nat} {lv : List (Nat × Value)} {st : List Value} {w : va_W} (C : n_C l R own cc nL X D cy) (q0 qk : Nat) {a N v j : Nat} {vs : List Value} {f : Nat → Option Nat} {i : Int32} (ha : w[q0]? = some (a, .inl (cy 3, N, .inr (.inr (.inr (.inr f)))))) (hv : w[qk]? = some (v, .inr (7, vs))) (hin : vp_in i N) (hj : i.toNatClampNeg = j) (hd : decode cc pc = .ok (.aastore, 1)) (hq : pc + 1 = q)
    (kk : n_G nL X D k n q lv st (w.set q0 (a, .inl (cy 3, N, .inr (.inr (.inr (.inr (va_up f j (some v)))))))) ) : n_G nL X D k n pc lv (.ref v :: .int i :: .ref a :: st) w := by
  subst hq
  subst hj
  intro H locs ls hP hD hS hl
  obtain ⟨hx, hb, hml, hown, hts, hK, hA, rfl, rfl⟩ := C
  exact va_astq hx hb hK hP hD hS q0 3 qk 7 ha (r := (RX7, TX7, 3)) rfl hv rfl hin hd (fun H1 locs1 hP1 hD1 hS1 => kk H1 locs1 ls hP1 hD1 hS1 hl)
