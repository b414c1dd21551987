theorem n_outer (c : ClassId) (h0 N : Nat) : Jvm.Free.Multi.outerC c N h0 N = arrV c N (fun j => .ref (h0 + 1 + j)) := by
  obtain ⟨o1, o2, o3⟩ := Jvm.Free.Multi.outerC_facts c N h0 N
  obtain ⟨o4, o5⟩ := Jvm.Free.Multi.outerC_plain c N h0 N
  have hs : (Jvm.Free.Multi.outerC c N h0 N).slots = Array.ofFn (n := N) fun j => Value.ref (h0 + 1 + j.val) := by
    apply Array.ext_getElem?
    intro j
    by_cases hj : j < N
    · rw [Jvm.Free.Multi.outerC_slot c N h0 N j hj, if_pos hj]
      simp [hj]
    · rw [Array.getElem?_eq_none (by rw [o3]; omega), Array.getElem?_eq_none (by simp; omega)]
  generalize Jvm.Free.Multi.outerC c N h0 N = x at *
  obtain ⟨x1, x2, x3, x4, x5⟩ := x
  simp only at o1 o2 o4 o5 hs
  subst o1
  subst o2
  subst o4
  subst o5
  subst hs
  rfl
def n_mw (cy : Nat → ClassId) (x N M : Nat) : va_W := (x, .inl (cy 4, N, .inr (.inr (.inr (.inr (fun j => some (x + 1 + j))))))) :: (List.range N).map (fun j => (x + 1 + j, .inl (cy 0, M, .inl z32)))
theorem n_mw_at {cy : Nat → ClassId} {x N M i : Nat} {q : Nat × va_E} (h : (n_mw cy x N M)[i]? = some q) : q.1 = x + i ∧ ((i = 0 ∧ q.2 = .inl (cy 4, N, .inr (.inr (.inr (.inr (fun j => some (x + 1 + j))))))) ∨ (1 ≤ i ∧ i ≤ N ∧ q.2 = .inl (cy 0, M, .inl z32))) := by
  cases i with
  | zero =>
    cases h
    exact ⟨rfl, Or.inl ⟨rfl, rfl⟩⟩
  | succ i =>
    have h1 : ((List.range N).map (fun j => ((x + 1 + j, .inl (cy 0, M, .inl z32)) : Nat × va_E)))[i]? = some q := h
    rw [List.getElem?_map] at h1
    by_cases hi : i < N
    · rw [List.getElem?_range hi] at h1
      cases h1
      exact ⟨by show x + 1 + i = x + (i + 1); omega, Or.inr ⟨by omega, by omega, rfl⟩⟩
    · rw [List.getElem?_eq_none (by simp; omega)] at h1
      cases h1
/-- new cells, one behind another, are apart from the old ones -/
theorem n_Dapp {A : Nat → Prop} {D : va_G} {w w' : va_W} {H : Heap} (hP : va_P D vwCl w H) (hD : va_D A w) (ha : ∀ i q, w'[i]? = some q → q.1 = H.size + i) (hA : ∀ q, H.size ≤ q → A q) : va_D A (w ++ w') := by
  refine ⟨fun i j a b hi hj e => ?_, fun i a hi => ?_⟩
  · by_cases h1 : i < w.length
    · rw [List.getElem?_append_left h1] at hi
      by_cases h2 : j < w.length
      · rw [List.getElem?_append_left h2] at hj
        exact hD.1 i j a b hi hj e
      · rw [List.getElem?_append_right (by omega)] at hj
        have h3 := ha _ _ hj
        have h4 := (hP i a hi).lt
        omega
    · rw [List.getElem?_append_right (by omega)] at hi
      by_cases h2 : j < w.length
      · rw [List.getElem?_append_left h2] at hj
        have h3 := ha _ _ hi
        have h4 := (hP j b hj).lt
        omega
      · rw [List.getElem?_append_right (by omega)] at hj
        have h3 := ha _ _ hi
        have h4 := ha _ _ hj
        omega
  · by_cases h1 : i < w.length
    · rw [List.getElem?_append_left h1] at hi
      exact hD.2 i a hi
    · rw [List.getElem?_append_right (by omega)] at hi
      have h3 := ha _ _ hi
      exact hA _ (by omega)
theorem n_multi {l : Launch} {R : Room} {own : String} {cc : ByteArray} {nL : Nat} {X : g_X} {D : va_G} {cy : Nat → ClassId} {k n pc q : Nat} {lv : List (Nat × Value)} {st : List Value} {w : va_W} (C : n_C l R own cc nL X D cy) (hZ : n_Z X.s) {idx N M : Nat} {a b : Int32} (h1 : Cond.classLink own idx "[[I" ∈ g_ws) (hw : Cond.arrayClass .int ∈ g_ws) (ha : ¬ a < 0) (hb0 : ¬ b < 0) (hN : a.toNatClampNeg = N) (hM : b.toNatClampNeg = M) (hb1 : N * 4 ≤ 536870912) (hb2 : M * 4 ≤ 536870912) (hb3 : M ≤ 536870912) (hc : k + (1 + N) ≤ R.cells) (hs : n + (N + N * M) ≤ R.slots) (hd : decode cc pc = .ok (.multianewarray idx 2, 4)) (hq : pc + 4 = q)
    (kk : ∀ x, n_G nL X D (k + 1 + N) (n + N + N * M) q lv (.ref x :: st) (w ++ n_mw cy x N M)) : n_G nL X D k n pc lv (.int b :: .int a :: st) w := by
  subst hq
  subst hN
  subst hM
  intro H locs ls hP hD hS hl
  obtain ⟨hx, hb, hml, hown, hts, hK, hA, rfl, rfl⟩ := C
  intro T hT Xs
  have e : "[" ++ (FieldType.array .int).toString = "[[I" := by decide
  obtain ⟨vm₁, cA, comp, hW, hfA, hfC, hO, hI, X1, step⟩ := Xs.multianewarray2F hx (own := own) (index := idx) (ty := .int) hown (by rw [e]; exact hts _ h1) hZ.2.2 (hts _ hw) (g := F0 X.m pc ls (.int b :: .int a :: st)) rfl (by rw [hb]; exact hd) (n := a) (k := b) (rest := st) rfl ha hb0 hb1 hb2 hb3 rfl rfl hc hs
  have eA : cA = cy 4 := Option.some.inj (hfA.symm.trans (hK.2 4 _ rfl).2)
  have eC : comp = cy 0 := Option.some.inj (hfC.symm.trans (hK.2 0 _ rfl).2)
  subst eA
  subst eC
  generalize hF : Jvm.Free.Multi.fill (T.setVm vm₁) (cy 4) (cy 0) a.toNatClampNeg b.toNatClampNeg (defaultValue .int) a.toNatClampNeg = F at X1 step
  have hsz : (T.setVm vm₁).heap.size = H.size := by rw [← hT]; rfl
  have f := Jvm.Free.Multi.fill_facts (T.setVm vm₁) (cy 4) (cy 0) a.toNatClampNeg b.toNatClampNeg (defaultValue .int) a.toNatClampNeg
  have fo := fun (z : Nat) (hz : z < (T.setVm vm₁).heap.size) => Jvm.Free.Multi.fill_old (T.setVm vm₁) (cy 4) (cy 0) a.toNatClampNeg b.toNatClampNeg (defaultValue .int) (a := z) hz a.toNatClampNeg
  have fi := Jvm.Free.Multi.fill_inner (T.setVm vm₁) (cy 4) (cy 0) a.toNatClampNeg b.toNatClampNeg (defaultValue .int) a.toNatClampNeg
  rw [hF, hsz] at f
  rw [hF, hsz] at fi
  rw [hsz] at fo
  have fo2 : ∀ z : Nat, z < H.size → F.heap[z]? = H[z]? := fun z hz => by
    have h := fo z hz
    rw [hF] at h
    rw [h, ← hT]
    rfl
  have hP2 : va_P D vwCl (w ++ n_mw cy H.size a.toNatClampNeg b.toNatClampNeg) F.heap := by
    refine va_P.app (hP.kept (fun i z hz => fo2 z.1 (hP i z hz).lt)) (fun i z hz => ?_)
    obtain ⟨z1, z2⟩ := n_mw_at hz
    obtain ⟨za, ze⟩ := z
    simp only at z1 z2
    subst z1
    rcases z2 with ⟨rfl, rfl⟩ | ⟨i1, i2, rfl⟩
    · show F.heap[H.size + 0]? = some (vp_cell _ _)
      rw [vp_cell_q, Nat.add_zero, f.2.1, n_outer]
      rfl
    · show F.heap[H.size + i]? = some (vp_cell _ _)
      have h := fi (i - 1) (by omega)
      rw [show H.size + 1 + (i - 1) = H.size + i by omega] at h
      rw [h, vp_cell_i]
      show some (Jvm.Free.Multi.innerC _ _ _) = some (arrV _ _ _)
      rw [show arrV (cy 0) b.toNatClampNeg (fun j => Value.int (z32 j)) = arrV (cy 0) b.toNatClampNeg (fun _ => Value.int 0) from rfl, ← arrV_new]
      rfl
  have hD2 : va_D X.A (w ++ n_mw cy H.size a.toNatClampNeg b.toNatClampNeg) := n_Dapp hP hD (fun i z hz => (n_mw_at hz).1) (fun z hz => hA z (Nat.le_trans hS.1 hz))
  have hS2 : va_S X.A X.s.heap F.heap locs := ⟨Nat.le_trans hS.1 (by rw [f.1]; omega), fun z z1 z2 => (fo2 z (Nat.lt_of_lt_of_le z1 hS.1)).trans (hS.2.1 z z1 z2), hS.2.2⟩
  obtain ⟨t, a1, b1⟩ := kk H.size F.heap locs ls hP2 hD2 hS2 hl F rfl X1
  refine ⟨t, step t ?_, b1⟩
  rw [show T.heap.size = H.size by rw [hT]]
  exact a1
/-- a new array of sheets, all null -/
theorem n_newq {l : Launch} {R : Room} {own : String} {cc : ByteArray} {nL : Nat} {X : g_X} {D : va_G} {cy : Nat → ClassId} {k n pc q : Nat} {lv : List (Nat × Value)} {st : List Value} {w : va_W} (C : n_C l R own cc nL X D cy) (hZ : n_Z X.s) {idx N : Nat} {m : Int32} (h1 : Cond.classLink own idx "ElderChest$Sheet" ∈ g_ws) (hn : ¬ m < 0) (hN : m.toNatClampNeg = N) (hb1 : N * 4 ≤ 536870912) (hc : k + 1 ≤ R.cells) (hs : n + N ≤ R.slots) (hd : decode cc pc = .ok (.anewarray idx, 3)) (hq : pc + 3 = q)
    (kk : ∀ x, n_G nL X D (k + 1) (n + N) q lv (.ref x :: st) (w ++ [(x, .inl (cy 3, N, .inr (.inr (.inr (.inr (fun _ => none))))))])) : n_G nL X D k n pc lv (.int m :: st) w := by
  subst hq
  intro H locs ls hP hD hS hl
  obtain ⟨hx, hb, hml, hown, hts, hK, hA, rfl, rfl⟩ := C
  refine va_newq hx hb hown (hts _ h1) hZ.2.1 hK hP hD hS hA hn hN hb1 hc hs hd (fun x cA H1 hK1 hP1 hD1 hS1 => ?_)
  have e : cA = cy 3 := by
    obtain ⟨_, _, _, _, _, h3⟩ := (hK1.2 5 _ rfl).2
    obtain ⟨_, _, _, _, _, h4⟩ := (hK.2 3 _ rfl).2
    exact Option.some.inj (h3.symm.trans h4)
  subst e
  exact kk x H1 locs ls hP1 hD1 hS1 hl
theorem n_astq {l : Launch} {R : Room} {own : String} {cc : ByteArray} {nL : Nat} {X : g_X} {D : va_G} {cy : Nat → ClassId} {k n pc q : Nat} {lv : List (Nat × Value)} {st : List Value} {w : va_W} (C : n_C l R own cc nL X D cy) (q0 qk : Nat) {a N v j : Nat} {vs : List Value} {f : Nat → Option Nat} {i : Int32} (ha : w[q0]? = some (a, .inl (cy 3, N, .inr (.inr (.inr (.inr f)))))) (hv : w[qk]? = some (v, .inr (7, vs))) (hin : vp_in i N) (hj : i.toNatClampNeg = j) (hd : decode cc pc = .ok (.aastore, 1)) (hq : pc + 1 = q)
    (kk : n_G nL X D k n q lv st (w.set q0 (a, .inl (cy 3, N, .inr (.inr (.inr (.inr (va_up f j (some v)))))))) ) : n_G nL X D k n pc lv (.ref v :: .int i :: .ref a :: st) w := by
  subst hq
  subst hj
  intro H locs ls hP hD hS hl
  obtain ⟨hx, hb, hml, hown, hts, hK, hA, rfl, rfl⟩ := C
  exact va_astq hx hb hK hP hD hS q0 3 qk 7 ha (r := (RX7, TX7, 3)) rfl hv rfl hin hd (fun H1 locs1 hP1 hD1 hS1 => kk H1 locs1 ls hP1 hD1 hS1 hl)
