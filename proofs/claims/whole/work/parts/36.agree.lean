/-! ===== what a change of the row leaves as it was ===== -/
theorem g_fr.uT {S : List Nat} {T : List (Nat × Nat)} {M0 M : g_M} {c i : Nat} {v : Int32} (h : g_fr S T M0 M) (hT : (c, i) ∈ T) : g_fr S T M0 (g_u M c i v) := h.pu (Eq.refl _) hT
theorem g_fr.uS {S : List Nat} {T : List (Nat × Nat)} {M0 M : g_M} {c i : Nat} {v : Int32} (h : g_fr S T M0 M) (hS : c ∈ S) : g_fr S T M0 (g_u M c i v) := by
  refine h.trans (fun k j a _ => ⟨?_, Eq.refl _⟩)
  rw [g_u_at, if_neg]
  rintro ⟨rfl, -⟩
  exact a hS
theorem g_fr.ulS {S : List Nat} {T : List (Nat × Nat)} {M0 M : g_M} {c i : Nat} {v : Int64} (h : g_fr S T M0 M) (hS : c ∈ S) : g_fr S T M0 (g_ul M c i v) := by
  refine h.trans (fun k j a _ => ⟨Eq.refl _, ?_⟩)
  rw [g_ul_at, if_neg]
  rintro ⟨rfl, -⟩
  exact a hS
theorem W_H.agree {d d' : Nat → Int32} {h i : Nat} (a : agH d d' h) (hi : i < h) (w : W_H d i) : W_H d' i := by
  unfold W_H at w ⊢
  rw [a.k hi, a i hi 1 (by omega), a i hi 2 (by omega), a i hi 3 (by omega)]
  exact w
theorem W_T.agree {d d' : Nat → Int32} {m t : Nat} (a : agT d d' m) (ht : t < m) (w : W_T d t) : W_T d' t := by
  obtain ⟨L, c, h1, h2, h3, h4, h5⟩ := w
  refine ⟨L, c, h1, by rw [(a t ht).1]; exact h2, fun k hk => by rw [(a t ht).2 k (by omega)]; exact h3 k hk, ?_, h5⟩
  rw [s_text_cong (b := fun k => d (248 + 120 * t + k)) (fun k hk => (a t ht).2 k (by omega))]
  exact h4
theorem W_D.agree {d d' : Nat → Int32} {n l m h : Nat} (w : W_D d n l m h) (e0 : d' 0 = d 0) (e1 : d' 1 = d 1) (e3 : d' 3 = d 3) (e4 : d' 4 = d 4) (e2 : (m = 0 ∧ d' 2 = -1) ∨ ∃ u, u < m ∧ d' 2 = nI u) (aA : agA d d' n) (aL : agL d d' l) (aH : agH d d' h) (aT : agT d d' m) : W_D d' n l m h := by
  obtain ⟨h1, h2, h3, h4, h5, h6, h7, h8, h9, h10, h11, h12, h13⟩ := w
  refine ⟨h1, h2, h3, h4, by rw [e0]; exact h5, by rw [e4]; exact h6, by rw [e1]; exact h7, by rw [e3]; exact h8, e2, fun e he => ?_, fun k hk => ?_, fun i hi => (h12 i hi).agree aH hi, fun t ht => (h13 t ht).agree aT ht⟩
  · rw [(aA e he).1, (aA e he).2.1, (aA e he).2.2]
    exact h10 e he
  · rw [(aL k hk).1, (aL k hk).2]
    exact h11 k hk
theorem X_E.agree {d d' : Nat → Int32} {n l : Nat} {o0 o1 o2 : Int32} {w r lt lk : Nat → Int32} (x : X_E d n l o0 o1 o2 w r lt lk) (aA : agA d d' n) (aL : agL d d' l) : X_E d' n l o0 o1 o2 w r lt lk := by
  obtain ⟨h1, h2, h3, h4, h5, h6⟩ := x
  refine ⟨h1, h2, fun e he => ?_, h4, fun e he => ?_, h6⟩
  · rw [(aA e he).2.1]
    exact h3 e he
  · rw [(aA e he).1, (aA e he).2.2, s_lt_cong e aL, s_lk_cong e aL]
    exact h5 e he
theorem X_H.agree {d d' : Nat → Int32} {h : Nat} {o : Int32} {kd ky op f1 f2 co lo : Nat → Int32} (x : X_H d h o kd ky op f1 f2 co lo) (a : agH d d' h) : X_H d' h o kd ky op f1 f2 co lo := by
  refine ⟨x.1, fun i hi => ?_⟩
  rw [a.k hi, a i hi 1 (by omega), a i hi 2 (by omega), a i hi 3 (by omega), s_opr_cong a hi, s_cost_cong (a.sub (by omega)), s_lock_cong (a.sub (by omega))]
  exact x.2 i hi
theorem X_T.agree {d d' : Nat → Int32} {m : Nat} {o0 o1 o1' : Int32} {ln : Nat → Int32} {cd : Nat → Nat → Int32} (x : X_T d m o0 o1 ln cd) (a : agT d d' m) (e : o1' = d' 2) : X_T d' m o0 o1' ln cd := by
  refine ⟨x.1, e, fun t ht L c hL h1 h2 => ?_⟩
  rw [(a t ht).1] at h1
  rw [s_text_cong (b := fun k => d (248 + 120 * t + k)) (fun k hk => (a t ht).2 k (by omega))] at h2
  exact x.2.2 t ht L c hL h1 h2
theorem X_K.agree {d d' dk : Nat → Int32} {m h m2 h2 : Nat} {has kept k6 k7 k8 o0 o1 o2 : Int32} {w r lt lk : Nat → Int32} (x : X_K d dk m h has kept k6 k7 k8 o0 o1 o2 w r lt lk) (aT : agT d d' m) (aH : agH d d' h) (hm : m ≤ m2) (hh : h ≤ h2) : X_K d' dk m2 h2 has kept k6 k7 k8 o0 o1 o2 w r lt lk := by
  refine ⟨x.1, ?_⟩
  rcases x.2 with x0 | ⟨x0, n', l', m', h', a1, a2, a3, a4, a5, b1, b2, b3, b4⟩
  · exact Or.inl x0
  · refine Or.inr ⟨x0, n', l', m', h', a1, a2, a3, a4, a5, by omega, by omega, fun t ht => ?_, fun i hi j hj => ?_⟩
    · rw [(aT t (by omega)).1]
      refine ⟨(b3 t ht).1, fun k hk => ?_⟩
      rw [(aT t (by omega)).2 k hk]
      exact (b3 t ht).2 k hk
    · rw [aH i (by omega) j hj]
      exact b4 i hi j hj
theorem V_O.agree {d d' : Nat → Int32} {n h : Nat} {ek : Nat → Int32} {op : Nat → Int64} (v : V_O d n h ek op) (aA : ∀ e, e < n → d' (20 + e) = d (20 + e) ∧ d' (30 + e) = d (30 + e)) (aH : agH d d' h) : V_O d' n h ek op := by
  intro s hs hsub
  rw [s_all_cong (fun e he => (aA e he).1)] at hsub
  have := v s hs hsub
  rw [s_keys_cong _ aA, s_end_cong aH]
  refine ⟨this.1, fun i hi => ?_⟩
  rw [s_opens_cong aH]
  exact this.2 i hi
theorem X_O.agree {d d' : Nat → Int32} {n h cc : Nat} {st : Int32} {ek : Nat → Int32} {op : Nat → Int64} (x : X_O d n h cc st ek op) (aA : ∀ e, e < n → d' (20 + e) = d (20 + e) ∧ d' (30 + e) = d (30 + e)) (aH : agH d d' h) : X_O d' n h cc st ek op := ⟨x.1, fun e => (x.2.1 e).agree aA aH, x.2.2⟩
theorem nI_inj {a b : Nat} (ha : a < 2 ^ 31) (hb : b < 2 ^ 31) (h : nI a = nI b) : a = b := (nI_eq ha hb).mp h
theorem m1_ne {a : Nat} (ha : a < 2 ^ 31) : ¬ (-1 : Int32) = nI a := by
  intro h
  have : (-1 : Int32).toInt = (nI a).toInt := by rw [h]
  rw [nI_toInt ha] at this
  simp at this
theorem st_stale {st : Int32} {cc cc' : Nat} (h : st = -1 ∨ ∃ z, z ≤ cc ∧ st = nI z) (hc : cc < cc') (hb : cc' < 2 ^ 31) : (st = -1 ∨ ∃ z, z ≤ cc' ∧ st = nI z) ∧ ¬ st = nI cc' := by
  rcases h with rfl | ⟨z, hz, rfl⟩
  · exact ⟨Or.inl rfl, m1_ne hb⟩
  · exact ⟨Or.inr ⟨z, by omega, rfl⟩, fun e => by have := nI_inj (by omega) hb e; omega⟩
theorem X_O.bump {d d' : Nat → Int32} {n h n' h' cc cc' : Nat} {st : Int32} {ek : Nat → Int32} {op : Nat → Int64} (x : X_O d n h cc st ek op) (hc : cc < cc') (hb : cc' < 2 ^ 31) : X_O d' n' h' cc' st ek op := by
  have := st_stale x.1 hc hb
  exact ⟨this.1, fun e => absurd e this.2, x.2.2⟩
theorem X_A.bump {d d' : Nat → Int32} {n n' cc cc' : Nat} {a st : Int32} {hd : Nat → Int32} (x : X_A d n cc a st hd) (hc : cc < cc') (hb : cc' < 2 ^ 31) : X_A d' n' cc' a st hd := by
  have := st_stale x.1 hc hb
  exact ⟨this.1, fun e => absurd e this.2⟩
theorem X_A.agree {d d' : Nat → Int32} {n m cc : Nat} {a st : Int32} {hd : Nat → Int32} (x : X_A d n cc a st hd) (aA : agA d d' n) (aT : agT d d' m) (e2 : d' 2 = d 2) (hu : (m = 0 ∧ d 2 = -1) ∨ ∃ u, u < m ∧ d 2 = nI u) (hw : ∀ t, t < m → W_T d t) (hm : m ≤ 8) : X_A d' n cc a st hd := by
  refine ⟨x.1, fun e => ?_⟩
  have v := x.2 e
  rcases hu with ⟨-, hu⟩ | ⟨u, hu, eu⟩
  · exact absurd hu v.1
  · refine ⟨by rw [e2]; exact v.1, by rw [s_all_cong (fun e he => (aA e he).2.1)]; exact v.2.1, fun s hs => ?_⟩
    rw [s_all_cong (fun e he => (aA e he).2.1)] at hs
    obtain ⟨L, c, h1, h2, -⟩ := hw u hu
    rw [e2, eu, nI_clamp (by omega), s_all_cong (fun e he => (aA e he).2.1), s_may_cong aA aT hu (by rw [h2, nI_clamp (by omega)]; exact h1)]
    have := v.2.2 s hs
    rw [eu, nI_clamp (by omega)] at this
    exact this
