/-! ===== the spec's functions read only their own places ===== -/
def agA (d d' : Nat → Int32) (n : Nat) : Prop := ∀ e, e < n → d' (10 + e) = d (10 + e) ∧ d' (20 + e) = d (20 + e) ∧ d' (30 + e) = d (30 + e)
def agL (d d' : Nat → Int32) (l : Nat) : Prop := ∀ k, k < l → d' (200 + 2 * k) = d (200 + 2 * k) ∧ d' (200 + 2 * k + 1) = d (200 + 2 * k + 1)
def agH (d d' : Nat → Int32) (h : Nat) : Prop := ∀ i, i < h → ∀ j, j < 4 → d' (40 + 4 * i + j) = d (40 + 4 * i + j)
def agT (d d' : Nat → Int32) (m : Nat) : Prop := ∀ t, t < m → d' (240 + t) = d (240 + t) ∧ ∀ k, k < 120 → d' (248 + 120 * t + k) = d (248 + 120 * t + k)
theorem agH.sub {d d' : Nat → Int32} {h h' : Nat} (a : agH d d' h) (hh : h' ≤ h) : agH d d' h' := fun i hi j hj => a i (by omega) j hj
theorem agH.k {d d' : Nat → Int32} {h i : Nat} (a : agH d d' h) (hi : i < h) : d' (40 + 4 * i) = d (40 + 4 * i) := a i hi 0 (by omega)
theorem s_op1_cong {d d' : Nat → Int32} {h i : Nat} (a : agH d d' h) (hi : i < h) (K : Int32) (f : Nat → Bool) : s_op1 d' K f i = s_op1 d K f i := by
  unfold s_op1
  rw [a.k hi, a i hi 1 (by omega), a i hi 2 (by omega), a i hi 3 (by omega)]
theorem s_opn_cong {d d' : Nat → Int32} (K : Int32) : ∀ {h : Nat}, agH d d' h → s_opn d' K h = s_opn d K h
  | 0, _ => rfl
  | h + 1, a => by
    funext i
    show (if i = h then s_op1 d' K (s_opn d' K h) h else s_opn d' K h i) = _
    rw [s_opn_cong K (a.sub (by omega)), s_op1_cong a (by omega)]
    rfl
theorem s_box_cong {d d' : Nat → Int32} (f : Nat → Bool) : ∀ {h : Nat}, agH d d' h → s_box d' f h = s_box d f h
  | 0, _ => rfl
  | h + 1, a => by
    show s_box d' f h ||| _ = s_box d f h ||| _
    rw [s_box_cong f (a.sub (by omega)), a.k (i := h) (by omega), a h (by omega) 3 (by omega)]
theorem s_rnd_cong {d d' : Nat → Int32} {h : Nat} (a : agH d d' h) (K : Int32) : s_rnd d' h K = s_rnd d h K := by
  unfold s_rnd
  rw [s_opn_cong K a, s_box_cong _ a]
theorem s_kr_cong {d d' : Nat → Int32} {h : Nat} (a : agH d d' h) (K : Int32) : ∀ r, s_kr d' h K r = s_kr d h K r
  | 0 => rfl
  | r + 1 => by
    show s_rnd d' h (s_kr d' h K r) = s_rnd d h (s_kr d h K r)
    rw [s_kr_cong a K r, s_rnd_cong a]
theorem s_end_cong {d d' : Nat → Int32} {h : Nat} (a : agH d d' h) (K : Int32) : s_end d' h K = s_end d h K := s_kr_cong a K 24
theorem s_opens_cong {d d' : Nat → Int32} {h : Nat} (a : agH d d' h) (K : Int32) (i : Nat) : s_opens d' h K i = s_opens d h K i := by
  unfold s_opens
  rw [s_end_cong a, s_opn_cong _ a]
theorem s_cost_cong {d d' : Nat → Int32} : ∀ {h : Nat}, agH d d' h → s_cost d' h = s_cost d h
  | 0, _ => rfl
  | h + 1, a => by
    funext i
    unfold s_cost
    rw [s_cost_cong (a.sub (by omega)), a.k (i := h) (by omega), a h (by omega) 1 (by omega), a h (by omega) 2 (by omega)]
theorem s_lock_cong {d d' : Nat → Int32} : ∀ {h : Nat}, agH d d' h → s_lock d' h = s_lock d h
  | 0, _ => rfl
  | h + 1, a => by
    funext i
    unfold s_lock
    rw [s_lock_cong (a.sub (by omega)), a.k (i := h) (by omega), a h (by omega) 1 (by omega), a h (by omega) 2 (by omega)]
theorem s_opr_cong {d d' : Nat → Int32} {h i : Nat} (a : agH d d' h) (hi : i < h) : s_opr d' i = s_opr d i := by
  unfold s_opr
  rw [a.k hi, a i hi 3 (by omega)]
theorem s_keys_cong {d d' : Nat → Int32} (set : Int32) : ∀ {n : Nat}, (∀ e, e < n → d' (20 + e) = d (20 + e) ∧ d' (30 + e) = d (30 + e)) → s_keys d' set n = s_keys d set n
  | 0, _ => rfl
  | n + 1, a => by
    show s_keys d' set n ||| _ = s_keys d set n ||| _
    rw [s_keys_cong set (fun e he => a e (by omega)), (a n (by omega)).1, (a n (by omega)).2]
theorem s_all_cong {d d' : Nat → Int32} : ∀ {n : Nat}, (∀ e, e < n → d' (20 + e) = d (20 + e)) → s_all d' n = s_all d n
  | 0, _ => rfl
  | n + 1, a => by
    show s_all d' n + _ = s_all d n + _
    rw [s_all_cong (fun e he => a e (by omega)), a n (by omega)]
theorem s_wgt_cong {d d' : Nat → Int32} (set : Int32) : ∀ {n : Nat}, (∀ e, e < n → d' (10 + e) = d (10 + e)) → s_wgt d' set n = s_wgt d set n
  | 0, _ => rfl
  | n + 1, a => by
    show s_wgt d' set n + _ = s_wgt d set n + _
    rw [s_wgt_cong set (fun e he => a e (by omega)), a n (by omega)]
theorem s_lt_cong {d d' : Nat → Int32} (e : Nat) : ∀ {l : Nat}, agL d d' l → s_lt d' e l = s_lt d e l
  | 0, _ => rfl
  | l + 1, a => by
    show s_lt d' e l + _ = s_lt d e l + _
    rw [s_lt_cong e (fun k hk => a k (by omega)), (a l (by omega)).1]
theorem s_lk_cong {d d' : Nat → Int32} (e : Nat) : ∀ {l : Nat}, agL d d' l → s_lk d' e l = s_lk d e l
  | 0, _ => rfl
  | l + 1, a => by
    show s_lk d' e l ||| _ = s_lk d e l ||| _
    rw [s_lk_cong e (fun k hk => a k (by omega)), (a l (by omega)).1, (a l (by omega)).2]
/-! tokens -/
theorem s_skip_cong {b b' : Nat → Int32} {L : Nat} (a : ∀ k, k < L → b' k = b k) : ∀ n x, s_skip b' L n x = s_skip b L n x
  | 0, _ => rfl
  | n + 1, x => by
    unfold s_skip
    by_cases h : x < L
    · rw [a x h, s_skip_cong a n (x + 1)]
    · simp [h]
theorem s_run_cong {b b' : Nat → Int32} {L : Nat} (p : Int32 → Bool) (a : ∀ k, k < L → b' k = b k) : ∀ n x, s_run p b' L n x = s_run p b L n x
  | 0, _ => rfl
  | n + 1, x => by
    unfold s_run
    by_cases h : x < L
    · rw [a x h, s_run_cong p a n (x + 1)]
    · simp [h]
theorem s_run_le {b : Nat → Int32} {L : Nat} (p : Int32 → Bool) : ∀ n x, x ≤ L → s_run p b L n x ≤ L
  | 0, x, h => h
  | n + 1, x, h => by
    unfold s_run
    split
    · rename_i q
      exact s_run_le p n (x + 1) (by omega)
    · exact h
theorem s_num_cong {b b' : Nat → Int32} {L : Nat} (a : ∀ k, k < L → b' k = b k) : ∀ n x v, x + n ≤ L → s_num b' n x v = s_num b n x v
  | 0, _, _, _ => rfl
  | n + 1, x, v, h => by
    unfold s_num
    rw [a x (by omega), s_num_cong a n (x + 1) _ (by omega)]
theorem s_is_cong {b b' : Nat → Int32} {L s e j : Nat} (a : ∀ k, k < L → b' k = b k) (he : e ≤ L) : s_is b' s e j = s_is b s e j := by
  unfold s_is
  by_cases h : e - s = g_slen.getD j 0
  · rw [← h]
    congr 1
    have hh : ∀ k, k ∈ List.range (e - s) → (b' (s + k) == (g_sbyt.getD j []).getD k 0) = (b (s + k) == (g_sbyt.getD j []).getD k 0) := by
      intro k hk
      have := List.mem_range.mp hk
      rw [a (s + k) (by omega)]
    apply Bool.eq_iff_iff.mpr
    rw [List.all_eq_true, List.all_eq_true]
    constructor
    · intro q k hk
      rw [← hh k hk]
      exact q k hk
    · intro q k hk
      rw [hh k hk]
      exact q k hk
  · rw [decide_eq_false h, Bool.false_and, Bool.false_and]
theorem s_wrdF_cong {b b' : Nat → Int32} {L s e : Nat} (a : ∀ k, k < L → b' k = b k) (he : e ≤ L) : ∀ l, s_wrdF b' s e l = s_wrdF b s e l
  | [] => rfl
  | j :: l => by
    unfold s_wrdF
    rw [s_is_cong a he, s_wrdF_cong a he l]
theorem s_tk_cong {b b' : Nat → Int32} {L : Nat} (a : ∀ k, k < L → b' k = b k) (x : Nat) : s_tk b' L x = s_tk b L x := by
  unfold s_tk
  rw [s_skip_cong a]
  generalize s_skip b L L x = s
  unfold s_tk0
  by_cases h : s < L
  · rw [if_pos h, if_pos h, a s h, s_run_cong s_let a, s_run_cong s_dig a]
    unfold s_wrd
    rw [s_wrdF_cong a (s_run_le s_let L s (by omega))]
    have h2 : s_run s_dig b L L s - s + s ≤ L ∨ s_run s_dig b L L s < s := by
      have := s_run_le (b := b) s_dig L s (Nat.le_of_lt h)
      omega
    rcases h2 with h2 | h2
    · rw [s_num_cong a _ s 0 (by omega)]
    · rw [show s_run s_dig b L L s - s = 0 by omega]
      rfl
  · rw [if_neg h, if_neg h]
theorem s_text_cong {b b' : Nat → Int32} {L : Nat} (a : ∀ k, k < L → b' k = b k) : s_text b' L = s_text b L := by
  have e0 : s_tk b' L = s_tk b L := funext (s_tk_cong a)
  have e1 : s_adv b' L = s_adv b L := by funext t; unfold s_adv; rw [e0]
  have e2 : s_nums b' L = s_nums b L := by
    funext n
    induction n with
    | zero => rfl
    | succ n ih => funext p t; unfold s_nums; rw [ih, e1]
  have e3 : s_part b' L = s_part b L := by funext t; unfold s_part; rw [e1, e2]
  have e4 : s_one b' L = s_one b L := by funext kE o t; unfold s_one; rw [e1, e3]
  have e5 : s_not b' L = s_not b L := by
    funext kE n
    induction n with
    | zero => rfl
    | succ n ih => funext o t; unfold s_not; rw [ih, e1, e4]
  have e6 : s_chain b' L = s_chain b L := by
    funext w act f n
    induction n with
    | zero => rfl
    | succ n ih => funext c t; unfold s_chain; rw [ih, e1]
  have e7 : s_seq b' L = s_seq b L := by funext w act f t; unfold s_seq; rw [e6]
  have e8 : s_both b' L = s_both b L := by funext kE o t; unfold s_both; rw [e7, e5]
  have e9 : s_either b' L = s_either b L := by
    funext n
    induction n with
    | zero => rfl
    | succ n ih => funext o t; unfold s_either; rw [ih, e7, e8]
  unfold s_text
  rw [e0, e1, e9]
theorem s_may_cong {d d' : Nat → Int32} {n m u : Nat} (hA : agA d d' n) (hT : agT d d' m) (hu : u < m) (hL : (d (240 + u)).toNatClampNeg ≤ 120) (set : Int32) : s_may d' n u set = s_may d n u set := by
  unfold s_may
  rw [(hT u hu).1, s_text_cong (b := fun k => d (248 + 120 * u + k)) (b' := fun k => d' (248 + 120 * u + k)) (fun k hk => (hT u hu).2 k (by omega)), s_all_cong (fun e he => (hA e he).2.1), s_wgt_cong _ (fun e he => (hA e he).1)]
