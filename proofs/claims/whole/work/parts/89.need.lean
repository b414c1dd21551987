section NEED
variable {t n l m h c1 c2 c3 : Nat} {M : g_M} {d : Nat → Int32}
/-- the first number of a list with a property, else 0 -/
def sr (P : Nat → Bool) : List Nat → Nat
  | [] => 0
  | y :: l => if P y = true then y else sr P l
theorem sr_t {P : Nat → Bool} {y : Nat} {l : List Nat} (h : P y = true) : sr P (y :: l) = y := if_pos h
theorem sr_f {P : Nat → Bool} {y : Nat} {l : List Nat} (h : P y = false) : sr P (y :: l) = sr P l := if_neg (by rw [h]; decide)
theorem sr_cong {P Q : Nat → Bool} : ∀ {l : List Nat}, (∀ y, y ∈ l → P y = Q y) → sr P l = sr Q l
  | [], _ => rfl
  | y :: l, h => by
    unfold sr
    rw [h y List.mem_cons_self, sr_cong (fun z hz => h z (List.mem_cons_of_mem _ hz))]
theorem sr_app {P : Nat → Bool} {l2 : List Nat} : ∀ {l1 : List Nat}, (∀ y, y ∈ l1 → y ≠ 0) → sr P (l1 ++ l2) = if sr P l1 = 0 then sr P l2 else sr P l1
  | [], _ => rfl
  | y :: l, h => by
    cases c : P y
    · rw [List.cons_append, sr_f c, sr_f c]
      exact sr_app (fun z hz => h z (List.mem_cons_of_mem _ hz))
    · rw [List.cons_append, sr_t c, sr_t c, if_neg (h y List.mem_cons_self)]
theorem sr_no {P : Nat → Bool} : ∀ {l : List Nat}, (∀ y, y ∈ l → y ≠ 0) → sr P l = 0 → ∀ y, y ∈ l → P y = false
  | [], _, _, y, hy => by cases hy
  | x :: l, h, e, y, hy => by
    cases c : P x
    · rw [sr_f c] at e
      rcases List.mem_cons.mp hy with rfl | q
      · exact c
      · exact sr_no (fun z hz => h z (List.mem_cons_of_mem _ hz)) e y q
    · rw [sr_t c] at e
      exact absurd e (h x List.mem_cons_self)
theorem sr_mem {P : Nat → Bool} : ∀ {l : List Nat}, sr P l ≠ 0 → sr P l ∈ l ∧ P (sr P l) = true
  | [], h => absurd rfl h
  | x :: l, h => by
    cases c : P x
    · rw [sr_f c] at h ⊢
      exact ⟨List.mem_cons_of_mem _ (sr_mem h).1, (sr_mem h).2⟩
    · rw [sr_t c]
      exact ⟨List.mem_cons_self, c⟩
theorem chk_1 {x : Nat} (h : chk [x] = true) : x < 16777216 ∧ ∃ y, nxI x = some y ∧ (16777216 : Int32) ≤ y := by
  unfold chk at h
  rw [Bool.and_eq_true, Bool.and_eq_true, decide_eq_true_eq] at h
  refine ⟨h.1.1, ?_⟩
  have q := h.1.2
  dsimp only at q
  cases e : nxI x with
  | none =>
    rw [e] at q
    exact absurd q (by decide)
  | some y =>
    rw [e] at q
    exact ⟨y, rfl, of_decide_eq_true q⟩
theorem chk_2 {x y : Nat} {l : List Nat} (h : chk (x :: y :: l) = true) : x < 16777216 ∧ nxI x = some (nI y) ∧ chk (y :: l) = true := by
  rw [chk] at h
  rw [Bool.and_eq_true, Bool.and_eq_true, decide_eq_true_eq] at h
  exact ⟨h.1.1, of_decide_eq_true h.1.2, h.2⟩
/-- the class goes through such a list -/
def nQ (d : Nat → Int32) (h i : Nat) (E U : Int32) (y : Nat) : Bool := decide (nI y &&& (U ^^^ (-1)) = 0) && s_opens d h (E ||| nI y) i
theorem fb_go {i : Nat} {E U x4 : Int32} (iso : ∀ K, f_X4_isOpenInTheEnd (nI i) K M = some (if s_opens d h K i = true then 1 else 0)) (K61 : Int32 → Option Int32) (K74 : Int32 → Int32 → Int32 → Int32 → Option Int32) : ∀ (L : List Nat) (x f : Nat), chk (x :: L) = true → (∀ z, z ∈ x :: L → z ≠ 0) → L.length + 1 < f → g_lq5 (F_X11_fewestBesides_29 M K61 K74) f (nI i) E U x4 (nI x) = (if sr (nQ d h i E U) (x :: L) = 0 then K74 (nI i) E U x4 else K61 (nI (sr (nQ d h i E U) (x :: L)))) := by
  intro L
  induction L with
  | nil =>
    intro x f hc hz hf
    obtain ⟨f, rfl⟩ : ∃ f', f = f' + 2 := ⟨f - 2, by have : ([] : List Nat).length = 0 := rfl; omega⟩
    obtain ⟨k1, yy, k2, k3⟩ := chk_1 hc
    have x0 := hz x List.mem_cons_self
    rw [lq5_s, F_X11_fewestBesides_29, if_neg (show ¬ (16777216 : Int32) ≤ nI x from nI_ge (b := 16777216) k1 (by omega)), iso, Option.bind_some]
    unfold f_X11_fewestBesides_64
    have nx : f_X11_nextOfAsMany (nI x) M = nxI x := rfl
    rw [nx]
    have last : ((nxI x).bind fun p3 => g_lq5 (F_X11_fewestBesides_29 M K61 K74) (f + 1) (nI i) E U x4 p3) = K74 (nI i) E U x4 := by
      rw [k2, Option.bind_some, lq5_s, F_X11_fewestBesides_29, if_pos k3]
    rw [last]
    by_cases a : nI x &&& (U ^^^ (-1)) = 0
    · rw [if_pos a]
      cases o : s_opens d h (E ||| nI x) i
      · have q : nQ d h i E U x = false := by
          unfold nQ
          rw [o, Bool.and_false]
        rw [if_pos (show (if false = true then (1 : Int32) else 0) = 0 by decide), sr_f q]
        exact (if_pos rfl).symm
      · have q : nQ d h i E U x = true := by
          unfold nQ
          rw [o, decide_eq_true a]
          rfl
        rw [if_neg (show ¬ (if true = true then (1 : Int32) else 0) = 0 by decide), sr_t q, if_neg x0]
    · have q : nQ d h i E U x = false := by
        unfold nQ
        rw [decide_eq_false a, Bool.false_and]
      rw [if_neg a, sr_f q]
      exact (if_pos rfl).symm
  | cons y L ih =>
    intro x f hc hz hf
    obtain ⟨f, rfl⟩ : ∃ f', f = f' + 1 := ⟨f - 1, by omega⟩
    obtain ⟨k1, k2, k3⟩ := chk_2 hc
    have x0 := hz x List.mem_cons_self
    have ih' := ih y f k3 (fun z q => hz z (List.mem_cons_of_mem _ q)) (by have : (y :: L).length = L.length + 1 := rfl; omega)
    rw [lq5_s, F_X11_fewestBesides_29, if_neg (show ¬ (16777216 : Int32) ≤ nI x from nI_ge (b := 16777216) k1 (by omega)), iso, Option.bind_some]
    unfold f_X11_fewestBesides_64
    have nx : f_X11_nextOfAsMany (nI x) M = nxI x := rfl
    rw [nx, k2, Option.bind_some, ih']
    by_cases a : nI x &&& (U ^^^ (-1)) = 0
    · rw [if_pos a]
      cases o : s_opens d h (E ||| nI x) i
      · have q : nQ d h i E U x = false := by
          unfold nQ
          rw [o, Bool.and_false]
        rw [if_pos (show (if false = true then (1 : Int32) else 0) = 0 by decide), sr_f q]
      · have q : nQ d h i E U x = true := by
          unfold nQ
          rw [o, decide_eq_true a]
          rfl
        rw [if_neg (show ¬ (if true = true then (1 : Int32) else 0) = 0 by decide), sr_t q, if_neg x0]
    · have q : nQ d h i E U x = false := by
        unfold nQ
        rw [decide_eq_false a, Bool.false_and]
      rw [if_neg a, sr_f q]
theorem in1_z {a y : Nat} (h : y ∈ in1 a) : y ≠ 0 := by
  unfold in1 at h
  have := List.mem_singleton.mp h
  have := Nat.two_pow_pos a
  omega
theorem or_nz {x y : Nat} (h : x ≠ 0) : x ||| y ≠ 0 := fun q => by
  have := Nat.le_trans Nat.left_le_or (Nat.le_of_eq q)
  omega
theorem in2_z {a y : Nat} (h : y ∈ in2 a) : y ≠ 0 := by
  unfold in2 at h
  obtain ⟨b, -, rfl⟩ := List.mem_map.mp h
  exact or_nz (Nat.ne_of_gt (Nat.two_pow_pos a))
theorem in3_z {a y : Nat} (h : y ∈ in3 a) : y ≠ 0 := by
  unfold in3 at h
  obtain ⟨b, -, h⟩ := List.mem_flatMap.mp h
  obtain ⟨c, -, rfl⟩ := List.mem_map.mp h
  exact or_nz (or_nz (Nat.ne_of_gt (Nat.two_pow_pos a)))
theorem cb_z {F : Nat → List Nat} (hF : ∀ a y, y ∈ F a → y ≠ 0) : ∀ y, y ∈ cb F → y ≠ 0 := fun y h => by
  unfold cb at h
  obtain ⟨a, -, h⟩ := List.mem_flatMap.mp h
  exact hF a y h
theorem fb_all {i : Nat} {E U x4 : Int32} (iso : ∀ K, f_X4_isOpenInTheEnd (nI i) K M = some (if s_opens d h K i = true then 1 else 0)) (K61 : Int32 → Option Int32) (K74 : Int32 → Int32 → Int32 → Int32 → Option Int32) {F : Nat → List Nat} (hF : ∀ a y, y ∈ F a → y ≠ 0) (hc : chk (cb F) = true) {x : Nat} (hx : (cb F).head? = some x ∧ (cb F).length < 3000) : g_lq5 (F_X11_fewestBesides_29 M K61 K74) 20000000 (nI i) E U x4 (nI x) = (if sr (nQ d h i E U) (cb F) = 0 then K74 (nI i) E U x4 else K61 (nI (sr (nQ d h i E U) (cb F)))) := by
  have hz := cb_z hF
  cases e : cb F with
  | nil =>
    rw [e] at hx
    exact absurd hx.1 (by simp)
  | cons y L =>
    rw [e] at hx hc hz
    have : y = x := Option.some.inj hx.1
    subst this
    exact fb_go iso K61 K74 L y 20000000 hc hz (by have := hx.2; have z : (y :: L).length = L.length + 1 := rfl; omega)
/-- keys for which there is a lock -/
def s_kol (d : Nat → Int32) : Nat → Int32
  | 0 => 0
  | i + 1 => s_kol d i ||| s_opr d i
theorem kol_go (x : XH M d h) (hh : h ≤ 40) : ∀ (k f i : Nat), i + k = h → k < f → g_lq2 (F_X4_keysOfLocks_4 M (fun (x1 : Int32) => some x1)) f (s_kol d i) (nI i) = some (s_kol d h)
  | 0, f, i, hi, hf => by
    obtain ⟨f, rfl⟩ : ∃ f', f = f' + 1 := ⟨f - 1, by omega⟩
    have : i = h := by omega
    subst this
    rw [lq2_s, F_X4_keysOfLocks_4, x.1, if_pos (nI_le (Nat.le_refl _) (by omega))]
  | k + 1, f, i, hi, hf => by
    obtain ⟨f, rfl⟩ : ∃ f', f = f' + 1 := ⟨f - 1, by omega⟩
    have ih := kol_go x hh k f (i + 1) (by omega) (by omega)
    rw [lq2_s, F_X4_keysOfLocks_4, x.1, if_neg (nI_ge (by omega) (by omega)), e_ld (by omega) (by omega), Option.bind_some, (x.2 i (by omega)).2.2.1, nI_1]
    exact ih
theorem kol_bt {k : Nat} : ∀ {n i : Nat}, i < n → bt (s_kol d n) k = false → bt (s_opr d i) k = false
  | n + 1, i, hi, e => by
    have e' : bt (s_kol d n ||| s_opr d n) k = false := e
    rw [b_or, Bool.or_eq_false_iff] at e'
    by_cases c : i = n
    · subst c
      exact e'.2
    · exact kol_bt (by omega) e'.1
/-- a key for which there is no lock opens nothing -/
def agk (k : Nat) (x y : Int32) : Prop := ∀ j, j ≠ k → bt x j = bt y j
theorem op1_ag {K K' : Int32} {k i : Nat} (w : W_H d i) (hk : bt (s_opr d i) k = false) (a : agk k K K') (f : Nat → Bool) : s_op1 d K f i = s_op1 d K' f i := by
  unfold s_op1
  unfold s_opr at hk
  by_cases c1 : d (40 + 4 * i) = 1
  · rw [if_pos c1] at hk
    rw [if_pos c1, if_pos c1]
    rcases w with ⟨-, -, -, q, hq, eq⟩ | ⟨w, -⟩ | ⟨w, -⟩
    · rw [eq] at hk ⊢
      rw [bt_one (by omega)] at hk
      rw [nI_clamp (by omega)]
      exact a q (fun z => by subst z; simp at hk)
    · rw [c1] at w
      exact absurd w (by decide)
    · rw [c1] at w
      exact absurd w (by decide)
  rw [if_neg c1] at hk
  rw [if_neg c1, if_neg c1]
  by_cases c5 : d (40 + 4 * i) = 5
  · rw [if_pos c5] at hk
    rw [if_pos c5, if_pos c5]
    rcases w with ⟨-, -, -, q, hq, eq⟩ | ⟨w, -⟩ | ⟨w, -⟩
    · rw [eq, nI_clamp (by omega)] at hk
      rw [eq, nI_clamp (by omega)]
      have hs : (if q = 23 then 0 else q + 1) < 24 := by split <;> omega
      rw [b_or, bt_one (by omega), bt_one (by omega), Bool.or_eq_false_iff, decide_eq_false_iff_not, decide_eq_false_iff_not] at hk
      rw [a q (fun z => hk.1 z.symm), a _ (fun z => hk.2 z.symm)]
    · rw [c5] at w
      exact absurd w (by decide)
    · rw [c5] at w
      exact absurd w (by decide)
  rw [if_neg c5, if_neg c5]
theorem opn_ag {K K' : Int32} {k : Nat} (a : agk k K K') : ∀ {n : Nat}, (∀ i, i < n → W_H d i) → (∀ i, i < n → bt (s_opr d i) k = false) → s_opn d K n = s_opn d K' n
  | 0, _, _ => rfl
  | n + 1, w, hk => by
    funext i
    show (if i = n then s_op1 d K (s_opn d K n) n else s_opn d K n i) = (if i = n then s_op1 d K' (s_opn d K' n) n else s_opn d K' n i)
    rw [opn_ag a (fun i hi => w i (by omega)) (fun i hi => hk i (by omega)), op1_ag (w n (by omega)) (hk n (by omega)) a]
theorem kr_ag {K K' : Int32} {k : Nat} (w : ∀ i, i < h → W_H d i) (hk : bt (s_kol d h) k = false) (a : agk k K K') : ∀ r, agk k (s_kr d h K r) (s_kr d h K' r)
  | 0 => a
  | r + 1 => fun j hj => by
    have ih := kr_ag w hk a r
    show bt (s_kr d h K r ||| s_box d (s_opn d (s_kr d h K r) h) h) j = bt (s_kr d h K' r ||| s_box d (s_opn d (s_kr d h K' r) h) h) j
    rw [b_or, b_or, ih j hj, opn_ag ih w (fun i hi => kol_bt hi hk)]
theorem opens_ag {K K' : Int32} {k : Nat} (w : ∀ i, i < h → W_H d i) (hk : bt (s_kol d h) k = false) (a : agk k K K') : s_opens d h K = s_opens d h K' := by
  unfold s_opens
  exact opn_ag (kr_ag w hk a 24) w (fun i hi => kol_bt hi hk)
/-- a key that is no use can go -/
theorem no_use (w : ∀ i, i < h → W_H d i) {K : Int32} {i k : Nat} (hk : bt (s_kol d h &&& (s_end d h K ^^^ (-1))) k = false) (hk2 : k < 32) {x y : Int32} (a : agk k x y) : s_opens d h (K ||| x) i = s_opens d h (K ||| y) i := by
  rw [b_and, Bool.and_eq_false_iff] at hk
  rcases hk with hk | hk
  · rw [opens_ag w hk (fun j hj => by rw [b_or, b_or, a j hj] : agk k (K ||| x) (K ||| y))]
  · rw [bt_not _ hk2, Bool.not_eq_false'] at hk
    rw [← s_opens_end (W_H.KB w), ← s_opens_end (W_H.KB w) K y]
    congr 1
    refine b_ext (fun j hj => ?_)
    rw [b_or, b_or]
    by_cases c : j = k
    · subst c
      rw [hk, Bool.true_or, Bool.true_or]
    · rw [a j c]
end NEED
