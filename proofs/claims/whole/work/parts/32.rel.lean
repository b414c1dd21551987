/-! ===== the relation between the class's cells and the model's ===== -/
def W_H (d : Nat → Int32) (i : Nat) : Prop :=
  ((d (40 + 4 * i) = 1 ∨ d (40 + 4 * i) = 5) ∧ d (40 + 4 * i + 1) = -1 ∧ d (40 + 4 * i + 2) = -1 ∧ ∃ q, q < 24 ∧ d (40 + 4 * i + 3) = nI q) ∨
  ((d (40 + 4 * i) = 2 ∨ d (40 + 4 * i) = 3) ∧ (∃ a, a < i ∧ d (40 + 4 * i + 1) = nI a) ∧ (∃ a, a < i ∧ d (40 + 4 * i + 2) = nI a) ∧ d (40 + 4 * i + 3) = -1) ∨
  (d (40 + 4 * i) = 4 ∧ (∃ a, a < i ∧ d (40 + 4 * i + 1) = nI a) ∧ d (40 + 4 * i + 2) = -1 ∧ ∃ q, q < 24 ∧ d (40 + 4 * i + 3) = nI q)
def W_T (d : Nat → Int32) (t : Nat) : Prop := ∃ (L : Nat) (c : List Int32), L ≤ 120 ∧ d (240 + t) = nI L ∧ (∀ k, k < L → ∃ q, q < 256 ∧ d (248 + 120 * t + k) = nI q) ∧ s_text (fun k => d (248 + 120 * t + k)) L = .inl c ∧ c.length ≤ 120
/-- the model's row: n elders, l lends, m texts, h hangings -/
def W_D (d : Nat → Int32) (n l m h : Nat) : Prop :=
  n ≤ 10 ∧ l ≤ 20 ∧ m ≤ 8 ∧ h ≤ 40 ∧ d 0 = nI n ∧ d 4 = nI l ∧ d 1 = nI m ∧ d 3 = nI h ∧ ((m = 0 ∧ d 2 = -1) ∨ ∃ u, u < m ∧ d 2 = nI u) ∧
  (∀ e, e < n → (∃ q, q ≤ 9 ∧ d (10 + e) = nI q) ∧ (d (20 + e) = 0 ∨ d (20 + e) = 1) ∧ ∃ q, q < 2 ^ 24 ∧ d (30 + e) = nI q) ∧
  (∀ k, k < l → (∃ q, q < n ∧ d (200 + 2 * k) = nI q) ∧ ∃ q, q < 24 ∧ d (200 + 2 * k + 1) = nI q) ∧
  (∀ i, i < h → W_H d i) ∧ (∀ t, t < m → W_T d t)
def X_E (d : Nat → Int32) (n l : Nat) (o0 o1 o2 : Int32) (w r lt lk : Nat → Int32) : Prop :=
  o0 = nI n ∧ o2 = nI l ∧ (∀ e, e < n → bt o1 e = decide (d (20 + e) = 1)) ∧ (∀ i, n ≤ i → bt o1 i = false) ∧
  (∀ e, e < n → w e = d (10 + e) ∧ r e = d (30 + e) ∧ lt e = nI (s_lt d e l) ∧ lk e = s_lk d e l) ∧ (∀ e, n ≤ e → e < 10 → r e = 0 ∧ lt e = 0 ∧ lk e = 0)
def s_nn (x : Int32) : Int32 := if x = -1 then 0 else x
def s_opr (d : Nat → Int32) (i : Nat) : Int32 :=
  if d (40 + 4 * i) = 1 then (1 : Int32) <<< (d (40 + 4 * i + 3) &&& 31)
  else if d (40 + 4 * i) = 5 then ((1 : Int32) <<< (d (40 + 4 * i + 3) &&& 31)) ||| ((1 : Int32) <<< (nI (if (d (40 + 4 * i + 3)).toNatClampNeg = 23 then 0 else (d (40 + 4 * i + 3)).toNatClampNeg + 1) &&& 31)) else 0
def X_H (d : Nat → Int32) (h : Nat) (o : Int32) (kd ky op f1 f2 co lo : Nat → Int32) : Prop :=
  o = nI h ∧ ∀ i, i < h → kd i = d (40 + 4 * i) ∧ ky i = s_nn (d (40 + 4 * i + 3)) ∧ op i = s_opr d i ∧ f1 i = s_nn (d (40 + 4 * i + 1)) ∧ f2 i = s_nn (d (40 + 4 * i + 2)) ∧ co i = s_cost d (i + 1) i ∧ lo i = s_lock d (i + 1) i
def X_T (d : Nat → Int32) (m : Nat) (o0 o1 : Int32) (ln : Nat → Int32) (cd : Nat → Nat → Int32) : Prop :=
  o0 = nI m ∧ o1 = d 2 ∧ ∀ t, t < m → ∀ (L : Nat) (c : List Int32), L ≤ 120 → d (240 + t) = nI L → s_text (fun k => d (248 + 120 * t + k)) L = .inl c → ln t = nI c.length ∧ ∀ i, i < c.length → cd t i = c.getD i 0
/-- the kept row is a beginning of the row -/
def P_D (d d' : Nat → Int32) (m h m' h' : Nat) : Prop :=
  m' ≤ m ∧ h' ≤ h ∧ (∀ t, t < m' → d (240 + t) = d' (240 + t) ∧ ∀ k, k < 120 → d (248 + 120 * t + k) = d' (248 + 120 * t + k)) ∧ ∀ i, i < h' → ∀ j, j < 4 → d (40 + 4 * i + j) = d' (40 + 4 * i + j)
def X_K (d d' : Nat → Int32) (m h : Nat) (has kept k6 k7 k8 o0 o1 o2 : Int32) (w r lt lk : Nat → Int32) : Prop :=
  has = kept ∧ (kept = 0 ∨ (kept = 1 ∧ ∃ n' l' m' h' : Nat, W_D d' n' l' m' h' ∧ X_E d' n' l' o0 o1 o2 w r lt lk ∧ k6 = nI m' ∧ k7 = d' 2 ∧ k8 = nI h' ∧ P_D d d' m h m' h'))
def X_P (xl ml : Int32) (xb mb : Nat → Int32) : Prop := ∃ q, q ≤ 120 ∧ xl = nI q ∧ ml = nI q ∧ ∀ k, k < q → xb k = mb k ∧ ∃ z, z < 256 ∧ mb k = nI z
def X_F (t : Nat) (all : Int32) (xc mc : Nat → Int32) : Prop := ∃ f : Nat → Nat, (∀ k, k < 7 → xc k = nI (f k) ∧ mc k = nI (f k)) ∧ all = nI (f 0 + f 1 + f 2 + f 3 + f 4 + f 5 + f 6) ∧ f 0 + f 1 + f 2 + f 3 + f 4 + f 5 + f 6 ≤ t
def X_S1 (s : Nat) (xb xs mb ms : Int32) (xn mn : Nat → Int64) : Prop := ∃ z, z ≤ 40 ∧ xs = nI z ∧ ms = nI z ∧ xb = mb ∧ (mb = 0 ∨ mb = 8 ∨ mb = 16 ∨ mb = 64) ∧ (mb = 0 → z = 0) ∧ ∀ k, k < 40 → xn k = mn (40 * s + k)
def X_S (M : g_M) : Prop := ∀ s, s < 4 → X_S1 s (M.1 (51 + s) 0) (M.1 (51 + s) 1) (M.1 73 s) (M.1 74 s) (M.2 (55 + s)) (M.2 75)
/-- the counts of changes -/
def X_C (t : Nat) (x1 x2 x3 : Int32) (c1 c2 c3 : Nat) : Prop := x1 = nI c1 ∧ x2 = nI c2 ∧ x3 = nI c3 ∧ c1 ≤ 1000 * t ∧ c2 ≤ 1000 * t ∧ c3 ≤ 1000 * t
/-- a set of all -/
def s_sub (s a : Nat) : Prop := s &&& a = s
/-- what the openings hold when they are fresh -/
def V_O (d : Nat → Int32) (n h : Nat) (ek : Nat → Int32) (op : Nat → Int64) : Prop := ∀ s, s < 1024 → s_sub s (s_all d n) → ek s = s_end d h (s_keys d (nI s) n) ∧ ∀ i, i < 64 → (op s).toBitVec.getLsbD i = s_opens d h (s_keys d (nI s) n) i
def X_O (d : Nat → Int32) (n h cc : Nat) (st : Int32) (ek : Nat → Int32) (op : Nat → Int64) : Prop := (st = -1 ∨ ∃ z, z ≤ cc ∧ st = nI z) ∧ (st = nI cc → V_O d n h ek op) ∧ ek 0 = 0 ∧ op 0 = 0
/-- whether a set may by the text in the row -/
def s_may (d : Nat → Int32) (n : Nat) (u : Nat) (set : Int32) : Bool :=
  match s_text (fun k => d (248 + 120 * u + k)) (d (240 + u)).toNatClampNeg with
  | .inl c => (s_ev (set &&& nI (s_all d n)) (nI (s_all d n)) (s_wgt d (set &&& nI (s_all d n)) n) c []).headD false
  | .inr _ => false
def V_A (d : Nat → Int32) (n : Nat) (a : Int32) (hd : Nat → Int32) : Prop := a = nI (s_all d n) ∧ ∀ s, s ≤ s_all d n → hd s = if s &&& s_all d n = s ∧ s_may d n (d 2).toNatClampNeg (nI s) = true then 1 else 0
def X_A (d : Nat → Int32) (n cc : Nat) (a st : Int32) (hd : Nat → Int32) : Prop := (st = -1 ∨ ∃ z, z ≤ cc ∧ st = nI z) ∧ (st = nI cc → ¬ d 2 = -1 ∧ V_A d n a hd)
def Rel0 (t n l m h c1 c2 c3 : Nat) (M : g_M) : Prop :=
  W_D (M.1 60) n l m h ∧ X_E (M.1 60) n l (M.1 3 0) (M.1 3 1) (M.1 3 2) (M.1 4) (M.1 5) (M.1 6) (M.1 7) ∧
  X_H (M.1 60) h (M.1 24 0) (M.1 25) (M.1 26) (M.1 27) (M.1 28) (M.1 29) (M.1 30) (M.1 31) ∧
  X_T (M.1 60) m (M.1 13 0) (M.1 13 1) (M.1 14) (fun t => M.1 (16 + t)) ∧
  X_K (M.1 60) (M.1 61) m h (M.1 59 2) (M.1 0 4) (M.1 0 6) (M.1 0 7) (M.1 0 8) (M.1 8 0) (M.1 8 1) (M.1 8 2) (M.1 9) (M.1 10) (M.1 11) (M.1 12) ∧
  X_P (M.1 33 1) (M.1 59 4) (M.1 34) (M.1 62) ∧ X_F t (M.1 1 1) (M.1 2) (M.1 63) ∧ X_S M ∧ X_C t (M.1 3 3) (M.1 13 2) (M.1 24 1) c1 c2 c3 ∧
  X_O (M.1 60) n h (c1 + c3) (M.1 36 2) (M.1 37) (M.2 38) ∧ X_A (M.1 60) n (c1 + c2) (M.1 39 1) (M.1 39 2) (M.1 40)
