theorem e1 (i : Nat) : nI i + 1 = nI (i + 1) := nI_add i 1
theorem e2 (i : Nat) : nI i + 2 = nI (i + 2) := nI_add i 2
theorem e3 (i : Nat) : nI i + 3 = nI (i + 3) := nI_add i 3
theorem e4 (i : Nat) : nI i + 4 = nI (i + 4) := nI_add i 4
theorem e5 (i : Nat) : nI i + 5 = nI (i + 5) := nI_add i 5
theorem lg_cmp_self (x : Int64) : lg_cmp x x = 0 := by
  unfold lg_cmp
  rw [if_neg (by show ¬ x < x; exact Int64.lt_irrefl), if_pos rfl]
theorem lw_le {L i : Nat} (hL : L ≤ 384) (h0 : i ≤ L) (c : ¬ nI L - 6 < nI i) : i + 6 ≤ L := by
  have h1 : (nI L - 6).toInt = (L : Int) - 6 := pk_sub_toInt (a := L) (b := 6) (by omega) (by omega)
  have h2 := Int32.not_lt.mp c
  have h3 := Int32.le_iff_toInt_le.mp h2
  rw [h1, nI_toInt (by omega)] at h3
  omega
/-- a boolean argument out of an int -/
def g_b (a : Int32) : Int32 := if a = 0 then 0 else 1
/-- a long argument out of two ints -/
def g_j (a b : Int32) : Int64 := (a.toInt64 <<< (Int32.toInt64 32 &&& 63)) ||| (b.toInt64 &&& 4294967295)
def g_Sc (X : g_X) (b L : Nat) (xs : Nat → Int32) : Prop := va_X b L xs X.s X.s.heap ∧ b < X.s.heap.size ∧ ¬ X.A b ∧ L ≤ 384
section LAWROWS
variable {l : Launch} {R : Room} {own : String} {cc : ByteArray} {nL : Nat} {X : g_X} {Y : g_Y} {pc q tgt b L : Nat} {xs : Nat → Int32} {lv lv' : List (Nat × Value)} {st : List Value} {M : g_M}
theorem g_sld (C : g_C l R own cc nL X Y) (S : g_Sc X b L xs) {x : Int32} {k : Nat} (hx : x = nI k) (hk : k < L) (hd : decode cc pc = .ok (.iaload, 1)) (hq : pc + 1 = q) (kk : g_G nL X Y q lv (.int (xs k) :: st) M) : g_G nL X Y pc lv (.int x :: .ref b :: st) M := by
  subst hq
  subst hx
  intro H locs ls hP hS hl
  have hL := S.2.2.2
  have h := kk H locs ls hP hS hl
  rw [← nI_clamp (n := k) (by omega)] at h
  exact va_sld C.1 C.2.1 S.1 S.2.1 S.2.2.1 hS (vp_in_nI hk (by omega)) hd h
theorem g_slen2 (C : g_C l R own cc nL X Y) (S : g_Sc X b L xs) (hd : decode cc pc = .ok (.arraylength, 1)) (hq : pc + 1 = q) (kk : g_G nL X Y q lv (.int (nI L) :: st) M) : g_G nL X Y pc lv (.ref b :: st) M := by
  subst hq
  intro H locs ls hP hS hl
  exact va_slen C.1 C.2.1 S.1 S.2.1 S.2.2.1 hS hd (kk H locs ls hP hS hl)
theorem g_bool (C : g_C l R own cc nL X Y) {x : Int32} {p1 p2 p3 : Nat} (hd : decode cc pc = .ok (.ifCond .eq 7, 3)) (h1 : pc + 3 = p1) (d1 : decode cc p1 = .ok (.iconst 1, 1)) (h2 : p1 + 1 = p2) (d2 : decode cc p2 = .ok (.goto 4, 3)) (h3 : p2 + 3 = p3) (d3 : decode cc p3 = .ok (.iconst 0, 1)) (hq : p3 + 1 = q) (kk : g_G nL X Y q lv (.int (g_b x) :: st) M) : g_G nL X Y pc lv (.int x :: st) M := by
  subst h1
  subst h2
  subst h3
  subst hq
  refine g_if_eq C hd rfl (tgt := pc + 3 + 1 + 3) (by omega) (fun c => ?_) (fun c => ?_)
  · refine g_iconst C (v := 0) d3 rfl (by decide) ?_
    rw [show g_b x = 0 from if_pos c] at kk
    exact kk
  · refine g_iconst C (v := 1) d1 rfl (by decide) ?_
    refine g_goto C d2 (tgt := pc + 3 + 1 + 3 + 1) (by omega) ?_
    rw [show g_b x = 1 from if_neg c] at kk
    exact kk
theorem g_hL {h : Nat} (hh : h < 1000) : h + 1 ≤ room_1.frames ∧ 64 * h + 64 ≤ room_1.locals := ⟨by show h + 1 ≤ 2048; omega, by show 64 * h + 64 ≤ 84000; omega⟩
end LAWROWS
theorem lw_c0 {l : Launch} {X : g_X} {Y : g_Y} {b L : Nat} {xs : Nat → Int32} (C : g_C l room_1 RL cL_law 4 X Y) (S : g_Sc X b L xs) {i : Nat} (hi : i + 6 ≤ L) {M : g_M} {P : g_M → Prop} (hs : ∃ p1 p2, f_X11_elder (xs (i + 1)) M = some p1 ∧ f_X12_elder (xs (i + 1)) p1.2 = some p2 ∧ p1.1 = p2.1 ∧ P p2.2) (kk : ∀ M2, P M2 → g_G 4 X Y 1544 [(0, .ref b), (1, g_r Y 0), (2, g_r Y 59), (3, .int (nI i))] [] M2) : g_G 4 X Y 220 [(0, .ref b), (1, g_r Y 0), (2, g_r Y 59), (3, .int (nI i))] [] M := by
  obtain ⟨p1, p2, h1, h2, h3, h4⟩ := hs
  refine g_aload_n C 1 dL_law_220 (q := 221) rfl rfl rfl ?_
  refine g_aload_n C 0 dL_law_221 (q := 222) rfl rfl rfl ?_
  refine g_iload_n C 3 dL_law_222 (q := 223) rfl rfl rfl ?_
  refine g_iconst C (v := 1) dL_law_223 (q := 224) rfl (by decide) ?_
  refine g_iadd C dL_law_224 (q := 225) rfl ?_
  refine g_sld C S (k := i + 1) (e1 i) (by omega) dL_law_225 (q := 226) rfl ?_
  refine g_callV C (k := 0) (as := [.int (xs (i + 1))]) (st := []) (m_X11_elder h1) (g_hL (by decide)) (by decide) (by decide) (gc_0 Y _ _) rfl kM_L_13 kI_X11_elder kS_X11_elder kN_X11 kC_X11_elder kD_X11_elder rfl (Nat.le_of_ble_eq_true rfl) dL_law_226 (q := 229) rfl ?_
  show g_G 4 X Y 229 [(0, .ref b), (1, g_r Y 0), (2, g_r Y 59), (3, .int (nI i))] [.int p1.1] p1.2
  refine g_aload_n C 2 dL_law_229 (q := 230) rfl rfl rfl ?_
  refine g_aload_n C 0 dL_law_230 (q := 231) rfl rfl rfl ?_
  refine g_iload_n C 3 dL_law_231 (q := 232) rfl rfl rfl ?_
  refine g_iconst C (v := 1) dL_law_232 (q := 233) rfl (by decide) ?_
  refine g_iadd C dL_law_233 (q := 234) rfl ?_
  refine g_sld C S (k := i + 1) (e1 i) (by omega) dL_law_234 (q := 235) rfl ?_
  refine g_callV C (k := 59) (as := [.int (xs (i + 1))]) (st := [.int p1.1]) (m_X12_elder h2) (g_hL (by decide)) (by decide) (by decide) (gc_59 Y _ _) rfl kM_L_17 kI_X12_elder kS_X12_elder kN_X12 kC_X12_elder kD_X12_elder rfl (Nat.le_of_ble_eq_true rfl) dL_law_235 (q := 238) rfl ?_
  show g_G 4 X Y 238 [(0, .ref b), (1, g_r Y 0), (2, g_r Y 59), (3, .int (nI i))] [.int p2.1, .int p1.1] p2.2
  refine g_icmp_eq C dL_law_238 (q := 241) (tgt := 1544) rfl (by decide) (fun _ => kk _ h4) (fun c => absurd h3 c)
theorem lw_c1 {l : Launch} {X : g_X} {Y : g_Y} {b L : Nat} {xs : Nat → Int32} (C : g_C l room_1 RL cL_law 4 X Y) (S : g_Sc X b L xs) {i : Nat} (hi : i + 6 ≤ L) {M : g_M} {P : g_M → Prop} (hs : ∃ p1 p2, f_X11_of (xs (i + 1)) (xs (i + 2)) M = some p1 ∧ f_X12_of (xs (i + 1)) (xs (i + 2)) p1.2 = some p2 ∧ p1.1 = p2.1 ∧ P p2.2) (kk : ∀ M2, P M2 → g_G 4 X Y 1544 [(0, .ref b), (1, g_r Y 0), (2, g_r Y 59), (3, .int (nI i))] [] M2) : g_G 4 X Y 243 [(0, .ref b), (1, g_r Y 0), (2, g_r Y 59), (3, .int (nI i))] [] M := by
  obtain ⟨p1, p2, h1, h2, h3, h4⟩ := hs
  refine g_aload_n C 1 dL_law_243 (q := 244) rfl rfl rfl ?_
  refine g_aload_n C 0 dL_law_244 (q := 245) rfl rfl rfl ?_
  refine g_iload_n C 3 dL_law_245 (q := 246) rfl rfl rfl ?_
  refine g_iconst C (v := 1) dL_law_246 (q := 247) rfl (by decide) ?_
  refine g_iadd C dL_law_247 (q := 248) rfl ?_
  refine g_sld C S (k := i + 1) (e1 i) (by omega) dL_law_248 (q := 249) rfl ?_
  refine g_aload_n C 0 dL_law_249 (q := 250) rfl rfl rfl ?_
  refine g_iload_n C 3 dL_law_250 (q := 251) rfl rfl rfl ?_
  refine g_iconst C (v := 2) dL_law_251 (q := 252) rfl (by decide) ?_
  refine g_iadd C dL_law_252 (q := 253) rfl ?_
  refine g_sld C S (k := i + 2) (e2 i) (by omega) dL_law_253 (q := 254) rfl ?_
  refine g_callV C (k := 0) (as := [.int (xs (i + 1)), .int (xs (i + 2))]) (st := []) (m_X11_of h1) (g_hL (by decide)) (by decide) (by decide) (gc_0 Y _ _) rfl kM_L_18 kI_X11_of kS_X11_of kN_X11 kC_X11_of kD_X11_of rfl (Nat.le_of_ble_eq_true rfl) dL_law_254 (q := 257) rfl ?_
  show g_G 4 X Y 257 [(0, .ref b), (1, g_r Y 0), (2, g_r Y 59), (3, .int (nI i))] [.int p1.1] p1.2
  refine g_aload_n C 2 dL_law_257 (q := 258) rfl rfl rfl ?_
  refine g_aload_n C 0 dL_law_258 (q := 259) rfl rfl rfl ?_
  refine g_iload_n C 3 dL_law_259 (q := 260) rfl rfl rfl ?_
  refine g_iconst C (v := 1) dL_law_260 (q := 261) rfl (by decide) ?_
  refine g_iadd C dL_law_261 (q := 262) rfl ?_
  refine g_sld C S (k := i + 1) (e1 i) (by omega) dL_law_262 (q := 263) rfl ?_
  refine g_aload_n C 0 dL_law_263 (q := 264) rfl rfl rfl ?_
  refine g_iload_n C 3 dL_law_264 (q := 265) rfl rfl rfl ?_
  refine g_iconst C (v := 2) dL_law_265 (q := 266) rfl (by decide) ?_
  refine g_iadd C dL_law_266 (q := 267) rfl ?_
  refine g_sld C S (k := i + 2) (e2 i) (by omega) dL_law_267 (q := 268) rfl ?_
  refine g_callV C (k := 59) (as := [.int (xs (i + 1)), .int (xs (i + 2))]) (st := [.int p1.1]) (m_X12_of h2) (g_hL (by decide)) (by decide) (by decide) (gc_59 Y _ _) rfl kM_L_22 kI_X12_of kS_X12_of kN_X12 kC_X12_of kD_X12_of rfl (Nat.le_of_ble_eq_true rfl) dL_law_268 (q := 271) rfl ?_
  show g_G 4 X Y 271 [(0, .ref b), (1, g_r Y 0), (2, g_r Y 59), (3, .int (nI i))] [.int p2.1, .int p1.1] p2.2
  refine g_icmp_eq C dL_law_271 (q := 274) (tgt := 1544) rfl (by decide) (fun _ => kk _ h4) (fun c => absurd h3 c)
theorem lw_c2 {l : Launch} {X : g_X} {Y : g_Y} {b L : Nat} {xs : Nat → Int32} (C : g_C l room_1 RL cL_law 4 X Y) (S : g_Sc X b L xs) {i : Nat} (hi : i + 6 ≤ L) {M : g_M} {P : g_M → Prop} (hs : ∃ p1 p2, f_X11_gone (xs (i + 1)) (g_b (xs (i + 2))) M = some p1 ∧ f_X12_gone (xs (i + 1)) (g_b (xs (i + 2))) p1.2 = some p2 ∧ p1.1 = p2.1 ∧ P p2.2) (kk : ∀ M2, P M2 → g_G 4 X Y 1544 [(0, .ref b), (1, g_r Y 0), (2, g_r Y 59), (3, .int (nI i))] [] M2) : g_G 4 X Y 276 [(0, .ref b), (1, g_r Y 0), (2, g_r Y 59), (3, .int (nI i))] [] M := by
  obtain ⟨p1, p2, h1, h2, h3, h4⟩ := hs
  refine g_aload_n C 1 dL_law_276 (q := 277) rfl rfl rfl ?_
  refine g_aload_n C 0 dL_law_277 (q := 278) rfl rfl rfl ?_
  refine g_iload_n C 3 dL_law_278 (q := 279) rfl rfl rfl ?_
  refine g_iconst C (v := 1) dL_law_279 (q := 280) rfl (by decide) ?_
  refine g_iadd C dL_law_280 (q := 281) rfl ?_
  refine g_sld C S (k := i + 1) (e1 i) (by omega) dL_law_281 (q := 282) rfl ?_
  refine g_aload_n C 0 dL_law_282 (q := 283) rfl rfl rfl ?_
  refine g_iload_n C 3 dL_law_283 (q := 284) rfl rfl rfl ?_
  refine g_iconst C (v := 2) dL_law_284 (q := 285) rfl (by decide) ?_
  refine g_iadd C dL_law_285 (q := 286) rfl ?_
  refine g_sld C S (k := i + 2) (e2 i) (by omega) dL_law_286 (q := 287) rfl ?_
  refine g_bool C dL_law_287 (p1 := 290) rfl dL_law_290 (p2 := 291) rfl dL_law_291 (p3 := 294) rfl dL_law_294 (q := 295) rfl ?_
  refine g_callV C (k := 0) (as := [.int (xs (i + 1)), .int (g_b (xs (i + 2)))]) (st := []) (m_X11_gone h1) (g_hL (by decide)) (by decide) (by decide) (gc_0 Y _ _) rfl kM_L_23 kI_X11_gone kS_X11_gone kN_X11 kC_X11_gone kD_X11_gone rfl (Nat.le_of_ble_eq_true rfl) dL_law_295 (q := 298) rfl ?_
  show g_G 4 X Y 298 [(0, .ref b), (1, g_r Y 0), (2, g_r Y 59), (3, .int (nI i))] [.int p1.1] p1.2
  refine g_aload_n C 2 dL_law_298 (q := 299) rfl rfl rfl ?_
  refine g_aload_n C 0 dL_law_299 (q := 300) rfl rfl rfl ?_
  refine g_iload_n C 3 dL_law_300 (q := 301) rfl rfl rfl ?_
  refine g_iconst C (v := 1) dL_law_301 (q := 302) rfl (by decide) ?_
  refine g_iadd C dL_law_302 (q := 303) rfl ?_
  refine g_sld C S (k := i + 1) (e1 i) (by omega) dL_law_303 (q := 304) rfl ?_
  refine g_aload_n C 0 dL_law_304 (q := 305) rfl rfl rfl ?_
  refine g_iload_n C 3 dL_law_305 (q := 306) rfl rfl rfl ?_
  refine g_iconst C (v := 2) dL_law_306 (q := 307) rfl (by decide) ?_
  refine g_iadd C dL_law_307 (q := 308) rfl ?_
  refine g_sld C S (k := i + 2) (e2 i) (by omega) dL_law_308 (q := 309) rfl ?_
  refine g_bool C dL_law_309 (p1 := 312) rfl dL_law_312 (p2 := 313) rfl dL_law_313 (p3 := 316) rfl dL_law_316 (q := 317) rfl ?_
  refine g_callV C (k := 59) (as := [.int (xs (i + 1)), .int (g_b (xs (i + 2)))]) (st := [.int p1.1]) (m_X12_gone h2) (g_hL (by decide)) (by decide) (by decide) (gc_59 Y _ _) rfl kM_L_27 kI_X12_gone kS_X12_gone kN_X12 kC_X12_gone kD_X12_gone rfl (Nat.le_of_ble_eq_true rfl) dL_law_317 (q := 320) rfl ?_
  show g_G 4 X Y 320 [(0, .ref b), (1, g_r Y 0), (2, g_r Y 59), (3, .int (nI i))] [.int p2.1, .int p1.1] p2.2
  refine g_icmp_eq C dL_law_320 (q := 323) (tgt := 1544) rfl (by decide) (fun _ => kk _ h4) (fun c => absurd h3 c)
theorem lw_c3 {l : Launch} {X : g_X} {Y : g_Y} {b L : Nat} {xs : Nat → Int32} (C : g_C l room_1 RL cL_law 4 X Y) (S : g_Sc X b L xs) {i : Nat} (hi : i + 6 ≤ L) {M : g_M} {P : g_M → Prop} (hs : ∃ p1 p2, f_X11_feed (xs (i + 1)) (xs (i + 2)) M = some p1 ∧ f_X12_feed (xs (i + 1)) (xs (i + 2)) p1.2 = some p2 ∧ p1.1 = p2.1 ∧ P p2.2) (kk : ∀ M2, P M2 → g_G 4 X Y 1544 [(0, .ref b), (1, g_r Y 0), (2, g_r Y 59), (3, .int (nI i))] [] M2) : g_G 4 X Y 325 [(0, .ref b), (1, g_r Y 0), (2, g_r Y 59), (3, .int (nI i))] [] M := by
  obtain ⟨p1, p2, h1, h2, h3, h4⟩ := hs
  refine g_aload_n C 1 dL_law_325 (q := 326) rfl rfl rfl ?_
  refine g_aload_n C 0 dL_law_326 (q := 327) rfl rfl rfl ?_
  refine g_iload_n C 3 dL_law_327 (q := 328) rfl rfl rfl ?_
  refine g_iconst C (v := 1) dL_law_328 (q := 329) rfl (by decide) ?_
  refine g_iadd C dL_law_329 (q := 330) rfl ?_
  refine g_sld C S (k := i + 1) (e1 i) (by omega) dL_law_330 (q := 331) rfl ?_
  refine g_aload_n C 0 dL_law_331 (q := 332) rfl rfl rfl ?_
  refine g_iload_n C 3 dL_law_332 (q := 333) rfl rfl rfl ?_
  refine g_iconst C (v := 2) dL_law_333 (q := 334) rfl (by decide) ?_
  refine g_iadd C dL_law_334 (q := 335) rfl ?_
  refine g_sld C S (k := i + 2) (e2 i) (by omega) dL_law_335 (q := 336) rfl ?_
  refine g_callV C (k := 0) (as := [.int (xs (i + 1)), .int (xs (i + 2))]) (st := []) (m_X11_feed h1) (g_hL (by decide)) (by decide) (by decide) (gc_0 Y _ _) rfl kM_L_28 kI_X11_feed kS_X11_feed kN_X11 kC_X11_feed kD_X11_feed rfl (Nat.le_of_ble_eq_true rfl) dL_law_336 (q := 339) rfl ?_
  show g_G 4 X Y 339 [(0, .ref b), (1, g_r Y 0), (2, g_r Y 59), (3, .int (nI i))] [.int p1.1] p1.2
  refine g_aload_n C 2 dL_law_339 (q := 340) rfl rfl rfl ?_
  refine g_aload_n C 0 dL_law_340 (q := 341) rfl rfl rfl ?_
  refine g_iload_n C 3 dL_law_341 (q := 342) rfl rfl rfl ?_
  refine g_iconst C (v := 1) dL_law_342 (q := 343) rfl (by decide) ?_
  refine g_iadd C dL_law_343 (q := 344) rfl ?_
  refine g_sld C S (k := i + 1) (e1 i) (by omega) dL_law_344 (q := 345) rfl ?_
  refine g_aload_n C 0 dL_law_345 (q := 346) rfl rfl rfl ?_
  refine g_iload_n C 3 dL_law_346 (q := 347) rfl rfl rfl ?_
  refine g_iconst C (v := 2) dL_law_347 (q := 348) rfl (by decide) ?_
  refine g_iadd C dL_law_348 (q := 349) rfl ?_
  refine g_sld C S (k := i + 2) (e2 i) (by omega) dL_law_349 (q := 350) rfl ?_
  refine g_callV C (k := 59) (as := [.int (xs (i + 1)), .int (xs (i + 2))]) (st := [.int p1.1]) (m_X12_feed h2) (g_hL (by decide)) (by decide) (by decide) (gc_59 Y _ _) rfl kM_L_31 kI_X12_feed kS_X12_feed kN_X12 kC_X12_feed kD_X12_feed rfl (Nat.le_of_ble_eq_true rfl) dL_law_350 (q := 353) rfl ?_
  show g_G 4 X Y 353 [(0, .ref b), (1, g_r Y 0), (2, g_r Y 59), (3, .int (nI i))] [.int p2.1, .int p1.1] p2.2
  refine g_icmp_eq C dL_law_353 (q := 356) (tgt := 1544) rfl (by decide) (fun _ => kk _ h4) (fun c => absurd h3 c)
theorem lw_c4 {l : Launch} {X : g_X} {Y : g_Y} {b L : Nat} {xs : Nat → Int32} (C : g_C l room_1 RL cL_law 4 X Y) (S : g_Sc X b L xs) {i : Nat} (hi : i + 6 ≤ L) {M : g_M} {P : g_M → Prop} (hs : ∃ p1 p2, f_X11_wipe M = some p1 ∧ f_X12_wipe p1.2 = some p2 ∧ p1.1 = p2.1 ∧ P p2.2) (kk : ∀ M2, P M2 → g_G 4 X Y 1544 [(0, .ref b), (1, g_r Y 0), (2, g_r Y 59), (3, .int (nI i))] [] M2) : g_G 4 X Y 358 [(0, .ref b), (1, g_r Y 0), (2, g_r Y 59), (3, .int (nI i))] [] M := by
  obtain ⟨p1, p2, h1, h2, h3, h4⟩ := hs
  refine g_aload_n C 1 dL_law_358 (q := 359) rfl rfl rfl ?_
  refine g_callV C (k := 0) (as := []) (st := []) (m_X11_wipe h1) (g_hL (by decide)) (by decide) (by decide) (gc_0 Y _ _) rfl kM_L_32 kI_X11_wipe kS_X11_wipe kN_X11 kC_X11_wipe kD_X11_wipe rfl (Nat.le_of_ble_eq_true rfl) dL_law_359 (q := 362) rfl ?_
  show g_G 4 X Y 362 [(0, .ref b), (1, g_r Y 0), (2, g_r Y 59), (3, .int (nI i))] [.int p1.1] p1.2
  refine g_aload_n C 2 dL_law_362 (q := 363) rfl rfl rfl ?_
  refine g_callV C (k := 59) (as := []) (st := [.int p1.1]) (m_X12_wipe h2) (g_hL (by decide)) (by decide) (by decide) (gc_59 Y _ _) rfl kM_L_36 kI_X12_wipe kS_X12_wipe kN_X12 kC_X12_wipe kD_X12_wipe rfl (Nat.le_of_ble_eq_true rfl) dL_law_363 (q := 366) rfl ?_
  show g_G 4 X Y 366 [(0, .ref b), (1, g_r Y 0), (2, g_r Y 59), (3, .int (nI i))] [.int p2.1, .int p1.1] p2.2
  refine g_icmp_eq C dL_law_366 (q := 369) (tgt := 1544) rfl (by decide) (fun _ => kk _ h4) (fun c => absurd h3 c)
theorem lw_c5 {l : Launch} {X : g_X} {Y : g_Y} {b L : Nat} {xs : Nat → Int32} (C : g_C l room_1 RL cL_law 4 X Y) (S : g_Sc X b L xs) {i : Nat} (hi : i + 6 ≤ L) {M : g_M} {P : g_M → Prop} (hs : ∃ p1 p2, f_X11_text M = some p1 ∧ f_X12_text p1.2 = some p2 ∧ p1.1 = p2.1 ∧ P p2.2) (kk : ∀ M2, P M2 → g_G 4 X Y 1544 [(0, .ref b), (1, g_r Y 0), (2, g_r Y 59), (3, .int (nI i))] [] M2) : g_G 4 X Y 371 [(0, .ref b), (1, g_r Y 0), (2, g_r Y 59), (3, .int (nI i))] [] M := by
  obtain ⟨p1, p2, h1, h2, h3, h4⟩ := hs
  refine g_aload_n C 1 dL_law_371 (q := 372) rfl rfl rfl ?_
  refine g_callV C (k := 0) (as := []) (st := []) (m_X11_text h1) (g_hL (by decide)) (by decide) (by decide) (gc_0 Y _ _) rfl kM_L_37 kI_X11_text kS_X11_text kN_X11 kC_X11_text kD_X11_text rfl (Nat.le_of_ble_eq_true rfl) dL_law_372 (q := 375) rfl ?_
  show g_G 4 X Y 375 [(0, .ref b), (1, g_r Y 0), (2, g_r Y 59), (3, .int (nI i))] [.int p1.1] p1.2
  refine g_aload_n C 2 dL_law_375 (q := 376) rfl rfl rfl ?_
  refine g_callV C (k := 59) (as := []) (st := [.int p1.1]) (m_X12_text h2) (g_hL (by decide)) (by decide) (by decide) (gc_59 Y _ _) rfl kM_L_40 kI_X12_text kS_X12_text kN_X12 kC_X12_text kD_X12_text rfl (Nat.le_of_ble_eq_true rfl) dL_law_376 (q := 379) rfl ?_
  show g_G 4 X Y 379 [(0, .ref b), (1, g_r Y 0), (2, g_r Y 59), (3, .int (nI i))] [.int p2.1, .int p1.1] p2.2
  refine g_icmp_eq C dL_law_379 (q := 382) (tgt := 1544) rfl (by decide) (fun _ => kk _ h4) (fun c => absurd h3 c)
theorem lw_c6 {l : Launch} {X : g_X} {Y : g_Y} {b L : Nat} {xs : Nat → Int32} (C : g_C l room_1 RL cL_law 4 X Y) (S : g_Sc X b L xs) {i : Nat} (hi : i + 6 ≤ L) {M : g_M} {P : g_M → Prop} (hs : ∃ p1 p2, f_X11_use (xs (i + 1)) M = some p1 ∧ f_X12_use (xs (i + 1)) p1.2 = some p2 ∧ p1.1 = p2.1 ∧ P p2.2) (kk : ∀ M2, P M2 → g_G 4 X Y 1544 [(0, .ref b), (1, g_r Y 0), (2, g_r Y 59), (3, .int (nI i))] [] M2) : g_G 4 X Y 384 [(0, .ref b), (1, g_r Y 0), (2, g_r Y 59), (3, .int (nI i))] [] M := by
  obtain ⟨p1, p2, h1, h2, h3, h4⟩ := hs
  refine g_aload_n C 1 dL_law_384 (q := 385) rfl rfl rfl ?_
  refine g_aload_n C 0 dL_law_385 (q := 386) rfl rfl rfl ?_
  refine g_iload_n C 3 dL_law_386 (q := 387) rfl rfl rfl ?_
  refine g_iconst C (v := 1) dL_law_387 (q := 388) rfl (by decide) ?_
  refine g_iadd C dL_law_388 (q := 389) rfl ?_
  refine g_sld C S (k := i + 1) (e1 i) (by omega) dL_law_389 (q := 390) rfl ?_
  refine g_callV C (k := 0) (as := [.int (xs (i + 1))]) (st := []) (m_X11_use h1) (g_hL (by decide)) (by decide) (by decide) (gc_0 Y _ _) rfl kM_L_41 kI_X11_use kS_X11_use kN_X11 kC_X11_use kD_X11_use rfl (Nat.le_of_ble_eq_true rfl) dL_law_390 (q := 393) rfl ?_
  show g_G 4 X Y 393 [(0, .ref b), (1, g_r Y 0), (2, g_r Y 59), (3, .int (nI i))] [.int p1.1] p1.2
  refine g_aload_n C 2 dL_law_393 (q := 394) rfl rfl rfl ?_
  refine g_aload_n C 0 dL_law_394 (q := 395) rfl rfl rfl ?_
  refine g_iload_n C 3 dL_law_395 (q := 396) rfl rfl rfl ?_
  refine g_iconst C (v := 1) dL_law_396 (q := 397) rfl (by decide) ?_
  refine g_iadd C dL_law_397 (q := 398) rfl ?_
  refine g_sld C S (k := i + 1) (e1 i) (by omega) dL_law_398 (q := 399) rfl ?_
  refine g_callV C (k := 59) (as := [.int (xs (i + 1))]) (st := [.int p1.1]) (m_X12_use h2) (g_hL (by decide)) (by decide) (by decide) (gc_59 Y _ _) rfl kM_L_44 kI_X12_use kS_X12_use kN_X12 kC_X12_use kD_X12_use rfl (Nat.le_of_ble_eq_true rfl) dL_law_399 (q := 402) rfl ?_
  show g_G 4 X Y 402 [(0, .ref b), (1, g_r Y 0), (2, g_r Y 59), (3, .int (nI i))] [.int p2.1, .int p1.1] p2.2
  refine g_icmp_eq C dL_law_402 (q := 405) (tgt := 1544) rfl (by decide) (fun _ => kk _ h4) (fun c => absurd h3 c)
theorem lw_c7 {l : Launch} {X : g_X} {Y : g_Y} {b L : Nat} {xs : Nat → Int32} (C : g_C l room_1 RL cL_law 4 X Y) (S : g_Sc X b L xs) {i : Nat} (hi : i + 6 ≤ L) {M : g_M} {P : g_M → Prop} (hs : ∃ p1 p2, f_X11_may (xs (i + 1)) (xs (i + 2)) M = some p1 ∧ f_X12_may (xs (i + 1)) (xs (i + 2)) p1.2 = some p2 ∧ p1.1 = p2.1 ∧ P p2.2) (kk : ∀ M2, P M2 → g_G 4 X Y 1544 [(0, .ref b), (1, g_r Y 0), (2, g_r Y 59), (3, .int (nI i))] [] M2) : g_G 4 X Y 407 [(0, .ref b), (1, g_r Y 0), (2, g_r Y 59), (3, .int (nI i))] [] M := by
  obtain ⟨p1, p2, h1, h2, h3, h4⟩ := hs
  refine g_aload_n C 1 dL_law_407 (q := 408) rfl rfl rfl ?_
  refine g_aload_n C 0 dL_law_408 (q := 409) rfl rfl rfl ?_
  refine g_iload_n C 3 dL_law_409 (q := 410) rfl rfl rfl ?_
  refine g_iconst C (v := 1) dL_law_410 (q := 411) rfl (by decide) ?_
  refine g_iadd C dL_law_411 (q := 412) rfl ?_
  refine g_sld C S (k := i + 1) (e1 i) (by omega) dL_law_412 (q := 413) rfl ?_
  refine g_aload_n C 0 dL_law_413 (q := 414) rfl rfl rfl ?_
  refine g_iload_n C 3 dL_law_414 (q := 415) rfl rfl rfl ?_
  refine g_iconst C (v := 2) dL_law_415 (q := 416) rfl (by decide) ?_
  refine g_iadd C dL_law_416 (q := 417) rfl ?_
  refine g_sld C S (k := i + 2) (e2 i) (by omega) dL_law_417 (q := 418) rfl ?_
  refine g_callV C (k := 0) (as := [.int (xs (i + 1)), .int (xs (i + 2))]) (st := []) (m_X11_may h1) (g_hL (by decide)) (by decide) (by decide) (gc_0 Y _ _) rfl kM_L_45 kI_X11_may kS_X11_may kN_X11 kC_X11_may kD_X11_may rfl (Nat.le_of_ble_eq_true rfl) dL_law_418 (q := 421) rfl ?_
  show g_G 4 X Y 421 [(0, .ref b), (1, g_r Y 0), (2, g_r Y 59), (3, .int (nI i))] [.int p1.1] p1.2
  refine g_aload_n C 2 dL_law_421 (q := 422) rfl rfl rfl ?_
  refine g_aload_n C 0 dL_law_422 (q := 423) rfl rfl rfl ?_
  refine g_iload_n C 3 dL_law_423 (q := 424) rfl rfl rfl ?_
  refine g_iconst C (v := 1) dL_law_424 (q := 425) rfl (by decide) ?_
  refine g_iadd C dL_law_425 (q := 426) rfl ?_
  refine g_sld C S (k := i + 1) (e1 i) (by omega) dL_law_426 (q := 427) rfl ?_
  refine g_aload_n C 0 dL_law_427 (q := 428) rfl rfl rfl ?_
  refine g_iload_n C 3 dL_law_428 (q := 429) rfl rfl rfl ?_
  refine g_iconst C (v := 2) dL_law_429 (q := 430) rfl (by decide) ?_
  refine g_iadd C dL_law_430 (q := 431) rfl ?_
  refine g_sld C S (k := i + 2) (e2 i) (by omega) dL_law_431 (q := 432) rfl ?_
  refine g_callV C (k := 59) (as := [.int (xs (i + 1)), .int (xs (i + 2))]) (st := [.int p1.1]) (m_X12_may h2) (g_hL (by decide)) (by decide) (by decide) (gc_59 Y _ _) rfl kM_L_48 kI_X12_may kS_X12_may kN_X12 kC_X12_may kD_X12_may rfl (Nat.le_of_ble_eq_true rfl) dL_law_432 (q := 435) rfl ?_
  show g_G 4 X Y 435 [(0, .ref b), (1, g_r Y 0), (2, g_r Y 59), (3, .int (nI i))] [.int p2.1, .int p1.1] p2.2
  refine g_icmp_eq C dL_law_435 (q := 438) (tgt := 1544) rfl (by decide) (fun _ => kk _ h4) (fun c => absurd h3 c)
theorem lw_c8 {l : Launch} {X : g_X} {Y : g_Y} {b L : Nat} {xs : Nat → Int32} (C : g_C l room_1 RL cL_law 4 X Y) (S : g_Sc X b L xs) {i : Nat} (hi : i + 6 ≤ L) {M : g_M} {P : g_M → Prop} (hs : ∃ p1 p2, f_X11_more M = some p1 ∧ f_X12_more p1.2 = some p2 ∧ p1.1 = p2.1 ∧ P p2.2) (kk : ∀ M2, P M2 → g_G 4 X Y 1544 [(0, .ref b), (1, g_r Y 0), (2, g_r Y 59), (3, .int (nI i))] [] M2) : g_G 4 X Y 440 [(0, .ref b), (1, g_r Y 0), (2, g_r Y 59), (3, .int (nI i))] [] M := by
  obtain ⟨p1, p2, h1, h2, h3, h4⟩ := hs
  refine g_aload_n C 1 dL_law_440 (q := 441) rfl rfl rfl ?_
  refine g_callV C (k := 0) (as := []) (st := []) (m_X11_more h1) (g_hL (by decide)) (by decide) (by decide) (gc_0 Y _ _) rfl kM_L_49 kI_X11_more kS_X11_more kN_X11 kC_X11_more kD_X11_more rfl (Nat.le_of_ble_eq_true rfl) dL_law_441 (q := 444) rfl ?_
  show g_G 4 X Y 444 [(0, .ref b), (1, g_r Y 0), (2, g_r Y 59), (3, .int (nI i))] [.int p1.1] p1.2
  refine g_aload_n C 2 dL_law_444 (q := 445) rfl rfl rfl ?_
  refine g_callV C (k := 59) (as := []) (st := [.int p1.1]) (m_X12_more h2) (g_hL (by decide)) (by decide) (by decide) (gc_59 Y _ _) rfl kM_L_52 kI_X12_more kS_X12_more kN_X12 kC_X12_more kD_X12_more rfl (Nat.le_of_ble_eq_true rfl) dL_law_445 (q := 448) rfl ?_
  show g_G 4 X Y 448 [(0, .ref b), (1, g_r Y 0), (2, g_r Y 59), (3, .int (nI i))] [.int p2.1, .int p1.1] p2.2
  refine g_icmp_eq C dL_law_448 (q := 451) (tgt := 1544) rfl (by decide) (fun _ => kk _ h4) (fun c => absurd h3 c)
theorem lw_c9 {l : Launch} {X : g_X} {Y : g_Y} {b L : Nat} {xs : Nat → Int32} (C : g_C l room_1 RL cL_law 4 X Y) (S : g_Sc X b L xs) {i : Nat} (hi : i + 6 ≤ L) {M : g_M} {P : g_M → Prop} (hs : ∃ p1 p2, f_X11_least (xs (i + 1)) M = some p1 ∧ f_X12_least (xs (i + 1)) p1.2 = some p2 ∧ p1.1 = p2.1 ∧ P p2.2) (kk : ∀ M2, P M2 → g_G 4 X Y 1544 [(0, .ref b), (1, g_r Y 0), (2, g_r Y 59), (3, .int (nI i))] [] M2) : g_G 4 X Y 453 [(0, .ref b), (1, g_r Y 0), (2, g_r Y 59), (3, .int (nI i))] [] M := by
  obtain ⟨p1, p2, h1, h2, h3, h4⟩ := hs
  refine g_aload_n C 1 dL_law_453 (q := 454) rfl rfl rfl ?_
  refine g_aload_n C 0 dL_law_454 (q := 455) rfl rfl rfl ?_
  refine g_iload_n C 3 dL_law_455 (q := 456) rfl rfl rfl ?_
  refine g_iconst C (v := 1) dL_law_456 (q := 457) rfl (by decide) ?_
  refine g_iadd C dL_law_457 (q := 458) rfl ?_
  refine g_sld C S (k := i + 1) (e1 i) (by omega) dL_law_458 (q := 459) rfl ?_
  refine g_callV C (k := 0) (as := [.int (xs (i + 1))]) (st := []) (m_X11_least h1) (g_hL (by decide)) (by decide) (by decide) (gc_0 Y _ _) rfl kM_L_53 kI_X11_least kS_X11_least kN_X11 kC_X11_least kD_X11_least rfl (Nat.le_of_ble_eq_true rfl) dL_law_459 (q := 462) rfl ?_
  show g_G 4 X Y 462 [(0, .ref b), (1, g_r Y 0), (2, g_r Y 59), (3, .int (nI i))] [.int p1.1] p1.2
  refine g_aload_n C 2 dL_law_462 (q := 463) rfl rfl rfl ?_
  refine g_aload_n C 0 dL_law_463 (q := 464) rfl rfl rfl ?_
  refine g_iload_n C 3 dL_law_464 (q := 465) rfl rfl rfl ?_
  refine g_iconst C (v := 1) dL_law_465 (q := 466) rfl (by decide) ?_
  refine g_iadd C dL_law_466 (q := 467) rfl ?_
  refine g_sld C S (k := i + 1) (e1 i) (by omega) dL_law_467 (q := 468) rfl ?_
  refine g_callV C (k := 59) (as := [.int (xs (i + 1))]) (st := [.int p1.1]) (m_X12_least h2) (g_hL (by decide)) (by decide) (by decide) (gc_59 Y _ _) rfl kM_L_56 kI_X12_least kS_X12_least kN_X12 kC_X12_least kD_X12_least rfl (Nat.le_of_ble_eq_true rfl) dL_law_468 (q := 471) rfl ?_
  show g_G 4 X Y 471 [(0, .ref b), (1, g_r Y 0), (2, g_r Y 59), (3, .int (nI i))] [.int p2.1, .int p1.1] p2.2
  refine g_icmp_eq C dL_law_471 (q := 474) (tgt := 1544) rfl (by decide) (fun _ => kk _ h4) (fun c => absurd h3 c)
theorem lw_c10 {l : Launch} {X : g_X} {Y : g_Y} {b L : Nat} {xs : Nat → Int32} (C : g_C l room_1 RL cL_law 4 X Y) (S : g_Sc X b L xs) {i : Nat} (hi : i + 6 ≤ L) {M : g_M} {P : g_M → Prop} (hs : ∃ p1 p2, f_X11_most (xs (i + 1)) M = some p1 ∧ f_X12_most (xs (i + 1)) p1.2 = some p2 ∧ p1.1 = p2.1 ∧ P p2.2) (kk : ∀ M2, P M2 → g_G 4 X Y 1544 [(0, .ref b), (1, g_r Y 0), (2, g_r Y 59), (3, .int (nI i))] [] M2) : g_G 4 X Y 476 [(0, .ref b), (1, g_r Y 0), (2, g_r Y 59), (3, .int (nI i))] [] M := by
  obtain ⟨p1, p2, h1, h2, h3, h4⟩ := hs
  refine g_aload_n C 1 dL_law_476 (q := 477) rfl rfl rfl ?_
  refine g_aload_n C 0 dL_law_477 (q := 478) rfl rfl rfl ?_
  refine g_iload_n C 3 dL_law_478 (q := 479) rfl rfl rfl ?_
  refine g_iconst C (v := 1) dL_law_479 (q := 480) rfl (by decide) ?_
  refine g_iadd C dL_law_480 (q := 481) rfl ?_
  refine g_sld C S (k := i + 1) (e1 i) (by omega) dL_law_481 (q := 482) rfl ?_
  refine g_callV C (k := 0) (as := [.int (xs (i + 1))]) (st := []) (m_X11_most h1) (g_hL (by decide)) (by decide) (by decide) (gc_0 Y _ _) rfl kM_L_57 kI_X11_most kS_X11_most kN_X11 kC_X11_most kD_X11_most rfl (Nat.le_of_ble_eq_true rfl) dL_law_482 (q := 485) rfl ?_
  show g_G 4 X Y 485 [(0, .ref b), (1, g_r Y 0), (2, g_r Y 59), (3, .int (nI i))] [.int p1.1] p1.2
  refine g_aload_n C 2 dL_law_485 (q := 486) rfl rfl rfl ?_
  refine g_aload_n C 0 dL_law_486 (q := 487) rfl rfl rfl ?_
  refine g_iload_n C 3 dL_law_487 (q := 488) rfl rfl rfl ?_
  refine g_iconst C (v := 1) dL_law_488 (q := 489) rfl (by decide) ?_
  refine g_iadd C dL_law_489 (q := 490) rfl ?_
  refine g_sld C S (k := i + 1) (e1 i) (by omega) dL_law_490 (q := 491) rfl ?_
  refine g_callV C (k := 59) (as := [.int (xs (i + 1))]) (st := [.int p1.1]) (m_X12_most h2) (g_hL (by decide)) (by decide) (by decide) (gc_59 Y _ _) rfl kM_L_60 kI_X12_most kS_X12_most kN_X12 kC_X12_most kD_X12_most rfl (Nat.le_of_ble_eq_true rfl) dL_law_491 (q := 494) rfl ?_
  show g_G 4 X Y 494 [(0, .ref b), (1, g_r Y 0), (2, g_r Y 59), (3, .int (nI i))] [.int p2.1, .int p1.1] p2.2
  refine g_icmp_eq C dL_law_494 (q := 497) (tgt := 1544) rfl (by decide) (fun _ => kk _ h4) (fun c => absurd h3 c)
theorem lw_c11 {l : Launch} {X : g_X} {Y : g_Y} {b L : Nat} {xs : Nat → Int32} (C : g_C l room_1 RL cL_law 4 X Y) (S : g_Sc X b L xs) {i : Nat} (hi : i + 6 ≤ L) {M : g_M} {P : g_M → Prop} (hs : ∃ p1 p2, f_X11_lock (xs (i + 1)) (g_b (xs (i + 2))) M = some p1 ∧ f_X12_lock (xs (i + 1)) (g_b (xs (i + 2))) p1.2 = some p2 ∧ p1.1 = p2.1 ∧ P p2.2) (kk : ∀ M2, P M2 → g_G 4 X Y 1544 [(0, .ref b), (1, g_r Y 0), (2, g_r Y 59), (3, .int (nI i))] [] M2) : g_G 4 X Y 499 [(0, .ref b), (1, g_r Y 0), (2, g_r Y 59), (3, .int (nI i))] [] M := by
  obtain ⟨p1, p2, h1, h2, h3, h4⟩ := hs
  refine g_aload_n C 1 dL_law_499 (q := 500) rfl rfl rfl ?_
  refine g_aload_n C 0 dL_law_500 (q := 501) rfl rfl rfl ?_
  refine g_iload_n C 3 dL_law_501 (q := 502) rfl rfl rfl ?_
  refine g_iconst C (v := 1) dL_law_502 (q := 503) rfl (by decide) ?_
  refine g_iadd C dL_law_503 (q := 504) rfl ?_
  refine g_sld C S (k := i + 1) (e1 i) (by omega) dL_law_504 (q := 505) rfl ?_
  refine g_aload_n C 0 dL_law_505 (q := 506) rfl rfl rfl ?_
  refine g_iload_n C 3 dL_law_506 (q := 507) rfl rfl rfl ?_
  refine g_iconst C (v := 2) dL_law_507 (q := 508) rfl (by decide) ?_
  refine g_iadd C dL_law_508 (q := 509) rfl ?_
  refine g_sld C S (k := i + 2) (e2 i) (by omega) dL_law_509 (q := 510) rfl ?_
  refine g_bool C dL_law_510 (p1 := 513) rfl dL_law_513 (p2 := 514) rfl dL_law_514 (p3 := 517) rfl dL_law_517 (q := 518) rfl ?_
  refine g_callV C (k := 0) (as := [.int (xs (i + 1)), .int (g_b (xs (i + 2)))]) (st := []) (m_X11_lock h1) (g_hL (by decide)) (by decide) (by decide) (gc_0 Y _ _) rfl kM_L_61 kI_X11_lock kS_X11_lock kN_X11 kC_X11_lock kD_X11_lock rfl (Nat.le_of_ble_eq_true rfl) dL_law_518 (q := 521) rfl ?_
  show g_G 4 X Y 521 [(0, .ref b), (1, g_r Y 0), (2, g_r Y 59), (3, .int (nI i))] [.int p1.1] p1.2
  refine g_aload_n C 2 dL_law_521 (q := 522) rfl rfl rfl ?_
  refine g_aload_n C 0 dL_law_522 (q := 523) rfl rfl rfl ?_
  refine g_iload_n C 3 dL_law_523 (q := 524) rfl rfl rfl ?_
  refine g_iconst C (v := 1) dL_law_524 (q := 525) rfl (by decide) ?_
  refine g_iadd C dL_law_525 (q := 526) rfl ?_
  refine g_sld C S (k := i + 1) (e1 i) (by omega) dL_law_526 (q := 527) rfl ?_
  refine g_aload_n C 0 dL_law_527 (q := 528) rfl rfl rfl ?_
  refine g_iload_n C 3 dL_law_528 (q := 529) rfl rfl rfl ?_
  refine g_iconst C (v := 2) dL_law_529 (q := 530) rfl (by decide) ?_
  refine g_iadd C dL_law_530 (q := 531) rfl ?_
  refine g_sld C S (k := i + 2) (e2 i) (by omega) dL_law_531 (q := 532) rfl ?_
  refine g_bool C dL_law_532 (p1 := 535) rfl dL_law_535 (p2 := 536) rfl dL_law_536 (p3 := 539) rfl dL_law_539 (q := 540) rfl ?_
  refine g_callV C (k := 59) (as := [.int (xs (i + 1)), .int (g_b (xs (i + 2)))]) (st := [.int p1.1]) (m_X12_lock h2) (g_hL (by decide)) (by decide) (by decide) (gc_59 Y _ _) rfl kM_L_64 kI_X12_lock kS_X12_lock kN_X12 kC_X12_lock kD_X12_lock rfl (Nat.le_of_ble_eq_true rfl) dL_law_540 (q := 543) rfl ?_
  show g_G 4 X Y 543 [(0, .ref b), (1, g_r Y 0), (2, g_r Y 59), (3, .int (nI i))] [.int p2.1, .int p1.1] p2.2
  refine g_icmp_eq C dL_law_543 (q := 546) (tgt := 1544) rfl (by decide) (fun _ => kk _ h4) (fun c => absurd h3 c)
theorem lw_c12 {l : Launch} {X : g_X} {Y : g_Y} {b L : Nat} {xs : Nat → Int32} (C : g_C l room_1 RL cL_law 4 X Y) (S : g_Sc X b L xs) {i : Nat} (hi : i + 6 ≤ L) {M : g_M} {P : g_M → Prop} (hs : ∃ p1 p2, f_X11_chain (xs (i + 1)) (xs (i + 2)) (g_b (xs (i + 3))) M = some p1 ∧ f_X12_chain (xs (i + 1)) (xs (i + 2)) (g_b (xs (i + 3))) p1.2 = some p2 ∧ p1.1 = p2.1 ∧ P p2.2) (kk : ∀ M2, P M2 → g_G 4 X Y 1544 [(0, .ref b), (1, g_r Y 0), (2, g_r Y 59), (3, .int (nI i))] [] M2) : g_G 4 X Y 548 [(0, .ref b), (1, g_r Y 0), (2, g_r Y 59), (3, .int (nI i))] [] M := by
  obtain ⟨p1, p2, h1, h2, h3, h4⟩ := hs
  refine g_aload_n C 1 dL_law_548 (q := 549) rfl rfl rfl ?_
  refine g_aload_n C 0 dL_law_549 (q := 550) rfl rfl rfl ?_
  refine g_iload_n C 3 dL_law_550 (q := 551) rfl rfl rfl ?_
  refine g_iconst C (v := 1) dL_law_551 (q := 552) rfl (by decide) ?_
  refine g_iadd C dL_law_552 (q := 553) rfl ?_
  refine g_sld C S (k := i + 1) (e1 i) (by omega) dL_law_553 (q := 554) rfl ?_
  refine g_aload_n C 0 dL_law_554 (q := 555) rfl rfl rfl ?_
  refine g_iload_n C 3 dL_law_555 (q := 556) rfl rfl rfl ?_
  refine g_iconst C (v := 2) dL_law_556 (q := 557) rfl (by decide) ?_
  refine g_iadd C dL_law_557 (q := 558) rfl ?_
  refine g_sld C S (k := i + 2) (e2 i) (by omega) dL_law_558 (q := 559) rfl ?_
  refine g_aload_n C 0 dL_law_559 (q := 560) rfl rfl rfl ?_
  refine g_iload_n C 3 dL_law_560 (q := 561) rfl rfl rfl ?_
  refine g_iconst C (v := 3) dL_law_561 (q := 562) rfl (by decide) ?_
  refine g_iadd C dL_law_562 (q := 563) rfl ?_
  refine g_sld C S (k := i + 3) (e3 i) (by omega) dL_law_563 (q := 564) rfl ?_
  refine g_bool C dL_law_564 (p1 := 567) rfl dL_law_567 (p2 := 568) rfl dL_law_568 (p3 := 571) rfl dL_law_571 (q := 572) rfl ?_
  refine g_callV C (k := 0) (as := [.int (xs (i + 1)), .int (xs (i + 2)), .int (g_b (xs (i + 3)))]) (st := []) (m_X11_chain h1) (g_hL (by decide)) (by decide) (by decide) (gc_0 Y _ _) rfl kM_L_65 kI_X11_chain kS_X11_chain kN_X11 kC_X11_chain kD_X11_chain rfl (Nat.le_of_ble_eq_true rfl) dL_law_572 (q := 575) rfl ?_
  show g_G 4 X Y 575 [(0, .ref b), (1, g_r Y 0), (2, g_r Y 59), (3, .int (nI i))] [.int p1.1] p1.2
  refine g_aload_n C 2 dL_law_575 (q := 576) rfl rfl rfl ?_
  refine g_aload_n C 0 dL_law_576 (q := 577) rfl rfl rfl ?_
  refine g_iload_n C 3 dL_law_577 (q := 578) rfl rfl rfl ?_
  refine g_iconst C (v := 1) dL_law_578 (q := 579) rfl (by decide) ?_
  refine g_iadd C dL_law_579 (q := 580) rfl ?_
  refine g_sld C S (k := i + 1) (e1 i) (by omega) dL_law_580 (q := 581) rfl ?_
  refine g_aload_n C 0 dL_law_581 (q := 582) rfl rfl rfl ?_
  refine g_iload_n C 3 dL_law_582 (q := 583) rfl rfl rfl ?_
  refine g_iconst C (v := 2) dL_law_583 (q := 584) rfl (by decide) ?_
  refine g_iadd C dL_law_584 (q := 585) rfl ?_
  refine g_sld C S (k := i + 2) (e2 i) (by omega) dL_law_585 (q := 586) rfl ?_
  refine g_aload_n C 0 dL_law_586 (q := 587) rfl rfl rfl ?_
  refine g_iload_n C 3 dL_law_587 (q := 588) rfl rfl rfl ?_
  refine g_iconst C (v := 3) dL_law_588 (q := 589) rfl (by decide) ?_
  refine g_iadd C dL_law_589 (q := 590) rfl ?_
  refine g_sld C S (k := i + 3) (e3 i) (by omega) dL_law_590 (q := 591) rfl ?_
  refine g_bool C dL_law_591 (p1 := 594) rfl dL_law_594 (p2 := 595) rfl dL_law_595 (p3 := 598) rfl dL_law_598 (q := 599) rfl ?_
  refine g_callV C (k := 59) (as := [.int (xs (i + 1)), .int (xs (i + 2)), .int (g_b (xs (i + 3)))]) (st := [.int p1.1]) (m_X12_chain h2) (g_hL (by decide)) (by decide) (by decide) (gc_59 Y _ _) rfl kM_L_69 kI_X12_chain kS_X12_chain kN_X12 kC_X12_chain kD_X12_chain rfl (Nat.le_of_ble_eq_true rfl) dL_law_599 (q := 602) rfl ?_
  show g_G 4 X Y 602 [(0, .ref b), (1, g_r Y 0), (2, g_r Y 59), (3, .int (nI i))] [.int p2.1, .int p1.1] p2.2
  refine g_icmp_eq C dL_law_602 (q := 605) (tgt := 1544) rfl (by decide) (fun _ => kk _ h4) (fun c => absurd h3 c)
theorem lw_c13 {l : Launch} {X : g_X} {Y : g_Y} {b L : Nat} {xs : Nat → Int32} (C : g_C l room_1 RL cL_law 4 X Y) (S : g_Sc X b L xs) {i : Nat} (hi : i + 6 ≤ L) {M : g_M} {P : g_M → Prop} (hs : ∃ p1 p2, f_X11_box (xs (i + 1)) (xs (i + 2)) M = some p1 ∧ f_X12_box (xs (i + 1)) (xs (i + 2)) p1.2 = some p2 ∧ p1.1 = p2.1 ∧ P p2.2) (kk : ∀ M2, P M2 → g_G 4 X Y 1544 [(0, .ref b), (1, g_r Y 0), (2, g_r Y 59), (3, .int (nI i))] [] M2) : g_G 4 X Y 607 [(0, .ref b), (1, g_r Y 0), (2, g_r Y 59), (3, .int (nI i))] [] M := by
  obtain ⟨p1, p2, h1, h2, h3, h4⟩ := hs
  refine g_aload_n C 1 dL_law_607 (q := 608) rfl rfl rfl ?_
  refine g_aload_n C 0 dL_law_608 (q := 609) rfl rfl rfl ?_
  refine g_iload_n C 3 dL_law_609 (q := 610) rfl rfl rfl ?_
  refine g_iconst C (v := 1) dL_law_610 (q := 611) rfl (by decide) ?_
  refine g_iadd C dL_law_611 (q := 612) rfl ?_
  refine g_sld C S (k := i + 1) (e1 i) (by omega) dL_law_612 (q := 613) rfl ?_
  refine g_aload_n C 0 dL_law_613 (q := 614) rfl rfl rfl ?_
  refine g_iload_n C 3 dL_law_614 (q := 615) rfl rfl rfl ?_
  refine g_iconst C (v := 2) dL_law_615 (q := 616) rfl (by decide) ?_
  refine g_iadd C dL_law_616 (q := 617) rfl ?_
  refine g_sld C S (k := i + 2) (e2 i) (by omega) dL_law_617 (q := 618) rfl ?_
  refine g_callV C (k := 0) (as := [.int (xs (i + 1)), .int (xs (i + 2))]) (st := []) (m_X11_box h1) (g_hL (by decide)) (by decide) (by decide) (gc_0 Y _ _) rfl kM_L_70 kI_X11_box kS_X11_box kN_X11 kC_X11_box kD_X11_box rfl (Nat.le_of_ble_eq_true rfl) dL_law_618 (q := 621) rfl ?_
  show g_G 4 X Y 621 [(0, .ref b), (1, g_r Y 0), (2, g_r Y 59), (3, .int (nI i))] [.int p1.1] p1.2
  refine g_aload_n C 2 dL_law_621 (q := 622) rfl rfl rfl ?_
  refine g_aload_n C 0 dL_law_622 (q := 623) rfl rfl rfl ?_
  refine g_iload_n C 3 dL_law_623 (q := 624) rfl rfl rfl ?_
  refine g_iconst C (v := 1) dL_law_624 (q := 625) rfl (by decide) ?_
  refine g_iadd C dL_law_625 (q := 626) rfl ?_
  refine g_sld C S (k := i + 1) (e1 i) (by omega) dL_law_626 (q := 627) rfl ?_
  refine g_aload_n C 0 dL_law_627 (q := 628) rfl rfl rfl ?_
  refine g_iload_n C 3 dL_law_628 (q := 629) rfl rfl rfl ?_
  refine g_iconst C (v := 2) dL_law_629 (q := 630) rfl (by decide) ?_
  refine g_iadd C dL_law_630 (q := 631) rfl ?_
  refine g_sld C S (k := i + 2) (e2 i) (by omega) dL_law_631 (q := 632) rfl ?_
  refine g_callV C (k := 59) (as := [.int (xs (i + 1)), .int (xs (i + 2))]) (st := [.int p1.1]) (m_X12_box h2) (g_hL (by decide)) (by decide) (by decide) (gc_59 Y _ _) rfl kM_L_73 kI_X12_box kS_X12_box kN_X12 kC_X12_box kD_X12_box rfl (Nat.le_of_ble_eq_true rfl) dL_law_632 (q := 635) rfl ?_
  show g_G 4 X Y 635 [(0, .ref b), (1, g_r Y 0), (2, g_r Y 59), (3, .int (nI i))] [.int p2.1, .int p1.1] p2.2
  refine g_icmp_eq C dL_law_635 (q := 638) (tgt := 1544) rfl (by decide) (fun _ => kk _ h4) (fun c => absurd h3 c)
theorem lw_c14 {l : Launch} {X : g_X} {Y : g_Y} {b L : Nat} {xs : Nat → Int32} (C : g_C l room_1 RL cL_law 4 X Y) (S : g_Sc X b L xs) {i : Nat} (hi : i + 6 ≤ L) {M : g_M} {P : g_M → Prop} (hs : ∃ p1 p2, f_X11_hanging (xs (i + 1)) (xs (i + 2)) M = some p1 ∧ f_X12_hanging (xs (i + 1)) (xs (i + 2)) p1.2 = some p2 ∧ p1.1 = p2.1 ∧ P p2.2) (kk : ∀ M2, P M2 → g_G 4 X Y 1544 [(0, .ref b), (1, g_r Y 0), (2, g_r Y 59), (3, .int (nI i))] [] M2) : g_G 4 X Y 640 [(0, .ref b), (1, g_r Y 0), (2, g_r Y 59), (3, .int (nI i))] [] M := by
  obtain ⟨p1, p2, h1, h2, h3, h4⟩ := hs
  refine g_aload_n C 1 dL_law_640 (q := 641) rfl rfl rfl ?_
  refine g_aload_n C 0 dL_law_641 (q := 642) rfl rfl rfl ?_
  refine g_iload_n C 3 dL_law_642 (q := 643) rfl rfl rfl ?_
  refine g_iconst C (v := 1) dL_law_643 (q := 644) rfl (by decide) ?_
  refine g_iadd C dL_law_644 (q := 645) rfl ?_
  refine g_sld C S (k := i + 1) (e1 i) (by omega) dL_law_645 (q := 646) rfl ?_
  refine g_aload_n C 0 dL_law_646 (q := 647) rfl rfl rfl ?_
  refine g_iload_n C 3 dL_law_647 (q := 648) rfl rfl rfl ?_
  refine g_iconst C (v := 2) dL_law_648 (q := 649) rfl (by decide) ?_
  refine g_iadd C dL_law_649 (q := 650) rfl ?_
  refine g_sld C S (k := i + 2) (e2 i) (by omega) dL_law_650 (q := 651) rfl ?_
  refine g_callV C (k := 0) (as := [.int (xs (i + 1)), .int (xs (i + 2))]) (st := []) (m_X11_hanging h1) (g_hL (by decide)) (by decide) (by decide) (gc_0 Y _ _) rfl kM_L_74 kI_X11_hanging kS_X11_hanging kN_X11 kC_X11_hanging kD_X11_hanging rfl (Nat.le_of_ble_eq_true rfl) dL_law_651 (q := 654) rfl ?_
  show g_G 4 X Y 654 [(0, .ref b), (1, g_r Y 0), (2, g_r Y 59), (3, .int (nI i))] [.int p1.1] p1.2
  refine g_aload_n C 2 dL_law_654 (q := 655) rfl rfl rfl ?_
  refine g_aload_n C 0 dL_law_655 (q := 656) rfl rfl rfl ?_
  refine g_iload_n C 3 dL_law_656 (q := 657) rfl rfl rfl ?_
  refine g_iconst C (v := 1) dL_law_657 (q := 658) rfl (by decide) ?_
  refine g_iadd C dL_law_658 (q := 659) rfl ?_
  refine g_sld C S (k := i + 1) (e1 i) (by omega) dL_law_659 (q := 660) rfl ?_
  refine g_aload_n C 0 dL_law_660 (q := 661) rfl rfl rfl ?_
  refine g_iload_n C 3 dL_law_661 (q := 662) rfl rfl rfl ?_
  refine g_iconst C (v := 2) dL_law_662 (q := 663) rfl (by decide) ?_
  refine g_iadd C dL_law_663 (q := 664) rfl ?_
  refine g_sld C S (k := i + 2) (e2 i) (by omega) dL_law_664 (q := 665) rfl ?_
  refine g_callV C (k := 59) (as := [.int (xs (i + 1)), .int (xs (i + 2))]) (st := [.int p1.1]) (m_X12_hanging h2) (g_hL (by decide)) (by decide) (by decide) (gc_59 Y _ _) rfl kM_L_77 kI_X12_hanging kS_X12_hanging kN_X12 kC_X12_hanging kD_X12_hanging rfl (Nat.le_of_ble_eq_true rfl) dL_law_665 (q := 668) rfl ?_
  show g_G 4 X Y 668 [(0, .ref b), (1, g_r Y 0), (2, g_r Y 59), (3, .int (nI i))] [.int p2.1, .int p1.1] p2.2
  refine g_icmp_eq C dL_law_668 (q := 671) (tgt := 1544) rfl (by decide) (fun _ => kk _ h4) (fun c => absurd h3 c)
theorem lw_c15 {l : Launch} {X : g_X} {Y : g_Y} {b L : Nat} {xs : Nat → Int32} (C : g_C l room_1 RL cL_law 4 X Y) (S : g_Sc X b L xs) {i : Nat} (hi : i + 6 ≤ L) {M : g_M} {P : g_M → Prop} (hs : ∃ p1 p2, f_X11_as (xs (i + 1)) (xs (i + 2)) M = some p1 ∧ f_X12_as (xs (i + 1)) (xs (i + 2)) p1.2 = some p2 ∧ p1.1 = p2.1 ∧ P p2.2) (kk : ∀ M2, P M2 → g_G 4 X Y 1544 [(0, .ref b), (1, g_r Y 0), (2, g_r Y 59), (3, .int (nI i))] [] M2) : g_G 4 X Y 673 [(0, .ref b), (1, g_r Y 0), (2, g_r Y 59), (3, .int (nI i))] [] M := by
  obtain ⟨p1, p2, h1, h2, h3, h4⟩ := hs
  refine g_aload_n C 1 dL_law_673 (q := 674) rfl rfl rfl ?_
  refine g_aload_n C 0 dL_law_674 (q := 675) rfl rfl rfl ?_
  refine g_iload_n C 3 dL_law_675 (q := 676) rfl rfl rfl ?_
  refine g_iconst C (v := 1) dL_law_676 (q := 677) rfl (by decide) ?_
  refine g_iadd C dL_law_677 (q := 678) rfl ?_
  refine g_sld C S (k := i + 1) (e1 i) (by omega) dL_law_678 (q := 679) rfl ?_
  refine g_aload_n C 0 dL_law_679 (q := 680) rfl rfl rfl ?_
  refine g_iload_n C 3 dL_law_680 (q := 681) rfl rfl rfl ?_
  refine g_iconst C (v := 2) dL_law_681 (q := 682) rfl (by decide) ?_
  refine g_iadd C dL_law_682 (q := 683) rfl ?_
  refine g_sld C S (k := i + 2) (e2 i) (by omega) dL_law_683 (q := 684) rfl ?_
  refine g_callV C (k := 0) (as := [.int (xs (i + 1)), .int (xs (i + 2))]) (st := []) (m_X11_as h1) (g_hL (by decide)) (by decide) (by decide) (gc_0 Y _ _) rfl kM_L_78 kI_X11_as kS_X11_as kN_X11 kC_X11_as kD_X11_as rfl (Nat.le_of_ble_eq_true rfl) dL_law_684 (q := 687) rfl ?_
  show g_G 4 X Y 687 [(0, .ref b), (1, g_r Y 0), (2, g_r Y 59), (3, .int (nI i))] [.int p1.1] p1.2
  refine g_aload_n C 2 dL_law_687 (q := 688) rfl rfl rfl ?_
  refine g_aload_n C 0 dL_law_688 (q := 689) rfl rfl rfl ?_
  refine g_iload_n C 3 dL_law_689 (q := 690) rfl rfl rfl ?_
  refine g_iconst C (v := 1) dL_law_690 (q := 691) rfl (by decide) ?_
  refine g_iadd C dL_law_691 (q := 692) rfl ?_
  refine g_sld C S (k := i + 1) (e1 i) (by omega) dL_law_692 (q := 693) rfl ?_
  refine g_aload_n C 0 dL_law_693 (q := 694) rfl rfl rfl ?_
  refine g_iload_n C 3 dL_law_694 (q := 695) rfl rfl rfl ?_
  refine g_iconst C (v := 2) dL_law_695 (q := 696) rfl (by decide) ?_
  refine g_iadd C dL_law_696 (q := 697) rfl ?_
  refine g_sld C S (k := i + 2) (e2 i) (by omega) dL_law_697 (q := 698) rfl ?_
  refine g_callV C (k := 59) (as := [.int (xs (i + 1)), .int (xs (i + 2))]) (st := [.int p1.1]) (m_X12_as h2) (g_hL (by decide)) (by decide) (by decide) (gc_59 Y _ _) rfl kM_L_81 kI_X12_as kS_X12_as kN_X12 kC_X12_as kD_X12_as rfl (Nat.le_of_ble_eq_true rfl) dL_law_698 (q := 701) rfl ?_
  show g_G 4 X Y 701 [(0, .ref b), (1, g_r Y 0), (2, g_r Y 59), (3, .int (nI i))] [.int p2.1, .int p1.1] p2.2
  refine g_icmp_eq C dL_law_701 (q := 704) (tgt := 1544) rfl (by decide) (fun _ => kk _ h4) (fun c => absurd h3 c)
theorem lw_c16 {l : Launch} {X : g_X} {Y : g_Y} {b L : Nat} {xs : Nat → Int32} (C : g_C l room_1 RL cL_law 4 X Y) (S : g_Sc X b L xs) {i : Nat} (hi : i + 6 ≤ L) {M : g_M} {P : g_M → Prop} (hs : ∃ p1 p2, f_X11_key (xs (i + 1)) (xs (i + 2)) (g_b (xs (i + 3))) M = some p1 ∧ f_X12_key (xs (i + 1)) (xs (i + 2)) (g_b (xs (i + 3))) p1.2 = some p2 ∧ p1.1 = p2.1 ∧ P p2.2) (kk : ∀ M2, P M2 → g_G 4 X Y 1544 [(0, .ref b), (1, g_r Y 0), (2, g_r Y 59), (3, .int (nI i))] [] M2) : g_G 4 X Y 706 [(0, .ref b), (1, g_r Y 0), (2, g_r Y 59), (3, .int (nI i))] [] M := by
  obtain ⟨p1, p2, h1, h2, h3, h4⟩ := hs
  refine g_aload_n C 1 dL_law_706 (q := 707) rfl rfl rfl ?_
  refine g_aload_n C 0 dL_law_707 (q := 708) rfl rfl rfl ?_
  refine g_iload_n C 3 dL_law_708 (q := 709) rfl rfl rfl ?_
  refine g_iconst C (v := 1) dL_law_709 (q := 710) rfl (by decide) ?_
  refine g_iadd C dL_law_710 (q := 711) rfl ?_
  refine g_sld C S (k := i + 1) (e1 i) (by omega) dL_law_711 (q := 712) rfl ?_
  refine g_aload_n C 0 dL_law_712 (q := 713) rfl rfl rfl ?_
  refine g_iload_n C 3 dL_law_713 (q := 714) rfl rfl rfl ?_
  refine g_iconst C (v := 2) dL_law_714 (q := 715) rfl (by decide) ?_
  refine g_iadd C dL_law_715 (q := 716) rfl ?_
  refine g_sld C S (k := i + 2) (e2 i) (by omega) dL_law_716 (q := 717) rfl ?_
  refine g_aload_n C 0 dL_law_717 (q := 718) rfl rfl rfl ?_
  refine g_iload_n C 3 dL_law_718 (q := 719) rfl rfl rfl ?_
  refine g_iconst C (v := 3) dL_law_719 (q := 720) rfl (by decide) ?_
  refine g_iadd C dL_law_720 (q := 721) rfl ?_
  refine g_sld C S (k := i + 3) (e3 i) (by omega) dL_law_721 (q := 722) rfl ?_
  refine g_bool C dL_law_722 (p1 := 725) rfl dL_law_725 (p2 := 726) rfl dL_law_726 (p3 := 729) rfl dL_law_729 (q := 730) rfl ?_
  refine g_callV C (k := 0) (as := [.int (xs (i + 1)), .int (xs (i + 2)), .int (g_b (xs (i + 3)))]) (st := []) (m_X11_key h1) (g_hL (by decide)) (by decide) (by decide) (gc_0 Y _ _) rfl kM_L_82 kI_X11_key kS_X11_key kN_X11 kC_X11_key kD_X11_key rfl (Nat.le_of_ble_eq_true rfl) dL_law_730 (q := 733) rfl ?_
  show g_G 4 X Y 733 [(0, .ref b), (1, g_r Y 0), (2, g_r Y 59), (3, .int (nI i))] [.int p1.1] p1.2
  refine g_aload_n C 2 dL_law_733 (q := 734) rfl rfl rfl ?_
  refine g_aload_n C 0 dL_law_734 (q := 735) rfl rfl rfl ?_
  refine g_iload_n C 3 dL_law_735 (q := 736) rfl rfl rfl ?_
  refine g_iconst C (v := 1) dL_law_736 (q := 737) rfl (by decide) ?_
  refine g_iadd C dL_law_737 (q := 738) rfl ?_
  refine g_sld C S (k := i + 1) (e1 i) (by omega) dL_law_738 (q := 739) rfl ?_
  refine g_aload_n C 0 dL_law_739 (q := 740) rfl rfl rfl ?_
  refine g_iload_n C 3 dL_law_740 (q := 741) rfl rfl rfl ?_
  refine g_iconst C (v := 2) dL_law_741 (q := 742) rfl (by decide) ?_
  refine g_iadd C dL_law_742 (q := 743) rfl ?_
  refine g_sld C S (k := i + 2) (e2 i) (by omega) dL_law_743 (q := 744) rfl ?_
  refine g_aload_n C 0 dL_law_744 (q := 745) rfl rfl rfl ?_
  refine g_iload_n C 3 dL_law_745 (q := 746) rfl rfl rfl ?_
  refine g_iconst C (v := 3) dL_law_746 (q := 747) rfl (by decide) ?_
  refine g_iadd C dL_law_747 (q := 748) rfl ?_
  refine g_sld C S (k := i + 3) (e3 i) (by omega) dL_law_748 (q := 749) rfl ?_
  refine g_bool C dL_law_749 (p1 := 752) rfl dL_law_752 (p2 := 753) rfl dL_law_753 (p3 := 756) rfl dL_law_756 (q := 757) rfl ?_
  refine g_callV C (k := 59) (as := [.int (xs (i + 1)), .int (xs (i + 2)), .int (g_b (xs (i + 3)))]) (st := [.int p1.1]) (m_X12_key h2) (g_hL (by decide)) (by decide) (by decide) (gc_59 Y _ _) rfl kM_L_85 kI_X12_key kS_X12_key kN_X12 kC_X12_key kD_X12_key rfl (Nat.le_of_ble_eq_true rfl) dL_law_757 (q := 760) rfl ?_
  show g_G 4 X Y 760 [(0, .ref b), (1, g_r Y 0), (2, g_r Y 59), (3, .int (nI i))] [.int p2.1, .int p1.1] p2.2
  refine g_icmp_eq C dL_law_760 (q := 763) (tgt := 1544) rfl (by decide) (fun _ => kk _ h4) (fun c => absurd h3 c)
theorem lw_c17 {l : Launch} {X : g_X} {Y : g_Y} {b L : Nat} {xs : Nat → Int32} (C : g_C l room_1 RL cL_law 4 X Y) (S : g_Sc X b L xs) {i : Nat} (hi : i + 6 ≤ L) {M : g_M} {P : g_M → Prop} (hs : ∃ p1 p2, f_X11_lend (xs (i + 1)) (xs (i + 2)) (xs (i + 3)) M = some p1 ∧ f_X12_lend (xs (i + 1)) (xs (i + 2)) (xs (i + 3)) p1.2 = some p2 ∧ p1.1 = p2.1 ∧ P p2.2) (kk : ∀ M2, P M2 → g_G 4 X Y 1544 [(0, .ref b), (1, g_r Y 0), (2, g_r Y 59), (3, .int (nI i))] [] M2) : g_G 4 X Y 765 [(0, .ref b), (1, g_r Y 0), (2, g_r Y 59), (3, .int (nI i))] [] M := by
  obtain ⟨p1, p2, h1, h2, h3, h4⟩ := hs
  refine g_aload_n C 1 dL_law_765 (q := 766) rfl rfl rfl ?_
  refine g_aload_n C 0 dL_law_766 (q := 767) rfl rfl rfl ?_
  refine g_iload_n C 3 dL_law_767 (q := 768) rfl rfl rfl ?_
  refine g_iconst C (v := 1) dL_law_768 (q := 769) rfl (by decide) ?_
  refine g_iadd C dL_law_769 (q := 770) rfl ?_
  refine g_sld C S (k := i + 1) (e1 i) (by omega) dL_law_770 (q := 771) rfl ?_
  refine g_aload_n C 0 dL_law_771 (q := 772) rfl rfl rfl ?_
  refine g_iload_n C 3 dL_law_772 (q := 773) rfl rfl rfl ?_
  refine g_iconst C (v := 2) dL_law_773 (q := 774) rfl (by decide) ?_
  refine g_iadd C dL_law_774 (q := 775) rfl ?_
  refine g_sld C S (k := i + 2) (e2 i) (by omega) dL_law_775 (q := 776) rfl ?_
  refine g_aload_n C 0 dL_law_776 (q := 777) rfl rfl rfl ?_
  refine g_iload_n C 3 dL_law_777 (q := 778) rfl rfl rfl ?_
  refine g_iconst C (v := 3) dL_law_778 (q := 779) rfl (by decide) ?_
  refine g_iadd C dL_law_779 (q := 780) rfl ?_
  refine g_sld C S (k := i + 3) (e3 i) (by omega) dL_law_780 (q := 781) rfl ?_
  refine g_callV C (k := 0) (as := [.int (xs (i + 1)), .int (xs (i + 2)), .int (xs (i + 3))]) (st := []) (m_X11_lend h1) (g_hL (by decide)) (by decide) (by decide) (gc_0 Y _ _) rfl kM_L_86 kI_X11_lend kS_X11_lend kN_X11 kC_X11_lend kD_X11_lend rfl (Nat.le_of_ble_eq_true rfl) dL_law_781 (q := 784) rfl ?_
  show g_G 4 X Y 784 [(0, .ref b), (1, g_r Y 0), (2, g_r Y 59), (3, .int (nI i))] [.int p1.1] p1.2
  refine g_aload_n C 2 dL_law_784 (q := 785) rfl rfl rfl ?_
  refine g_aload_n C 0 dL_law_785 (q := 786) rfl rfl rfl ?_
  refine g_iload_n C 3 dL_law_786 (q := 787) rfl rfl rfl ?_
  refine g_iconst C (v := 1) dL_law_787 (q := 788) rfl (by decide) ?_
  refine g_iadd C dL_law_788 (q := 789) rfl ?_
  refine g_sld C S (k := i + 1) (e1 i) (by omega) dL_law_789 (q := 790) rfl ?_
  refine g_aload_n C 0 dL_law_790 (q := 791) rfl rfl rfl ?_
  refine g_iload_n C 3 dL_law_791 (q := 792) rfl rfl rfl ?_
  refine g_iconst C (v := 2) dL_law_792 (q := 793) rfl (by decide) ?_
  refine g_iadd C dL_law_793 (q := 794) rfl ?_
  refine g_sld C S (k := i + 2) (e2 i) (by omega) dL_law_794 (q := 795) rfl ?_
  refine g_aload_n C 0 dL_law_795 (q := 796) rfl rfl rfl ?_
  refine g_iload_n C 3 dL_law_796 (q := 797) rfl rfl rfl ?_
  refine g_iconst C (v := 3) dL_law_797 (q := 798) rfl (by decide) ?_
  refine g_iadd C dL_law_798 (q := 799) rfl ?_
  refine g_sld C S (k := i + 3) (e3 i) (by omega) dL_law_799 (q := 800) rfl ?_
  refine g_callV C (k := 59) (as := [.int (xs (i + 1)), .int (xs (i + 2)), .int (xs (i + 3))]) (st := [.int p1.1]) (m_X12_lend h2) (g_hL (by decide)) (by decide) (by decide) (gc_59 Y _ _) rfl kM_L_90 kI_X12_lend kS_X12_lend kN_X12 kC_X12_lend kD_X12_lend rfl (Nat.le_of_ble_eq_true rfl) dL_law_800 (q := 803) rfl ?_
  show g_G 4 X Y 803 [(0, .ref b), (1, g_r Y 0), (2, g_r Y 59), (3, .int (nI i))] [.int p2.1, .int p1.1] p2.2
  refine g_icmp_eq C dL_law_803 (q := 806) (tgt := 1544) rfl (by decide) (fun _ => kk _ h4) (fun c => absurd h3 c)
theorem lw_c18 {l : Launch} {X : g_X} {Y : g_Y} {b L : Nat} {xs : Nat → Int32} (C : g_C l room_1 RL cL_law 4 X Y) (S : g_Sc X b L xs) {i : Nat} (hi : i + 6 ≤ L) {M : g_M} {P : g_M → Prop} (hs : ∃ p1 p2, f_X11_opens (xs (i + 1)) (xs (i + 2)) M = some p1 ∧ f_X12_opens_ (xs (i + 1)) (xs (i + 2)) p1.2 = some p2 ∧ p1.1 = p2.1 ∧ P p2.2) (kk : ∀ M2, P M2 → g_G 4 X Y 1544 [(0, .ref b), (1, g_r Y 0), (2, g_r Y 59), (3, .int (nI i))] [] M2) : g_G 4 X Y 808 [(0, .ref b), (1, g_r Y 0), (2, g_r Y 59), (3, .int (nI i))] [] M := by
  obtain ⟨p1, p2, h1, h2, h3, h4⟩ := hs
  refine g_aload_n C 1 dL_law_808 (q := 809) rfl rfl rfl ?_
  refine g_aload_n C 0 dL_law_809 (q := 810) rfl rfl rfl ?_
  refine g_iload_n C 3 dL_law_810 (q := 811) rfl rfl rfl ?_
  refine g_iconst C (v := 1) dL_law_811 (q := 812) rfl (by decide) ?_
  refine g_iadd C dL_law_812 (q := 813) rfl ?_
  refine g_sld C S (k := i + 1) (e1 i) (by omega) dL_law_813 (q := 814) rfl ?_
  refine g_aload_n C 0 dL_law_814 (q := 815) rfl rfl rfl ?_
  refine g_iload_n C 3 dL_law_815 (q := 816) rfl rfl rfl ?_
  refine g_iconst C (v := 2) dL_law_816 (q := 817) rfl (by decide) ?_
  refine g_iadd C dL_law_817 (q := 818) rfl ?_
  refine g_sld C S (k := i + 2) (e2 i) (by omega) dL_law_818 (q := 819) rfl ?_
  refine g_callV C (k := 0) (as := [.int (xs (i + 1)), .int (xs (i + 2))]) (st := []) (m_X11_opens h1) (g_hL (by decide)) (by decide) (by decide) (gc_0 Y _ _) rfl kM_L_91 kI_X11_opens kS_X11_opens kN_X11 kC_X11_opens kD_X11_opens rfl (Nat.le_of_ble_eq_true rfl) dL_law_819 (q := 822) rfl ?_
  show g_G 4 X Y 822 [(0, .ref b), (1, g_r Y 0), (2, g_r Y 59), (3, .int (nI i))] [.int p1.1] p1.2
  refine g_aload_n C 2 dL_law_822 (q := 823) rfl rfl rfl ?_
  refine g_aload_n C 0 dL_law_823 (q := 824) rfl rfl rfl ?_
  refine g_iload_n C 3 dL_law_824 (q := 825) rfl rfl rfl ?_
  refine g_iconst C (v := 1) dL_law_825 (q := 826) rfl (by decide) ?_
  refine g_iadd C dL_law_826 (q := 827) rfl ?_
  refine g_sld C S (k := i + 1) (e1 i) (by omega) dL_law_827 (q := 828) rfl ?_
  refine g_aload_n C 0 dL_law_828 (q := 829) rfl rfl rfl ?_
  refine g_iload_n C 3 dL_law_829 (q := 830) rfl rfl rfl ?_
  refine g_iconst C (v := 2) dL_law_830 (q := 831) rfl (by decide) ?_
  refine g_iadd C dL_law_831 (q := 832) rfl ?_
  refine g_sld C S (k := i + 2) (e2 i) (by omega) dL_law_832 (q := 833) rfl ?_
  refine g_callV C (k := 59) (as := [.int (xs (i + 1)), .int (xs (i + 2))]) (st := [.int p1.1]) (m_X12_opens_ h2) (g_hL (by decide)) (by decide) (by decide) (gc_59 Y _ _) rfl kM_L_94 kI_X12_opens_ kS_X12_opens_ kN_X12 kC_X12_opens_ kD_X12_opens_ rfl (Nat.le_of_ble_eq_true rfl) dL_law_833 (q := 836) rfl ?_
  show g_G 4 X Y 836 [(0, .ref b), (1, g_r Y 0), (2, g_r Y 59), (3, .int (nI i))] [.int p2.1, .int p1.1] p2.2
  refine g_icmp_eq C dL_law_836 (q := 839) (tgt := 1544) rfl (by decide) (fun _ => kk _ h4) (fun c => absurd h3 c)
theorem lw_c19 {l : Launch} {X : g_X} {Y : g_Y} {b L : Nat} {xs : Nat → Int32} (C : g_C l room_1 RL cL_law 4 X Y) (S : g_Sc X b L xs) {i : Nat} (hi : i + 6 ≤ L) {M : g_M} {P : g_M → Prop} (hs : ∃ p1 p2, f_X11_had (xs (i + 1)) M = some p1 ∧ f_X12_had (xs (i + 1)) p1.2 = some p2 ∧ p1.1 = p2.1 ∧ P p2.2) (kk : ∀ M2, P M2 → g_G 4 X Y 1544 [(0, .ref b), (1, g_r Y 0), (2, g_r Y 59), (3, .int (nI i))] [] M2) : g_G 4 X Y 841 [(0, .ref b), (1, g_r Y 0), (2, g_r Y 59), (3, .int (nI i))] [] M := by
  obtain ⟨p1, p2, h1, h2, h3, h4⟩ := hs
  refine g_aload_n C 1 dL_law_841 (q := 842) rfl rfl rfl ?_
  refine g_aload_n C 0 dL_law_842 (q := 843) rfl rfl rfl ?_
  refine g_iload_n C 3 dL_law_843 (q := 844) rfl rfl rfl ?_
  refine g_iconst C (v := 1) dL_law_844 (q := 845) rfl (by decide) ?_
  refine g_iadd C dL_law_845 (q := 846) rfl ?_
  refine g_sld C S (k := i + 1) (e1 i) (by omega) dL_law_846 (q := 847) rfl ?_
  refine g_callV C (k := 0) (as := [.int (xs (i + 1))]) (st := []) (m_X11_had h1) (g_hL (by decide)) (by decide) (by decide) (gc_0 Y _ _) rfl kM_L_95 kI_X11_had kS_X11_had kN_X11 kC_X11_had kD_X11_had rfl (Nat.le_of_ble_eq_true rfl) dL_law_847 (q := 850) rfl ?_
  show g_G 4 X Y 850 [(0, .ref b), (1, g_r Y 0), (2, g_r Y 59), (3, .int (nI i))] [.int p1.1] p1.2
  refine g_aload_n C 2 dL_law_850 (q := 851) rfl rfl rfl ?_
  refine g_aload_n C 0 dL_law_851 (q := 852) rfl rfl rfl ?_
  refine g_iload_n C 3 dL_law_852 (q := 853) rfl rfl rfl ?_
  refine g_iconst C (v := 1) dL_law_853 (q := 854) rfl (by decide) ?_
  refine g_iadd C dL_law_854 (q := 855) rfl ?_
  refine g_sld C S (k := i + 1) (e1 i) (by omega) dL_law_855 (q := 856) rfl ?_
  refine g_callV C (k := 59) (as := [.int (xs (i + 1))]) (st := [.int p1.1]) (m_X12_had h2) (g_hL (by decide)) (by decide) (by decide) (gc_59 Y _ _) rfl kM_L_98 kI_X12_had kS_X12_had kN_X12 kC_X12_had kD_X12_had rfl (Nat.le_of_ble_eq_true rfl) dL_law_856 (q := 859) rfl ?_
  show g_G 4 X Y 859 [(0, .ref b), (1, g_r Y 0), (2, g_r Y 59), (3, .int (nI i))] [.int p2.1, .int p1.1] p2.2
  refine g_icmp_eq C dL_law_859 (q := 862) (tgt := 1544) rfl (by decide) (fun _ => kk _ h4) (fun c => absurd h3 c)
theorem lw_c20 {l : Launch} {X : g_X} {Y : g_Y} {b L : Nat} {xs : Nat → Int32} (C : g_C l room_1 RL cL_law 4 X Y) (S : g_Sc X b L xs) {i : Nat} (hi : i + 6 ≤ L) {M : g_M} {P : g_M → Prop} (hs : ∃ p1 p2, f_X11_round (xs (i + 1)) (xs (i + 2)) M = some p1 ∧ f_X12_round (xs (i + 1)) (xs (i + 2)) p1.2 = some p2 ∧ p1.1 = p2.1 ∧ P p2.2) (kk : ∀ M2, P M2 → g_G 4 X Y 1544 [(0, .ref b), (1, g_r Y 0), (2, g_r Y 59), (3, .int (nI i))] [] M2) : g_G 4 X Y 864 [(0, .ref b), (1, g_r Y 0), (2, g_r Y 59), (3, .int (nI i))] [] M := by
  obtain ⟨p1, p2, h1, h2, h3, h4⟩ := hs
  refine g_aload_n C 1 dL_law_864 (q := 865) rfl rfl rfl ?_
  refine g_aload_n C 0 dL_law_865 (q := 866) rfl rfl rfl ?_
  refine g_iload_n C 3 dL_law_866 (q := 867) rfl rfl rfl ?_
  refine g_iconst C (v := 1) dL_law_867 (q := 868) rfl (by decide) ?_
  refine g_iadd C dL_law_868 (q := 869) rfl ?_
  refine g_sld C S (k := i + 1) (e1 i) (by omega) dL_law_869 (q := 870) rfl ?_
  refine g_aload_n C 0 dL_law_870 (q := 871) rfl rfl rfl ?_
  refine g_iload_n C 3 dL_law_871 (q := 872) rfl rfl rfl ?_
  refine g_iconst C (v := 2) dL_law_872 (q := 873) rfl (by decide) ?_
  refine g_iadd C dL_law_873 (q := 874) rfl ?_
  refine g_sld C S (k := i + 2) (e2 i) (by omega) dL_law_874 (q := 875) rfl ?_
  refine g_callV C (k := 0) (as := [.int (xs (i + 1)), .int (xs (i + 2))]) (st := []) (m_X11_round h1) (g_hL (by decide)) (by decide) (by decide) (gc_0 Y _ _) rfl kM_L_99 kI_X11_round kS_X11_round kN_X11 kC_X11_round kD_X11_round rfl (Nat.le_of_ble_eq_true rfl) dL_law_875 (q := 878) rfl ?_
  show g_G 4 X Y 878 [(0, .ref b), (1, g_r Y 0), (2, g_r Y 59), (3, .int (nI i))] [.int p1.1] p1.2
  refine g_aload_n C 2 dL_law_878 (q := 879) rfl rfl rfl ?_
  refine g_aload_n C 0 dL_law_879 (q := 880) rfl rfl rfl ?_
  refine g_iload_n C 3 dL_law_880 (q := 881) rfl rfl rfl ?_
  refine g_iconst C (v := 1) dL_law_881 (q := 882) rfl (by decide) ?_
  refine g_iadd C dL_law_882 (q := 883) rfl ?_
  refine g_sld C S (k := i + 1) (e1 i) (by omega) dL_law_883 (q := 884) rfl ?_
  refine g_aload_n C 0 dL_law_884 (q := 885) rfl rfl rfl ?_
  refine g_iload_n C 3 dL_law_885 (q := 886) rfl rfl rfl ?_
  refine g_iconst C (v := 2) dL_law_886 (q := 887) rfl (by decide) ?_
  refine g_iadd C dL_law_887 (q := 888) rfl ?_
  refine g_sld C S (k := i + 2) (e2 i) (by omega) dL_law_888 (q := 889) rfl ?_
  refine g_callV C (k := 59) (as := [.int (xs (i + 1)), .int (xs (i + 2))]) (st := [.int p1.1]) (m_X12_round h2) (g_hL (by decide)) (by decide) (by decide) (gc_59 Y _ _) rfl kM_L_102 kI_X12_round kS_X12_round kN_X12 kC_X12_round kD_X12_round rfl (Nat.le_of_ble_eq_true rfl) dL_law_889 (q := 892) rfl ?_
  show g_G 4 X Y 892 [(0, .ref b), (1, g_r Y 0), (2, g_r Y 59), (3, .int (nI i))] [.int p2.1, .int p1.1] p2.2
  refine g_icmp_eq C dL_law_892 (q := 895) (tgt := 1544) rfl (by decide) (fun _ => kk _ h4) (fun c => absurd h3 c)
theorem lw_c21 {l : Launch} {X : g_X} {Y : g_Y} {b L : Nat} {xs : Nat → Int32} (C : g_C l room_1 RL cL_law 4 X Y) (S : g_Sc X b L xs) {i : Nat} (hi : i + 6 ≤ L) {M : g_M} {P : g_M → Prop} (hs : ∃ p1 p2, f_X11_lets (xs (i + 1)) (xs (i + 2)) M = some p1 ∧ f_X12_lets (xs (i + 1)) (xs (i + 2)) p1.2 = some p2 ∧ p1.1 = p2.1 ∧ P p2.2) (kk : ∀ M2, P M2 → g_G 4 X Y 1544 [(0, .ref b), (1, g_r Y 0), (2, g_r Y 59), (3, .int (nI i))] [] M2) : g_G 4 X Y 897 [(0, .ref b), (1, g_r Y 0), (2, g_r Y 59), (3, .int (nI i))] [] M := by
  obtain ⟨p1, p2, h1, h2, h3, h4⟩ := hs
  refine g_aload_n C 1 dL_law_897 (q := 898) rfl rfl rfl ?_
  refine g_aload_n C 0 dL_law_898 (q := 899) rfl rfl rfl ?_
  refine g_iload_n C 3 dL_law_899 (q := 900) rfl rfl rfl ?_
  refine g_iconst C (v := 1) dL_law_900 (q := 901) rfl (by decide) ?_
  refine g_iadd C dL_law_901 (q := 902) rfl ?_
  refine g_sld C S (k := i + 1) (e1 i) (by omega) dL_law_902 (q := 903) rfl ?_
  refine g_aload_n C 0 dL_law_903 (q := 904) rfl rfl rfl ?_
  refine g_iload_n C 3 dL_law_904 (q := 905) rfl rfl rfl ?_
  refine g_iconst C (v := 2) dL_law_905 (q := 906) rfl (by decide) ?_
  refine g_iadd C dL_law_906 (q := 907) rfl ?_
  refine g_sld C S (k := i + 2) (e2 i) (by omega) dL_law_907 (q := 908) rfl ?_
  refine g_callV C (k := 0) (as := [.int (xs (i + 1)), .int (xs (i + 2))]) (st := []) (m_X11_lets h1) (g_hL (by decide)) (by decide) (by decide) (gc_0 Y _ _) rfl kM_L_103 kI_X11_lets kS_X11_lets kN_X11 kC_X11_lets kD_X11_lets rfl (Nat.le_of_ble_eq_true rfl) dL_law_908 (q := 911) rfl ?_
  show g_G 4 X Y 911 [(0, .ref b), (1, g_r Y 0), (2, g_r Y 59), (3, .int (nI i))] [.int p1.1] p1.2
  refine g_aload_n C 2 dL_law_911 (q := 912) rfl rfl rfl ?_
  refine g_aload_n C 0 dL_law_912 (q := 913) rfl rfl rfl ?_
  refine g_iload_n C 3 dL_law_913 (q := 914) rfl rfl rfl ?_
  refine g_iconst C (v := 1) dL_law_914 (q := 915) rfl (by decide) ?_
  refine g_iadd C dL_law_915 (q := 916) rfl ?_
  refine g_sld C S (k := i + 1) (e1 i) (by omega) dL_law_916 (q := 917) rfl ?_
  refine g_aload_n C 0 dL_law_917 (q := 918) rfl rfl rfl ?_
  refine g_iload_n C 3 dL_law_918 (q := 919) rfl rfl rfl ?_
  refine g_iconst C (v := 2) dL_law_919 (q := 920) rfl (by decide) ?_
  refine g_iadd C dL_law_920 (q := 921) rfl ?_
  refine g_sld C S (k := i + 2) (e2 i) (by omega) dL_law_921 (q := 922) rfl ?_
  refine g_callV C (k := 59) (as := [.int (xs (i + 1)), .int (xs (i + 2))]) (st := [.int p1.1]) (m_X12_lets h2) (g_hL (by decide)) (by decide) (by decide) (gc_59 Y _ _) rfl kM_L_106 kI_X12_lets kS_X12_lets kN_X12 kC_X12_lets kD_X12_lets rfl (Nat.le_of_ble_eq_true rfl) dL_law_922 (q := 925) rfl ?_
  show g_G 4 X Y 925 [(0, .ref b), (1, g_r Y 0), (2, g_r Y 59), (3, .int (nI i))] [.int p2.1, .int p1.1] p2.2
  refine g_icmp_eq C dL_law_925 (q := 928) (tgt := 1544) rfl (by decide) (fun _ => kk _ h4) (fun c => absurd h3 c)
theorem lw_c22 {l : Launch} {X : g_X} {Y : g_Y} {b L : Nat} {xs : Nat → Int32} (C : g_C l room_1 RL cL_law 4 X Y) (S : g_Sc X b L xs) {i : Nat} (hi : i + 6 ≤ L) {M : g_M} {P : g_M → Prop} (hs : ∃ p1 p2, f_X11_shut (xs (i + 1)) (xs (i + 2)) M = some p1 ∧ f_X12_shut (xs (i + 1)) (xs (i + 2)) p1.2 = some p2 ∧ p1.1 = p2.1 ∧ P p2.2) (kk : ∀ M2, P M2 → g_G 4 X Y 1544 [(0, .ref b), (1, g_r Y 0), (2, g_r Y 59), (3, .int (nI i))] [] M2) : g_G 4 X Y 930 [(0, .ref b), (1, g_r Y 0), (2, g_r Y 59), (3, .int (nI i))] [] M := by
  obtain ⟨p1, p2, h1, h2, h3, h4⟩ := hs
  refine g_aload_n C 1 dL_law_930 (q := 931) rfl rfl rfl ?_
  refine g_aload_n C 0 dL_law_931 (q := 932) rfl rfl rfl ?_
  refine g_iload_n C 3 dL_law_932 (q := 933) rfl rfl rfl ?_
  refine g_iconst C (v := 1) dL_law_933 (q := 934) rfl (by decide) ?_
  refine g_iadd C dL_law_934 (q := 935) rfl ?_
  refine g_sld C S (k := i + 1) (e1 i) (by omega) dL_law_935 (q := 936) rfl ?_
  refine g_aload_n C 0 dL_law_936 (q := 937) rfl rfl rfl ?_
  refine g_iload_n C 3 dL_law_937 (q := 938) rfl rfl rfl ?_
  refine g_iconst C (v := 2) dL_law_938 (q := 939) rfl (by decide) ?_
  refine g_iadd C dL_law_939 (q := 940) rfl ?_
  refine g_sld C S (k := i + 2) (e2 i) (by omega) dL_law_940 (q := 941) rfl ?_
  refine g_callV C (k := 0) (as := [.int (xs (i + 1)), .int (xs (i + 2))]) (st := []) (m_X11_shut h1) (g_hL (by decide)) (by decide) (by decide) (gc_0 Y _ _) rfl kM_L_107 kI_X11_shut kS_X11_shut kN_X11 kC_X11_shut kD_X11_shut rfl (Nat.le_of_ble_eq_true rfl) dL_law_941 (q := 944) rfl ?_
  show g_G 4 X Y 944 [(0, .ref b), (1, g_r Y 0), (2, g_r Y 59), (3, .int (nI i))] [.int p1.1] p1.2
  refine g_aload_n C 2 dL_law_944 (q := 945) rfl rfl rfl ?_
  refine g_aload_n C 0 dL_law_945 (q := 946) rfl rfl rfl ?_
  refine g_iload_n C 3 dL_law_946 (q := 947) rfl rfl rfl ?_
  refine g_iconst C (v := 1) dL_law_947 (q := 948) rfl (by decide) ?_
  refine g_iadd C dL_law_948 (q := 949) rfl ?_
  refine g_sld C S (k := i + 1) (e1 i) (by omega) dL_law_949 (q := 950) rfl ?_
  refine g_aload_n C 0 dL_law_950 (q := 951) rfl rfl rfl ?_
  refine g_iload_n C 3 dL_law_951 (q := 952) rfl rfl rfl ?_
  refine g_iconst C (v := 2) dL_law_952 (q := 953) rfl (by decide) ?_
  refine g_iadd C dL_law_953 (q := 954) rfl ?_
  refine g_sld C S (k := i + 2) (e2 i) (by omega) dL_law_954 (q := 955) rfl ?_
  refine g_callV C (k := 59) (as := [.int (xs (i + 1)), .int (xs (i + 2))]) (st := [.int p1.1]) (m_X12_shut h2) (g_hL (by decide)) (by decide) (by decide) (gc_59 Y _ _) rfl kM_L_110 kI_X12_shut kS_X12_shut kN_X12 kC_X12_shut kD_X12_shut rfl (Nat.le_of_ble_eq_true rfl) dL_law_955 (q := 958) rfl ?_
  show g_G 4 X Y 958 [(0, .ref b), (1, g_r Y 0), (2, g_r Y 59), (3, .int (nI i))] [.int p2.1, .int p1.1] p2.2
  refine g_icmp_eq C dL_law_958 (q := 961) (tgt := 1544) rfl (by decide) (fun _ => kk _ h4) (fun c => absurd h3 c)
theorem lw_c23 {l : Launch} {X : g_X} {Y : g_Y} {b L : Nat} {xs : Nat → Int32} (C : g_C l room_1 RL cL_law 4 X Y) (S : g_Sc X b L xs) {i : Nat} (hi : i + 6 ≤ L) {M : g_M} {P : g_M → Prop} (hs : ∃ p1 p2, f_X11_wrongly (xs (i + 1)) M = some p1 ∧ f_X12_wrongly (xs (i + 1)) p1.2 = some p2 ∧ p1.1 = p2.1 ∧ P p2.2) (kk : ∀ M2, P M2 → g_G 4 X Y 1544 [(0, .ref b), (1, g_r Y 0), (2, g_r Y 59), (3, .int (nI i))] [] M2) : g_G 4 X Y 963 [(0, .ref b), (1, g_r Y 0), (2, g_r Y 59), (3, .int (nI i))] [] M := by
  obtain ⟨p1, p2, h1, h2, h3, h4⟩ := hs
  refine g_aload_n C 1 dL_law_963 (q := 964) rfl rfl rfl ?_
  refine g_aload_n C 0 dL_law_964 (q := 965) rfl rfl rfl ?_
  refine g_iload_n C 3 dL_law_965 (q := 966) rfl rfl rfl ?_
  refine g_iconst C (v := 1) dL_law_966 (q := 967) rfl (by decide) ?_
  refine g_iadd C dL_law_967 (q := 968) rfl ?_
  refine g_sld C S (k := i + 1) (e1 i) (by omega) dL_law_968 (q := 969) rfl ?_
  refine g_callV C (k := 0) (as := [.int (xs (i + 1))]) (st := []) (m_X11_wrongly h1) (g_hL (by decide)) (by decide) (by decide) (gc_0 Y _ _) rfl kM_L_111 kI_X11_wrongly kS_X11_wrongly kN_X11 kC_X11_wrongly kD_X11_wrongly rfl (Nat.le_of_ble_eq_true rfl) dL_law_969 (q := 972) rfl ?_
  show g_G 4 X Y 972 [(0, .ref b), (1, g_r Y 0), (2, g_r Y 59), (3, .int (nI i))] [.int p1.1] p1.2
  refine g_aload_n C 2 dL_law_972 (q := 973) rfl rfl rfl ?_
  refine g_aload_n C 0 dL_law_973 (q := 974) rfl rfl rfl ?_
  refine g_iload_n C 3 dL_law_974 (q := 975) rfl rfl rfl ?_
  refine g_iconst C (v := 1) dL_law_975 (q := 976) rfl (by decide) ?_
  refine g_iadd C dL_law_976 (q := 977) rfl ?_
  refine g_sld C S (k := i + 1) (e1 i) (by omega) dL_law_977 (q := 978) rfl ?_
  refine g_callV C (k := 59) (as := [.int (xs (i + 1))]) (st := [.int p1.1]) (m_X12_wrongly h2) (g_hL (by decide)) (by decide) (by decide) (gc_59 Y _ _) rfl kM_L_114 kI_X12_wrongly kS_X12_wrongly kN_X12 kC_X12_wrongly kD_X12_wrongly rfl (Nat.le_of_ble_eq_true rfl) dL_law_978 (q := 981) rfl ?_
  show g_G 4 X Y 981 [(0, .ref b), (1, g_r Y 0), (2, g_r Y 59), (3, .int (nI i))] [.int p2.1, .int p1.1] p2.2
  refine g_icmp_eq C dL_law_981 (q := 984) (tgt := 1544) rfl (by decide) (fun _ => kk _ h4) (fun c => absurd h3 c)
theorem lw_c24 {l : Launch} {X : g_X} {Y : g_Y} {b L : Nat} {xs : Nat → Int32} (C : g_C l room_1 RL cL_law 4 X Y) (S : g_Sc X b L xs) {i : Nat} (hi : i + 6 ≤ L) {M : g_M} {P : g_M → Prop} (hs : ∃ p1 p2, f_X11_lacks (xs (i + 1)) M = some p1 ∧ f_X12_lacks (xs (i + 1)) p1.2 = some p2 ∧ p1.1 = p2.1 ∧ P p2.2) (kk : ∀ M2, P M2 → g_G 4 X Y 1544 [(0, .ref b), (1, g_r Y 0), (2, g_r Y 59), (3, .int (nI i))] [] M2) : g_G 4 X Y 986 [(0, .ref b), (1, g_r Y 0), (2, g_r Y 59), (3, .int (nI i))] [] M := by
  obtain ⟨p1, p2, h1, h2, h3, h4⟩ := hs
  refine g_aload_n C 1 dL_law_986 (q := 987) rfl rfl rfl ?_
  refine g_aload_n C 0 dL_law_987 (q := 988) rfl rfl rfl ?_
  refine g_iload_n C 3 dL_law_988 (q := 989) rfl rfl rfl ?_
  refine g_iconst C (v := 1) dL_law_989 (q := 990) rfl (by decide) ?_
  refine g_iadd C dL_law_990 (q := 991) rfl ?_
  refine g_sld C S (k := i + 1) (e1 i) (by omega) dL_law_991 (q := 992) rfl ?_
  refine g_callV C (k := 0) (as := [.int (xs (i + 1))]) (st := []) (m_X11_lacks h1) (g_hL (by decide)) (by decide) (by decide) (gc_0 Y _ _) rfl kM_L_115 kI_X11_lacks kS_X11_lacks kN_X11 kC_X11_lacks kD_X11_lacks rfl (Nat.le_of_ble_eq_true rfl) dL_law_992 (q := 995) rfl ?_
  show g_G 4 X Y 995 [(0, .ref b), (1, g_r Y 0), (2, g_r Y 59), (3, .int (nI i))] [.int p1.1] p1.2
  refine g_aload_n C 2 dL_law_995 (q := 996) rfl rfl rfl ?_
  refine g_aload_n C 0 dL_law_996 (q := 997) rfl rfl rfl ?_
  refine g_iload_n C 3 dL_law_997 (q := 998) rfl rfl rfl ?_
  refine g_iconst C (v := 1) dL_law_998 (q := 999) rfl (by decide) ?_
  refine g_iadd C dL_law_999 (q := 1000) rfl ?_
  refine g_sld C S (k := i + 1) (e1 i) (by omega) dL_law_1000 (q := 1001) rfl ?_
  refine g_callV C (k := 59) (as := [.int (xs (i + 1))]) (st := [.int p1.1]) (m_X12_lacks h2) (g_hL (by decide)) (by decide) (by decide) (gc_59 Y _ _) rfl kM_L_118 kI_X12_lacks kS_X12_lacks kN_X12 kC_X12_lacks kD_X12_lacks rfl (Nat.le_of_ble_eq_true rfl) dL_law_1001 (q := 1004) rfl ?_
  show g_G 4 X Y 1004 [(0, .ref b), (1, g_r Y 0), (2, g_r Y 59), (3, .int (nI i))] [.int p2.1, .int p1.1] p2.2
  refine g_icmp_eq C dL_law_1004 (q := 1007) (tgt := 1544) rfl (by decide) (fun _ => kk _ h4) (fun c => absurd h3 c)
theorem lw_c25 {l : Launch} {X : g_X} {Y : g_Y} {b L : Nat} {xs : Nat → Int32} (C : g_C l room_1 RL cL_law 4 X Y) (S : g_Sc X b L xs) {i : Nat} (hi : i + 6 ≤ L) {M : g_M} {P : g_M → Prop} (hs : ∃ p1 p2, f_X11_same (xs (i + 1)) (xs (i + 2)) M = some p1 ∧ f_X12_same (xs (i + 1)) (xs (i + 2)) p1.2 = some p2 ∧ p1.1 = p2.1 ∧ P p2.2) (kk : ∀ M2, P M2 → g_G 4 X Y 1544 [(0, .ref b), (1, g_r Y 0), (2, g_r Y 59), (3, .int (nI i))] [] M2) : g_G 4 X Y 1009 [(0, .ref b), (1, g_r Y 0), (2, g_r Y 59), (3, .int (nI i))] [] M := by
  obtain ⟨p1, p2, h1, h2, h3, h4⟩ := hs
  refine g_aload_n C 1 dL_law_1009 (q := 1010) rfl rfl rfl ?_
  refine g_aload_n C 0 dL_law_1010 (q := 1011) rfl rfl rfl ?_
  refine g_iload_n C 3 dL_law_1011 (q := 1012) rfl rfl rfl ?_
  refine g_iconst C (v := 1) dL_law_1012 (q := 1013) rfl (by decide) ?_
  refine g_iadd C dL_law_1013 (q := 1014) rfl ?_
  refine g_sld C S (k := i + 1) (e1 i) (by omega) dL_law_1014 (q := 1015) rfl ?_
  refine g_aload_n C 0 dL_law_1015 (q := 1016) rfl rfl rfl ?_
  refine g_iload_n C 3 dL_law_1016 (q := 1017) rfl rfl rfl ?_
  refine g_iconst C (v := 2) dL_law_1017 (q := 1018) rfl (by decide) ?_
  refine g_iadd C dL_law_1018 (q := 1019) rfl ?_
  refine g_sld C S (k := i + 2) (e2 i) (by omega) dL_law_1019 (q := 1020) rfl ?_
  refine g_callV C (k := 0) (as := [.int (xs (i + 1)), .int (xs (i + 2))]) (st := []) (m_X11_same h1) (g_hL (by decide)) (by decide) (by decide) (gc_0 Y _ _) rfl kM_L_119 kI_X11_same kS_X11_same kN_X11 kC_X11_same kD_X11_same rfl (Nat.le_of_ble_eq_true rfl) dL_law_1020 (q := 1023) rfl ?_
  show g_G 4 X Y 1023 [(0, .ref b), (1, g_r Y 0), (2, g_r Y 59), (3, .int (nI i))] [.int p1.1] p1.2
  refine g_aload_n C 2 dL_law_1023 (q := 1024) rfl rfl rfl ?_
  refine g_aload_n C 0 dL_law_1024 (q := 1025) rfl rfl rfl ?_
  refine g_iload_n C 3 dL_law_1025 (q := 1026) rfl rfl rfl ?_
  refine g_iconst C (v := 1) dL_law_1026 (q := 1027) rfl (by decide) ?_
  refine g_iadd C dL_law_1027 (q := 1028) rfl ?_
  refine g_sld C S (k := i + 1) (e1 i) (by omega) dL_law_1028 (q := 1029) rfl ?_
  refine g_aload_n C 0 dL_law_1029 (q := 1030) rfl rfl rfl ?_
  refine g_iload_n C 3 dL_law_1030 (q := 1031) rfl rfl rfl ?_
  refine g_iconst C (v := 2) dL_law_1031 (q := 1032) rfl (by decide) ?_
  refine g_iadd C dL_law_1032 (q := 1033) rfl ?_
  refine g_sld C S (k := i + 2) (e2 i) (by omega) dL_law_1033 (q := 1034) rfl ?_
  refine g_callV C (k := 59) (as := [.int (xs (i + 1)), .int (xs (i + 2))]) (st := [.int p1.1]) (m_X12_same h2) (g_hL (by decide)) (by decide) (by decide) (gc_59 Y _ _) rfl kM_L_122 kI_X12_same kS_X12_same kN_X12 kC_X12_same kD_X12_same rfl (Nat.le_of_ble_eq_true rfl) dL_law_1034 (q := 1037) rfl ?_
  show g_G 4 X Y 1037 [(0, .ref b), (1, g_r Y 0), (2, g_r Y 59), (3, .int (nI i))] [.int p2.1, .int p1.1] p2.2
  refine g_icmp_eq C dL_law_1037 (q := 1040) (tgt := 1544) rfl (by decide) (fun _ => kk _ h4) (fun c => absurd h3 c)
theorem lw_c26 {l : Launch} {X : g_X} {Y : g_Y} {b L : Nat} {xs : Nat → Int32} (C : g_C l room_1 RL cL_law 4 X Y) (S : g_Sc X b L xs) {i : Nat} (hi : i + 6 ≤ L) {M : g_M} {P : g_M → Prop} (hs : ∃ p1 p2, f_X11_bears (xs (i + 1)) (xs (i + 2)) M = some p1 ∧ f_X12_bears (xs (i + 1)) (xs (i + 2)) p1.2 = some p2 ∧ p1.1 = p2.1 ∧ P p2.2) (kk : ∀ M2, P M2 → g_G 4 X Y 1544 [(0, .ref b), (1, g_r Y 0), (2, g_r Y 59), (3, .int (nI i))] [] M2) : g_G 4 X Y 1042 [(0, .ref b), (1, g_r Y 0), (2, g_r Y 59), (3, .int (nI i))] [] M := by
  obtain ⟨p1, p2, h1, h2, h3, h4⟩ := hs
  refine g_aload_n C 1 dL_law_1042 (q := 1043) rfl rfl rfl ?_
  refine g_aload_n C 0 dL_law_1043 (q := 1044) rfl rfl rfl ?_
  refine g_iload_n C 3 dL_law_1044 (q := 1045) rfl rfl rfl ?_
  refine g_iconst C (v := 1) dL_law_1045 (q := 1046) rfl (by decide) ?_
  refine g_iadd C dL_law_1046 (q := 1047) rfl ?_
  refine g_sld C S (k := i + 1) (e1 i) (by omega) dL_law_1047 (q := 1048) rfl ?_
  refine g_aload_n C 0 dL_law_1048 (q := 1049) rfl rfl rfl ?_
  refine g_iload_n C 3 dL_law_1049 (q := 1050) rfl rfl rfl ?_
  refine g_iconst C (v := 2) dL_law_1050 (q := 1051) rfl (by decide) ?_
  refine g_iadd C dL_law_1051 (q := 1052) rfl ?_
  refine g_sld C S (k := i + 2) (e2 i) (by omega) dL_law_1052 (q := 1053) rfl ?_
  refine g_callV C (k := 0) (as := [.int (xs (i + 1)), .int (xs (i + 2))]) (st := []) (m_X11_bears h1) (g_hL (by decide)) (by decide) (by decide) (gc_0 Y _ _) rfl kM_L_123 kI_X11_bears kS_X11_bears kN_X11 kC_X11_bears kD_X11_bears rfl (Nat.le_of_ble_eq_true rfl) dL_law_1053 (q := 1056) rfl ?_
  show g_G 4 X Y 1056 [(0, .ref b), (1, g_r Y 0), (2, g_r Y 59), (3, .int (nI i))] [.int p1.1] p1.2
  refine g_aload_n C 2 dL_law_1056 (q := 1057) rfl rfl rfl ?_
  refine g_aload_n C 0 dL_law_1057 (q := 1058) rfl rfl rfl ?_
  refine g_iload_n C 3 dL_law_1058 (q := 1059) rfl rfl rfl ?_
  refine g_iconst C (v := 1) dL_law_1059 (q := 1060) rfl (by decide) ?_
  refine g_iadd C dL_law_1060 (q := 1061) rfl ?_
  refine g_sld C S (k := i + 1) (e1 i) (by omega) dL_law_1061 (q := 1062) rfl ?_
  refine g_aload_n C 0 dL_law_1062 (q := 1063) rfl rfl rfl ?_
  refine g_iload_n C 3 dL_law_1063 (q := 1064) rfl rfl rfl ?_
  refine g_iconst C (v := 2) dL_law_1064 (q := 1065) rfl (by decide) ?_
  refine g_iadd C dL_law_1065 (q := 1066) rfl ?_
  refine g_sld C S (k := i + 2) (e2 i) (by omega) dL_law_1066 (q := 1067) rfl ?_
  refine g_callV C (k := 59) (as := [.int (xs (i + 1)), .int (xs (i + 2))]) (st := [.int p1.1]) (m_X12_bears h2) (g_hL (by decide)) (by decide) (by decide) (gc_59 Y _ _) rfl kM_L_126 kI_X12_bears kS_X12_bears kN_X12 kC_X12_bears kD_X12_bears rfl (Nat.le_of_ble_eq_true rfl) dL_law_1067 (q := 1070) rfl ?_
  show g_G 4 X Y 1070 [(0, .ref b), (1, g_r Y 0), (2, g_r Y 59), (3, .int (nI i))] [.int p2.1, .int p1.1] p2.2
  refine g_icmp_eq C dL_law_1070 (q := 1073) (tgt := 1544) rfl (by decide) (fun _ => kk _ h4) (fun c => absurd h3 c)
theorem lw_c27 {l : Launch} {X : g_X} {Y : g_Y} {b L : Nat} {xs : Nat → Int32} (C : g_C l room_1 RL cL_law 4 X Y) (S : g_Sc X b L xs) {i : Nat} (hi : i + 6 ≤ L) {M : g_M} {P : g_M → Prop} (hs : ∃ p1 p2, f_X11_need (xs (i + 1)) (xs (i + 2)) M = some p1 ∧ f_X12_need_ (xs (i + 1)) (xs (i + 2)) p1.2 = some p2 ∧ p1.1 = p2.1 ∧ P p2.2) (kk : ∀ M2, P M2 → g_G 4 X Y 1544 [(0, .ref b), (1, g_r Y 0), (2, g_r Y 59), (3, .int (nI i))] [] M2) : g_G 4 X Y 1075 [(0, .ref b), (1, g_r Y 0), (2, g_r Y 59), (3, .int (nI i))] [] M := by
  obtain ⟨p1, p2, h1, h2, h3, h4⟩ := hs
  refine g_aload_n C 1 dL_law_1075 (q := 1076) rfl rfl rfl ?_
  refine g_aload_n C 0 dL_law_1076 (q := 1077) rfl rfl rfl ?_
  refine g_iload_n C 3 dL_law_1077 (q := 1078) rfl rfl rfl ?_
  refine g_iconst C (v := 1) dL_law_1078 (q := 1079) rfl (by decide) ?_
  refine g_iadd C dL_law_1079 (q := 1080) rfl ?_
  refine g_sld C S (k := i + 1) (e1 i) (by omega) dL_law_1080 (q := 1081) rfl ?_
  refine g_aload_n C 0 dL_law_1081 (q := 1082) rfl rfl rfl ?_
  refine g_iload_n C 3 dL_law_1082 (q := 1083) rfl rfl rfl ?_
  refine g_iconst C (v := 2) dL_law_1083 (q := 1084) rfl (by decide) ?_
  refine g_iadd C dL_law_1084 (q := 1085) rfl ?_
  refine g_sld C S (k := i + 2) (e2 i) (by omega) dL_law_1085 (q := 1086) rfl ?_
  refine g_callV C (k := 0) (as := [.int (xs (i + 1)), .int (xs (i + 2))]) (st := []) (m_X11_need h1) (g_hL (by decide)) (by decide) (by decide) (gc_0 Y _ _) rfl kM_L_127 kI_X11_need kS_X11_need kN_X11 kC_X11_need kD_X11_need rfl (Nat.le_of_ble_eq_true rfl) dL_law_1086 (q := 1089) rfl ?_
  show g_G 4 X Y 1089 [(0, .ref b), (1, g_r Y 0), (2, g_r Y 59), (3, .int (nI i))] [.int p1.1] p1.2
  refine g_aload_n C 2 dL_law_1089 (q := 1090) rfl rfl rfl ?_
  refine g_aload_n C 0 dL_law_1090 (q := 1091) rfl rfl rfl ?_
  refine g_iload_n C 3 dL_law_1091 (q := 1092) rfl rfl rfl ?_
  refine g_iconst C (v := 1) dL_law_1092 (q := 1093) rfl (by decide) ?_
  refine g_iadd C dL_law_1093 (q := 1094) rfl ?_
  refine g_sld C S (k := i + 1) (e1 i) (by omega) dL_law_1094 (q := 1095) rfl ?_
  refine g_aload_n C 0 dL_law_1095 (q := 1096) rfl rfl rfl ?_
  refine g_iload_n C 3 dL_law_1096 (q := 1097) rfl rfl rfl ?_
  refine g_iconst C (v := 2) dL_law_1097 (q := 1098) rfl (by decide) ?_
  refine g_iadd C dL_law_1098 (q := 1099) rfl ?_
  refine g_sld C S (k := i + 2) (e2 i) (by omega) dL_law_1099 (q := 1100) rfl ?_
  refine g_callV C (k := 59) (as := [.int (xs (i + 1)), .int (xs (i + 2))]) (st := [.int p1.1]) (m_X12_need_ h2) (g_hL (by decide)) (by decide) (by decide) (gc_59 Y _ _) rfl kM_L_130 kI_X12_need_ kS_X12_need_ kN_X12 kC_X12_need_ kD_X12_need_ rfl (Nat.le_of_ble_eq_true rfl) dL_law_1100 (q := 1103) rfl ?_
  show g_G 4 X Y 1103 [(0, .ref b), (1, g_r Y 0), (2, g_r Y 59), (3, .int (nI i))] [.int p2.1, .int p1.1] p2.2
  refine g_icmp_eq C dL_law_1103 (q := 1106) (tgt := 1544) rfl (by decide) (fun _ => kk _ h4) (fun c => absurd h3 c)
theorem lw_c28 {l : Launch} {X : g_X} {Y : g_Y} {b L : Nat} {xs : Nat → Int32} (C : g_C l room_1 RL cL_law 4 X Y) (S : g_Sc X b L xs) {i : Nat} (hi : i + 6 ≤ L) {M : g_M} {P : g_M → Prop} (hs : ∃ p1 p2, f_X11_could (xs (i + 1)) M = some p1 ∧ f_X12_could (xs (i + 1)) p1.2 = some p2 ∧ p1.1 = p2.1 ∧ P p2.2) (kk : ∀ M2, P M2 → g_G 4 X Y 1544 [(0, .ref b), (1, g_r Y 0), (2, g_r Y 59), (3, .int (nI i))] [] M2) : g_G 4 X Y 1108 [(0, .ref b), (1, g_r Y 0), (2, g_r Y 59), (3, .int (nI i))] [] M := by
  obtain ⟨p1, p2, h1, h2, h3, h4⟩ := hs
  refine g_aload_n C 1 dL_law_1108 (q := 1109) rfl rfl rfl ?_
  refine g_aload_n C 0 dL_law_1109 (q := 1110) rfl rfl rfl ?_
  refine g_iload_n C 3 dL_law_1110 (q := 1111) rfl rfl rfl ?_
  refine g_iconst C (v := 1) dL_law_1111 (q := 1112) rfl (by decide) ?_
  refine g_iadd C dL_law_1112 (q := 1113) rfl ?_
  refine g_sld C S (k := i + 1) (e1 i) (by omega) dL_law_1113 (q := 1114) rfl ?_
  refine g_callV C (k := 0) (as := [.int (xs (i + 1))]) (st := []) (m_X11_could h1) (g_hL (by decide)) (by decide) (by decide) (gc_0 Y _ _) rfl kM_L_131 kI_X11_could kS_X11_could kN_X11 kC_X11_could kD_X11_could rfl (Nat.le_of_ble_eq_true rfl) dL_law_1114 (q := 1117) rfl ?_
  show g_G 4 X Y 1117 [(0, .ref b), (1, g_r Y 0), (2, g_r Y 59), (3, .int (nI i))] [.int p1.1] p1.2
  refine g_aload_n C 2 dL_law_1117 (q := 1118) rfl rfl rfl ?_
  refine g_aload_n C 0 dL_law_1118 (q := 1119) rfl rfl rfl ?_
  refine g_iload_n C 3 dL_law_1119 (q := 1120) rfl rfl rfl ?_
  refine g_iconst C (v := 1) dL_law_1120 (q := 1121) rfl (by decide) ?_
  refine g_iadd C dL_law_1121 (q := 1122) rfl ?_
  refine g_sld C S (k := i + 1) (e1 i) (by omega) dL_law_1122 (q := 1123) rfl ?_
  refine g_callV C (k := 59) (as := [.int (xs (i + 1))]) (st := [.int p1.1]) (m_X12_could h2) (g_hL (by decide)) (by decide) (by decide) (gc_59 Y _ _) rfl kM_L_134 kI_X12_could kS_X12_could kN_X12 kC_X12_could kD_X12_could rfl (Nat.le_of_ble_eq_true rfl) dL_law_1123 (q := 1126) rfl ?_
  show g_G 4 X Y 1126 [(0, .ref b), (1, g_r Y 0), (2, g_r Y 59), (3, .int (nI i))] [.int p2.1, .int p1.1] p2.2
  refine g_icmp_eq C dL_law_1126 (q := 1129) (tgt := 1544) rfl (by decide) (fun _ => kk _ h4) (fun c => absurd h3 c)
theorem lw_c29 {l : Launch} {X : g_X} {Y : g_Y} {b L : Nat} {xs : Nat → Int32} (C : g_C l room_1 RL cL_law 4 X Y) (S : g_Sc X b L xs) {i : Nat} (hi : i + 6 ≤ L) {M : g_M} {P : g_M → Prop} (hs : ∃ p1 p2, f_X11_build M = some p1 ∧ f_X12_build p1.2 = some p2 ∧ p1.1 = p2.1 ∧ P p2.2) (kk : ∀ M2, P M2 → g_G 4 X Y 1544 [(0, .ref b), (1, g_r Y 0), (2, g_r Y 59), (3, .int (nI i))] [] M2) : g_G 4 X Y 1131 [(0, .ref b), (1, g_r Y 0), (2, g_r Y 59), (3, .int (nI i))] [] M := by
  obtain ⟨p1, p2, h1, h2, h3, h4⟩ := hs
  refine g_aload_n C 1 dL_law_1131 (q := 1132) rfl rfl rfl ?_
  refine g_callV C (k := 0) (as := []) (st := []) (m_X11_build h1) (g_hL (by decide)) (by decide) (by decide) (gc_0 Y _ _) rfl kM_L_135 kI_X11_build kS_X11_build kN_X11 kC_X11_build kD_X11_build rfl (Nat.le_of_ble_eq_true rfl) dL_law_1132 (q := 1135) rfl ?_
  show g_G 4 X Y 1135 [(0, .ref b), (1, g_r Y 0), (2, g_r Y 59), (3, .int (nI i))] [.int p1.1] p1.2
  refine g_aload_n C 2 dL_law_1135 (q := 1136) rfl rfl rfl ?_
  refine g_callV C (k := 59) (as := []) (st := [.int p1.1]) (m_X12_build h2) (g_hL (by decide)) (by decide) (by decide) (gc_59 Y _ _) rfl kM_L_138 kI_X12_build kS_X12_build kN_X12 kC_X12_build kD_X12_build rfl (Nat.le_of_ble_eq_true rfl) dL_law_1136 (q := 1139) rfl ?_
  show g_G 4 X Y 1139 [(0, .ref b), (1, g_r Y 0), (2, g_r Y 59), (3, .int (nI i))] [.int p2.1, .int p1.1] p2.2
  refine g_icmp_eq C dL_law_1139 (q := 1142) (tgt := 1544) rfl (by decide) (fun _ => kk _ h4) (fun c => absurd h3 c)
theorem lw_c30 {l : Launch} {X : g_X} {Y : g_Y} {b L : Nat} {xs : Nat → Int32} (C : g_C l room_1 RL cL_law 4 X Y) (S : g_Sc X b L xs) {i : Nat} (hi : i + 6 ≤ L) {M : g_M} {P : g_M → Prop} (hs : ∃ p1 p2, f_X11_fewest M = some p1 ∧ f_X12_fewest p1.2 = some p2 ∧ p1.1 = p2.1 ∧ P p2.2) (kk : ∀ M2, P M2 → g_G 4 X Y 1544 [(0, .ref b), (1, g_r Y 0), (2, g_r Y 59), (3, .int (nI i))] [] M2) : g_G 4 X Y 1144 [(0, .ref b), (1, g_r Y 0), (2, g_r Y 59), (3, .int (nI i))] [] M := by
  obtain ⟨p1, p2, h1, h2, h3, h4⟩ := hs
  refine g_aload_n C 1 dL_law_1144 (q := 1145) rfl rfl rfl ?_
  refine g_callV C (k := 0) (as := []) (st := []) (m_X11_fewest h1) (g_hL (by decide)) (by decide) (by decide) (gc_0 Y _ _) rfl kM_L_139 kI_X11_fewest kS_X11_fewest kN_X11 kC_X11_fewest kD_X11_fewest rfl (Nat.le_of_ble_eq_true rfl) dL_law_1145 (q := 1148) rfl ?_
  show g_G 4 X Y 1148 [(0, .ref b), (1, g_r Y 0), (2, g_r Y 59), (3, .int (nI i))] [.int p1.1] p1.2
  refine g_aload_n C 2 dL_law_1148 (q := 1149) rfl rfl rfl ?_
  refine g_callV C (k := 59) (as := []) (st := [.int p1.1]) (m_X12_fewest h2) (g_hL (by decide)) (by decide) (by decide) (gc_59 Y _ _) rfl kM_L_142 kI_X12_fewest kS_X12_fewest kN_X12 kC_X12_fewest kD_X12_fewest rfl (Nat.le_of_ble_eq_true rfl) dL_law_1149 (q := 1152) rfl ?_
  show g_G 4 X Y 1152 [(0, .ref b), (1, g_r Y 0), (2, g_r Y 59), (3, .int (nI i))] [.int p2.1, .int p1.1] p2.2
  refine g_icmp_eq C dL_law_1152 (q := 1155) (tgt := 1544) rfl (by decide) (fun _ => kk _ h4) (fun c => absurd h3 c)
theorem lw_c31 {l : Launch} {X : g_X} {Y : g_Y} {b L : Nat} {xs : Nat → Int32} (C : g_C l room_1 RL cL_law 4 X Y) (S : g_Sc X b L xs) {i : Nat} (hi : i + 6 ≤ L) {M : g_M} {P : g_M → Prop} (hs : ∃ p1 p2, f_X11_spare (xs (i + 1)) (xs (i + 2)) (xs (i + 3)) M = some p1 ∧ f_X12_spare (xs (i + 1)) (xs (i + 2)) (xs (i + 3)) p1.2 = some p2 ∧ p1.1 = p2.1 ∧ P p2.2) (kk : ∀ M2, P M2 → g_G 4 X Y 1544 [(0, .ref b), (1, g_r Y 0), (2, g_r Y 59), (3, .int (nI i))] [] M2) : g_G 4 X Y 1157 [(0, .ref b), (1, g_r Y 0), (2, g_r Y 59), (3, .int (nI i))] [] M := by
  obtain ⟨p1, p2, h1, h2, h3, h4⟩ := hs
  refine g_aload_n C 1 dL_law_1157 (q := 1158) rfl rfl rfl ?_
  refine g_aload_n C 0 dL_law_1158 (q := 1159) rfl rfl rfl ?_
  refine g_iload_n C 3 dL_law_1159 (q := 1160) rfl rfl rfl ?_
  refine g_iconst C (v := 1) dL_law_1160 (q := 1161) rfl (by decide) ?_
  refine g_iadd C dL_law_1161 (q := 1162) rfl ?_
  refine g_sld C S (k := i + 1) (e1 i) (by omega) dL_law_1162 (q := 1163) rfl ?_
  refine g_aload_n C 0 dL_law_1163 (q := 1164) rfl rfl rfl ?_
  refine g_iload_n C 3 dL_law_1164 (q := 1165) rfl rfl rfl ?_
  refine g_iconst C (v := 2) dL_law_1165 (q := 1166) rfl (by decide) ?_
  refine g_iadd C dL_law_1166 (q := 1167) rfl ?_
  refine g_sld C S (k := i + 2) (e2 i) (by omega) dL_law_1167 (q := 1168) rfl ?_
  refine g_aload_n C 0 dL_law_1168 (q := 1169) rfl rfl rfl ?_
  refine g_iload_n C 3 dL_law_1169 (q := 1170) rfl rfl rfl ?_
  refine g_iconst C (v := 3) dL_law_1170 (q := 1171) rfl (by decide) ?_
  refine g_iadd C dL_law_1171 (q := 1172) rfl ?_
  refine g_sld C S (k := i + 3) (e3 i) (by omega) dL_law_1172 (q := 1173) rfl ?_
  refine g_callV C (k := 0) (as := [.int (xs (i + 1)), .int (xs (i + 2)), .int (xs (i + 3))]) (st := []) (m_X11_spare h1) (g_hL (by decide)) (by decide) (by decide) (gc_0 Y _ _) rfl kM_L_143 kI_X11_spare kS_X11_spare kN_X11 kC_X11_spare kD_X11_spare rfl (Nat.le_of_ble_eq_true rfl) dL_law_1173 (q := 1176) rfl ?_
  show g_G 4 X Y 1176 [(0, .ref b), (1, g_r Y 0), (2, g_r Y 59), (3, .int (nI i))] [.int p1.1] p1.2
  refine g_aload_n C 2 dL_law_1176 (q := 1177) rfl rfl rfl ?_
  refine g_aload_n C 0 dL_law_1177 (q := 1178) rfl rfl rfl ?_
  refine g_iload_n C 3 dL_law_1178 (q := 1179) rfl rfl rfl ?_
  refine g_iconst C (v := 1) dL_law_1179 (q := 1180) rfl (by decide) ?_
  refine g_iadd C dL_law_1180 (q := 1181) rfl ?_
  refine g_sld C S (k := i + 1) (e1 i) (by omega) dL_law_1181 (q := 1182) rfl ?_
  refine g_aload_n C 0 dL_law_1182 (q := 1183) rfl rfl rfl ?_
  refine g_iload_n C 3 dL_law_1183 (q := 1184) rfl rfl rfl ?_
  refine g_iconst C (v := 2) dL_law_1184 (q := 1185) rfl (by decide) ?_
  refine g_iadd C dL_law_1185 (q := 1186) rfl ?_
  refine g_sld C S (k := i + 2) (e2 i) (by omega) dL_law_1186 (q := 1187) rfl ?_
  refine g_aload_n C 0 dL_law_1187 (q := 1188) rfl rfl rfl ?_
  refine g_iload_n C 3 dL_law_1188 (q := 1189) rfl rfl rfl ?_
  refine g_iconst C (v := 3) dL_law_1189 (q := 1190) rfl (by decide) ?_
  refine g_iadd C dL_law_1190 (q := 1191) rfl ?_
  refine g_sld C S (k := i + 3) (e3 i) (by omega) dL_law_1191 (q := 1192) rfl ?_
  refine g_callV C (k := 59) (as := [.int (xs (i + 1)), .int (xs (i + 2)), .int (xs (i + 3))]) (st := [.int p1.1]) (m_X12_spare h2) (g_hL (by decide)) (by decide) (by decide) (gc_59 Y _ _) rfl kM_L_146 kI_X12_spare kS_X12_spare kN_X12 kC_X12_spare kD_X12_spare rfl (Nat.le_of_ble_eq_true rfl) dL_law_1192 (q := 1195) rfl ?_
  show g_G 4 X Y 1195 [(0, .ref b), (1, g_r Y 0), (2, g_r Y 59), (3, .int (nI i))] [.int p2.1, .int p1.1] p2.2
  refine g_icmp_eq C dL_law_1195 (q := 1198) (tgt := 1544) rfl (by decide) (fun _ => kk _ h4) (fun c => absurd h3 c)
theorem lw_c32 {l : Launch} {X : g_X} {Y : g_Y} {b L : Nat} {xs : Nat → Int32} (C : g_C l room_1 RL cL_law 4 X Y) (S : g_Sc X b L xs) {i : Nat} (hi : i + 6 ≤ L) {M : g_M} {P : g_M → Prop} (hs : ∃ p1 p2, f_X11_thin (xs (i + 1)) M = some p1 ∧ f_X12_thin (xs (i + 1)) p1.2 = some p2 ∧ p1.1 = p2.1 ∧ P p2.2) (kk : ∀ M2, P M2 → g_G 4 X Y 1544 [(0, .ref b), (1, g_r Y 0), (2, g_r Y 59), (3, .int (nI i))] [] M2) : g_G 4 X Y 1200 [(0, .ref b), (1, g_r Y 0), (2, g_r Y 59), (3, .int (nI i))] [] M := by
  obtain ⟨p1, p2, h1, h2, h3, h4⟩ := hs
  refine g_aload_n C 1 dL_law_1200 (q := 1201) rfl rfl rfl ?_
  refine g_aload_n C 0 dL_law_1201 (q := 1202) rfl rfl rfl ?_
  refine g_iload_n C 3 dL_law_1202 (q := 1203) rfl rfl rfl ?_
  refine g_iconst C (v := 1) dL_law_1203 (q := 1204) rfl (by decide) ?_
  refine g_iadd C dL_law_1204 (q := 1205) rfl ?_
  refine g_sld C S (k := i + 1) (e1 i) (by omega) dL_law_1205 (q := 1206) rfl ?_
  refine g_callV C (k := 0) (as := [.int (xs (i + 1))]) (st := []) (m_X11_thin h1) (g_hL (by decide)) (by decide) (by decide) (gc_0 Y _ _) rfl kM_L_147 kI_X11_thin kS_X11_thin kN_X11 kC_X11_thin kD_X11_thin rfl (Nat.le_of_ble_eq_true rfl) dL_law_1206 (q := 1209) rfl ?_
  show g_G 4 X Y 1209 [(0, .ref b), (1, g_r Y 0), (2, g_r Y 59), (3, .int (nI i))] [.int p1.1] p1.2
  refine g_aload_n C 2 dL_law_1209 (q := 1210) rfl rfl rfl ?_
  refine g_aload_n C 0 dL_law_1210 (q := 1211) rfl rfl rfl ?_
  refine g_iload_n C 3 dL_law_1211 (q := 1212) rfl rfl rfl ?_
  refine g_iconst C (v := 1) dL_law_1212 (q := 1213) rfl (by decide) ?_
  refine g_iadd C dL_law_1213 (q := 1214) rfl ?_
  refine g_sld C S (k := i + 1) (e1 i) (by omega) dL_law_1214 (q := 1215) rfl ?_
  refine g_callV C (k := 59) (as := [.int (xs (i + 1))]) (st := [.int p1.1]) (m_X12_thin h2) (g_hL (by decide)) (by decide) (by decide) (gc_59 Y _ _) rfl kM_L_150 kI_X12_thin kS_X12_thin kN_X12 kC_X12_thin kD_X12_thin rfl (Nat.le_of_ble_eq_true rfl) dL_law_1215 (q := 1218) rfl ?_
  show g_G 4 X Y 1218 [(0, .ref b), (1, g_r Y 0), (2, g_r Y 59), (3, .int (nI i))] [.int p2.1, .int p1.1] p2.2
  refine g_icmp_eq C dL_law_1218 (q := 1221) (tgt := 1544) rfl (by decide) (fun _ => kk _ h4) (fun c => absurd h3 c)
theorem lw_c33 {l : Launch} {X : g_X} {Y : g_Y} {b L : Nat} {xs : Nat → Int32} (C : g_C l room_1 RL cL_law 4 X Y) (S : g_Sc X b L xs) {i : Nat} (hi : i + 6 ≤ L) {M : g_M} {P : g_M → Prop} (hs : ∃ p1 p2, f_X11_heavy (xs (i + 1)) M = some p1 ∧ f_X12_heavy (xs (i + 1)) p1.2 = some p2 ∧ p1.1 = p2.1 ∧ P p2.2) (kk : ∀ M2, P M2 → g_G 4 X Y 1544 [(0, .ref b), (1, g_r Y 0), (2, g_r Y 59), (3, .int (nI i))] [] M2) : g_G 4 X Y 1223 [(0, .ref b), (1, g_r Y 0), (2, g_r Y 59), (3, .int (nI i))] [] M := by
  obtain ⟨p1, p2, h1, h2, h3, h4⟩ := hs
  refine g_aload_n C 1 dL_law_1223 (q := 1224) rfl rfl rfl ?_
  refine g_aload_n C 0 dL_law_1224 (q := 1225) rfl rfl rfl ?_
  refine g_iload_n C 3 dL_law_1225 (q := 1226) rfl rfl rfl ?_
  refine g_iconst C (v := 1) dL_law_1226 (q := 1227) rfl (by decide) ?_
  refine g_iadd C dL_law_1227 (q := 1228) rfl ?_
  refine g_sld C S (k := i + 1) (e1 i) (by omega) dL_law_1228 (q := 1229) rfl ?_
  refine g_callV C (k := 0) (as := [.int (xs (i + 1))]) (st := []) (m_X11_heavy h1) (g_hL (by decide)) (by decide) (by decide) (gc_0 Y _ _) rfl kM_L_151 kI_X11_heavy kS_X11_heavy kN_X11 kC_X11_heavy kD_X11_heavy rfl (Nat.le_of_ble_eq_true rfl) dL_law_1229 (q := 1232) rfl ?_
  show g_G 4 X Y 1232 [(0, .ref b), (1, g_r Y 0), (2, g_r Y 59), (3, .int (nI i))] [.int p1.1] p1.2
  refine g_aload_n C 2 dL_law_1232 (q := 1233) rfl rfl rfl ?_
  refine g_aload_n C 0 dL_law_1233 (q := 1234) rfl rfl rfl ?_
  refine g_iload_n C 3 dL_law_1234 (q := 1235) rfl rfl rfl ?_
  refine g_iconst C (v := 1) dL_law_1235 (q := 1236) rfl (by decide) ?_
  refine g_iadd C dL_law_1236 (q := 1237) rfl ?_
  refine g_sld C S (k := i + 1) (e1 i) (by omega) dL_law_1237 (q := 1238) rfl ?_
  refine g_callV C (k := 59) (as := [.int (xs (i + 1))]) (st := [.int p1.1]) (m_X12_heavy h2) (g_hL (by decide)) (by decide) (by decide) (gc_59 Y _ _) rfl kM_L_154 kI_X12_heavy kS_X12_heavy kN_X12 kC_X12_heavy kD_X12_heavy rfl (Nat.le_of_ble_eq_true rfl) dL_law_1238 (q := 1241) rfl ?_
  show g_G 4 X Y 1241 [(0, .ref b), (1, g_r Y 0), (2, g_r Y 59), (3, .int (nI i))] [.int p2.1, .int p1.1] p2.2
  refine g_icmp_eq C dL_law_1241 (q := 1244) (tgt := 1544) rfl (by decide) (fun _ => kk _ h4) (fun c => absurd h3 c)
theorem lw_c34 {l : Launch} {X : g_X} {Y : g_Y} {b L : Nat} {xs : Nat → Int32} (C : g_C l room_1 RL cL_law 4 X Y) (S : g_Sc X b L xs) {i : Nat} (hi : i + 6 ≤ L) {M : g_M} {P : g_M → Prop} (hs : ∃ p1 p2, f_X11_judge (xs (i + 1)) (xs (i + 2)) M = some p1 ∧ f_X12_judge (xs (i + 1)) (xs (i + 2)) p1.2 = some p2 ∧ p1.1 = p2.1 ∧ P p2.2) (kk : ∀ M2, P M2 → g_G 4 X Y 1544 [(0, .ref b), (1, g_r Y 0), (2, g_r Y 59), (3, .int (nI i))] [] M2) : g_G 4 X Y 1246 [(0, .ref b), (1, g_r Y 0), (2, g_r Y 59), (3, .int (nI i))] [] M := by
  obtain ⟨p1, p2, h1, h2, h3, h4⟩ := hs
  refine g_aload_n C 1 dL_law_1246 (q := 1247) rfl rfl rfl ?_
  refine g_aload_n C 0 dL_law_1247 (q := 1248) rfl rfl rfl ?_
  refine g_iload_n C 3 dL_law_1248 (q := 1249) rfl rfl rfl ?_
  refine g_iconst C (v := 1) dL_law_1249 (q := 1250) rfl (by decide) ?_
  refine g_iadd C dL_law_1250 (q := 1251) rfl ?_
  refine g_sld C S (k := i + 1) (e1 i) (by omega) dL_law_1251 (q := 1252) rfl ?_
  refine g_aload_n C 0 dL_law_1252 (q := 1253) rfl rfl rfl ?_
  refine g_iload_n C 3 dL_law_1253 (q := 1254) rfl rfl rfl ?_
  refine g_iconst C (v := 2) dL_law_1254 (q := 1255) rfl (by decide) ?_
  refine g_iadd C dL_law_1255 (q := 1256) rfl ?_
  refine g_sld C S (k := i + 2) (e2 i) (by omega) dL_law_1256 (q := 1257) rfl ?_
  refine g_callV C (k := 0) (as := [.int (xs (i + 1)), .int (xs (i + 2))]) (st := []) (m_X11_judge h1) (g_hL (by decide)) (by decide) (by decide) (gc_0 Y _ _) rfl kM_L_155 kI_X11_judge kS_X11_judge kN_X11 kC_X11_judge kD_X11_judge rfl (Nat.le_of_ble_eq_true rfl) dL_law_1257 (q := 1260) rfl ?_
  show g_G 4 X Y 1260 [(0, .ref b), (1, g_r Y 0), (2, g_r Y 59), (3, .int (nI i))] [.int p1.1] p1.2
  refine g_aload_n C 2 dL_law_1260 (q := 1261) rfl rfl rfl ?_
  refine g_aload_n C 0 dL_law_1261 (q := 1262) rfl rfl rfl ?_
  refine g_iload_n C 3 dL_law_1262 (q := 1263) rfl rfl rfl ?_
  refine g_iconst C (v := 1) dL_law_1263 (q := 1264) rfl (by decide) ?_
  refine g_iadd C dL_law_1264 (q := 1265) rfl ?_
  refine g_sld C S (k := i + 1) (e1 i) (by omega) dL_law_1265 (q := 1266) rfl ?_
  refine g_aload_n C 0 dL_law_1266 (q := 1267) rfl rfl rfl ?_
  refine g_iload_n C 3 dL_law_1267 (q := 1268) rfl rfl rfl ?_
  refine g_iconst C (v := 2) dL_law_1268 (q := 1269) rfl (by decide) ?_
  refine g_iadd C dL_law_1269 (q := 1270) rfl ?_
  refine g_sld C S (k := i + 2) (e2 i) (by omega) dL_law_1270 (q := 1271) rfl ?_
  refine g_callV C (k := 59) (as := [.int (xs (i + 1)), .int (xs (i + 2))]) (st := [.int p1.1]) (m_X12_judge h2) (g_hL (by decide)) (by decide) (by decide) (gc_59 Y _ _) rfl kM_L_158 kI_X12_judge kS_X12_judge kN_X12 kC_X12_judge kD_X12_judge rfl (Nat.le_of_ble_eq_true rfl) dL_law_1271 (q := 1274) rfl ?_
  show g_G 4 X Y 1274 [(0, .ref b), (1, g_r Y 0), (2, g_r Y 59), (3, .int (nI i))] [.int p2.1, .int p1.1] p2.2
  refine g_icmp_eq C dL_law_1274 (q := 1277) (tgt := 1544) rfl (by decide) (fun _ => kk _ h4) (fun c => absurd h3 c)
theorem lw_c35 {l : Launch} {X : g_X} {Y : g_Y} {b L : Nat} {xs : Nat → Int32} (C : g_C l room_1 RL cL_law 4 X Y) (S : g_Sc X b L xs) {i : Nat} (hi : i + 6 ≤ L) {M : g_M} {P : g_M → Prop} (hs : ∃ p1 p2, f_X11_sheet (xs (i + 1)) (xs (i + 2)) (xs (i + 3)) M = some p1 ∧ f_X12_sheet (xs (i + 1)) (xs (i + 2)) (xs (i + 3)) p1.2 = some p2 ∧ p1.1 = p2.1 ∧ P p2.2) (kk : ∀ M2, P M2 → g_G 4 X Y 1544 [(0, .ref b), (1, g_r Y 0), (2, g_r Y 59), (3, .int (nI i))] [] M2) : g_G 4 X Y 1279 [(0, .ref b), (1, g_r Y 0), (2, g_r Y 59), (3, .int (nI i))] [] M := by
  obtain ⟨p1, p2, h1, h2, h3, h4⟩ := hs
  refine g_aload_n C 1 dL_law_1279 (q := 1280) rfl rfl rfl ?_
  refine g_aload_n C 0 dL_law_1280 (q := 1281) rfl rfl rfl ?_
  refine g_iload_n C 3 dL_law_1281 (q := 1282) rfl rfl rfl ?_
  refine g_iconst C (v := 1) dL_law_1282 (q := 1283) rfl (by decide) ?_
  refine g_iadd C dL_law_1283 (q := 1284) rfl ?_
  refine g_sld C S (k := i + 1) (e1 i) (by omega) dL_law_1284 (q := 1285) rfl ?_
  refine g_aload_n C 0 dL_law_1285 (q := 1286) rfl rfl rfl ?_
  refine g_iload_n C 3 dL_law_1286 (q := 1287) rfl rfl rfl ?_
  refine g_iconst C (v := 2) dL_law_1287 (q := 1288) rfl (by decide) ?_
  refine g_iadd C dL_law_1288 (q := 1289) rfl ?_
  refine g_sld C S (k := i + 2) (e2 i) (by omega) dL_law_1289 (q := 1290) rfl ?_
  refine g_aload_n C 0 dL_law_1290 (q := 1291) rfl rfl rfl ?_
  refine g_iload_n C 3 dL_law_1291 (q := 1292) rfl rfl rfl ?_
  refine g_iconst C (v := 3) dL_law_1292 (q := 1293) rfl (by decide) ?_
  refine g_iadd C dL_law_1293 (q := 1294) rfl ?_
  refine g_sld C S (k := i + 3) (e3 i) (by omega) dL_law_1294 (q := 1295) rfl ?_
  refine g_callV C (k := 0) (as := [.int (xs (i + 1)), .int (xs (i + 2)), .int (xs (i + 3))]) (st := []) (m_X11_sheet h1) (g_hL (by decide)) (by decide) (by decide) (gc_0 Y _ _) rfl kM_L_159 kI_X11_sheet kS_X11_sheet kN_X11 kC_X11_sheet kD_X11_sheet rfl (Nat.le_of_ble_eq_true rfl) dL_law_1295 (q := 1298) rfl ?_
  show g_G 4 X Y 1298 [(0, .ref b), (1, g_r Y 0), (2, g_r Y 59), (3, .int (nI i))] [.int p1.1] p1.2
  refine g_aload_n C 2 dL_law_1298 (q := 1299) rfl rfl rfl ?_
  refine g_aload_n C 0 dL_law_1299 (q := 1300) rfl rfl rfl ?_
  refine g_iload_n C 3 dL_law_1300 (q := 1301) rfl rfl rfl ?_
  refine g_iconst C (v := 1) dL_law_1301 (q := 1302) rfl (by decide) ?_
  refine g_iadd C dL_law_1302 (q := 1303) rfl ?_
  refine g_sld C S (k := i + 1) (e1 i) (by omega) dL_law_1303 (q := 1304) rfl ?_
  refine g_aload_n C 0 dL_law_1304 (q := 1305) rfl rfl rfl ?_
  refine g_iload_n C 3 dL_law_1305 (q := 1306) rfl rfl rfl ?_
  refine g_iconst C (v := 2) dL_law_1306 (q := 1307) rfl (by decide) ?_
  refine g_iadd C dL_law_1307 (q := 1308) rfl ?_
  refine g_sld C S (k := i + 2) (e2 i) (by omega) dL_law_1308 (q := 1309) rfl ?_
  refine g_aload_n C 0 dL_law_1309 (q := 1310) rfl rfl rfl ?_
  refine g_iload_n C 3 dL_law_1310 (q := 1311) rfl rfl rfl ?_
  refine g_iconst C (v := 3) dL_law_1311 (q := 1312) rfl (by decide) ?_
  refine g_iadd C dL_law_1312 (q := 1313) rfl ?_
  refine g_sld C S (k := i + 3) (e3 i) (by omega) dL_law_1313 (q := 1314) rfl ?_
  refine g_callV C (k := 59) (as := [.int (xs (i + 1)), .int (xs (i + 2)), .int (xs (i + 3))]) (st := [.int p1.1]) (m_X12_sheet h2) (g_hL (by decide)) (by decide) (by decide) (gc_59 Y _ _) rfl kM_L_162 kI_X12_sheet kS_X12_sheet kN_X12 kC_X12_sheet kD_X12_sheet rfl (Nat.le_of_ble_eq_true rfl) dL_law_1314 (q := 1317) rfl ?_
  show g_G 4 X Y 1317 [(0, .ref b), (1, g_r Y 0), (2, g_r Y 59), (3, .int (nI i))] [.int p2.1, .int p1.1] p2.2
  refine g_icmp_eq C dL_law_1317 (q := 1320) (tgt := 1544) rfl (by decide) (fun _ => kk _ h4) (fun c => absurd h3 c)
theorem lw_c36 {l : Launch} {X : g_X} {Y : g_Y} {b L : Nat} {xs : Nat → Int32} (C : g_C l room_1 RL cL_law 4 X Y) (S : g_Sc X b L xs) {i : Nat} (hi : i + 6 ≤ L) {M : g_M} {P : g_M → Prop} (hs : ∃ p1 p2, f_X11_write (xs (i + 1)) (xs (i + 2)) (g_j (xs (i + 3)) (xs (i + 4))) M = some p1 ∧ f_X12_write (xs (i + 1)) (xs (i + 2)) (g_j (xs (i + 3)) (xs (i + 4))) p1.2 = some p2 ∧ p1.1 = p2.1 ∧ P p2.2) (kk : ∀ M2, P M2 → g_G 4 X Y 1544 [(0, .ref b), (1, g_r Y 0), (2, g_r Y 59), (3, .int (nI i))] [] M2) : g_G 4 X Y 1322 [(0, .ref b), (1, g_r Y 0), (2, g_r Y 59), (3, .int (nI i))] [] M := by
  obtain ⟨p1, p2, h1, h2, h3, h4⟩ := hs
  refine g_aload_n C 1 dL_law_1322 (q := 1323) rfl rfl rfl ?_
  refine g_aload_n C 0 dL_law_1323 (q := 1324) rfl rfl rfl ?_
  refine g_iload_n C 3 dL_law_1324 (q := 1325) rfl rfl rfl ?_
  refine g_iconst C (v := 1) dL_law_1325 (q := 1326) rfl (by decide) ?_
  refine g_iadd C dL_law_1326 (q := 1327) rfl ?_
  refine g_sld C S (k := i + 1) (e1 i) (by omega) dL_law_1327 (q := 1328) rfl ?_
  refine g_aload_n C 0 dL_law_1328 (q := 1329) rfl rfl rfl ?_
  refine g_iload_n C 3 dL_law_1329 (q := 1330) rfl rfl rfl ?_
  refine g_iconst C (v := 2) dL_law_1330 (q := 1331) rfl (by decide) ?_
  refine g_iadd C dL_law_1331 (q := 1332) rfl ?_
  refine g_sld C S (k := i + 2) (e2 i) (by omega) dL_law_1332 (q := 1333) rfl ?_
  refine g_aload_n C 0 dL_law_1333 (q := 1334) rfl rfl rfl ?_
  refine g_iload_n C 3 dL_law_1334 (q := 1335) rfl rfl rfl ?_
  refine g_iconst C (v := 3) dL_law_1335 (q := 1336) rfl (by decide) ?_
  refine g_iadd C dL_law_1336 (q := 1337) rfl ?_
  refine g_sld C S (k := i + 3) (e3 i) (by omega) dL_law_1337 (q := 1338) rfl ?_
  refine g_i2l C dL_law_1338 (q := 1339) rfl ?_
  refine g_bipush C (v := 32) dL_law_1339 (q := 1341) rfl (by decide) ?_
  refine g_lshl C dL_law_1341 (q := 1342) rfl ?_
  refine g_aload_n C 0 dL_law_1342 (q := 1343) rfl rfl rfl ?_
  refine g_iload_n C 3 dL_law_1343 (q := 1344) rfl rfl rfl ?_
  refine g_iconst C (v := 4) dL_law_1344 (q := 1345) rfl (by decide) ?_
  refine g_iadd C dL_law_1345 (q := 1346) rfl ?_
  refine g_sld C S (k := i + 4) (e4 i) (by omega) dL_law_1346 (q := 1347) rfl ?_
  refine g_i2l C dL_law_1347 (q := 1348) rfl ?_
  refine g_ldc2 C (v := 4294967295) kL_L_163 dL_law_1348 (q := 1351) rfl ?_
  refine g_land C dL_law_1351 (q := 1352) rfl ?_
  refine g_lor C dL_law_1352 (q := 1353) rfl ?_
  refine g_callV C (k := 0) (as := [.int (xs (i + 1)), .int (xs (i + 2)), .long (g_j (xs (i + 3)) (xs (i + 4)))]) (st := []) (m_X11_write h1) (g_hL (by decide)) (by decide) (by decide) (gc_0 Y _ _) rfl kM_L_165 kI_X11_write kS_X11_write kN_X11 kC_X11_write kD_X11_write rfl (Nat.le_of_ble_eq_true rfl) dL_law_1353 (q := 1356) rfl ?_
  show g_G 4 X Y 1356 [(0, .ref b), (1, g_r Y 0), (2, g_r Y 59), (3, .int (nI i))] [.long p1.1] p1.2
  refine g_aload_n C 2 dL_law_1356 (q := 1357) rfl rfl rfl ?_
  refine g_aload_n C 0 dL_law_1357 (q := 1358) rfl rfl rfl ?_
  refine g_iload_n C 3 dL_law_1358 (q := 1359) rfl rfl rfl ?_
  refine g_iconst C (v := 1) dL_law_1359 (q := 1360) rfl (by decide) ?_
  refine g_iadd C dL_law_1360 (q := 1361) rfl ?_
  refine g_sld C S (k := i + 1) (e1 i) (by omega) dL_law_1361 (q := 1362) rfl ?_
  refine g_aload_n C 0 dL_law_1362 (q := 1363) rfl rfl rfl ?_
  refine g_iload_n C 3 dL_law_1363 (q := 1364) rfl rfl rfl ?_
  refine g_iconst C (v := 2) dL_law_1364 (q := 1365) rfl (by decide) ?_
  refine g_iadd C dL_law_1365 (q := 1366) rfl ?_
  refine g_sld C S (k := i + 2) (e2 i) (by omega) dL_law_1366 (q := 1367) rfl ?_
  refine g_aload_n C 0 dL_law_1367 (q := 1368) rfl rfl rfl ?_
  refine g_iload_n C 3 dL_law_1368 (q := 1369) rfl rfl rfl ?_
  refine g_iconst C (v := 3) dL_law_1369 (q := 1370) rfl (by decide) ?_
  refine g_iadd C dL_law_1370 (q := 1371) rfl ?_
  refine g_sld C S (k := i + 3) (e3 i) (by omega) dL_law_1371 (q := 1372) rfl ?_
  refine g_i2l C dL_law_1372 (q := 1373) rfl ?_
  refine g_bipush C (v := 32) dL_law_1373 (q := 1375) rfl (by decide) ?_
  refine g_lshl C dL_law_1375 (q := 1376) rfl ?_
  refine g_aload_n C 0 dL_law_1376 (q := 1377) rfl rfl rfl ?_
  refine g_iload_n C 3 dL_law_1377 (q := 1378) rfl rfl rfl ?_
  refine g_iconst C (v := 4) dL_law_1378 (q := 1379) rfl (by decide) ?_
  refine g_iadd C dL_law_1379 (q := 1380) rfl ?_
  refine g_sld C S (k := i + 4) (e4 i) (by omega) dL_law_1380 (q := 1381) rfl ?_
  refine g_i2l C dL_law_1381 (q := 1382) rfl ?_
  refine g_ldc2 C (v := 4294967295) kL_L_163 dL_law_1382 (q := 1385) rfl ?_
  refine g_land C dL_law_1385 (q := 1386) rfl ?_
  refine g_lor C dL_law_1386 (q := 1387) rfl ?_
  refine g_callV C (k := 59) (as := [.int (xs (i + 1)), .int (xs (i + 2)), .long (g_j (xs (i + 3)) (xs (i + 4)))]) (st := [.long p1.1]) (m_X12_write h2) (g_hL (by decide)) (by decide) (by decide) (gc_59 Y _ _) rfl kM_L_169 kI_X12_write kS_X12_write kN_X12 kC_X12_write kD_X12_write rfl (Nat.le_of_ble_eq_true rfl) dL_law_1387 (q := 1390) rfl ?_
  show g_G 4 X Y 1390 [(0, .ref b), (1, g_r Y 0), (2, g_r Y 59), (3, .int (nI i))] [.long p2.1, .long p1.1] p2.2
  refine g_lcmp C dL_law_1390 (q := 1391) rfl ?_
  refine g_if_eq C dL_law_1391 (q := 1394) (tgt := 1544) rfl (by decide) (fun _ => kk _ h4) (fun c => absurd (by rw [h3]; exact lg_cmp_self _) c)
theorem lw_c37 {l : Launch} {X : g_X} {Y : g_Y} {b L : Nat} {xs : Nat → Int32} (C : g_C l room_1 RL cL_law 4 X Y) (S : g_Sc X b L xs) {i : Nat} (hi : i + 6 ≤ L) {M : g_M} {P : g_M → Prop} (hs : ∃ p1 p2, f_X11_copy (xs (i + 1)) (xs (i + 2)) (xs (i + 3)) (xs (i + 4)) (xs (i + 5)) M = some p1 ∧ f_X12_copy (xs (i + 1)) (xs (i + 2)) (xs (i + 3)) (xs (i + 4)) (xs (i + 5)) p1.2 = some p2 ∧ p1.1 = p2.1 ∧ P p2.2) (kk : ∀ M2, P M2 → g_G 4 X Y 1544 [(0, .ref b), (1, g_r Y 0), (2, g_r Y 59), (3, .int (nI i))] [] M2) : g_G 4 X Y 1396 [(0, .ref b), (1, g_r Y 0), (2, g_r Y 59), (3, .int (nI i))] [] M := by
  obtain ⟨p1, p2, h1, h2, h3, h4⟩ := hs
  refine g_aload_n C 1 dL_law_1396 (q := 1397) rfl rfl rfl ?_
  refine g_aload_n C 0 dL_law_1397 (q := 1398) rfl rfl rfl ?_
  refine g_iload_n C 3 dL_law_1398 (q := 1399) rfl rfl rfl ?_
  refine g_iconst C (v := 1) dL_law_1399 (q := 1400) rfl (by decide) ?_
  refine g_iadd C dL_law_1400 (q := 1401) rfl ?_
  refine g_sld C S (k := i + 1) (e1 i) (by omega) dL_law_1401 (q := 1402) rfl ?_
  refine g_aload_n C 0 dL_law_1402 (q := 1403) rfl rfl rfl ?_
  refine g_iload_n C 3 dL_law_1403 (q := 1404) rfl rfl rfl ?_
  refine g_iconst C (v := 2) dL_law_1404 (q := 1405) rfl (by decide) ?_
  refine g_iadd C dL_law_1405 (q := 1406) rfl ?_
  refine g_sld C S (k := i + 2) (e2 i) (by omega) dL_law_1406 (q := 1407) rfl ?_
  refine g_aload_n C 0 dL_law_1407 (q := 1408) rfl rfl rfl ?_
  refine g_iload_n C 3 dL_law_1408 (q := 1409) rfl rfl rfl ?_
  refine g_iconst C (v := 3) dL_law_1409 (q := 1410) rfl (by decide) ?_
  refine g_iadd C dL_law_1410 (q := 1411) rfl ?_
  refine g_sld C S (k := i + 3) (e3 i) (by omega) dL_law_1411 (q := 1412) rfl ?_
  refine g_aload_n C 0 dL_law_1412 (q := 1413) rfl rfl rfl ?_
  refine g_iload_n C 3 dL_law_1413 (q := 1414) rfl rfl rfl ?_
  refine g_iconst C (v := 4) dL_law_1414 (q := 1415) rfl (by decide) ?_
  refine g_iadd C dL_law_1415 (q := 1416) rfl ?_
  refine g_sld C S (k := i + 4) (e4 i) (by omega) dL_law_1416 (q := 1417) rfl ?_
  refine g_aload_n C 0 dL_law_1417 (q := 1418) rfl rfl rfl ?_
  refine g_iload_n C 3 dL_law_1418 (q := 1419) rfl rfl rfl ?_
  refine g_iconst C (v := 5) dL_law_1419 (q := 1420) rfl (by decide) ?_
  refine g_iadd C dL_law_1420 (q := 1421) rfl ?_
  refine g_sld C S (k := i + 5) (e5 i) (by omega) dL_law_1421 (q := 1422) rfl ?_
  refine g_callV C (k := 0) (as := [.int (xs (i + 1)), .int (xs (i + 2)), .int (xs (i + 3)), .int (xs (i + 4)), .int (xs (i + 5))]) (st := []) (m_X11_copy h1) (g_hL (by decide)) (by decide) (by decide) (gc_0 Y _ _) rfl kM_L_170 kI_X11_copy kS_X11_copy kN_X11 kC_X11_copy kD_X11_copy rfl (Nat.le_of_ble_eq_true rfl) dL_law_1422 (q := 1425) rfl ?_
  show g_G 4 X Y 1425 [(0, .ref b), (1, g_r Y 0), (2, g_r Y 59), (3, .int (nI i))] [.int p1.1] p1.2
  refine g_aload_n C 2 dL_law_1425 (q := 1426) rfl rfl rfl ?_
  refine g_aload_n C 0 dL_law_1426 (q := 1427) rfl rfl rfl ?_
  refine g_iload_n C 3 dL_law_1427 (q := 1428) rfl rfl rfl ?_
  refine g_iconst C (v := 1) dL_law_1428 (q := 1429) rfl (by decide) ?_
  refine g_iadd C dL_law_1429 (q := 1430) rfl ?_
  refine g_sld C S (k := i + 1) (e1 i) (by omega) dL_law_1430 (q := 1431) rfl ?_
  refine g_aload_n C 0 dL_law_1431 (q := 1432) rfl rfl rfl ?_
  refine g_iload_n C 3 dL_law_1432 (q := 1433) rfl rfl rfl ?_
  refine g_iconst C (v := 2) dL_law_1433 (q := 1434) rfl (by decide) ?_
  refine g_iadd C dL_law_1434 (q := 1435) rfl ?_
  refine g_sld C S (k := i + 2) (e2 i) (by omega) dL_law_1435 (q := 1436) rfl ?_
  refine g_aload_n C 0 dL_law_1436 (q := 1437) rfl rfl rfl ?_
  refine g_iload_n C 3 dL_law_1437 (q := 1438) rfl rfl rfl ?_
  refine g_iconst C (v := 3) dL_law_1438 (q := 1439) rfl (by decide) ?_
  refine g_iadd C dL_law_1439 (q := 1440) rfl ?_
  refine g_sld C S (k := i + 3) (e3 i) (by omega) dL_law_1440 (q := 1441) rfl ?_
  refine g_aload_n C 0 dL_law_1441 (q := 1442) rfl rfl rfl ?_
  refine g_iload_n C 3 dL_law_1442 (q := 1443) rfl rfl rfl ?_
  refine g_iconst C (v := 4) dL_law_1443 (q := 1444) rfl (by decide) ?_
  refine g_iadd C dL_law_1444 (q := 1445) rfl ?_
  refine g_sld C S (k := i + 4) (e4 i) (by omega) dL_law_1445 (q := 1446) rfl ?_
  refine g_aload_n C 0 dL_law_1446 (q := 1447) rfl rfl rfl ?_
  refine g_iload_n C 3 dL_law_1447 (q := 1448) rfl rfl rfl ?_
  refine g_iconst C (v := 5) dL_law_1448 (q := 1449) rfl (by decide) ?_
  refine g_iadd C dL_law_1449 (q := 1450) rfl ?_
  refine g_sld C S (k := i + 5) (e5 i) (by omega) dL_law_1450 (q := 1451) rfl ?_
  refine g_callV C (k := 59) (as := [.int (xs (i + 1)), .int (xs (i + 2)), .int (xs (i + 3)), .int (xs (i + 4)), .int (xs (i + 5))]) (st := [.int p1.1]) (m_X12_copy h2) (g_hL (by decide)) (by decide) (by decide) (gc_59 Y _ _) rfl kM_L_174 kI_X12_copy kS_X12_copy kN_X12 kC_X12_copy kD_X12_copy rfl (Nat.le_of_ble_eq_true rfl) dL_law_1451 (q := 1454) rfl ?_
  show g_G 4 X Y 1454 [(0, .ref b), (1, g_r Y 0), (2, g_r Y 59), (3, .int (nI i))] [.int p2.1, .int p1.1] p2.2
  refine g_icmp_eq C dL_law_1454 (q := 1457) (tgt := 1544) rfl (by decide) (fun _ => kk _ h4) (fun c => absurd h3 c)
theorem lw_c38 {l : Launch} {X : g_X} {Y : g_Y} {b L : Nat} {xs : Nat → Int32} (C : g_C l room_1 RL cL_law 4 X Y) (S : g_Sc X b L xs) {i : Nat} (hi : i + 6 ≤ L) {M : g_M} {P : g_M → Prop} (hs : ∃ p1 p2, f_X11_image M = some p1 ∧ f_X12_image p1.2 = some p2 ∧ p1.1 = p2.1 ∧ P p2.2) (kk : ∀ M2, P M2 → g_G 4 X Y 1544 [(0, .ref b), (1, g_r Y 0), (2, g_r Y 59), (3, .int (nI i))] [] M2) : g_G 4 X Y 1459 [(0, .ref b), (1, g_r Y 0), (2, g_r Y 59), (3, .int (nI i))] [] M := by
  obtain ⟨p1, p2, h1, h2, h3, h4⟩ := hs
  refine g_aload_n C 1 dL_law_1459 (q := 1460) rfl rfl rfl ?_
  refine g_callV C (k := 0) (as := []) (st := []) (m_X11_image h1) (g_hL (by decide)) (by decide) (by decide) (gc_0 Y _ _) rfl kM_L_175 kI_X11_image kS_X11_image kN_X11 kC_X11_image kD_X11_image rfl (Nat.le_of_ble_eq_true rfl) dL_law_1460 (q := 1463) rfl ?_
  show g_G 4 X Y 1463 [(0, .ref b), (1, g_r Y 0), (2, g_r Y 59), (3, .int (nI i))] [.int p1.1] p1.2
  refine g_aload_n C 2 dL_law_1463 (q := 1464) rfl rfl rfl ?_
  refine g_callV C (k := 59) (as := []) (st := [.int p1.1]) (m_X12_image h2) (g_hL (by decide)) (by decide) (by decide) (gc_59 Y _ _) rfl kM_L_178 kI_X12_image kS_X12_image kN_X12 kC_X12_image kD_X12_image rfl (Nat.le_of_ble_eq_true rfl) dL_law_1464 (q := 1467) rfl ?_
  show g_G 4 X Y 1467 [(0, .ref b), (1, g_r Y 0), (2, g_r Y 59), (3, .int (nI i))] [.int p2.1, .int p1.1] p2.2
  refine g_icmp_eq C dL_law_1467 (q := 1470) (tgt := 1544) rfl (by decide) (fun _ => kk _ h4) (fun c => absurd h3 c)
theorem lw_c39 {l : Launch} {X : g_X} {Y : g_Y} {b L : Nat} {xs : Nat → Int32} (C : g_C l room_1 RL cL_law 4 X Y) (S : g_Sc X b L xs) {i : Nat} (hi : i + 6 ≤ L) {M : g_M} {P : g_M → Prop} (hs : ∃ p1 p2, f_X11_undo M = some p1 ∧ f_X12_undo p1.2 = some p2 ∧ p1.1 = p2.1 ∧ P p2.2) (kk : ∀ M2, P M2 → g_G 4 X Y 1544 [(0, .ref b), (1, g_r Y 0), (2, g_r Y 59), (3, .int (nI i))] [] M2) : g_G 4 X Y 1472 [(0, .ref b), (1, g_r Y 0), (2, g_r Y 59), (3, .int (nI i))] [] M := by
  obtain ⟨p1, p2, h1, h2, h3, h4⟩ := hs
  refine g_aload_n C 1 dL_law_1472 (q := 1473) rfl rfl rfl ?_
  refine g_callV C (k := 0) (as := []) (st := []) (m_X11_undo h1) (g_hL (by decide)) (by decide) (by decide) (gc_0 Y _ _) rfl kM_L_179 kI_X11_undo kS_X11_undo kN_X11 kC_X11_undo kD_X11_undo rfl (Nat.le_of_ble_eq_true rfl) dL_law_1473 (q := 1476) rfl ?_
  show g_G 4 X Y 1476 [(0, .ref b), (1, g_r Y 0), (2, g_r Y 59), (3, .int (nI i))] [.int p1.1] p1.2
  refine g_aload_n C 2 dL_law_1476 (q := 1477) rfl rfl rfl ?_
  refine g_callV C (k := 59) (as := []) (st := [.int p1.1]) (m_X12_undo h2) (g_hL (by decide)) (by decide) (by decide) (gc_59 Y _ _) rfl kM_L_182 kI_X12_undo kS_X12_undo kN_X12 kC_X12_undo kD_X12_undo rfl (Nat.le_of_ble_eq_true rfl) dL_law_1477 (q := 1480) rfl ?_
  show g_G 4 X Y 1480 [(0, .ref b), (1, g_r Y 0), (2, g_r Y 59), (3, .int (nI i))] [.int p2.1, .int p1.1] p2.2
  refine g_icmp_eq C dL_law_1480 (q := 1483) (tgt := 1544) rfl (by decide) (fun _ => kk _ h4) (fun c => absurd h3 c)
theorem lw_c40 {l : Launch} {X : g_X} {Y : g_Y} {b L : Nat} {xs : Nat → Int32} (C : g_C l room_1 RL cL_law 4 X Y) (S : g_Sc X b L xs) {i : Nat} (hi : i + 6 ≤ L) {M : g_M} {P : g_M → Prop} (hs : ∃ p1 p2, f_X11_tear M = some p1 ∧ f_X12_tear p1.2 = some p2 ∧ p1.1 = p2.1 ∧ P p2.2) (kk : ∀ M2, P M2 → g_G 4 X Y 1544 [(0, .ref b), (1, g_r Y 0), (2, g_r Y 59), (3, .int (nI i))] [] M2) : g_G 4 X Y 1485 [(0, .ref b), (1, g_r Y 0), (2, g_r Y 59), (3, .int (nI i))] [] M := by
  obtain ⟨p1, p2, h1, h2, h3, h4⟩ := hs
  refine g_aload_n C 1 dL_law_1485 (q := 1486) rfl rfl rfl ?_
  refine g_callV C (k := 0) (as := []) (st := []) (m_X11_tear h1) (g_hL (by decide)) (by decide) (by decide) (gc_0 Y _ _) rfl kM_L_183 kI_X11_tear kS_X11_tear kN_X11 kC_X11_tear kD_X11_tear rfl (Nat.le_of_ble_eq_true rfl) dL_law_1486 (q := 1489) rfl ?_
  show g_G 4 X Y 1489 [(0, .ref b), (1, g_r Y 0), (2, g_r Y 59), (3, .int (nI i))] [.int p1.1] p1.2
  refine g_aload_n C 2 dL_law_1489 (q := 1490) rfl rfl rfl ?_
  refine g_callV C (k := 59) (as := []) (st := [.int p1.1]) (m_X12_tear h2) (g_hL (by decide)) (by decide) (by decide) (gc_59 Y _ _) rfl kM_L_186 kI_X12_tear kS_X12_tear kN_X12 kC_X12_tear kD_X12_tear rfl (Nat.le_of_ble_eq_true rfl) dL_law_1490 (q := 1493) rfl ?_
  show g_G 4 X Y 1493 [(0, .ref b), (1, g_r Y 0), (2, g_r Y 59), (3, .int (nI i))] [.int p2.1, .int p1.1] p2.2
  refine g_icmp_eq C dL_law_1493 (q := 1496) (tgt := 1544) rfl (by decide) (fun _ => kk _ h4) (fun c => absurd h3 c)
theorem lw_c41 {l : Launch} {X : g_X} {Y : g_Y} {b L : Nat} {xs : Nat → Int32} (C : g_C l room_1 RL cL_law 4 X Y) (S : g_Sc X b L xs) {i : Nat} (hi : i + 6 ≤ L) {M : g_M} {P : g_M → Prop} (hs : ∃ p1 p2, f_X11_look (xs (i + 1)) M = some p1 ∧ f_X12_look (xs (i + 1)) p1.2 = some p2 ∧ p1.1 = p2.1 ∧ P p2.2) (kk : ∀ M2, P M2 → g_G 4 X Y 1544 [(0, .ref b), (1, g_r Y 0), (2, g_r Y 59), (3, .int (nI i))] [] M2) : g_G 4 X Y 1498 [(0, .ref b), (1, g_r Y 0), (2, g_r Y 59), (3, .int (nI i))] [] M := by
  obtain ⟨p1, p2, h1, h2, h3, h4⟩ := hs
  refine g_aload_n C 1 dL_law_1498 (q := 1499) rfl rfl rfl ?_
  refine g_aload_n C 0 dL_law_1499 (q := 1500) rfl rfl rfl ?_
  refine g_iload_n C 3 dL_law_1500 (q := 1501) rfl rfl rfl ?_
  refine g_iconst C (v := 1) dL_law_1501 (q := 1502) rfl (by decide) ?_
  refine g_iadd C dL_law_1502 (q := 1503) rfl ?_
  refine g_sld C S (k := i + 1) (e1 i) (by omega) dL_law_1503 (q := 1504) rfl ?_
  refine g_callV C (k := 0) (as := [.int (xs (i + 1))]) (st := []) (m_X11_look h1) (g_hL (by decide)) (by decide) (by decide) (gc_0 Y _ _) rfl kM_L_187 kI_X11_look kS_X11_look kN_X11 kC_X11_look kD_X11_look rfl (Nat.le_of_ble_eq_true rfl) dL_law_1504 (q := 1507) rfl ?_
  show g_G 4 X Y 1507 [(0, .ref b), (1, g_r Y 0), (2, g_r Y 59), (3, .int (nI i))] [.int p1.1] p1.2
  refine g_aload_n C 2 dL_law_1507 (q := 1508) rfl rfl rfl ?_
  refine g_aload_n C 0 dL_law_1508 (q := 1509) rfl rfl rfl ?_
  refine g_iload_n C 3 dL_law_1509 (q := 1510) rfl rfl rfl ?_
  refine g_iconst C (v := 1) dL_law_1510 (q := 1511) rfl (by decide) ?_
  refine g_iadd C dL_law_1511 (q := 1512) rfl ?_
  refine g_sld C S (k := i + 1) (e1 i) (by omega) dL_law_1512 (q := 1513) rfl ?_
  refine g_callV C (k := 59) (as := [.int (xs (i + 1))]) (st := [.int p1.1]) (m_X12_look h2) (g_hL (by decide)) (by decide) (by decide) (gc_59 Y _ _) rfl kM_L_190 kI_X12_look kS_X12_look kN_X12 kC_X12_look kD_X12_look rfl (Nat.le_of_ble_eq_true rfl) dL_law_1513 (q := 1516) rfl ?_
  show g_G 4 X Y 1516 [(0, .ref b), (1, g_r Y 0), (2, g_r Y 59), (3, .int (nI i))] [.int p2.1, .int p1.1] p2.2
  refine g_icmp_eq C dL_law_1516 (q := 1519) (tgt := 1544) rfl (by decide) (fun _ => kk _ h4) (fun c => absurd h3 c)
theorem lw_c42 {l : Launch} {X : g_X} {Y : g_Y} {b L : Nat} {xs : Nat → Int32} (C : g_C l room_1 RL cL_law 4 X Y) (S : g_Sc X b L xs) {i : Nat} (hi : i + 6 ≤ L) {M : g_M} {P : g_M → Prop} (hs : ∃ p1 p2, f_X11_status (xs (i + 1)) M = some p1 ∧ f_X12_status (xs (i + 1)) p1.2 = some p2 ∧ p1.1 = p2.1 ∧ P p2.2) (kk : ∀ M2, P M2 → g_G 4 X Y 1544 [(0, .ref b), (1, g_r Y 0), (2, g_r Y 59), (3, .int (nI i))] [] M2) : g_G 4 X Y 1521 [(0, .ref b), (1, g_r Y 0), (2, g_r Y 59), (3, .int (nI i))] [] M := by
  obtain ⟨p1, p2, h1, h2, h3, h4⟩ := hs
  refine g_aload_n C 1 dL_law_1521 (q := 1522) rfl rfl rfl ?_
  refine g_aload_n C 0 dL_law_1522 (q := 1523) rfl rfl rfl ?_
  refine g_iload_n C 3 dL_law_1523 (q := 1524) rfl rfl rfl ?_
  refine g_iconst C (v := 1) dL_law_1524 (q := 1525) rfl (by decide) ?_
  refine g_iadd C dL_law_1525 (q := 1526) rfl ?_
  refine g_sld C S (k := i + 1) (e1 i) (by omega) dL_law_1526 (q := 1527) rfl ?_
  refine g_callV C (k := 0) (as := [.int (xs (i + 1))]) (st := []) (m_X11_status h1) (g_hL (by decide)) (by decide) (by decide) (gc_0 Y _ _) rfl kM_L_191 kI_X11_status kS_X11_status kN_X11 kC_X11_status kD_X11_status rfl (Nat.le_of_ble_eq_true rfl) dL_law_1527 (q := 1530) rfl ?_
  show g_G 4 X Y 1530 [(0, .ref b), (1, g_r Y 0), (2, g_r Y 59), (3, .int (nI i))] [.int p1.1] p1.2
  refine g_aload_n C 2 dL_law_1530 (q := 1531) rfl rfl rfl ?_
  refine g_aload_n C 0 dL_law_1531 (q := 1532) rfl rfl rfl ?_
  refine g_iload_n C 3 dL_law_1532 (q := 1533) rfl rfl rfl ?_
  refine g_iconst C (v := 1) dL_law_1533 (q := 1534) rfl (by decide) ?_
  refine g_iadd C dL_law_1534 (q := 1535) rfl ?_
  refine g_sld C S (k := i + 1) (e1 i) (by omega) dL_law_1535 (q := 1536) rfl ?_
  refine g_callV C (k := 59) (as := [.int (xs (i + 1))]) (st := [.int p1.1]) (m_X12_status h2) (g_hL (by decide)) (by decide) (by decide) (gc_59 Y _ _) rfl kM_L_194 kI_X12_status kS_X12_status kN_X12 kC_X12_status kD_X12_status rfl (Nat.le_of_ble_eq_true rfl) dL_law_1536 (q := 1539) rfl ?_
  show g_G 4 X Y 1539 [(0, .ref b), (1, g_r Y 0), (2, g_r Y 59), (3, .int (nI i))] [.int p2.1, .int p1.1] p2.2
  refine g_icmp_eq C dL_law_1539 (q := 1542) (tgt := 1544) rfl (by decide) (fun _ => kk _ h4) (fun c => absurd h3 c)
def sp_0 (Rel : Nat → g_M → Prop) : Prop := ∀ (t : Nat) (M : g_M) (a1 : Int32), t < 64 → Rel t M → ∃ p1 p2, f_X11_elder a1 M = some p1 ∧ f_X12_elder a1 p1.2 = some p2 ∧ p1.1 = p2.1 ∧ Rel (t + 1) p2.2
def sp_1 (Rel : Nat → g_M → Prop) : Prop := ∀ (t : Nat) (M : g_M) (a1 : Int32) (a2 : Int32), t < 64 → Rel t M → ∃ p1 p2, f_X11_of a1 a2 M = some p1 ∧ f_X12_of a1 a2 p1.2 = some p2 ∧ p1.1 = p2.1 ∧ Rel (t + 1) p2.2
def sp_2 (Rel : Nat → g_M → Prop) : Prop := ∀ (t : Nat) (M : g_M) (a1 : Int32) (a2 : Int32), t < 64 → Rel t M → ∃ p1 p2, f_X11_gone a1 (g_b a2) M = some p1 ∧ f_X12_gone a1 (g_b a2) p1.2 = some p2 ∧ p1.1 = p2.1 ∧ Rel (t + 1) p2.2
def sp_3 (Rel : Nat → g_M → Prop) : Prop := ∀ (t : Nat) (M : g_M) (a1 : Int32) (a2 : Int32), t < 64 → Rel t M → ∃ p1 p2, f_X11_feed a1 a2 M = some p1 ∧ f_X12_feed a1 a2 p1.2 = some p2 ∧ p1.1 = p2.1 ∧ Rel (t + 1) p2.2
def sp_4 (Rel : Nat → g_M → Prop) : Prop := ∀ (t : Nat) (M : g_M), t < 64 → Rel t M → ∃ p1 p2, f_X11_wipe M = some p1 ∧ f_X12_wipe p1.2 = some p2 ∧ p1.1 = p2.1 ∧ Rel (t + 1) p2.2
def sp_5 (Rel : Nat → g_M → Prop) : Prop := ∀ (t : Nat) (M : g_M), t < 64 → Rel t M → ∃ p1 p2, f_X11_text M = some p1 ∧ f_X12_text p1.2 = some p2 ∧ p1.1 = p2.1 ∧ Rel (t + 1) p2.2
def sp_6 (Rel : Nat → g_M → Prop) : Prop := ∀ (t : Nat) (M : g_M) (a1 : Int32), t < 64 → Rel t M → ∃ p1 p2, f_X11_use a1 M = some p1 ∧ f_X12_use a1 p1.2 = some p2 ∧ p1.1 = p2.1 ∧ Rel (t + 1) p2.2
def sp_7 (Rel : Nat → g_M → Prop) : Prop := ∀ (t : Nat) (M : g_M) (a1 : Int32) (a2 : Int32), t < 64 → Rel t M → ∃ p1 p2, f_X11_may a1 a2 M = some p1 ∧ f_X12_may a1 a2 p1.2 = some p2 ∧ p1.1 = p2.1 ∧ Rel (t + 1) p2.2
def sp_8 (Rel : Nat → g_M → Prop) : Prop := ∀ (t : Nat) (M : g_M), t < 64 → Rel t M → ∃ p1 p2, f_X11_more M = some p1 ∧ f_X12_more p1.2 = some p2 ∧ p1.1 = p2.1 ∧ Rel (t + 1) p2.2
def sp_9 (Rel : Nat → g_M → Prop) : Prop := ∀ (t : Nat) (M : g_M) (a1 : Int32), t < 64 → Rel t M → ∃ p1 p2, f_X11_least a1 M = some p1 ∧ f_X12_least a1 p1.2 = some p2 ∧ p1.1 = p2.1 ∧ Rel (t + 1) p2.2
def sp_10 (Rel : Nat → g_M → Prop) : Prop := ∀ (t : Nat) (M : g_M) (a1 : Int32), t < 64 → Rel t M → ∃ p1 p2, f_X11_most a1 M = some p1 ∧ f_X12_most a1 p1.2 = some p2 ∧ p1.1 = p2.1 ∧ Rel (t + 1) p2.2
def sp_11 (Rel : Nat → g_M → Prop) : Prop := ∀ (t : Nat) (M : g_M) (a1 : Int32) (a2 : Int32), t < 64 → Rel t M → ∃ p1 p2, f_X11_lock a1 (g_b a2) M = some p1 ∧ f_X12_lock a1 (g_b a2) p1.2 = some p2 ∧ p1.1 = p2.1 ∧ Rel (t + 1) p2.2
def sp_12 (Rel : Nat → g_M → Prop) : Prop := ∀ (t : Nat) (M : g_M) (a1 : Int32) (a2 : Int32) (a3 : Int32), t < 64 → Rel t M → ∃ p1 p2, f_X11_chain a1 a2 (g_b a3) M = some p1 ∧ f_X12_chain a1 a2 (g_b a3) p1.2 = some p2 ∧ p1.1 = p2.1 ∧ Rel (t + 1) p2.2
def sp_13 (Rel : Nat → g_M → Prop) : Prop := ∀ (t : Nat) (M : g_M) (a1 : Int32) (a2 : Int32), t < 64 → Rel t M → ∃ p1 p2, f_X11_box a1 a2 M = some p1 ∧ f_X12_box a1 a2 p1.2 = some p2 ∧ p1.1 = p2.1 ∧ Rel (t + 1) p2.2
def sp_14 (Rel : Nat → g_M → Prop) : Prop := ∀ (t : Nat) (M : g_M) (a1 : Int32) (a2 : Int32), t < 64 → Rel t M → ∃ p1 p2, f_X11_hanging a1 a2 M = some p1 ∧ f_X12_hanging a1 a2 p1.2 = some p2 ∧ p1.1 = p2.1 ∧ Rel (t + 1) p2.2
def sp_15 (Rel : Nat → g_M → Prop) : Prop := ∀ (t : Nat) (M : g_M) (a1 : Int32) (a2 : Int32), t < 64 → Rel t M → ∃ p1 p2, f_X11_as a1 a2 M = some p1 ∧ f_X12_as a1 a2 p1.2 = some p2 ∧ p1.1 = p2.1 ∧ Rel (t + 1) p2.2
def sp_16 (Rel : Nat → g_M → Prop) : Prop := ∀ (t : Nat) (M : g_M) (a1 : Int32) (a2 : Int32) (a3 : Int32), t < 64 → Rel t M → ∃ p1 p2, f_X11_key a1 a2 (g_b a3) M = some p1 ∧ f_X12_key a1 a2 (g_b a3) p1.2 = some p2 ∧ p1.1 = p2.1 ∧ Rel (t + 1) p2.2
def sp_17 (Rel : Nat → g_M → Prop) : Prop := ∀ (t : Nat) (M : g_M) (a1 : Int32) (a2 : Int32) (a3 : Int32), t < 64 → Rel t M → ∃ p1 p2, f_X11_lend a1 a2 a3 M = some p1 ∧ f_X12_lend a1 a2 a3 p1.2 = some p2 ∧ p1.1 = p2.1 ∧ Rel (t + 1) p2.2
def sp_18 (Rel : Nat → g_M → Prop) : Prop := ∀ (t : Nat) (M : g_M) (a1 : Int32) (a2 : Int32), t < 64 → Rel t M → ∃ p1 p2, f_X11_opens a1 a2 M = some p1 ∧ f_X12_opens_ a1 a2 p1.2 = some p2 ∧ p1.1 = p2.1 ∧ Rel (t + 1) p2.2
def sp_19 (Rel : Nat → g_M → Prop) : Prop := ∀ (t : Nat) (M : g_M) (a1 : Int32), t < 64 → Rel t M → ∃ p1 p2, f_X11_had a1 M = some p1 ∧ f_X12_had a1 p1.2 = some p2 ∧ p1.1 = p2.1 ∧ Rel (t + 1) p2.2
def sp_20 (Rel : Nat → g_M → Prop) : Prop := ∀ (t : Nat) (M : g_M) (a1 : Int32) (a2 : Int32), t < 64 → Rel t M → ∃ p1 p2, f_X11_round a1 a2 M = some p1 ∧ f_X12_round a1 a2 p1.2 = some p2 ∧ p1.1 = p2.1 ∧ Rel (t + 1) p2.2
def sp_21 (Rel : Nat → g_M → Prop) : Prop := ∀ (t : Nat) (M : g_M) (a1 : Int32) (a2 : Int32), t < 64 → Rel t M → ∃ p1 p2, f_X11_lets a1 a2 M = some p1 ∧ f_X12_lets a1 a2 p1.2 = some p2 ∧ p1.1 = p2.1 ∧ Rel (t + 1) p2.2
def sp_22 (Rel : Nat → g_M → Prop) : Prop := ∀ (t : Nat) (M : g_M) (a1 : Int32) (a2 : Int32), t < 64 → Rel t M → ∃ p1 p2, f_X11_shut a1 a2 M = some p1 ∧ f_X12_shut a1 a2 p1.2 = some p2 ∧ p1.1 = p2.1 ∧ Rel (t + 1) p2.2
def sp_23 (Rel : Nat → g_M → Prop) : Prop := ∀ (t : Nat) (M : g_M) (a1 : Int32), t < 64 → Rel t M → ∃ p1 p2, f_X11_wrongly a1 M = some p1 ∧ f_X12_wrongly a1 p1.2 = some p2 ∧ p1.1 = p2.1 ∧ Rel (t + 1) p2.2
def sp_24 (Rel : Nat → g_M → Prop) : Prop := ∀ (t : Nat) (M : g_M) (a1 : Int32), t < 64 → Rel t M → ∃ p1 p2, f_X11_lacks a1 M = some p1 ∧ f_X12_lacks a1 p1.2 = some p2 ∧ p1.1 = p2.1 ∧ Rel (t + 1) p2.2
def sp_25 (Rel : Nat → g_M → Prop) : Prop := ∀ (t : Nat) (M : g_M) (a1 : Int32) (a2 : Int32), t < 64 → Rel t M → ∃ p1 p2, f_X11_same a1 a2 M = some p1 ∧ f_X12_same a1 a2 p1.2 = some p2 ∧ p1.1 = p2.1 ∧ Rel (t + 1) p2.2
def sp_26 (Rel : Nat → g_M → Prop) : Prop := ∀ (t : Nat) (M : g_M) (a1 : Int32) (a2 : Int32), t < 64 → Rel t M → ∃ p1 p2, f_X11_bears a1 a2 M = some p1 ∧ f_X12_bears a1 a2 p1.2 = some p2 ∧ p1.1 = p2.1 ∧ Rel (t + 1) p2.2
def sp_27 (Rel : Nat → g_M → Prop) : Prop := ∀ (t : Nat) (M : g_M) (a1 : Int32) (a2 : Int32), t < 64 → Rel t M → ∃ p1 p2, f_X11_need a1 a2 M = some p1 ∧ f_X12_need_ a1 a2 p1.2 = some p2 ∧ p1.1 = p2.1 ∧ Rel (t + 1) p2.2
def sp_28 (Rel : Nat → g_M → Prop) : Prop := ∀ (t : Nat) (M : g_M) (a1 : Int32), t < 64 → Rel t M → ∃ p1 p2, f_X11_could a1 M = some p1 ∧ f_X12_could a1 p1.2 = some p2 ∧ p1.1 = p2.1 ∧ Rel (t + 1) p2.2
def sp_29 (Rel : Nat → g_M → Prop) : Prop := ∀ (t : Nat) (M : g_M), t < 64 → Rel t M → ∃ p1 p2, f_X11_build M = some p1 ∧ f_X12_build p1.2 = some p2 ∧ p1.1 = p2.1 ∧ Rel (t + 1) p2.2
def sp_30 (Rel : Nat → g_M → Prop) : Prop := ∀ (t : Nat) (M : g_M), t < 64 → Rel t M → ∃ p1 p2, f_X11_fewest M = some p1 ∧ f_X12_fewest p1.2 = some p2 ∧ p1.1 = p2.1 ∧ Rel (t + 1) p2.2
def sp_31 (Rel : Nat → g_M → Prop) : Prop := ∀ (t : Nat) (M : g_M) (a1 : Int32) (a2 : Int32) (a3 : Int32), t < 64 → Rel t M → ∃ p1 p2, f_X11_spare a1 a2 a3 M = some p1 ∧ f_X12_spare a1 a2 a3 p1.2 = some p2 ∧ p1.1 = p2.1 ∧ Rel (t + 1) p2.2
def sp_32 (Rel : Nat → g_M → Prop) : Prop := ∀ (t : Nat) (M : g_M) (a1 : Int32), t < 64 → Rel t M → ∃ p1 p2, f_X11_thin a1 M = some p1 ∧ f_X12_thin a1 p1.2 = some p2 ∧ p1.1 = p2.1 ∧ Rel (t + 1) p2.2
def sp_33 (Rel : Nat → g_M → Prop) : Prop := ∀ (t : Nat) (M : g_M) (a1 : Int32), t < 64 → Rel t M → ∃ p1 p2, f_X11_heavy a1 M = some p1 ∧ f_X12_heavy a1 p1.2 = some p2 ∧ p1.1 = p2.1 ∧ Rel (t + 1) p2.2
def sp_34 (Rel : Nat → g_M → Prop) : Prop := ∀ (t : Nat) (M : g_M) (a1 : Int32) (a2 : Int32), t < 64 → Rel t M → ∃ p1 p2, f_X11_judge a1 a2 M = some p1 ∧ f_X12_judge a1 a2 p1.2 = some p2 ∧ p1.1 = p2.1 ∧ Rel (t + 1) p2.2
def sp_35 (Rel : Nat → g_M → Prop) : Prop := ∀ (t : Nat) (M : g_M) (a1 : Int32) (a2 : Int32) (a3 : Int32), t < 64 → Rel t M → ∃ p1 p2, f_X11_sheet a1 a2 a3 M = some p1 ∧ f_X12_sheet a1 a2 a3 p1.2 = some p2 ∧ p1.1 = p2.1 ∧ Rel (t + 1) p2.2
def sp_36 (Rel : Nat → g_M → Prop) : Prop := ∀ (t : Nat) (M : g_M) (a1 : Int32) (a2 : Int32) (a3 : Int64), t < 64 → Rel t M → ∃ p1 p2, f_X11_write a1 a2 a3 M = some p1 ∧ f_X12_write a1 a2 a3 p1.2 = some p2 ∧ p1.1 = p2.1 ∧ Rel (t + 1) p2.2
def sp_37 (Rel : Nat → g_M → Prop) : Prop := ∀ (t : Nat) (M : g_M) (a1 : Int32) (a2 : Int32) (a3 : Int32) (a4 : Int32) (a5 : Int32), t < 64 → Rel t M → ∃ p1 p2, f_X11_copy a1 a2 a3 a4 a5 M = some p1 ∧ f_X12_copy a1 a2 a3 a4 a5 p1.2 = some p2 ∧ p1.1 = p2.1 ∧ Rel (t + 1) p2.2
def sp_38 (Rel : Nat → g_M → Prop) : Prop := ∀ (t : Nat) (M : g_M), t < 64 → Rel t M → ∃ p1 p2, f_X11_image M = some p1 ∧ f_X12_image p1.2 = some p2 ∧ p1.1 = p2.1 ∧ Rel (t + 1) p2.2
def sp_39 (Rel : Nat → g_M → Prop) : Prop := ∀ (t : Nat) (M : g_M), t < 64 → Rel t M → ∃ p1 p2, f_X11_undo M = some p1 ∧ f_X12_undo p1.2 = some p2 ∧ p1.1 = p2.1 ∧ Rel (t + 1) p2.2
def sp_40 (Rel : Nat → g_M → Prop) : Prop := ∀ (t : Nat) (M : g_M), t < 64 → Rel t M → ∃ p1 p2, f_X11_tear M = some p1 ∧ f_X12_tear p1.2 = some p2 ∧ p1.1 = p2.1 ∧ Rel (t + 1) p2.2
def sp_41 (Rel : Nat → g_M → Prop) : Prop := ∀ (t : Nat) (M : g_M) (a1 : Int32), t < 64 → Rel t M → ∃ p1 p2, f_X11_look a1 M = some p1 ∧ f_X12_look a1 p1.2 = some p2 ∧ p1.1 = p2.1 ∧ Rel (t + 1) p2.2
def sp_42 (Rel : Nat → g_M → Prop) : Prop := ∀ (t : Nat) (M : g_M) (a1 : Int32), t < 64 → Rel t M → ∃ p1 p2, f_X11_status a1 M = some p1 ∧ f_X12_status a1 p1.2 = some p2 ∧ p1.1 = p2.1 ∧ Rel (t + 1) p2.2
def lw_steps (Rel : Nat → g_M → Prop) : Prop := sp_0 Rel ∧ sp_1 Rel ∧ sp_2 Rel ∧ sp_3 Rel ∧ sp_4 Rel ∧ sp_5 Rel ∧ sp_6 Rel ∧ sp_7 Rel ∧ sp_8 Rel ∧ sp_9 Rel ∧ sp_10 Rel ∧ sp_11 Rel ∧ sp_12 Rel ∧ sp_13 Rel ∧ sp_14 Rel ∧ sp_15 Rel ∧ sp_16 Rel ∧ sp_17 Rel ∧ sp_18 Rel ∧ sp_19 Rel ∧ sp_20 Rel ∧ sp_21 Rel ∧ sp_22 Rel ∧ sp_23 Rel ∧ sp_24 Rel ∧ sp_25 Rel ∧ sp_26 Rel ∧ sp_27 Rel ∧ sp_28 Rel ∧ sp_29 Rel ∧ sp_30 Rel ∧ sp_31 Rel ∧ sp_32 Rel ∧ sp_33 Rel ∧ sp_34 Rel ∧ sp_35 Rel ∧ sp_36 Rel ∧ sp_37 Rel ∧ sp_38 Rel ∧ sp_39 Rel ∧ sp_40 Rel ∧ sp_41 Rel ∧ sp_42 Rel
set_option maxRecDepth 100000 in
theorem lw_loop {l : Launch} {X : g_X} {Y : g_Y} {b L : Nat} {xs : Nat → Int32} {Rel : Nat → g_M → Prop} (hst : lw_steps Rel) (C : g_C l room_1 RL cL_law 4 X Y) (S : g_Sc X b L xs)
    (hend : ∀ M, g_G 4 X Y 1550 [(0, .ref b), (1, g_r Y 0), (2, g_r Y 59)] [] M) :
    ∀ (n i u t : Nat) (M : g_M), L < i + n → i ≤ L → i = 6 * u → t ≤ u → Rel t M → g_G 4 X Y 18 [(0, .ref b), (1, g_r Y 0), (2, g_r Y 59), (3, .int (nI i))] [] M := by
  intro n
  have hL := S.2.2.2
  induction n with
  | zero =>
    intro i u t M h1 h0 h2 h3 hr
    exact absurd h1 (by omega)
  | succ n ih =>
    intro i u t M h1 h0 h2 h3 hr
    refine g_iload_n C 3 dL_law_18 (q := 19) rfl rfl rfl ?_
    refine g_aload_n C 0 dL_law_19 (q := 20) rfl rfl rfl ?_
    refine g_slen2 C S dL_law_20 (q := 21) rfl ?_
    refine g_bipush C (v := 6) dL_law_21 (q := 23) rfl (by decide) ?_
    refine g_isub C dL_law_23 (q := 24) rfl ?_
    refine g_icmp_gt C dL_law_24 (q := 27) (tgt := 1550) rfl (by decide) (fun c => ?_) (fun c => ?_)
    · refine g_sub [0, 1, 2] (lv' := [(0, .ref b), (1, g_r Y 0), (2, g_r Y 59)]) rfl ?_
      exact hend M
    have hi : i + 6 ≤ L := lw_le hL h0 c
    have ht : t < 64 := by omega
    have next : ∀ t2 M2, t2 ≤ u + 1 → Rel t2 M2 → g_G 4 X Y 1544 [(0, .ref b), (1, g_r Y 0), (2, g_r Y 59), (3, .int (nI i))] [] M2 := by
      intro t2 M2 hu hr2
      refine g_iinc C (k := 3) (v := nI i + 6) dL_law_1544 (q := 1547) rfl rfl rfl (by decide) (lv' := [(3, .int (nI i + 6)), (0, .ref b), (1, g_r Y 0), (2, g_r Y 59)]) rfl ?_
      refine g_goto C dL_law_1547 (tgt := 18) (by decide) ?_
      rw [show nI i + 6 = nI (i + 6) from nI_add i 6]
      refine g_sub [1, 2, 3, 0] (lv' := [(0, .ref b), (1, g_r Y 0), (2, g_r Y 59), (3, .int (nI (i + 6)))]) rfl ?_
      exact ih (i + 6) (u + 1) t2 M2 (by omega) (by omega) (by omega) hu hr2
    refine g_aload_n C 0 dL_law_27 (q := 28) rfl rfl rfl ?_
    refine g_iload_n C 3 dL_law_28 (q := 29) rfl rfl rfl ?_
    refine g_sld C S (k := i) rfl (by omega) dL_law_29 (q := 30) rfl ?_
    refine g_bipush C (v := 63) dL_law_30 (q := 32) rfl (by decide) ?_
    refine g_iand C dL_law_32 (q := 33) rfl ?_
    obtain ⟨j, hj, ej⟩ := pk_andE (xs i) (m := 63) 6 (by decide)
    rw [ej]
    have kk : ∀ M2, Rel (t + 1) M2 → g_G 4 X Y 1544 [(0, .ref b), (1, g_r Y 0), (2, g_r Y 59), (3, .int (nI i))] [] M2 := fun M2 hr2 => next (t + 1) M2 (by omega) hr2
    by_cases h42 : 42 < j
    · exact g_tabO C (tgt := 1544) dL_law_33 (Or.inr (by rw [nI_toInt (by omega)]; omega)) (by decide) (next t M (by omega) hr)
    · have h42 : j ≤ 42 := Nat.not_lt.mp h42
      clear ej hj
      match j, h42 with
      | 0, _ => exact g_tabI C (off := 187) (tgt := 220) dL_law_33 (by decide) (by decide) (by decide) (by decide) (lw_c0 C S hi (hst.1 t M (xs (i + 1)) ht hr) kk)
      | 1, _ => exact g_tabI C (off := 210) (tgt := 243) dL_law_33 (by decide) (by decide) (by decide) (by decide) (lw_c1 C S hi (hst.2.1 t M (xs (i + 1)) (xs (i + 2)) ht hr) kk)
      | 2, _ => exact g_tabI C (off := 243) (tgt := 276) dL_law_33 (by decide) (by decide) (by decide) (by decide) (lw_c2 C S hi (hst.2.2.1 t M (xs (i + 1)) (xs (i + 2)) ht hr) kk)
      | 3, _ => exact g_tabI C (off := 292) (tgt := 325) dL_law_33 (by decide) (by decide) (by decide) (by decide) (lw_c3 C S hi (hst.2.2.2.1 t M (xs (i + 1)) (xs (i + 2)) ht hr) kk)
      | 4, _ => exact g_tabI C (off := 325) (tgt := 358) dL_law_33 (by decide) (by decide) (by decide) (by decide) (lw_c4 C S hi (hst.2.2.2.2.1 t M  ht hr) kk)
      | 5, _ => exact g_tabI C (off := 338) (tgt := 371) dL_law_33 (by decide) (by decide) (by decide) (by decide) (lw_c5 C S hi (hst.2.2.2.2.2.1 t M  ht hr) kk)
      | 6, _ => exact g_tabI C (off := 351) (tgt := 384) dL_law_33 (by decide) (by decide) (by decide) (by decide) (lw_c6 C S hi (hst.2.2.2.2.2.2.1 t M (xs (i + 1)) ht hr) kk)
      | 7, _ => exact g_tabI C (off := 374) (tgt := 407) dL_law_33 (by decide) (by decide) (by decide) (by decide) (lw_c7 C S hi (hst.2.2.2.2.2.2.2.1 t M (xs (i + 1)) (xs (i + 2)) ht hr) kk)
      | 8, _ => exact g_tabI C (off := 407) (tgt := 440) dL_law_33 (by decide) (by decide) (by decide) (by decide) (lw_c8 C S hi (hst.2.2.2.2.2.2.2.2.1 t M  ht hr) kk)
      | 9, _ => exact g_tabI C (off := 420) (tgt := 453) dL_law_33 (by decide) (by decide) (by decide) (by decide) (lw_c9 C S hi (hst.2.2.2.2.2.2.2.2.2.1 t M (xs (i + 1)) ht hr) kk)
      | 10, _ => exact g_tabI C (off := 443) (tgt := 476) dL_law_33 (by decide) (by decide) (by decide) (by decide) (lw_c10 C S hi (hst.2.2.2.2.2.2.2.2.2.2.1 t M (xs (i + 1)) ht hr) kk)
      | 11, _ => exact g_tabI C (off := 466) (tgt := 499) dL_law_33 (by decide) (by decide) (by decide) (by decide) (lw_c11 C S hi (hst.2.2.2.2.2.2.2.2.2.2.2.1 t M (xs (i + 1)) (xs (i + 2)) ht hr) kk)
      | 12, _ => exact g_tabI C (off := 515) (tgt := 548) dL_law_33 (by decide) (by decide) (by decide) (by decide) (lw_c12 C S hi (hst.2.2.2.2.2.2.2.2.2.2.2.2.1 t M (xs (i + 1)) (xs (i + 2)) (xs (i + 3)) ht hr) kk)
      | 13, _ => exact g_tabI C (off := 574) (tgt := 607) dL_law_33 (by decide) (by decide) (by decide) (by decide) (lw_c13 C S hi (hst.2.2.2.2.2.2.2.2.2.2.2.2.2.1 t M (xs (i + 1)) (xs (i + 2)) ht hr) kk)
      | 14, _ => exact g_tabI C (off := 607) (tgt := 640) dL_law_33 (by decide) (by decide) (by decide) (by decide) (lw_c14 C S hi (hst.2.2.2.2.2.2.2.2.2.2.2.2.2.2.1 t M (xs (i + 1)) (xs (i + 2)) ht hr) kk)
      | 15, _ => exact g_tabI C (off := 640) (tgt := 673) dL_law_33 (by decide) (by decide) (by decide) (by decide) (lw_c15 C S hi (hst.2.2.2.2.2.2.2.2.2.2.2.2.2.2.2.1 t M (xs (i + 1)) (xs (i + 2)) ht hr) kk)
      | 16, _ => exact g_tabI C (off := 673) (tgt := 706) dL_law_33 (by decide) (by decide) (by decide) (by decide) (lw_c16 C S hi (hst.2.2.2.2.2.2.2.2.2.2.2.2.2.2.2.2.1 t M (xs (i + 1)) (xs (i + 2)) (xs (i + 3)) ht hr) kk)
      | 17, _ => exact g_tabI C (off := 732) (tgt := 765) dL_law_33 (by decide) (by decide) (by decide) (by decide) (lw_c17 C S hi (hst.2.2.2.2.2.2.2.2.2.2.2.2.2.2.2.2.2.1 t M (xs (i + 1)) (xs (i + 2)) (xs (i + 3)) ht hr) kk)
      | 18, _ => exact g_tabI C (off := 775) (tgt := 808) dL_law_33 (by decide) (by decide) (by decide) (by decide) (lw_c18 C S hi (hst.2.2.2.2.2.2.2.2.2.2.2.2.2.2.2.2.2.2.1 t M (xs (i + 1)) (xs (i + 2)) ht hr) kk)
      | 19, _ => exact g_tabI C (off := 808) (tgt := 841) dL_law_33 (by decide) (by decide) (by decide) (by decide) (lw_c19 C S hi (hst.2.2.2.2.2.2.2.2.2.2.2.2.2.2.2.2.2.2.2.1 t M (xs (i + 1)) ht hr) kk)
      | 20, _ => exact g_tabI C (off := 831) (tgt := 864) dL_law_33 (by decide) (by decide) (by decide) (by decide) (lw_c20 C S hi (hst.2.2.2.2.2.2.2.2.2.2.2.2.2.2.2.2.2.2.2.2.1 t M (xs (i + 1)) (xs (i + 2)) ht hr) kk)
      | 21, _ => exact g_tabI C (off := 864) (tgt := 897) dL_law_33 (by decide) (by decide) (by decide) (by decide) (lw_c21 C S hi (hst.2.2.2.2.2.2.2.2.2.2.2.2.2.2.2.2.2.2.2.2.2.1 t M (xs (i + 1)) (xs (i + 2)) ht hr) kk)
      | 22, _ => exact g_tabI C (off := 897) (tgt := 930) dL_law_33 (by decide) (by decide) (by decide) (by decide) (lw_c22 C S hi (hst.2.2.2.2.2.2.2.2.2.2.2.2.2.2.2.2.2.2.2.2.2.2.1 t M (xs (i + 1)) (xs (i + 2)) ht hr) kk)
      | 23, _ => exact g_tabI C (off := 930) (tgt := 963) dL_law_33 (by decide) (by decide) (by decide) (by decide) (lw_c23 C S hi (hst.2.2.2.2.2.2.2.2.2.2.2.2.2.2.2.2.2.2.2.2.2.2.2.1 t M (xs (i + 1)) ht hr) kk)
      | 24, _ => exact g_tabI C (off := 953) (tgt := 986) dL_law_33 (by decide) (by decide) (by decide) (by decide) (lw_c24 C S hi (hst.2.2.2.2.2.2.2.2.2.2.2.2.2.2.2.2.2.2.2.2.2.2.2.2.1 t M (xs (i + 1)) ht hr) kk)
      | 25, _ => exact g_tabI C (off := 976) (tgt := 1009) dL_law_33 (by decide) (by decide) (by decide) (by decide) (lw_c25 C S hi (hst.2.2.2.2.2.2.2.2.2.2.2.2.2.2.2.2.2.2.2.2.2.2.2.2.2.1 t M (xs (i + 1)) (xs (i + 2)) ht hr) kk)
      | 26, _ => exact g_tabI C (off := 1009) (tgt := 1042) dL_law_33 (by decide) (by decide) (by decide) (by decide) (lw_c26 C S hi (hst.2.2.2.2.2.2.2.2.2.2.2.2.2.2.2.2.2.2.2.2.2.2.2.2.2.2.1 t M (xs (i + 1)) (xs (i + 2)) ht hr) kk)
      | 27, _ => exact g_tabI C (off := 1042) (tgt := 1075) dL_law_33 (by decide) (by decide) (by decide) (by decide) (lw_c27 C S hi (hst.2.2.2.2.2.2.2.2.2.2.2.2.2.2.2.2.2.2.2.2.2.2.2.2.2.2.2.1 t M (xs (i + 1)) (xs (i + 2)) ht hr) kk)
      | 28, _ => exact g_tabI C (off := 1075) (tgt := 1108) dL_law_33 (by decide) (by decide) (by decide) (by decide) (lw_c28 C S hi (hst.2.2.2.2.2.2.2.2.2.2.2.2.2.2.2.2.2.2.2.2.2.2.2.2.2.2.2.2.1 t M (xs (i + 1)) ht hr) kk)
      | 29, _ => exact g_tabI C (off := 1098) (tgt := 1131) dL_law_33 (by decide) (by decide) (by decide) (by decide) (lw_c29 C S hi (hst.2.2.2.2.2.2.2.2.2.2.2.2.2.2.2.2.2.2.2.2.2.2.2.2.2.2.2.2.2.1 t M  ht hr) kk)
      | 30, _ => exact g_tabI C (off := 1111) (tgt := 1144) dL_law_33 (by decide) (by decide) (by decide) (by decide) (lw_c30 C S hi (hst.2.2.2.2.2.2.2.2.2.2.2.2.2.2.2.2.2.2.2.2.2.2.2.2.2.2.2.2.2.2.1 t M  ht hr) kk)
      | 31, _ => exact g_tabI C (off := 1124) (tgt := 1157) dL_law_33 (by decide) (by decide) (by decide) (by decide) (lw_c31 C S hi (hst.2.2.2.2.2.2.2.2.2.2.2.2.2.2.2.2.2.2.2.2.2.2.2.2.2.2.2.2.2.2.2.1 t M (xs (i + 1)) (xs (i + 2)) (xs (i + 3)) ht hr) kk)
      | 32, _ => exact g_tabI C (off := 1167) (tgt := 1200) dL_law_33 (by decide) (by decide) (by decide) (by decide) (lw_c32 C S hi (hst.2.2.2.2.2.2.2.2.2.2.2.2.2.2.2.2.2.2.2.2.2.2.2.2.2.2.2.2.2.2.2.2.1 t M (xs (i + 1)) ht hr) kk)
      | 33, _ => exact g_tabI C (off := 1190) (tgt := 1223) dL_law_33 (by decide) (by decide) (by decide) (by decide) (lw_c33 C S hi (hst.2.2.2.2.2.2.2.2.2.2.2.2.2.2.2.2.2.2.2.2.2.2.2.2.2.2.2.2.2.2.2.2.2.1 t M (xs (i + 1)) ht hr) kk)
      | 34, _ => exact g_tabI C (off := 1213) (tgt := 1246) dL_law_33 (by decide) (by decide) (by decide) (by decide) (lw_c34 C S hi (hst.2.2.2.2.2.2.2.2.2.2.2.2.2.2.2.2.2.2.2.2.2.2.2.2.2.2.2.2.2.2.2.2.2.2.1 t M (xs (i + 1)) (xs (i + 2)) ht hr) kk)
      | 35, _ => exact g_tabI C (off := 1246) (tgt := 1279) dL_law_33 (by decide) (by decide) (by decide) (by decide) (lw_c35 C S hi (hst.2.2.2.2.2.2.2.2.2.2.2.2.2.2.2.2.2.2.2.2.2.2.2.2.2.2.2.2.2.2.2.2.2.2.2.1 t M (xs (i + 1)) (xs (i + 2)) (xs (i + 3)) ht hr) kk)
      | 36, _ => exact g_tabI C (off := 1289) (tgt := 1322) dL_law_33 (by decide) (by decide) (by decide) (by decide) (lw_c36 C S hi (hst.2.2.2.2.2.2.2.2.2.2.2.2.2.2.2.2.2.2.2.2.2.2.2.2.2.2.2.2.2.2.2.2.2.2.2.2.1 t M (xs (i + 1)) (xs (i + 2)) (g_j (xs (i + 3)) (xs (i + 4))) ht hr) kk)
      | 37, _ => exact g_tabI C (off := 1363) (tgt := 1396) dL_law_33 (by decide) (by decide) (by decide) (by decide) (lw_c37 C S hi (hst.2.2.2.2.2.2.2.2.2.2.2.2.2.2.2.2.2.2.2.2.2.2.2.2.2.2.2.2.2.2.2.2.2.2.2.2.2.1 t M (xs (i + 1)) (xs (i + 2)) (xs (i + 3)) (xs (i + 4)) (xs (i + 5)) ht hr) kk)
      | 38, _ => exact g_tabI C (off := 1426) (tgt := 1459) dL_law_33 (by decide) (by decide) (by decide) (by decide) (lw_c38 C S hi (hst.2.2.2.2.2.2.2.2.2.2.2.2.2.2.2.2.2.2.2.2.2.2.2.2.2.2.2.2.2.2.2.2.2.2.2.2.2.2.1 t M  ht hr) kk)
      | 39, _ => exact g_tabI C (off := 1439) (tgt := 1472) dL_law_33 (by decide) (by decide) (by decide) (by decide) (lw_c39 C S hi (hst.2.2.2.2.2.2.2.2.2.2.2.2.2.2.2.2.2.2.2.2.2.2.2.2.2.2.2.2.2.2.2.2.2.2.2.2.2.2.2.1 t M  ht hr) kk)
      | 40, _ => exact g_tabI C (off := 1452) (tgt := 1485) dL_law_33 (by decide) (by decide) (by decide) (by decide) (lw_c40 C S hi (hst.2.2.2.2.2.2.2.2.2.2.2.2.2.2.2.2.2.2.2.2.2.2.2.2.2.2.2.2.2.2.2.2.2.2.2.2.2.2.2.2.1 t M  ht hr) kk)
      | 41, _ => exact g_tabI C (off := 1465) (tgt := 1498) dL_law_33 (by decide) (by decide) (by decide) (by decide) (lw_c41 C S hi (hst.2.2.2.2.2.2.2.2.2.2.2.2.2.2.2.2.2.2.2.2.2.2.2.2.2.2.2.2.2.2.2.2.2.2.2.2.2.2.2.2.2.1 t M (xs (i + 1)) ht hr) kk)
      | 42, _ => exact g_tabI C (off := 1488) (tgt := 1521) dL_law_33 (by decide) (by decide) (by decide) (by decide) (lw_c42 C S hi (hst.2.2.2.2.2.2.2.2.2.2.2.2.2.2.2.2.2.2.2.2.2.2.2.2.2.2.2.2.2.2.2.2.2.2.2.2.2.2.2.2.2.2 t M (xs (i + 1)) ht hr) kk)
      | n + 43, h => exact absurd h (by omega)
