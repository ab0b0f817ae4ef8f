/-! the law's calls -/
/-- what the law stands on -/
def lq_X (p : Program) (s : State) (m : MethodId) (c : Code) (b L : Nat) (xs : Nat → Int32) (D : va_G) (tys : List (ClassId × FieldType)) (cA : Nat → Nat) : Prop :=
  p.tables.exec = Jvm.exec ∧ c.code = code ∧ c.maxLocals = 8 ∧ s.vm.findClass R_law = some m.cls ∧ (∀ w ∈ lw_tbl, w.before #[Value.ref b] s = true) ∧ va_X b L xs s s.heap ∧ b < s.heap.size ∧ va_K D vwCl tys s ∧ mz_tys cA tys mq_sk
/-- all that has come since the law began -/
def lq_A (s : State) : Nat → Prop := fun q => s.heap.size ≤ q
theorem mq_in_tbl {w : Cond} (h : w ∈ mq_Ts) : w ∈ lw_tbl := (List.mem_filter.mp h).1
theorem mq_goodL {J : mz_I} (hJ : Cond.code (mz_y J) (mz_cc J) (mz_nL J) (mz_rt J) ∈ mq_Ts) : GoodIn lw_tbl (mz_ws mq_Ts J) := by
  intro w hw
  rcases List.mem_cons.mp hw with rfl | hw
  · exact ⟨mq_in_tbl hJ, good_of_word (mq_hg _ hJ)⟩
  · exact ⟨mq_in_tbl hw, good_of_word (mq_hg _ hw)⟩
section LQ
variable {p : Program} {l : Launch} {e : Env} {s : State} {m : MethodId} {below : List Frame} {meth : Method} {c : Code} {Q : State → Prop}
variable {kc ks : Nat} {D : va_G} {tys : List (ClassId × FieldType)} {cA ad : Nat → Nat} {b L : Nat} {xs : Nat → Int32} {i : Int32}
theorem lq_back {R : Room} {args : Array Value} {A0 A1 : Nat → Prop} {H H0 : Heap} {locs : List Loc} {pc cells slots : Nat} {ls : Array Slot} {st0 rest : List Value} {res : mz_O} {a : Array Value} {free : Nat → Prop} (hr : va_Run p l e R s m args below meth c H locs cells slots 0 0 (F0 m pc ls st0) rest (mz_Q mq_sk cA ad D vwCl tys res A1 a) free) (hS : va_S A0 H0 H locs) (hA : ∀ q, q < H.size → A1 q → A0 q) (hA2 : ∀ q, A1 q → A0 q) (hf : ∀ q, free q → A0 q)
    (kk : ∀ (H1 : Heap) (locs1 : List Loc), va_P D vwCl (mz_wl cA ad res.2 0 mq_sk) H1 → va_D A0 (mz_wl cA ad res.2 0 mq_sk) → va_S A0 H0 H1 locs1 → W p l e R s m args below meth c H1 locs1 cells slots Q (F0 m (pc + 3) ls ((res.1.map (mz_cv ad)).toList ++ rest))) : W p l e R s m args below meth c H locs cells slots Q (F0 m pc ls st0) := by
  intro T hT X
  obtain ⟨v, st₀, t, T', L, h0, X', hL, e1, e2, ⟨⟨hv, qP, qK, qD⟩, hz, hk⟩, st⟩ := hr T hT X
  cases hv
  rw [h0] at hz hk
  obtain ⟨t2, a1, b1⟩ := kk T'.heap (locs ++ L) (by rw [e1]; exact qP) (qD.weaken (fun _ _ _ h => hA2 _ h))
    ⟨Nat.le_trans hS.1 (by rw [e1]; exact hz), fun q h1 h2 => by rw [e1, hk q (Nat.lt_of_lt_of_le h1 hS.1) (fun z => h2 (hA q (Nat.lt_of_lt_of_le h1 hS.1) z))]; exact hS.2.1 q h1 h2, fun q hq => by
      rcases List.mem_append.mp hq with h | h
      · exact hS.2.2 q h
      · exact hf _ (hL q h)⟩ T' rfl X'
  exact ⟨t2, st t2 a1, b1⟩
theorem lq_call (X : lq_X p s m c b L xs D tys cA) {J : mz_I} {a b9 i9 pc cells slots : Nat} {As rest : List Value} {fs : List (Option Nat)} {M : mz_M} {r1 : mz_O} {H : Heap} {locs : List Loc} {ls : Array Slot} (hJ : mz_nth mq_tab a = some J) (a3 : As.length = mz_np J) (a4 : mz_sta J = false) (a5 : mz_nth mq_sk b9 = some (.inr (mz_ci J, fs))) (a6 : (rest.map fun v => v.category).sum ≤ 8) (a7 : (lg_sl (Value.ref b9 :: As)).length ≤ mz_nL J) (hlink : Cond.methodLink R_law i9 (mz_y J) ∈ mq_Ts) (hroom : mz_fr J + 1 ≤ room_1.frames ∧ 8 + (mz_nL J + 11) + mz_lo J ≤ room_1.locals) (hcs : cells ≤ room_1.cells ∧ slots ≤ room_1.slots) (hdg : decode code pc = .ok (.invokevirtual i9, 3)) (hrun : mq_C J (.ref b9 :: As) M r1)
    (h1 : va_P D vwCl (mz_wl cA ad M 0 mq_sk) H) (h2 : va_D (lq_A s) (mz_wl cA ad M 0 mq_sk)) (h3 : va_S (lq_A s) s.heap H locs) (hsz : ls.size = 8)
    (kk : ∀ (H1 : Heap) (locs1 : List Loc), va_P D vwCl (mz_wl cA ad r1.2 0 mq_sk) H1 → va_D (lq_A s) (mz_wl cA ad r1.2 0 mq_sk) → va_S (lq_A s) s.heap H1 locs1 → W p l e room_1 s m #[Value.ref b] below meth c H1 locs1 cells slots Q (F0 m (pc + 3) ls ((r1.1.map (mz_cv ad)).toList ++ rest))) :
    W p l e room_1 s m #[Value.ref b] below meth c H locs cells slots Q (F0 m pc ls (As.reverse.map (mz_cv ad) ++ .ref (ad b9) :: rest)) := by
  obtain ⟨hx, hb, hml, hown, hts, hX, hbl, hK, hty⟩ := X
  have hts2 : ∀ w ∈ mq_Ts, w.before #[Value.ref b] s = true := fun w hw => hts w (mq_in_tbl hw)
  obtain ⟨n9, hrun⟩ := hrun
  obtain ⟨⟨m1, m2, m3, m4, -, m5⟩, -⟩ := mq_ok _ J hJ
  obtain ⟨m6, m7, q9, m8, m9⟩ := m5 a4
  have hM := mz_sim (l := l) (D := D) (ad := ad) mq_ok mq_hg mq_hLK hty mq_cls mq_cpy mq_min n9 _ J (.ref b9 :: As) M r1 H.size hJ hrun a7
  have hw : (mz_wl cA ad M 0 mq_sk)[b9]? = some (ad b9, .inr (mz_ci J, mz_fs ad M b9 0 fs)) := mz_w_at a5
  have hCB := callB_of (R := room_1) (rm := mz_rm J) (ws := mz_ws mq_Ts J) (ws' := mq_Ts) (mc := 0) (ms := 0) (own := R_law) (index := i9) (mz_np J) hts (mq_goodL m2) rfl rfl rfl (hts2 _ m3) (hts2 _ hlink) m4 hroom
  have hrcv := va_recv hK h1 m8 hw
  rw [m9] at hrcv
  have hrn := va_runV (e := e) (below := below) (meth := meth) (C := (mz_y J).cls) (b := ad b9) (As := As.map (mz_cv ad)) (rest := rest) (g := F0 m pc ls (As.reverse.map (mz_cv ad) ++ .ref (ad b9) :: rest)) (locs := locs) (cells := cells) (slots := slots) ⟨hx, hb, hml, hown, hts⟩ hM ⟨hCB, hts2 _ m6, hts2 _ m7⟩ ⟨mz_blind, hrcv, fun U hU hW => ⟨rfl, by rw [hU], by rw [hU]; exact h1, va_K.moved hW.alike hK, h2.weaken (fun _ _ _ _ => trivial)⟩⟩ rfl (by rw [List.length_map]; exact a3) hsz (by rw [List.map_reverse]) (lv_room a6) hdg hcs
  have hsub : ∀ q, va_A (mz_wl cA ad M 0 mq_sk) H.size q → lq_A s q := by
    rintro q (⟨k0, e0, h⟩ | h)
    · exact h2.2 k0 _ h
    · exact Nat.le_trans h3.1 h
  exact lq_back hrn h3 (fun q _ h => hsub q h) hsub hsub kk
/-- the j-th int of the block -/
theorem lq_ld (X : lq_X p s m c b L xs D tys cA) {pc cells slots : Nat} {j : Int} {v : Int32} {H : Heap} {locs : List Loc} {ls : Array Slot} {lv : List (Nat × Value)} {rest : List Value} (d0 : decode code pc = .ok (.aload_n 0, 1)) (d1 : decode code (pc + 1) = .ok (.iload 4, 2)) (d2 : decode code (pc + 3) = .ok (.iconst j, 1)) (d3 : decode code (pc + 4) = .ok (.iadd, 1)) (d4 : decode code (pc + 5) = .ok (.iaload, 1)) (hv : Int32.ofInt j = v) (hin : vp_in (i + v) L) (hl : lv_has ls 8 ((4, .int i) :: (0, .ref b) :: lv)) (hS : va_S (lq_A s) s.heap H locs)
    (kk : W p l e room_1 s m #[Value.ref b] below meth c H locs cells slots Q (F0 m (pc + 6) ls (.int (xs (i + v).toNatClampNeg) :: rest))) : W p l e room_1 s m #[Value.ref b] below meth c H locs cells slots Q (F0 m pc ls rest) := by
  obtain ⟨hx, hb, hml, hown, hts, hX, hbl, hK, hty⟩ := X
  refine lv_aload_n hx hb d0 rfl (lv_at hl 1 rfl) ?_
  refine lv_iload hx hb d1 (lv_at hl 0 rfl) ?_
  refine lv_iconst hx hb d2 hv ?_
  refine lv_iadd hx hb d3 ?_
  exact va_sld hx hb hX hbl (Nat.not_le.mpr hbl) hS hin d4 kk
/-- at a place of the law's loop, at the block at i -/
def lq_H (p : Program) (l : Launch) (e : Env) (s : State) (m : MethodId) (below : List Frame) (meth : Method) (c : Code) (Q : State → Prop) (D : va_G) (cA ad : Nat → Nat) (b : Nat) (kc ks : Nat) (pc : Nat) (i : Int32) : Prop :=
  ∀ (H : Heap) (locs : List Loc) (ls : Array Slot) (M : mz_M) (σ : zSg), zBo σ M → va_P D vwCl (mz_wl cA ad M 0 mq_sk) H → va_D (lq_A s) (mz_wl cA ad M 0 mq_sk) → va_S (lq_A s) s.heap H locs → lv_has ls 8 [(4, .int i), (0, .ref b), (1, .ref (ad 0)), (2, .ref (ad 77)), (3, .ref (ad 91))] →
    W p l e room_1 s m #[Value.ref b] below meth c H locs kc ks Q (F0 m pc ls [])
theorem lq_c0 (X : lq_X p s m c b L xs D tys cA) (h1 : vp_in (i + 1) L) (hcs : kc ≤ room_1.cells ∧ ks ≤ room_1.slots) (kk : lq_H p l e s m below meth c Q D cA ad b kc ks 2139 i) : lq_H p l e s m below meth c Q D cA ad b kc ks 296 i := by
  intro H locs ls M σ hB hP hD hS hl
  obtain ⟨M1, M2, r1, r2, hB2⟩ := b_sign hB (xs (i + 1).toNatClampNeg)
  refine lv_aload_n X.1 X.2.1 dL_law_296 rfl (lv_at hl 2 rfl) ?_
  refine lq_ld X dL_law_297 dL_law_298 dL_law_300 dL_law_301 dL_law_302 (v := 1) rfl h1 hl hS ?_
  refine lq_call X (a := 63) (b9 := 0) (As := [.int _]) (rest := []) rfl rfl rfl rfl (Nat.le_of_ble_eq_true rfl) (Nat.le_of_ble_eq_true rfl) (mq_at_in (q := (1, 233)) (by decide +kernel)) ⟨Nat.le_of_ble_eq_true rfl, Nat.le_of_ble_eq_true rfl⟩ hcs dL_law_303 r1 hP hD hS hl.1 (fun H locs hP hD hS => ?_)
  refine lv_aload_n X.1 X.2.1 dL_law_306 rfl (lv_at hl 3 rfl) ?_
  refine lq_ld X dL_law_307 dL_law_308 dL_law_310 dL_law_311 dL_law_312 (v := 1) rfl h1 hl hS ?_
  refine lq_call X (a := 137) (b9 := 77) (As := [.int _]) (rest := [.int _]) rfl rfl rfl rfl (Nat.le_of_ble_eq_true rfl) (Nat.le_of_ble_eq_true rfl) (mq_at_in (q := (4, 194)) (by decide +kernel)) ⟨Nat.le_of_ble_eq_true rfl, Nat.le_of_ble_eq_true rfl⟩ hcs dL_law_313 r2 hP hD hS hl.1 (fun H locs hP hD hS => ?_)
  exact lv_icmp_eq X.1 X.2.1 dL_law_316 rfl (fun _ => kk H locs ls M2 _ hB2 hP hD hS hl) (fun q => absurd rfl q)
theorem lq_c1 (X : lq_X p s m c b L xs D tys cA) (h1 : vp_in (i + 1) L) (hcs : kc ≤ room_1.cells ∧ ks ≤ room_1.slots) (kk : lq_H p l e s m below meth c Q D cA ad b kc ks 2139 i) : lq_H p l e s m below meth c Q D cA ad b kc ks 321 i := by
  intro H locs ls M σ hB hP hD hS hl
  obtain ⟨M1, M2, r1, r2, hB2⟩ := b_end hB (xs (i + 1).toNatClampNeg)
  refine lv_aload_n X.1 X.2.1 dL_law_321 rfl (lv_at hl 2 rfl) ?_
  refine lq_ld X dL_law_322 dL_law_323 dL_law_325 dL_law_326 dL_law_327 (v := 1) rfl h1 hl hS ?_
  refine lq_call X (a := 64) (b9 := 0) (As := [.int _]) (rest := []) rfl rfl rfl rfl (Nat.le_of_ble_eq_true rfl) (Nat.le_of_ble_eq_true rfl) (mq_at_in (q := (2, 1)) (by decide +kernel)) ⟨Nat.le_of_ble_eq_true rfl, Nat.le_of_ble_eq_true rfl⟩ hcs dL_law_328 r1 hP hD hS hl.1 (fun H locs hP hD hS => ?_)
  refine lv_aload_n X.1 X.2.1 dL_law_331 rfl (lv_at hl 3 rfl) ?_
  refine lq_ld X dL_law_332 dL_law_333 dL_law_335 dL_law_336 dL_law_337 (v := 1) rfl h1 hl hS ?_
  refine lq_call X (a := 138) (b9 := 77) (As := [.int _]) (rest := [.int _]) rfl rfl rfl rfl (Nat.le_of_ble_eq_true rfl) (Nat.le_of_ble_eq_true rfl) (mq_at_in (q := (4, 198)) (by decide +kernel)) ⟨Nat.le_of_ble_eq_true rfl, Nat.le_of_ble_eq_true rfl⟩ hcs dL_law_338 r2 hP hD hS hl.1 (fun H locs hP hD hS => ?_)
  exact lv_icmp_eq X.1 X.2.1 dL_law_341 rfl (fun _ => kk H locs ls M2 _ hB2 hP hD hS hl) (fun q => absurd rfl q)
theorem lq_c2 (X : lq_X p s m c b L xs D tys cA) (hcs : kc ≤ room_1.cells ∧ ks ≤ room_1.slots) (kk : lq_H p l e s m below meth c Q D cA ad b kc ks 2139 i) : lq_H p l e s m below meth c Q D cA ad b kc ks 346 i := by
  intro H locs ls M σ hB hP hD hS hl
  obtain ⟨M1, M2, r1, r2, hB2⟩ := b_field hB
  refine lv_aload_n X.1 X.2.1 dL_law_346 rfl (lv_at hl 2 rfl) ?_
  refine lq_call X (a := 65) (b9 := 0) (As := []) (rest := []) rfl rfl rfl rfl (Nat.le_of_ble_eq_true rfl) (Nat.le_of_ble_eq_true rfl) (mq_at_in (q := (2, 9)) (by decide +kernel)) ⟨Nat.le_of_ble_eq_true rfl, Nat.le_of_ble_eq_true rfl⟩ hcs dL_law_347 r1 hP hD hS hl.1 (fun H locs hP hD hS => ?_)
  refine lv_aload_n X.1 X.2.1 dL_law_350 rfl (lv_at hl 3 rfl) ?_
  refine lq_call X (a := 180) (b9 := 77) (As := []) (rest := [.int _]) rfl rfl rfl rfl (Nat.le_of_ble_eq_true rfl) (Nat.le_of_ble_eq_true rfl) (mq_at_in (q := (4, 205)) (by decide +kernel)) ⟨Nat.le_of_ble_eq_true rfl, Nat.le_of_ble_eq_true rfl⟩ hcs dL_law_351 r2 hP hD hS hl.1 (fun H locs hP hD hS => ?_)
  exact lv_icmp_eq X.1 X.2.1 dL_law_354 rfl (fun _ => kk H locs ls M2 _ hB2 hP hD hS hl) (fun q => absurd rfl q)
theorem lq_c3 (X : lq_X p s m c b L xs D tys cA) (h1 : vp_in (i + 1) L) (hcs : kc ≤ room_1.cells ∧ ks ≤ room_1.slots) (kk : lq_H p l e s m below meth c Q D cA ad b kc ks 2139 i) : lq_H p l e s m below meth c Q D cA ad b kc ks 359 i := by
  intro H locs ls M σ hB hP hD hS hl
  obtain ⟨M1, M2, r1, r2, hB2⟩ := b_poly hB (xs (i + 1).toNatClampNeg)
  refine lv_aload_n X.1 X.2.1 dL_law_359 rfl (lv_at hl 2 rfl) ?_
  refine lq_ld X dL_law_360 dL_law_361 dL_law_363 dL_law_364 dL_law_365 (v := 1) rfl h1 hl hS ?_
  refine lq_call X (a := 66) (b9 := 0) (As := [.int _]) (rest := []) rfl rfl rfl rfl (Nat.le_of_ble_eq_true rfl) (Nat.le_of_ble_eq_true rfl) (mq_at_in (q := (2, 52)) (by decide +kernel)) ⟨Nat.le_of_ble_eq_true rfl, Nat.le_of_ble_eq_true rfl⟩ hcs dL_law_366 r1 hP hD hS hl.1 (fun H locs hP hD hS => ?_)
  refine lv_aload_n X.1 X.2.1 dL_law_369 rfl (lv_at hl 3 rfl) ?_
  refine lq_ld X dL_law_370 dL_law_371 dL_law_373 dL_law_374 dL_law_375 (v := 1) rfl h1 hl hS ?_
  refine lq_call X (a := 181) (b9 := 77) (As := [.int _]) (rest := [.int _]) rfl rfl rfl rfl (Nat.le_of_ble_eq_true rfl) (Nat.le_of_ble_eq_true rfl) (mq_at_in (q := (5, 5)) (by decide +kernel)) ⟨Nat.le_of_ble_eq_true rfl, Nat.le_of_ble_eq_true rfl⟩ hcs dL_law_376 r2 hP hD hS hl.1 (fun H locs hP hD hS => ?_)
  exact lv_icmp_eq X.1 X.2.1 dL_law_379 rfl (fun _ => kk H locs ls M2 _ hB2 hP hD hS hl) (fun q => absurd rfl q)
theorem lq_c4 (X : lq_X p s m c b L xs D tys cA) (h1 : vp_in (i + 1) L) (h2 : vp_in (i + 2) L) (hcs : kc ≤ room_1.cells ∧ ks ≤ room_1.slots) (kk : lq_H p l e s m below meth c Q D cA ad b kc ks 2139 i) : lq_H p l e s m below meth c Q D cA ad b kc ks 384 i := by
  intro H locs ls M σ hB hP hD hS hl
  obtain ⟨M1, M2, r1, r2, hB2⟩ := b_product hB (xs (i + 1).toNatClampNeg) (xs (i + 2).toNatClampNeg)
  refine lv_aload_n X.1 X.2.1 dL_law_384 rfl (lv_at hl 2 rfl) ?_
  refine lq_ld X dL_law_385 dL_law_386 dL_law_388 dL_law_389 dL_law_390 (v := 1) rfl h1 hl hS ?_
  refine lq_ld X dL_law_391 dL_law_392 dL_law_394 dL_law_395 dL_law_396 (v := 2) rfl h2 hl hS ?_
  refine lq_call X (a := 67) (b9 := 0) (As := [.int _, .int _]) (rest := []) rfl rfl rfl rfl (Nat.le_of_ble_eq_true rfl) (Nat.le_of_ble_eq_true rfl) (mq_at_in (q := (2, 57)) (by decide +kernel)) ⟨Nat.le_of_ble_eq_true rfl, Nat.le_of_ble_eq_true rfl⟩ hcs dL_law_397 r1 hP hD hS hl.1 (fun H locs hP hD hS => ?_)
  refine lv_aload_n X.1 X.2.1 dL_law_400 rfl (lv_at hl 3 rfl) ?_
  refine lq_ld X dL_law_401 dL_law_402 dL_law_404 dL_law_405 dL_law_406 (v := 1) rfl h1 hl hS ?_
  refine lq_ld X dL_law_407 dL_law_408 dL_law_410 dL_law_411 dL_law_412 (v := 2) rfl h2 hl hS ?_
  refine lq_call X (a := 182) (b9 := 77) (As := [.int _, .int _]) (rest := [.int _]) rfl rfl rfl rfl (Nat.le_of_ble_eq_true rfl) (Nat.le_of_ble_eq_true rfl) (mq_at_in (q := (5, 11)) (by decide +kernel)) ⟨Nat.le_of_ble_eq_true rfl, Nat.le_of_ble_eq_true rfl⟩ hcs dL_law_413 r2 hP hD hS hl.1 (fun H locs hP hD hS => ?_)
  exact lv_icmp_eq X.1 X.2.1 dL_law_416 rfl (fun _ => kk H locs ls M2 _ hB2 hP hD hS hl) (fun q => absurd rfl q)
theorem lq_c5 (X : lq_X p s m c b L xs D tys cA) (h1 : vp_in (i + 1) L) (hcs : kc ≤ room_1.cells ∧ ks ≤ room_1.slots) (kk : lq_H p l e s m below meth c Q D cA ad b kc ks 2139 i) : lq_H p l e s m below meth c Q D cA ad b kc ks 421 i := by
  intro H locs ls M σ hB hP hD hS hl
  obtain ⟨M1, M2, r1, r2, hB2⟩ := b_inverse hB (xs (i + 1).toNatClampNeg)
  refine lv_aload_n X.1 X.2.1 dL_law_421 rfl (lv_at hl 2 rfl) ?_
  refine lq_ld X dL_law_422 dL_law_423 dL_law_425 dL_law_426 dL_law_427 (v := 1) rfl h1 hl hS ?_
  refine lq_call X (a := 68) (b9 := 0) (As := [.int _]) (rest := []) rfl rfl rfl rfl (Nat.le_of_ble_eq_true rfl) (Nat.le_of_ble_eq_true rfl) (mq_at_in (q := (2, 66)) (by decide +kernel)) ⟨Nat.le_of_ble_eq_true rfl, Nat.le_of_ble_eq_true rfl⟩ hcs dL_law_428 r1 hP hD hS hl.1 (fun H locs hP hD hS => ?_)
  refine lv_aload_n X.1 X.2.1 dL_law_431 rfl (lv_at hl 3 rfl) ?_
  refine lq_ld X dL_law_432 dL_law_433 dL_law_435 dL_law_436 dL_law_437 (v := 1) rfl h1 hl hS ?_
  refine lq_call X (a := 183) (b9 := 77) (As := [.int _]) (rest := [.int _]) rfl rfl rfl rfl (Nat.le_of_ble_eq_true rfl) (Nat.le_of_ble_eq_true rfl) (mq_at_in (q := (5, 26)) (by decide +kernel)) ⟨Nat.le_of_ble_eq_true rfl, Nat.le_of_ble_eq_true rfl⟩ hcs dL_law_438 r2 hP hD hS hl.1 (fun H locs hP hD hS => ?_)
  exact lv_icmp_eq X.1 X.2.1 dL_law_441 rfl (fun _ => kk H locs ls M2 _ hB2 hP hD hS hl) (fun q => absurd rfl q)
theorem lq_c6 (X : lq_X p s m c b L xs D tys cA) (h1 : vp_in (i + 1) L) (h2 : vp_in (i + 2) L) (hcs : kc ≤ room_1.cells ∧ ks ≤ room_1.slots) (kk : lq_H p l e s m below meth c Q D cA ad b kc ks 2139 i) : lq_H p l e s m below meth c Q D cA ad b kc ks 446 i := by
  intro H locs ls M σ hB hP hD hS hl
  obtain ⟨M1, M2, r1, r2, hB2⟩ := b_power hB (xs (i + 1).toNatClampNeg) (xs (i + 2).toNatClampNeg)
  refine lv_aload_n X.1 X.2.1 dL_law_446 rfl (lv_at hl 2 rfl) ?_
  refine lq_ld X dL_law_447 dL_law_448 dL_law_450 dL_law_451 dL_law_452 (v := 1) rfl h1 hl hS ?_
  refine lq_ld X dL_law_453 dL_law_454 dL_law_456 dL_law_457 dL_law_458 (v := 2) rfl h2 hl hS ?_
  refine lq_call X (a := 69) (b9 := 0) (As := [.int _, .int _]) (rest := []) rfl rfl rfl rfl (Nat.le_of_ble_eq_true rfl) (Nat.le_of_ble_eq_true rfl) (mq_at_in (q := (2, 74)) (by decide +kernel)) ⟨Nat.le_of_ble_eq_true rfl, Nat.le_of_ble_eq_true rfl⟩ hcs dL_law_459 r1 hP hD hS hl.1 (fun H locs hP hD hS => ?_)
  refine lv_aload_n X.1 X.2.1 dL_law_462 rfl (lv_at hl 3 rfl) ?_
  refine lq_ld X dL_law_463 dL_law_464 dL_law_466 dL_law_467 dL_law_468 (v := 1) rfl h1 hl hS ?_
  refine lq_ld X dL_law_469 dL_law_470 dL_law_472 dL_law_473 dL_law_474 (v := 2) rfl h2 hl hS ?_
  refine lq_call X (a := 184) (b9 := 77) (As := [.int _, .int _]) (rest := [.int _]) rfl rfl rfl rfl (Nat.le_of_ble_eq_true rfl) (Nat.le_of_ble_eq_true rfl) (mq_at_in (q := (5, 38)) (by decide +kernel)) ⟨Nat.le_of_ble_eq_true rfl, Nat.le_of_ble_eq_true rfl⟩ hcs dL_law_475 r2 hP hD hS hl.1 (fun H locs hP hD hS => ?_)
  exact lv_icmp_eq X.1 X.2.1 dL_law_478 rfl (fun _ => kk H locs ls M2 _ hB2 hP hD hS hl) (fun q => absurd rfl q)
theorem lq_c7 (X : lq_X p s m c b L xs D tys cA) (h1 : vp_in (i + 1) L) (hcs : kc ≤ room_1.cells ∧ ks ≤ room_1.slots) (kk : lq_H p l e s m below meth c Q D cA ad b kc ks 2139 i) : lq_H p l e s m below meth c Q D cA ad b kc ks 483 i := by
  intro H locs ls M σ hB hP hD hS hl
  obtain ⟨M1, M2, r1, r2, hB2⟩ := b_order hB (xs (i + 1).toNatClampNeg)
  refine lv_aload_n X.1 X.2.1 dL_law_483 rfl (lv_at hl 2 rfl) ?_
  refine lq_ld X dL_law_484 dL_law_485 dL_law_487 dL_law_488 dL_law_489 (v := 1) rfl h1 hl hS ?_
  refine lq_call X (a := 70) (b9 := 0) (As := [.int _]) (rest := []) rfl rfl rfl rfl (Nat.le_of_ble_eq_true rfl) (Nat.le_of_ble_eq_true rfl) (mq_at_in (q := (2, 83)) (by decide +kernel)) ⟨Nat.le_of_ble_eq_true rfl, Nat.le_of_ble_eq_true rfl⟩ hcs dL_law_490 r1 hP hD hS hl.1 (fun H locs hP hD hS => ?_)
  refine lv_aload_n X.1 X.2.1 dL_law_493 rfl (lv_at hl 3 rfl) ?_
  refine lq_ld X dL_law_494 dL_law_495 dL_law_497 dL_law_498 dL_law_499 (v := 1) rfl h1 hl hS ?_
  refine lq_call X (a := 185) (b9 := 77) (As := [.int _]) (rest := [.int _]) rfl rfl rfl rfl (Nat.le_of_ble_eq_true rfl) (Nat.le_of_ble_eq_true rfl) (mq_at_in (q := (5, 43)) (by decide +kernel)) ⟨Nat.le_of_ble_eq_true rfl, Nat.le_of_ble_eq_true rfl⟩ hcs dL_law_500 r2 hP hD hS hl.1 (fun H locs hP hD hS => ?_)
  exact lv_icmp_eq X.1 X.2.1 dL_law_503 rfl (fun _ => kk H locs ls M2 _ hB2 hP hD hS hl) (fun q => absurd rfl q)
theorem lq_c8 (X : lq_X p s m c b L xs D tys cA) (h1 : vp_in (i + 1) L) (h2 : vp_in (i + 2) L) (hcs : kc ≤ room_1.cells ∧ ks ≤ room_1.slots) (kk : lq_H p l e s m below meth c Q D cA ad b kc ks 2139 i) : lq_H p l e s m below meth c Q D cA ad b kc ks 508 i := by
  intro H locs ls M σ hB hP hD hS hl
  obtain ⟨M1, M2, r1, r2, hB2⟩ := b_conjugate hB (xs (i + 1).toNatClampNeg) (xs (i + 2).toNatClampNeg)
  refine lv_aload_n X.1 X.2.1 dL_law_508 rfl (lv_at hl 2 rfl) ?_
  refine lq_ld X dL_law_509 dL_law_510 dL_law_512 dL_law_513 dL_law_514 (v := 1) rfl h1 hl hS ?_
  refine lq_ld X dL_law_515 dL_law_516 dL_law_518 dL_law_519 dL_law_520 (v := 2) rfl h2 hl hS ?_
  refine lq_call X (a := 71) (b9 := 0) (As := [.int _, .int _]) (rest := []) rfl rfl rfl rfl (Nat.le_of_ble_eq_true rfl) (Nat.le_of_ble_eq_true rfl) (mq_at_in (q := (2, 99)) (by decide +kernel)) ⟨Nat.le_of_ble_eq_true rfl, Nat.le_of_ble_eq_true rfl⟩ hcs dL_law_521 r1 hP hD hS hl.1 (fun H locs hP hD hS => ?_)
  refine lv_aload_n X.1 X.2.1 dL_law_524 rfl (lv_at hl 3 rfl) ?_
  refine lq_ld X dL_law_525 dL_law_526 dL_law_528 dL_law_529 dL_law_530 (v := 1) rfl h1 hl hS ?_
  refine lq_ld X dL_law_531 dL_law_532 dL_law_534 dL_law_535 dL_law_536 (v := 2) rfl h2 hl hS ?_
  refine lq_call X (a := 186) (b9 := 77) (As := [.int _, .int _]) (rest := [.int _]) rfl rfl rfl rfl (Nat.le_of_ble_eq_true rfl) (Nat.le_of_ble_eq_true rfl) (mq_at_in (q := (5, 59)) (by decide +kernel)) ⟨Nat.le_of_ble_eq_true rfl, Nat.le_of_ble_eq_true rfl⟩ hcs dL_law_537 r2 hP hD hS hl.1 (fun H locs hP hD hS => ?_)
  exact lv_icmp_eq X.1 X.2.1 dL_law_540 rfl (fun _ => kk H locs ls M2 _ hB2 hP hD hS hl) (fun q => absurd rfl q)
theorem lq_c9 (X : lq_X p s m c b L xs D tys cA) (h1 : vp_in (i + 1) L) (hcs : kc ≤ room_1.cells ∧ ks ≤ room_1.slots) (kk : lq_H p l e s m below meth c Q D cA ad b kc ks 2139 i) : lq_H p l e s m below meth c Q D cA ad b kc ks 545 i := by
  intro H locs ls M σ hB hP hD hS hl
  obtain ⟨M1, M2, r1, r2, hB2⟩ := b_conjugates hB (xs (i + 1).toNatClampNeg)
  refine lv_aload_n X.1 X.2.1 dL_law_545 rfl (lv_at hl 2 rfl) ?_
  refine lq_ld X dL_law_546 dL_law_547 dL_law_549 dL_law_550 dL_law_551 (v := 1) rfl h1 hl hS ?_
  refine lq_call X (a := 72) (b9 := 0) (As := [.int _]) (rest := []) rfl rfl rfl rfl (Nat.le_of_ble_eq_true rfl) (Nat.le_of_ble_eq_true rfl) (mq_at_in (q := (2, 104)) (by decide +kernel)) ⟨Nat.le_of_ble_eq_true rfl, Nat.le_of_ble_eq_true rfl⟩ hcs dL_law_552 r1 hP hD hS hl.1 (fun H locs hP hD hS => ?_)
  refine lv_aload_n X.1 X.2.1 dL_law_555 rfl (lv_at hl 3 rfl) ?_
  refine lq_ld X dL_law_556 dL_law_557 dL_law_559 dL_law_560 dL_law_561 (v := 1) rfl h1 hl hS ?_
  refine lq_call X (a := 187) (b9 := 77) (As := [.int _]) (rest := [.int _]) rfl rfl rfl rfl (Nat.le_of_ble_eq_true rfl) (Nat.le_of_ble_eq_true rfl) (mq_at_in (q := (5, 68)) (by decide +kernel)) ⟨Nat.le_of_ble_eq_true rfl, Nat.le_of_ble_eq_true rfl⟩ hcs dL_law_562 r2 hP hD hS hl.1 (fun H locs hP hD hS => ?_)
  exact lv_icmp_eq X.1 X.2.1 dL_law_565 rfl (fun _ => kk H locs ls M2 _ hB2 hP hD hS hl) (fun q => absurd rfl q)
theorem lq_c10 (X : lq_X p s m c b L xs D tys cA) (h1 : vp_in (i + 1) L) (hcs : kc ≤ room_1.cells ∧ ks ≤ room_1.slots) (kk : lq_H p l e s m below meth c Q D cA ad b kc ks 2139 i) : lq_H p l e s m below meth c Q D cA ad b kc ks 570 i := by
  intro H locs ls M σ hB hP hD hS hl
  obtain ⟨M1, M2, r1, r2, hB2⟩ := b_least hB (xs (i + 1).toNatClampNeg)
  refine lv_aload_n X.1 X.2.1 dL_law_570 rfl (lv_at hl 2 rfl) ?_
  refine lq_ld X dL_law_571 dL_law_572 dL_law_574 dL_law_575 dL_law_576 (v := 1) rfl h1 hl hS ?_
  refine lq_call X (a := 73) (b9 := 0) (As := [.int _]) (rest := []) rfl rfl rfl rfl (Nat.le_of_ble_eq_true rfl) (Nat.le_of_ble_eq_true rfl) (mq_at_in (q := (2, 112)) (by decide +kernel)) ⟨Nat.le_of_ble_eq_true rfl, Nat.le_of_ble_eq_true rfl⟩ hcs dL_law_577 r1 hP hD hS hl.1 (fun H locs hP hD hS => ?_)
  refine lv_aload_n X.1 X.2.1 dL_law_580 rfl (lv_at hl 3 rfl) ?_
  refine lq_ld X dL_law_581 dL_law_582 dL_law_584 dL_law_585 dL_law_586 (v := 1) rfl h1 hl hS ?_
  refine lq_call X (a := 189) (b9 := 77) (As := [.int _]) (rest := [.int _]) rfl rfl rfl rfl (Nat.le_of_ble_eq_true rfl) (Nat.le_of_ble_eq_true rfl) (mq_at_in (q := (5, 76)) (by decide +kernel)) ⟨Nat.le_of_ble_eq_true rfl, Nat.le_of_ble_eq_true rfl⟩ hcs dL_law_587 r2 hP hD hS hl.1 (fun H locs hP hD hS => ?_)
  exact lv_icmp_eq X.1 X.2.1 dL_law_590 rfl (fun _ => kk H locs ls M2 _ hB2 hP hD hS hl) (fun q => absurd rfl q)
theorem lq_c11 (X : lq_X p s m c b L xs D tys cA) (h1 : vp_in (i + 1) L) (h2 : vp_in (i + 2) L) (hcs : kc ≤ room_1.cells ∧ ks ≤ room_1.slots) (kk : lq_H p l e s m below meth c Q D cA ad b kc ks 2139 i) : lq_H p l e s m below meth c Q D cA ad b kc ks 595 i := by
  intro H locs ls M σ hB hP hD hS hl
  obtain ⟨M1, M2, r1, r2, hB2⟩ := b_trace hB (xs (i + 1).toNatClampNeg) (xs (i + 2).toNatClampNeg)
  refine lv_aload_n X.1 X.2.1 dL_law_595 rfl (lv_at hl 2 rfl) ?_
  refine lq_ld X dL_law_596 dL_law_597 dL_law_599 dL_law_600 dL_law_601 (v := 1) rfl h1 hl hS ?_
  refine lq_ld X dL_law_602 dL_law_603 dL_law_605 dL_law_606 dL_law_607 (v := 2) rfl h2 hl hS ?_
  refine lq_call X (a := 74) (b9 := 0) (As := [.int _, .int _]) (rest := []) rfl rfl rfl rfl (Nat.le_of_ble_eq_true rfl) (Nat.le_of_ble_eq_true rfl) (mq_at_in (q := (2, 133)) (by decide +kernel)) ⟨Nat.le_of_ble_eq_true rfl, Nat.le_of_ble_eq_true rfl⟩ hcs dL_law_608 r1 hP hD hS hl.1 (fun H locs hP hD hS => ?_)
  refine lv_aload_n X.1 X.2.1 dL_law_611 rfl (lv_at hl 3 rfl) ?_
  refine lq_ld X dL_law_612 dL_law_613 dL_law_615 dL_law_616 dL_law_617 (v := 1) rfl h1 hl hS ?_
  refine lq_ld X dL_law_618 dL_law_619 dL_law_621 dL_law_622 dL_law_623 (v := 2) rfl h2 hl hS ?_
  refine lq_call X (a := 190) (b9 := 77) (As := [.int _, .int _]) (rest := [.int _]) rfl rfl rfl rfl (Nat.le_of_ble_eq_true rfl) (Nat.le_of_ble_eq_true rfl) (mq_at_in (q := (5, 84)) (by decide +kernel)) ⟨Nat.le_of_ble_eq_true rfl, Nat.le_of_ble_eq_true rfl⟩ hcs dL_law_624 r2 hP hD hS hl.1 (fun H locs hP hD hS => ?_)
  exact lv_icmp_eq X.1 X.2.1 dL_law_627 rfl (fun _ => kk H locs ls M2 _ hB2 hP hD hS hl) (fun q => absurd rfl q)
theorem lq_c12 (X : lq_X p s m c b L xs D tys cA) (h1 : vp_in (i + 1) L) (h2 : vp_in (i + 2) L) (hcs : kc ≤ room_1.cells ∧ ks ≤ room_1.slots) (kk : lq_H p l e s m below meth c Q D cA ad b kc ks 2139 i) : lq_H p l e s m below meth c Q D cA ad b kc ks 632 i := by
  intro H locs ls M σ hB hP hD hS hl
  obtain ⟨M1, M2, r1, r2, hB2⟩ := b_norm hB (xs (i + 1).toNatClampNeg) (xs (i + 2).toNatClampNeg)
  refine lv_aload_n X.1 X.2.1 dL_law_632 rfl (lv_at hl 2 rfl) ?_
  refine lq_ld X dL_law_633 dL_law_634 dL_law_636 dL_law_637 dL_law_638 (v := 1) rfl h1 hl hS ?_
  refine lq_ld X dL_law_639 dL_law_640 dL_law_642 dL_law_643 dL_law_644 (v := 2) rfl h2 hl hS ?_
  refine lq_call X (a := 75) (b9 := 0) (As := [.int _, .int _]) (rest := []) rfl rfl rfl rfl (Nat.le_of_ble_eq_true rfl) (Nat.le_of_ble_eq_true rfl) (mq_at_in (q := (2, 142)) (by decide +kernel)) ⟨Nat.le_of_ble_eq_true rfl, Nat.le_of_ble_eq_true rfl⟩ hcs dL_law_645 r1 hP hD hS hl.1 (fun H locs hP hD hS => ?_)
  refine lv_aload_n X.1 X.2.1 dL_law_648 rfl (lv_at hl 3 rfl) ?_
  refine lq_ld X dL_law_649 dL_law_650 dL_law_652 dL_law_653 dL_law_654 (v := 1) rfl h1 hl hS ?_
  refine lq_ld X dL_law_655 dL_law_656 dL_law_658 dL_law_659 dL_law_660 (v := 2) rfl h2 hl hS ?_
  refine lq_call X (a := 191) (b9 := 77) (As := [.int _, .int _]) (rest := [.int _]) rfl rfl rfl rfl (Nat.le_of_ble_eq_true rfl) (Nat.le_of_ble_eq_true rfl) (mq_at_in (q := (5, 96)) (by decide +kernel)) ⟨Nat.le_of_ble_eq_true rfl, Nat.le_of_ble_eq_true rfl⟩ hcs dL_law_661 r2 hP hD hS hl.1 (fun H locs hP hD hS => ?_)
  exact lv_icmp_eq X.1 X.2.1 dL_law_664 rfl (fun _ => kk H locs ls M2 _ hB2 hP hD hS hl) (fun q => absurd rfl q)
theorem lq_c13 (X : lq_X p s m c b L xs D tys cA) (h1 : vp_in (i + 1) L) (hcs : kc ≤ room_1.cells ∧ ks ≤ room_1.slots) (kk : lq_H p l e s m below meth c Q D cA ad b kc ks 2139 i) : lq_H p l e s m below meth c Q D cA ad b kc ks 669 i := by
  intro H locs ls M σ hB hP hD hS hl
  obtain ⟨M1, M2, r1, r2, hB2⟩ := b_root hB (xs (i + 1).toNatClampNeg)
  refine lv_aload_n X.1 X.2.1 dL_law_669 rfl (lv_at hl 2 rfl) ?_
  refine lq_ld X dL_law_670 dL_law_671 dL_law_673 dL_law_674 dL_law_675 (v := 1) rfl h1 hl hS ?_
  refine lq_call X (a := 76) (b9 := 0) (As := [.int _]) (rest := []) rfl rfl rfl rfl (Nat.le_of_ble_eq_true rfl) (Nat.le_of_ble_eq_true rfl) (mq_at_in (q := (2, 150)) (by decide +kernel)) ⟨Nat.le_of_ble_eq_true rfl, Nat.le_of_ble_eq_true rfl⟩ hcs dL_law_676 r1 hP hD hS hl.1 (fun H locs hP hD hS => ?_)
  refine lv_aload_n X.1 X.2.1 dL_law_679 rfl (lv_at hl 3 rfl) ?_
  refine lq_ld X dL_law_680 dL_law_681 dL_law_683 dL_law_684 dL_law_685 (v := 1) rfl h1 hl hS ?_
  refine lq_call X (a := 192) (b9 := 77) (As := [.int _]) (rest := [.int _]) rfl rfl rfl rfl (Nat.le_of_ble_eq_true rfl) (Nat.le_of_ble_eq_true rfl) (mq_at_in (q := (5, 104)) (by decide +kernel)) ⟨Nat.le_of_ble_eq_true rfl, Nat.le_of_ble_eq_true rfl⟩ hcs dL_law_686 r2 hP hD hS hl.1 (fun H locs hP hD hS => ?_)
  exact lv_icmp_eq X.1 X.2.1 dL_law_689 rfl (fun _ => kk H locs ls M2 _ hB2 hP hD hS hl) (fun q => absurd rfl q)
theorem lq_c14 (X : lq_X p s m c b L xs D tys cA) (h1 : vp_in (i + 1) L) (hcs : kc ≤ room_1.cells ∧ ks ≤ room_1.slots) (kk : lq_H p l e s m below meth c Q D cA ad b kc ks 2139 i) : lq_H p l e s m below meth c Q D cA ad b kc ks 694 i := by
  intro H locs ls M σ hB hP hD hS hl
  obtain ⟨M1, M2, r1, r2, hB2⟩ := b_solves hB (xs (i + 1).toNatClampNeg)
  refine lv_aload_n X.1 X.2.1 dL_law_694 rfl (lv_at hl 2 rfl) ?_
  refine lq_ld X dL_law_695 dL_law_696 dL_law_698 dL_law_699 dL_law_700 (v := 1) rfl h1 hl hS ?_
  refine lq_call X (a := 77) (b9 := 0) (As := [.int _]) (rest := []) rfl rfl rfl rfl (Nat.le_of_ble_eq_true rfl) (Nat.le_of_ble_eq_true rfl) (mq_at_in (q := (2, 154)) (by decide +kernel)) ⟨Nat.le_of_ble_eq_true rfl, Nat.le_of_ble_eq_true rfl⟩ hcs dL_law_701 r1 hP hD hS hl.1 (fun H locs hP hD hS => ?_)
  refine lv_aload_n X.1 X.2.1 dL_law_704 rfl (lv_at hl 3 rfl) ?_
  refine lq_ld X dL_law_705 dL_law_706 dL_law_708 dL_law_709 dL_law_710 (v := 1) rfl h1 hl hS ?_
  refine lq_call X (a := 193) (b9 := 77) (As := [.int _]) (rest := [.int _]) rfl rfl rfl rfl (Nat.le_of_ble_eq_true rfl) (Nat.le_of_ble_eq_true rfl) (mq_at_in (q := (5, 108)) (by decide +kernel)) ⟨Nat.le_of_ble_eq_true rfl, Nat.le_of_ble_eq_true rfl⟩ hcs dL_law_711 r2 hP hD hS hl.1 (fun H locs hP hD hS => ?_)
  exact lv_icmp_eq X.1 X.2.1 dL_law_714 rfl (fun _ => kk H locs ls M2 _ hB2 hP hD hS hl) (fun q => absurd rfl q)
theorem lq_c15 (X : lq_X p s m c b L xs D tys cA) (h1 : vp_in (i + 1) L) (h2 : vp_in (i + 2) L) (hcs : kc ≤ room_1.cells ∧ ks ≤ room_1.slots) (kk : lq_H p l e s m below meth c Q D cA ad b kc ks 2139 i) : lq_H p l e s m below meth c Q D cA ad b kc ks 719 i := by
  intro H locs ls M σ hB hP hD hS hl
  obtain ⟨M1, M2, r1, r2, hB2⟩ := b_log hB (xs (i + 1).toNatClampNeg) (xs (i + 2).toNatClampNeg)
  refine lv_aload_n X.1 X.2.1 dL_law_719 rfl (lv_at hl 2 rfl) ?_
  refine lq_ld X dL_law_720 dL_law_721 dL_law_723 dL_law_724 dL_law_725 (v := 1) rfl h1 hl hS ?_
  refine lq_ld X dL_law_726 dL_law_727 dL_law_729 dL_law_730 dL_law_731 (v := 2) rfl h2 hl hS ?_
  refine lq_call X (a := 78) (b9 := 0) (As := [.int _, .int _]) (rest := []) rfl rfl rfl rfl (Nat.le_of_ble_eq_true rfl) (Nat.le_of_ble_eq_true rfl) (mq_at_in (q := (2, 158)) (by decide +kernel)) ⟨Nat.le_of_ble_eq_true rfl, Nat.le_of_ble_eq_true rfl⟩ hcs dL_law_732 r1 hP hD hS hl.1 (fun H locs hP hD hS => ?_)
  refine lv_aload_n X.1 X.2.1 dL_law_735 rfl (lv_at hl 3 rfl) ?_
  refine lq_ld X dL_law_736 dL_law_737 dL_law_739 dL_law_740 dL_law_741 (v := 1) rfl h1 hl hS ?_
  refine lq_ld X dL_law_742 dL_law_743 dL_law_745 dL_law_746 dL_law_747 (v := 2) rfl h2 hl hS ?_
  refine lq_call X (a := 194) (b9 := 77) (As := [.int _, .int _]) (rest := [.int _]) rfl rfl rfl rfl (Nat.le_of_ble_eq_true rfl) (Nat.le_of_ble_eq_true rfl) (mq_at_in (q := (5, 112)) (by decide +kernel)) ⟨Nat.le_of_ble_eq_true rfl, Nat.le_of_ble_eq_true rfl⟩ hcs dL_law_748 r2 hP hD hS hl.1 (fun H locs hP hD hS => ?_)
  exact lv_icmp_eq X.1 X.2.1 dL_law_751 rfl (fun _ => kk H locs ls M2 _ hB2 hP hD hS hl) (fun q => absurd rfl q)
theorem lq_c16 (X : lq_X p s m c b L xs D tys cA) (h1 : vp_in (i + 1) L) (h2 : vp_in (i + 2) L) (hcs : kc ≤ room_1.cells ∧ ks ≤ room_1.slots) (kk : lq_H p l e s m below meth c Q D cA ad b kc ks 2139 i) : lq_H p l e s m below meth c Q D cA ad b kc ks 756 i := by
  intro H locs ls M σ hB hP hD hS hl
  obtain ⟨M1, M2, r1, r2, hB2⟩ := b_traced hB (xs (i + 1).toNatClampNeg) (xs (i + 2).toNatClampNeg)
  refine lv_aload_n X.1 X.2.1 dL_law_756 rfl (lv_at hl 2 rfl) ?_
  refine lq_ld X dL_law_757 dL_law_758 dL_law_760 dL_law_761 dL_law_762 (v := 1) rfl h1 hl hS ?_
  refine lq_ld X dL_law_763 dL_law_764 dL_law_766 dL_law_767 dL_law_768 (v := 2) rfl h2 hl hS ?_
  refine lq_call X (a := 79) (b9 := 0) (As := [.int _, .int _]) (rest := []) rfl rfl rfl rfl (Nat.le_of_ble_eq_true rfl) (Nat.le_of_ble_eq_true rfl) (mq_at_in (q := (2, 162)) (by decide +kernel)) ⟨Nat.le_of_ble_eq_true rfl, Nat.le_of_ble_eq_true rfl⟩ hcs dL_law_769 r1 hP hD hS hl.1 (fun H locs hP hD hS => ?_)
  refine lv_aload_n X.1 X.2.1 dL_law_772 rfl (lv_at hl 3 rfl) ?_
  refine lq_ld X dL_law_773 dL_law_774 dL_law_776 dL_law_777 dL_law_778 (v := 1) rfl h1 hl hS ?_
  refine lq_ld X dL_law_779 dL_law_780 dL_law_782 dL_law_783 dL_law_784 (v := 2) rfl h2 hl hS ?_
  refine lq_call X (a := 195) (b9 := 77) (As := [.int _, .int _]) (rest := [.int _]) rfl rfl rfl rfl (Nat.le_of_ble_eq_true rfl) (Nat.le_of_ble_eq_true rfl) (mq_at_in (q := (5, 116)) (by decide +kernel)) ⟨Nat.le_of_ble_eq_true rfl, Nat.le_of_ble_eq_true rfl⟩ hcs dL_law_785 r2 hP hD hS hl.1 (fun H locs hP hD hS => ?_)
  exact lv_icmp_eq X.1 X.2.1 dL_law_788 rfl (fun _ => kk H locs ls M2 _ hB2 hP hD hS hl) (fun q => absurd rfl q)
theorem lq_c17 (X : lq_X p s m c b L xs D tys cA) (h1 : vp_in (i + 1) L) (hcs : kc ≤ room_1.cells ∧ ks ≤ room_1.slots) (kk : lq_H p l e s m below meth c Q D cA ad b kc ks 2139 i) : lq_H p l e s m below meth c Q D cA ad b kc ks 793 i := by
  intro H locs ls M σ hB hP hD hS hl
  obtain ⟨M1, M2, r1, r2, hB2⟩ := b_factors hB (xs (i + 1).toNatClampNeg)
  refine lv_aload_n X.1 X.2.1 dL_law_793 rfl (lv_at hl 2 rfl) ?_
  refine lq_ld X dL_law_794 dL_law_795 dL_law_797 dL_law_798 dL_law_799 (v := 1) rfl h1 hl hS ?_
  refine lq_call X (a := 80) (b9 := 0) (As := [.int _]) (rest := []) rfl rfl rfl rfl (Nat.le_of_ble_eq_true rfl) (Nat.le_of_ble_eq_true rfl) (mq_at_in (q := (2, 166)) (by decide +kernel)) ⟨Nat.le_of_ble_eq_true rfl, Nat.le_of_ble_eq_true rfl⟩ hcs dL_law_800 r1 hP hD hS hl.1 (fun H locs hP hD hS => ?_)
  refine lv_aload_n X.1 X.2.1 dL_law_803 rfl (lv_at hl 3 rfl) ?_
  refine lq_ld X dL_law_804 dL_law_805 dL_law_807 dL_law_808 dL_law_809 (v := 1) rfl h1 hl hS ?_
  refine lq_call X (a := 196) (b9 := 77) (As := [.int _]) (rest := [.int _]) rfl rfl rfl rfl (Nat.le_of_ble_eq_true rfl) (Nat.le_of_ble_eq_true rfl) (mq_at_in (q := (5, 120)) (by decide +kernel)) ⟨Nat.le_of_ble_eq_true rfl, Nat.le_of_ble_eq_true rfl⟩ hcs dL_law_810 r2 hP hD hS hl.1 (fun H locs hP hD hS => ?_)
  exact lv_icmp_eq X.1 X.2.1 dL_law_813 rfl (fun _ => kk H locs ls M2 _ hB2 hP hD hS hl) (fun q => absurd rfl q)
theorem lq_c18 (X : lq_X p s m c b L xs D tys cA) (hcs : kc ≤ room_1.cells ∧ ks ≤ room_1.slots) (kk : lq_H p l e s m below meth c Q D cA ad b kc ks 2139 i) : lq_H p l e s m below meth c Q D cA ad b kc ks 818 i := by
  intro H locs ls M σ hB hP hD hS hl
  obtain ⟨M1, M2, r1, r2, hB2⟩ := b_orders hB
  refine lv_aload_n X.1 X.2.1 dL_law_818 rfl (lv_at hl 2 rfl) ?_
  refine lq_call X (a := 81) (b9 := 0) (As := []) (rest := []) rfl rfl rfl rfl (Nat.le_of_ble_eq_true rfl) (Nat.le_of_ble_eq_true rfl) (mq_at_in (q := (2, 174)) (by decide +kernel)) ⟨Nat.le_of_ble_eq_true rfl, Nat.le_of_ble_eq_true rfl⟩ hcs dL_law_819 r1 hP hD hS hl.1 (fun H locs hP hD hS => ?_)
  refine lv_aload_n X.1 X.2.1 dL_law_822 rfl (lv_at hl 3 rfl) ?_
  refine lq_call X (a := 199) (b9 := 77) (As := []) (rest := [.int _]) rfl rfl rfl rfl (Nat.le_of_ble_eq_true rfl) (Nat.le_of_ble_eq_true rfl) (mq_at_in (q := (5, 137)) (by decide +kernel)) ⟨Nat.le_of_ble_eq_true rfl, Nat.le_of_ble_eq_true rfl⟩ hcs dL_law_823 r2 hP hD hS hl.1 (fun H locs hP hD hS => ?_)
  exact lv_icmp_eq X.1 X.2.1 dL_law_826 rfl (fun _ => kk H locs ls M2 _ hB2 hP hD hS hl) (fun q => absurd rfl q)
theorem lq_c19 (X : lq_X p s m c b L xs D tys cA) (h1 : vp_in (i + 1) L) (h2 : vp_in (i + 2) L) (h3 : vp_in (i + 3) L) (hcs : kc ≤ room_1.cells ∧ ks ≤ room_1.slots) (kk : lq_H p l e s m below meth c Q D cA ad b kc ks 2139 i) : lq_H p l e s m below meth c Q D cA ad b kc ks 831 i := by
  intro H locs ls M σ hB hP hD hS hl
  obtain ⟨M1, M2, r1, r2, hB2⟩ := b_quadratic hB (xs (i + 1).toNatClampNeg) (xs (i + 2).toNatClampNeg) (xs (i + 3).toNatClampNeg)
  refine lv_aload_n X.1 X.2.1 dL_law_831 rfl (lv_at hl 2 rfl) ?_
  refine lq_ld X dL_law_832 dL_law_833 dL_law_835 dL_law_836 dL_law_837 (v := 1) rfl h1 hl hS ?_
  refine lq_ld X dL_law_838 dL_law_839 dL_law_841 dL_law_842 dL_law_843 (v := 2) rfl h2 hl hS ?_
  refine lq_ld X dL_law_844 dL_law_845 dL_law_847 dL_law_848 dL_law_849 (v := 3) rfl h3 hl hS ?_
  refine lq_call X (a := 82) (b9 := 0) (As := [.int _, .int _, .int _]) (rest := []) rfl rfl rfl rfl (Nat.le_of_ble_eq_true rfl) (Nat.le_of_ble_eq_true rfl) (mq_at_in (q := (2, 183)) (by decide +kernel)) ⟨Nat.le_of_ble_eq_true rfl, Nat.le_of_ble_eq_true rfl⟩ hcs dL_law_850 r1 hP hD hS hl.1 (fun H locs hP hD hS => ?_)
  refine lv_aload_n X.1 X.2.1 dL_law_853 rfl (lv_at hl 3 rfl) ?_
  refine lq_ld X dL_law_854 dL_law_855 dL_law_857 dL_law_858 dL_law_859 (v := 1) rfl h1 hl hS ?_
  refine lq_ld X dL_law_860 dL_law_861 dL_law_863 dL_law_864 dL_law_865 (v := 2) rfl h2 hl hS ?_
  refine lq_ld X dL_law_866 dL_law_867 dL_law_869 dL_law_870 dL_law_871 (v := 3) rfl h3 hl hS ?_
  refine lq_call X (a := 200) (b9 := 77) (As := [.int _, .int _, .int _]) (rest := [.int _]) rfl rfl rfl rfl (Nat.le_of_ble_eq_true rfl) (Nat.le_of_ble_eq_true rfl) (mq_at_in (q := (5, 141)) (by decide +kernel)) ⟨Nat.le_of_ble_eq_true rfl, Nat.le_of_ble_eq_true rfl⟩ hcs dL_law_872 r2 hP hD hS hl.1 (fun H locs hP hD hS => ?_)
  exact lv_icmp_eq X.1 X.2.1 dL_law_875 rfl (fun _ => kk H locs ls M2 _ hB2 hP hD hS hl) (fun q => absurd rfl q)
theorem lq_c20 (X : lq_X p s m c b L xs D tys cA) (hcs : kc ≤ room_1.cells ∧ ks ≤ room_1.slots) (kk : lq_H p l e s m below meth c Q D cA ad b kc ks 2139 i) : lq_H p l e s m below meth c Q D cA ad b kc ks 880 i := by
  intro H locs ls M σ hB hP hD hS hl
  obtain ⟨M1, M2, r1, r2, hB2⟩ := b_classes hB
  refine lv_aload_n X.1 X.2.1 dL_law_880 rfl (lv_at hl 2 rfl) ?_
  refine lq_call X (a := 83) (b9 := 0) (As := []) (rest := []) rfl rfl rfl rfl (Nat.le_of_ble_eq_true rfl) (Nat.le_of_ble_eq_true rfl) (mq_at_in (q := (2, 187)) (by decide +kernel)) ⟨Nat.le_of_ble_eq_true rfl, Nat.le_of_ble_eq_true rfl⟩ hcs dL_law_881 r1 hP hD hS hl.1 (fun H locs hP hD hS => ?_)
  refine lv_aload_n X.1 X.2.1 dL_law_884 rfl (lv_at hl 3 rfl) ?_
  refine lq_call X (a := 197) (b9 := 77) (As := []) (rest := [.int _]) rfl rfl rfl rfl (Nat.le_of_ble_eq_true rfl) (Nat.le_of_ble_eq_true rfl) (mq_at_in (q := (5, 129)) (by decide +kernel)) ⟨Nat.le_of_ble_eq_true rfl, Nat.le_of_ble_eq_true rfl⟩ hcs dL_law_885 r2 hP hD hS hl.1 (fun H locs hP hD hS => ?_)
  exact lv_icmp_eq X.1 X.2.1 dL_law_888 rfl (fun _ => kk H locs ls M2 _ hB2 hP hD hS hl) (fun q => absurd rfl q)
theorem lq_c21 (X : lq_X p s m c b L xs D tys cA) (hcs : kc ≤ room_1.cells ∧ ks ≤ room_1.slots) (kk : lq_H p l e s m below meth c Q D cA ad b kc ks 2139 i) : lq_H p l e s m below meth c Q D cA ad b kc ks 893 i := by
  intro H locs ls M σ hB hP hD hS hl
  obtain ⟨M1, M2, r1, r2, hB2⟩ := b_generators hB
  refine lv_aload_n X.1 X.2.1 dL_law_893 rfl (lv_at hl 2 rfl) ?_
  refine lq_call X (a := 84) (b9 := 0) (As := []) (rest := []) rfl rfl rfl rfl (Nat.le_of_ble_eq_true rfl) (Nat.le_of_ble_eq_true rfl) (mq_at_in (q := (2, 191)) (by decide +kernel)) ⟨Nat.le_of_ble_eq_true rfl, Nat.le_of_ble_eq_true rfl⟩ hcs dL_law_894 r1 hP hD hS hl.1 (fun H locs hP hD hS => ?_)
  refine lv_aload_n X.1 X.2.1 dL_law_897 rfl (lv_at hl 3 rfl) ?_
  refine lq_call X (a := 198) (b9 := 77) (As := []) (rest := [.int _]) rfl rfl rfl rfl (Nat.le_of_ble_eq_true rfl) (Nat.le_of_ble_eq_true rfl) (mq_at_in (q := (5, 133)) (by decide +kernel)) ⟨Nat.le_of_ble_eq_true rfl, Nat.le_of_ble_eq_true rfl⟩ hcs dL_law_898 r2 hP hD hS hl.1 (fun H locs hP hD hS => ?_)
  exact lv_icmp_eq X.1 X.2.1 dL_law_901 rfl (fun _ => kk H locs ls M2 _ hB2 hP hD hS hl) (fun q => absurd rfl q)
theorem lq_c22 (X : lq_X p s m c b L xs D tys cA) (h1 : vp_in (i + 1) L) (hcs : kc ≤ room_1.cells ∧ ks ≤ room_1.slots) (kk : lq_H p l e s m below meth c Q D cA ad b kc ks 2139 i) : lq_H p l e s m below meth c Q D cA ad b kc ks 906 i := by
  intro H locs ls M σ hB hP hD hS hl
  obtain ⟨M1, M2, r1, r2, hB2⟩ := b_subfield hB (xs (i + 1).toNatClampNeg)
  refine lv_aload_n X.1 X.2.1 dL_law_906 rfl (lv_at hl 2 rfl) ?_
  refine lq_ld X dL_law_907 dL_law_908 dL_law_910 dL_law_911 dL_law_912 (v := 1) rfl h1 hl hS ?_
  refine lq_call X (a := 85) (b9 := 0) (As := [.int _]) (rest := []) rfl rfl rfl rfl (Nat.le_of_ble_eq_true rfl) (Nat.le_of_ble_eq_true rfl) (mq_at_in (q := (2, 199)) (by decide +kernel)) ⟨Nat.le_of_ble_eq_true rfl, Nat.le_of_ble_eq_true rfl⟩ hcs dL_law_913 r1 hP hD hS hl.1 (fun H locs hP hD hS => ?_)
  refine lv_aload_n X.1 X.2.1 dL_law_916 rfl (lv_at hl 3 rfl) ?_
  refine lq_ld X dL_law_917 dL_law_918 dL_law_920 dL_law_921 dL_law_922 (v := 1) rfl h1 hl hS ?_
  refine lq_call X (a := 201) (b9 := 77) (As := [.int _]) (rest := [.int _]) rfl rfl rfl rfl (Nat.le_of_ble_eq_true rfl) (Nat.le_of_ble_eq_true rfl) (mq_at_in (q := (5, 145)) (by decide +kernel)) ⟨Nat.le_of_ble_eq_true rfl, Nat.le_of_ble_eq_true rfl⟩ hcs dL_law_923 r2 hP hD hS hl.1 (fun H locs hP hD hS => ?_)
  exact lv_icmp_eq X.1 X.2.1 dL_law_926 rfl (fun _ => kk H locs ls M2 _ hB2 hP hD hS hl) (fun q => absurd rfl q)
theorem lq_c23 (X : lq_X p s m c b L xs D tys cA) (h1 : vp_in (i + 1) L) (hcs : kc ≤ room_1.cells ∧ ks ≤ room_1.slots) (kk : lq_H p l e s m below meth c Q D cA ad b kc ks 2139 i) : lq_H p l e s m below meth c Q D cA ad b kc ks 931 i := by
  intro H locs ls M σ hB hP hD hS hl
  obtain ⟨M1, M2, r1, r2, hB2⟩ := b_normal hB (xs (i + 1).toNatClampNeg)
  refine lv_aload_n X.1 X.2.1 dL_law_931 rfl (lv_at hl 2 rfl) ?_
  refine lq_ld X dL_law_932 dL_law_933 dL_law_935 dL_law_936 dL_law_937 (v := 1) rfl h1 hl hS ?_
  refine lq_call X (a := 86) (b9 := 0) (As := [.int _]) (rest := []) rfl rfl rfl rfl (Nat.le_of_ble_eq_true rfl) (Nat.le_of_ble_eq_true rfl) (mq_at_in (q := (2, 213)) (by decide +kernel)) ⟨Nat.le_of_ble_eq_true rfl, Nat.le_of_ble_eq_true rfl⟩ hcs dL_law_938 r1 hP hD hS hl.1 (fun H locs hP hD hS => ?_)
  refine lv_aload_n X.1 X.2.1 dL_law_941 rfl (lv_at hl 3 rfl) ?_
  refine lq_ld X dL_law_942 dL_law_943 dL_law_945 dL_law_946 dL_law_947 (v := 1) rfl h1 hl hS ?_
  refine lq_call X (a := 202) (b9 := 77) (As := [.int _]) (rest := [.int _]) rfl rfl rfl rfl (Nat.le_of_ble_eq_true rfl) (Nat.le_of_ble_eq_true rfl) (mq_at_in (q := (5, 160)) (by decide +kernel)) ⟨Nat.le_of_ble_eq_true rfl, Nat.le_of_ble_eq_true rfl⟩ hcs dL_law_948 r2 hP hD hS hl.1 (fun H locs hP hD hS => ?_)
  exact lv_icmp_eq X.1 X.2.1 dL_law_951 rfl (fun _ => kk H locs ls M2 _ hB2 hP hD hS hl) (fun q => absurd rfl q)
theorem lq_c24 (X : lq_X p s m c b L xs D tys cA) (hcs : kc ≤ room_1.cells ∧ ks ≤ room_1.slots) (kk : lq_H p l e s m below meth c Q D cA ad b kc ks 2139 i) : lq_H p l e s m below meth c Q D cA ad b kc ks 956 i := by
  intro H locs ls M σ hB hP hD hS hl
  obtain ⟨M1, M2, r1, r2, hB2⟩ := b_normals hB
  refine lv_aload_n X.1 X.2.1 dL_law_956 rfl (lv_at hl 2 rfl) ?_
  refine lq_call X (a := 87) (b9 := 0) (As := []) (rest := []) rfl rfl rfl rfl (Nat.le_of_ble_eq_true rfl) (Nat.le_of_ble_eq_true rfl) (mq_at_in (q := (2, 227)) (by decide +kernel)) ⟨Nat.le_of_ble_eq_true rfl, Nat.le_of_ble_eq_true rfl⟩ hcs dL_law_957 r1 hP hD hS hl.1 (fun H locs hP hD hS => ?_)
  refine lv_aload_n X.1 X.2.1 dL_law_960 rfl (lv_at hl 3 rfl) ?_
  refine lq_call X (a := 203) (b9 := 77) (As := []) (rest := [.int _]) rfl rfl rfl rfl (Nat.le_of_ble_eq_true rfl) (Nat.le_of_ble_eq_true rfl) (mq_at_in (q := (5, 168)) (by decide +kernel)) ⟨Nat.le_of_ble_eq_true rfl, Nat.le_of_ble_eq_true rfl⟩ hcs dL_law_961 r2 hP hD hS hl.1 (fun H locs hP hD hS => ?_)
  exact lv_icmp_eq X.1 X.2.1 dL_law_964 rfl (fun _ => kk H locs ls M2 _ hB2 hP hD hS hl) (fun q => absurd rfl q)
theorem lq_c25 (X : lq_X p s m c b L xs D tys cA) (h1 : vp_in (i + 1) L) (hcs : kc ≤ room_1.cells ∧ ks ≤ room_1.slots) (kk : lq_H p l e s m below meth c Q D cA ad b kc ks 2139 i) : lq_H p l e s m below meth c Q D cA ad b kc ks 969 i := by
  intro H locs ls M σ hB hP hD hS hl
  obtain ⟨M1, M2, r1, r2, hB2⟩ := b_complete hB (xs (i + 1).toNatClampNeg)
  refine lv_aload_n X.1 X.2.1 dL_law_969 rfl (lv_at hl 2 rfl) ?_
  refine lq_ld X dL_law_970 dL_law_971 dL_law_973 dL_law_974 dL_law_975 (v := 1) rfl h1 hl hS ?_
  refine lq_call X (a := 88) (b9 := 0) (As := [.int _]) (rest := []) rfl rfl rfl rfl (Nat.le_of_ble_eq_true rfl) (Nat.le_of_ble_eq_true rfl) (mq_at_in (q := (2, 231)) (by decide +kernel)) ⟨Nat.le_of_ble_eq_true rfl, Nat.le_of_ble_eq_true rfl⟩ hcs dL_law_976 r1 hP hD hS hl.1 (fun H locs hP hD hS => ?_)
  refine lv_aload_n X.1 X.2.1 dL_law_979 rfl (lv_at hl 3 rfl) ?_
  refine lq_ld X dL_law_980 dL_law_981 dL_law_983 dL_law_984 dL_law_985 (v := 1) rfl h1 hl hS ?_
  refine lq_call X (a := 204) (b9 := 77) (As := [.int _]) (rest := [.int _]) rfl rfl rfl rfl (Nat.le_of_ble_eq_true rfl) (Nat.le_of_ble_eq_true rfl) (mq_at_in (q := (5, 176)) (by decide +kernel)) ⟨Nat.le_of_ble_eq_true rfl, Nat.le_of_ble_eq_true rfl⟩ hcs dL_law_986 r2 hP hD hS hl.1 (fun H locs hP hD hS => ?_)
  exact lv_icmp_eq X.1 X.2.1 dL_law_989 rfl (fun _ => kk H locs ls M2 _ hB2 hP hD hS hl) (fun q => absurd rfl q)
theorem lq_c26 (X : lq_X p s m c b L xs D tys cA) (hcs : kc ≤ room_1.cells ∧ ks ≤ room_1.slots) (kk : lq_H p l e s m below meth c Q D cA ad b kc ks 2139 i) : lq_H p l e s m below meth c Q D cA ad b kc ks 994 i := by
  intro H locs ls M σ hB hP hD hS hl
  obtain ⟨M1, M2, r1, r2, hB2⟩ := b_leastNormal hB
  refine lv_aload_n X.1 X.2.1 dL_law_994 rfl (lv_at hl 2 rfl) ?_
  refine lq_call X (a := 89) (b9 := 0) (As := []) (rest := []) rfl rfl rfl rfl (Nat.le_of_ble_eq_true rfl) (Nat.le_of_ble_eq_true rfl) (mq_at_in (q := (2, 239)) (by decide +kernel)) ⟨Nat.le_of_ble_eq_true rfl, Nat.le_of_ble_eq_true rfl⟩ hcs dL_law_995 r1 hP hD hS hl.1 (fun H locs hP hD hS => ?_)
  refine lv_aload_n X.1 X.2.1 dL_law_998 rfl (lv_at hl 3 rfl) ?_
  refine lq_call X (a := 205) (b9 := 77) (As := []) (rest := [.int _]) rfl rfl rfl rfl (Nat.le_of_ble_eq_true rfl) (Nat.le_of_ble_eq_true rfl) (mq_at_in (q := (5, 184)) (by decide +kernel)) ⟨Nat.le_of_ble_eq_true rfl, Nat.le_of_ble_eq_true rfl⟩ hcs dL_law_999 r2 hP hD hS hl.1 (fun H locs hP hD hS => ?_)
  exact lv_icmp_eq X.1 X.2.1 dL_law_1002 rfl (fun _ => kk H locs ls M2 _ hB2 hP hD hS hl) (fun q => absurd rfl q)
theorem lq_c27 (X : lq_X p s m c b L xs D tys cA) (hcs : kc ≤ room_1.cells ∧ ks ≤ room_1.slots) (kk : lq_H p l e s m below meth c Q D cA ad b kc ks 2139 i) : lq_H p l e s m below meth c Q D cA ad b kc ks 1007 i := by
  intro H locs ls M σ hB hP hD hS hl
  obtain ⟨M1, M2, r1, r2, hB2⟩ := b_leastPowers hB
  refine lv_aload_n X.1 X.2.1 dL_law_1007 rfl (lv_at hl 2 rfl) ?_
  refine lq_call X (a := 90) (b9 := 0) (As := []) (rest := []) rfl rfl rfl rfl (Nat.le_of_ble_eq_true rfl) (Nat.le_of_ble_eq_true rfl) (mq_at_in (q := (3, 13)) (by decide +kernel)) ⟨Nat.le_of_ble_eq_true rfl, Nat.le_of_ble_eq_true rfl⟩ hcs dL_law_1008 r1 hP hD hS hl.1 (fun H locs hP hD hS => ?_)
  refine lv_aload_n X.1 X.2.1 dL_law_1011 rfl (lv_at hl 3 rfl) ?_
  refine lq_call X (a := 207) (b9 := 77) (As := []) (rest := [.int _]) rfl rfl rfl rfl (Nat.le_of_ble_eq_true rfl) (Nat.le_of_ble_eq_true rfl) (mq_at_in (q := (5, 207)) (by decide +kernel)) ⟨Nat.le_of_ble_eq_true rfl, Nat.le_of_ble_eq_true rfl⟩ hcs dL_law_1012 r2 hP hD hS hl.1 (fun H locs hP hD hS => ?_)
  exact lv_icmp_eq X.1 X.2.1 dL_law_1015 rfl (fun _ => kk H locs ls M2 _ hB2 hP hD hS hl) (fun q => absurd rfl q)
theorem lq_c28 (X : lq_X p s m c b L xs D tys cA) (h1 : vp_in (i + 1) L) (hcs : kc ≤ room_1.cells ∧ ks ≤ room_1.slots) (kk : lq_H p l e s m below meth c Q D cA ad b kc ks 2139 i) : lq_H p l e s m below meth c Q D cA ad b kc ks 1020 i := by
  intro H locs ls M σ hB hP hD hS hl
  obtain ⟨M1, M2, r1, r2, hB2⟩ := b_types hB (xs (i + 1).toNatClampNeg)
  refine lv_aload_n X.1 X.2.1 dL_law_1020 rfl (lv_at hl 2 rfl) ?_
  refine lq_ld X dL_law_1021 dL_law_1022 dL_law_1024 dL_law_1025 dL_law_1026 (v := 1) rfl h1 hl hS ?_
  refine lq_call X (a := 91) (b9 := 0) (As := [.int _]) (rest := []) rfl rfl rfl rfl (Nat.le_of_ble_eq_true rfl) (Nat.le_of_ble_eq_true rfl) (mq_at_in (q := (3, 25)) (by decide +kernel)) ⟨Nat.le_of_ble_eq_true rfl, Nat.le_of_ble_eq_true rfl⟩ hcs dL_law_1027 r1 hP hD hS hl.1 (fun H locs hP hD hS => ?_)
  refine lv_aload_n X.1 X.2.1 dL_law_1030 rfl (lv_at hl 3 rfl) ?_
  refine lq_ld X dL_law_1031 dL_law_1032 dL_law_1034 dL_law_1035 dL_law_1036 (v := 1) rfl h1 hl hS ?_
  refine lq_call X (a := 210) (b9 := 77) (As := [.int _]) (rest := [.int _]) rfl rfl rfl rfl (Nat.le_of_ble_eq_true rfl) (Nat.le_of_ble_eq_true rfl) (mq_at_in (q := (5, 219)) (by decide +kernel)) ⟨Nat.le_of_ble_eq_true rfl, Nat.le_of_ble_eq_true rfl⟩ hcs dL_law_1037 r2 hP hD hS hl.1 (fun H locs hP hD hS => ?_)
  exact lv_icmp_eq X.1 X.2.1 dL_law_1040 rfl (fun _ => kk H locs ls M2 _ hB2 hP hD hS hl) (fun q => absurd rfl q)
theorem lq_c29 (X : lq_X p s m c b L xs D tys cA) (h1 : vp_in (i + 1) L) (hcs : kc ≤ room_1.cells ∧ ks ≤ room_1.slots) (kk : lq_H p l e s m below meth c Q D cA ad b kc ks 2139 i) : lq_H p l e s m below meth c Q D cA ad b kc ks 1045 i := by
  intro H locs ls M σ hB hP hD hS hl
  obtain ⟨M1, M2, r1, r2, hB2⟩ := b_base hB (xs (i + 1).toNatClampNeg)
  refine lv_aload_n X.1 X.2.1 dL_law_1045 rfl (lv_at hl 2 rfl) ?_
  refine lq_ld X dL_law_1046 dL_law_1047 dL_law_1049 dL_law_1050 dL_law_1051 (v := 1) rfl h1 hl hS ?_
  refine lq_call X (a := 92) (b9 := 0) (As := [.int _]) (rest := []) rfl rfl rfl rfl (Nat.le_of_ble_eq_true rfl) (Nat.le_of_ble_eq_true rfl) (mq_at_in (q := (3, 35)) (by decide +kernel)) ⟨Nat.le_of_ble_eq_true rfl, Nat.le_of_ble_eq_true rfl⟩ hcs dL_law_1052 r1 hP hD hS hl.1 (fun H locs hP hD hS => ?_)
  refine lv_aload_n X.1 X.2.1 dL_law_1055 rfl (lv_at hl 3 rfl) ?_
  refine lq_ld X dL_law_1056 dL_law_1057 dL_law_1059 dL_law_1060 dL_law_1061 (v := 1) rfl h1 hl hS ?_
  refine lq_call X (a := 212) (b9 := 77) (As := [.int _]) (rest := [.int _]) rfl rfl rfl rfl (Nat.le_of_ble_eq_true rfl) (Nat.le_of_ble_eq_true rfl) (mq_at_in (q := (5, 229)) (by decide +kernel)) ⟨Nat.le_of_ble_eq_true rfl, Nat.le_of_ble_eq_true rfl⟩ hcs dL_law_1062 r2 hP hD hS hl.1 (fun H locs hP hD hS => ?_)
  exact lv_icmp_eq X.1 X.2.1 dL_law_1065 rfl (fun _ => kk H locs ls M2 _ hB2 hP hD hS hl) (fun q => absurd rfl q)
theorem lq_c30 (X : lq_X p s m c b L xs D tys cA) (h1 : vp_in (i + 1) L) (h2 : vp_in (i + 2) L) (h3 : vp_in (i + 3) L) (hcs : kc ≤ room_1.cells ∧ ks ≤ room_1.slots) (kk : lq_H p l e s m below meth c Q D cA ad b kc ks 2139 i) : lq_H p l e s m below meth c Q D cA ad b kc ks 1070 i := by
  intro H locs ls M σ hB hP hD hS hl
  obtain ⟨M1, M2, r1, r2, hB2⟩ := b_makes hB (xs (i + 1).toNatClampNeg) (xs (i + 2).toNatClampNeg) (xs (i + 3).toNatClampNeg)
  refine lv_aload_n X.1 X.2.1 dL_law_1070 rfl (lv_at hl 2 rfl) ?_
  refine lq_ld X dL_law_1071 dL_law_1072 dL_law_1074 dL_law_1075 dL_law_1076 (v := 1) rfl h1 hl hS ?_
  refine lq_ld X dL_law_1077 dL_law_1078 dL_law_1080 dL_law_1081 dL_law_1082 (v := 2) rfl h2 hl hS ?_
  refine lq_ld X dL_law_1083 dL_law_1084 dL_law_1086 dL_law_1087 dL_law_1088 (v := 3) rfl h3 hl hS ?_
  refine lq_call X (a := 93) (b9 := 0) (As := [.int _, .int _, .int _]) (rest := []) rfl rfl rfl rfl (Nat.le_of_ble_eq_true rfl) (Nat.le_of_ble_eq_true rfl) (mq_at_in (q := (3, 66)) (by decide +kernel)) ⟨Nat.le_of_ble_eq_true rfl, Nat.le_of_ble_eq_true rfl⟩ hcs dL_law_1089 r1 hP hD hS hl.1 (fun H locs hP hD hS => ?_)
  refine lv_aload_n X.1 X.2.1 dL_law_1092 rfl (lv_at hl 3 rfl) ?_
  refine lq_ld X dL_law_1093 dL_law_1094 dL_law_1096 dL_law_1097 dL_law_1098 (v := 1) rfl h1 hl hS ?_
  refine lq_ld X dL_law_1099 dL_law_1100 dL_law_1102 dL_law_1103 dL_law_1104 (v := 2) rfl h2 hl hS ?_
  refine lq_ld X dL_law_1105 dL_law_1106 dL_law_1108 dL_law_1109 dL_law_1110 (v := 3) rfl h3 hl hS ?_
  refine lq_call X (a := 213) (b9 := 77) (As := [.int _, .int _, .int _]) (rest := [.int _]) rfl rfl rfl rfl (Nat.le_of_ble_eq_true rfl) (Nat.le_of_ble_eq_true rfl) (mq_at_in (q := (6, 5)) (by decide +kernel)) ⟨Nat.le_of_ble_eq_true rfl, Nat.le_of_ble_eq_true rfl⟩ hcs dL_law_1111 r2 hP hD hS hl.1 (fun H locs hP hD hS => ?_)
  exact lv_icmp_eq X.1 X.2.1 dL_law_1114 rfl (fun _ => kk H locs ls M2 _ hB2 hP hD hS hl) (fun q => absurd rfl q)
theorem lq_c31 (X : lq_X p s m c b L xs D tys cA) (h1 : vp_in (i + 1) L) (h2 : vp_in (i + 2) L) (hcs : kc ≤ room_1.cells ∧ ks ≤ room_1.slots) (kk : lq_H p l e s m below meth c Q D cA ad b kc ks 2139 i) : lq_H p l e s m below meth c Q D cA ad b kc ks 1119 i := by
  intro H locs ls M σ hB hP hD hS hl
  obtain ⟨M1, M2, r1, r2, hB2⟩ := b_copies hB (xs (i + 1).toNatClampNeg) (xs (i + 2).toNatClampNeg)
  refine lv_aload_n X.1 X.2.1 dL_law_1119 rfl (lv_at hl 2 rfl) ?_
  refine lq_ld X dL_law_1120 dL_law_1121 dL_law_1123 dL_law_1124 dL_law_1125 (v := 1) rfl h1 hl hS ?_
  refine lq_ld X dL_law_1126 dL_law_1127 dL_law_1129 dL_law_1130 dL_law_1131 (v := 2) rfl h2 hl hS ?_
  refine lq_call X (a := 94) (b9 := 0) (As := [.int _, .int _]) (rest := []) rfl rfl rfl rfl (Nat.le_of_ble_eq_true rfl) (Nat.le_of_ble_eq_true rfl) (mq_at_in (q := (3, 70)) (by decide +kernel)) ⟨Nat.le_of_ble_eq_true rfl, Nat.le_of_ble_eq_true rfl⟩ hcs dL_law_1132 r1 hP hD hS hl.1 (fun H locs hP hD hS => ?_)
  refine lv_aload_n X.1 X.2.1 dL_law_1135 rfl (lv_at hl 3 rfl) ?_
  refine lq_ld X dL_law_1136 dL_law_1137 dL_law_1139 dL_law_1140 dL_law_1141 (v := 1) rfl h1 hl hS ?_
  refine lq_ld X dL_law_1142 dL_law_1143 dL_law_1145 dL_law_1146 dL_law_1147 (v := 2) rfl h2 hl hS ?_
  refine lq_call X (a := 214) (b9 := 77) (As := [.int _, .int _]) (rest := [.int _]) rfl rfl rfl rfl (Nat.le_of_ble_eq_true rfl) (Nat.le_of_ble_eq_true rfl) (mq_at_in (q := (6, 9)) (by decide +kernel)) ⟨Nat.le_of_ble_eq_true rfl, Nat.le_of_ble_eq_true rfl⟩ hcs dL_law_1148 r2 hP hD hS hl.1 (fun H locs hP hD hS => ?_)
  exact lv_icmp_eq X.1 X.2.1 dL_law_1151 rfl (fun _ => kk H locs ls M2 _ hB2 hP hD hS hl) (fun q => absurd rfl q)
theorem lq_c32 (X : lq_X p s m c b L xs D tys cA) (h1 : vp_in (i + 1) L) (h2 : vp_in (i + 2) L) (hcs : kc ≤ room_1.cells ∧ ks ≤ room_1.slots) (kk : lq_H p l e s m below meth c Q D cA ad b kc ks 2139 i) : lq_H p l e s m below meth c Q D cA ad b kc ks 1156 i := by
  intro H locs ls M σ hB hP hD hS hl
  obtain ⟨M1, M2, r1, r2, hB2⟩ := b_scales hB (xs (i + 1).toNatClampNeg) (xs (i + 2).toNatClampNeg)
  refine lv_aload_n X.1 X.2.1 dL_law_1156 rfl (lv_at hl 2 rfl) ?_
  refine lq_ld X dL_law_1157 dL_law_1158 dL_law_1160 dL_law_1161 dL_law_1162 (v := 1) rfl h1 hl hS ?_
  refine lq_ld X dL_law_1163 dL_law_1164 dL_law_1166 dL_law_1167 dL_law_1168 (v := 2) rfl h2 hl hS ?_
  refine lq_call X (a := 95) (b9 := 0) (As := [.int _, .int _]) (rest := []) rfl rfl rfl rfl (Nat.le_of_ble_eq_true rfl) (Nat.le_of_ble_eq_true rfl) (mq_at_in (q := (3, 74)) (by decide +kernel)) ⟨Nat.le_of_ble_eq_true rfl, Nat.le_of_ble_eq_true rfl⟩ hcs dL_law_1169 r1 hP hD hS hl.1 (fun H locs hP hD hS => ?_)
  refine lv_aload_n X.1 X.2.1 dL_law_1172 rfl (lv_at hl 3 rfl) ?_
  refine lq_ld X dL_law_1173 dL_law_1174 dL_law_1176 dL_law_1177 dL_law_1178 (v := 1) rfl h1 hl hS ?_
  refine lq_ld X dL_law_1179 dL_law_1180 dL_law_1182 dL_law_1183 dL_law_1184 (v := 2) rfl h2 hl hS ?_
  refine lq_call X (a := 215) (b9 := 77) (As := [.int _, .int _]) (rest := [.int _]) rfl rfl rfl rfl (Nat.le_of_ble_eq_true rfl) (Nat.le_of_ble_eq_true rfl) (mq_at_in (q := (6, 21)) (by decide +kernel)) ⟨Nat.le_of_ble_eq_true rfl, Nat.le_of_ble_eq_true rfl⟩ hcs dL_law_1185 r2 hP hD hS hl.1 (fun H locs hP hD hS => ?_)
  exact lv_icmp_eq X.1 X.2.1 dL_law_1188 rfl (fun _ => kk H locs ls M2 _ hB2 hP hD hS hl) (fun q => absurd rfl q)
theorem lq_c33 (X : lq_X p s m c b L xs D tys cA) (h1 : vp_in (i + 1) L) (h2 : vp_in (i + 2) L) (h3 : vp_in (i + 3) L) (hcs : kc ≤ room_1.cells ∧ ks ≤ room_1.slots) (kk : lq_H p l e s m below meth c Q D cA ad b kc ks 2139 i) : lq_H p l e s m below meth c Q D cA ad b kc ks 1193 i := by
  intro H locs ls M σ hB hP hD hS hl
  obtain ⟨M1, M2, r1, r2, hB2⟩ := b_moves hB (xs (i + 1).toNatClampNeg) (xs (i + 2).toNatClampNeg) (xs (i + 3).toNatClampNeg)
  refine lv_aload_n X.1 X.2.1 dL_law_1193 rfl (lv_at hl 2 rfl) ?_
  refine lq_ld X dL_law_1194 dL_law_1195 dL_law_1197 dL_law_1198 dL_law_1199 (v := 1) rfl h1 hl hS ?_
  refine lq_ld X dL_law_1200 dL_law_1201 dL_law_1203 dL_law_1204 dL_law_1205 (v := 2) rfl h2 hl hS ?_
  refine lq_ld X dL_law_1206 dL_law_1207 dL_law_1209 dL_law_1210 dL_law_1211 (v := 3) rfl h3 hl hS ?_
  refine lq_call X (a := 96) (b9 := 0) (As := [.int _, .int _, .int _]) (rest := []) rfl rfl rfl rfl (Nat.le_of_ble_eq_true rfl) (Nat.le_of_ble_eq_true rfl) (mq_at_in (q := (3, 78)) (by decide +kernel)) ⟨Nat.le_of_ble_eq_true rfl, Nat.le_of_ble_eq_true rfl⟩ hcs dL_law_1212 r1 hP hD hS hl.1 (fun H locs hP hD hS => ?_)
  refine lv_aload_n X.1 X.2.1 dL_law_1215 rfl (lv_at hl 3 rfl) ?_
  refine lq_ld X dL_law_1216 dL_law_1217 dL_law_1219 dL_law_1220 dL_law_1221 (v := 1) rfl h1 hl hS ?_
  refine lq_ld X dL_law_1222 dL_law_1223 dL_law_1225 dL_law_1226 dL_law_1227 (v := 2) rfl h2 hl hS ?_
  refine lq_ld X dL_law_1228 dL_law_1229 dL_law_1231 dL_law_1232 dL_law_1233 (v := 3) rfl h3 hl hS ?_
  refine lq_call X (a := 217) (b9 := 77) (As := [.int _, .int _, .int _]) (rest := [.int _]) rfl rfl rfl rfl (Nat.le_of_ble_eq_true rfl) (Nat.le_of_ble_eq_true rfl) (mq_at_in (q := (6, 25)) (by decide +kernel)) ⟨Nat.le_of_ble_eq_true rfl, Nat.le_of_ble_eq_true rfl⟩ hcs dL_law_1234 r2 hP hD hS hl.1 (fun H locs hP hD hS => ?_)
  exact lv_icmp_eq X.1 X.2.1 dL_law_1237 rfl (fun _ => kk H locs ls M2 _ hB2 hP hD hS hl) (fun q => absurd rfl q)
theorem lq_c34 (X : lq_X p s m c b L xs D tys cA) (h1 : vp_in (i + 1) L) (h2 : vp_in (i + 2) L) (h3 : vp_in (i + 3) L) (hcs : kc ≤ room_1.cells ∧ ks ≤ room_1.slots) (kk : lq_H p l e s m below meth c Q D cA ad b kc ks 2139 i) : lq_H p l e s m below meth c Q D cA ad b kc ks 1242 i := by
  intro H locs ls M σ hB hP hD hS hl
  obtain ⟨M1, M2, r1, r2, hB2⟩ := b_adds hB (xs (i + 1).toNatClampNeg) (xs (i + 2).toNatClampNeg) (xs (i + 3).toNatClampNeg)
  refine lv_aload_n X.1 X.2.1 dL_law_1242 rfl (lv_at hl 2 rfl) ?_
  refine lq_ld X dL_law_1243 dL_law_1244 dL_law_1246 dL_law_1247 dL_law_1248 (v := 1) rfl h1 hl hS ?_
  refine lq_ld X dL_law_1249 dL_law_1250 dL_law_1252 dL_law_1253 dL_law_1254 (v := 2) rfl h2 hl hS ?_
  refine lq_ld X dL_law_1255 dL_law_1256 dL_law_1258 dL_law_1259 dL_law_1260 (v := 3) rfl h3 hl hS ?_
  refine lq_call X (a := 97) (b9 := 0) (As := [.int _, .int _, .int _]) (rest := []) rfl rfl rfl rfl (Nat.le_of_ble_eq_true rfl) (Nat.le_of_ble_eq_true rfl) (mq_at_in (q := (3, 90)) (by decide +kernel)) ⟨Nat.le_of_ble_eq_true rfl, Nat.le_of_ble_eq_true rfl⟩ hcs dL_law_1261 r1 hP hD hS hl.1 (fun H locs hP hD hS => ?_)
  refine lv_aload_n X.1 X.2.1 dL_law_1264 rfl (lv_at hl 3 rfl) ?_
  refine lq_ld X dL_law_1265 dL_law_1266 dL_law_1268 dL_law_1269 dL_law_1270 (v := 1) rfl h1 hl hS ?_
  refine lq_ld X dL_law_1271 dL_law_1272 dL_law_1274 dL_law_1275 dL_law_1276 (v := 2) rfl h2 hl hS ?_
  refine lq_ld X dL_law_1277 dL_law_1278 dL_law_1280 dL_law_1281 dL_law_1282 (v := 3) rfl h3 hl hS ?_
  refine lq_call X (a := 218) (b9 := 77) (As := [.int _, .int _, .int _]) (rest := [.int _]) rfl rfl rfl rfl (Nat.le_of_ble_eq_true rfl) (Nat.le_of_ble_eq_true rfl) (mq_at_in (q := (6, 37)) (by decide +kernel)) ⟨Nat.le_of_ble_eq_true rfl, Nat.le_of_ble_eq_true rfl⟩ hcs dL_law_1283 r2 hP hD hS hl.1 (fun H locs hP hD hS => ?_)
  exact lv_icmp_eq X.1 X.2.1 dL_law_1286 rfl (fun _ => kk H locs ls M2 _ hB2 hP hD hS hl) (fun q => absurd rfl q)
theorem lq_c35 (X : lq_X p s m c b L xs D tys cA) (h1 : vp_in (i + 1) L) (h2 : vp_in (i + 2) L) (hcs : kc ≤ room_1.cells ∧ ks ≤ room_1.slots) (kk : lq_H p l e s m below meth c Q D cA ad b kc ks 2139 i) : lq_H p l e s m below meth c Q D cA ad b kc ks 1291 i := by
  intro H locs ls M σ hB hP hD hS hl
  obtain ⟨M1, M2, r1, r2, hB2⟩ := b_at hB (xs (i + 1).toNatClampNeg) (xs (i + 2).toNatClampNeg)
  refine lv_aload_n X.1 X.2.1 dL_law_1291 rfl (lv_at hl 2 rfl) ?_
  refine lq_ld X dL_law_1292 dL_law_1293 dL_law_1295 dL_law_1296 dL_law_1297 (v := 1) rfl h1 hl hS ?_
  refine lq_ld X dL_law_1298 dL_law_1299 dL_law_1301 dL_law_1302 dL_law_1303 (v := 2) rfl h2 hl hS ?_
  refine lq_call X (a := 98) (b9 := 0) (As := [.int _, .int _]) (rest := []) rfl rfl rfl rfl (Nat.le_of_ble_eq_true rfl) (Nat.le_of_ble_eq_true rfl) (mq_at_in (q := (3, 94)) (by decide +kernel)) ⟨Nat.le_of_ble_eq_true rfl, Nat.le_of_ble_eq_true rfl⟩ hcs dL_law_1304 r1 hP hD hS hl.1 (fun H locs hP hD hS => ?_)
  refine lv_aload_n X.1 X.2.1 dL_law_1307 rfl (lv_at hl 3 rfl) ?_
  refine lq_ld X dL_law_1308 dL_law_1309 dL_law_1311 dL_law_1312 dL_law_1313 (v := 1) rfl h1 hl hS ?_
  refine lq_ld X dL_law_1314 dL_law_1315 dL_law_1317 dL_law_1318 dL_law_1319 (v := 2) rfl h2 hl hS ?_
  refine lq_call X (a := 219) (b9 := 77) (As := [.int _, .int _]) (rest := [.int _]) rfl rfl rfl rfl (Nat.le_of_ble_eq_true rfl) (Nat.le_of_ble_eq_true rfl) (mq_at_in (q := (6, 41)) (by decide +kernel)) ⟨Nat.le_of_ble_eq_true rfl, Nat.le_of_ble_eq_true rfl⟩ hcs dL_law_1320 r2 hP hD hS hl.1 (fun H locs hP hD hS => ?_)
  exact lv_icmp_eq X.1 X.2.1 dL_law_1323 rfl (fun _ => kk H locs ls M2 _ hB2 hP hD hS hl) (fun q => absurd rfl q)
theorem lq_c36 (X : lq_X p s m c b L xs D tys cA) (h1 : vp_in (i + 1) L) (h2 : vp_in (i + 2) L) (hcs : kc ≤ room_1.cells ∧ ks ≤ room_1.slots) (kk : lq_H p l e s m below meth c Q D cA ad b kc ks 2139 i) : lq_H p l e s m below meth c Q D cA ad b kc ks 1328 i := by
  intro H locs ls M σ hB hP hD hS hl
  obtain ⟨M1, M2, r1, r2, hB2⟩ := b_coordinates hB (xs (i + 1).toNatClampNeg) (xs (i + 2).toNatClampNeg)
  refine lv_aload_n X.1 X.2.1 dL_law_1328 rfl (lv_at hl 2 rfl) ?_
  refine lq_ld X dL_law_1329 dL_law_1330 dL_law_1332 dL_law_1333 dL_law_1334 (v := 1) rfl h1 hl hS ?_
  refine lq_ld X dL_law_1335 dL_law_1336 dL_law_1338 dL_law_1339 dL_law_1340 (v := 2) rfl h2 hl hS ?_
  refine lq_call X (a := 99) (b9 := 0) (As := [.int _, .int _]) (rest := []) rfl rfl rfl rfl (Nat.le_of_ble_eq_true rfl) (Nat.le_of_ble_eq_true rfl) (mq_at_in (q := (3, 98)) (by decide +kernel)) ⟨Nat.le_of_ble_eq_true rfl, Nat.le_of_ble_eq_true rfl⟩ hcs dL_law_1341 r1 hP hD hS hl.1 (fun H locs hP hD hS => ?_)
  refine lv_aload_n X.1 X.2.1 dL_law_1344 rfl (lv_at hl 3 rfl) ?_
  refine lq_ld X dL_law_1345 dL_law_1346 dL_law_1348 dL_law_1349 dL_law_1350 (v := 1) rfl h1 hl hS ?_
  refine lq_ld X dL_law_1351 dL_law_1352 dL_law_1354 dL_law_1355 dL_law_1356 (v := 2) rfl h2 hl hS ?_
  refine lq_call X (a := 220) (b9 := 77) (As := [.int _, .int _]) (rest := [.int _]) rfl rfl rfl rfl (Nat.le_of_ble_eq_true rfl) (Nat.le_of_ble_eq_true rfl) (mq_at_in (q := (6, 45)) (by decide +kernel)) ⟨Nat.le_of_ble_eq_true rfl, Nat.le_of_ble_eq_true rfl⟩ hcs dL_law_1357 r2 hP hD hS hl.1 (fun H locs hP hD hS => ?_)
  exact lv_icmp_eq X.1 X.2.1 dL_law_1360 rfl (fun _ => kk H locs ls M2 _ hB2 hP hD hS hl) (fun q => absurd rfl q)
theorem lq_c37 (X : lq_X p s m c b L xs D tys cA) (h1 : vp_in (i + 1) L) (h2 : vp_in (i + 2) L) (hcs : kc ≤ room_1.cells ∧ ks ≤ room_1.slots) (kk : lq_H p l e s m below meth c Q D cA ad b kc ks 2139 i) : lq_H p l e s m below meth c Q D cA ad b kc ks 1365 i := by
  intro H locs ls M σ hB hP hD hS hl
  obtain ⟨M1, M2, r1, r2, hB2⟩ := b_made hB (xs (i + 1).toNatClampNeg) (xs (i + 2).toNatClampNeg)
  refine lv_aload_n X.1 X.2.1 dL_law_1365 rfl (lv_at hl 2 rfl) ?_
  refine lq_ld X dL_law_1366 dL_law_1367 dL_law_1369 dL_law_1370 dL_law_1371 (v := 1) rfl h1 hl hS ?_
  refine lq_ld X dL_law_1372 dL_law_1373 dL_law_1375 dL_law_1376 dL_law_1377 (v := 2) rfl h2 hl hS ?_
  refine lq_call X (a := 100) (b9 := 0) (As := [.int _, .int _]) (rest := []) rfl rfl rfl rfl (Nat.le_of_ble_eq_true rfl) (Nat.le_of_ble_eq_true rfl) (mq_at_in (q := (3, 103)) (by decide +kernel)) ⟨Nat.le_of_ble_eq_true rfl, Nat.le_of_ble_eq_true rfl⟩ hcs dL_law_1378 r1 hP hD hS hl.1 (fun H locs hP hD hS => ?_)
  refine lv_aload_n X.1 X.2.1 dL_law_1381 rfl (lv_at hl 3 rfl) ?_
  refine lq_ld X dL_law_1382 dL_law_1383 dL_law_1385 dL_law_1386 dL_law_1387 (v := 1) rfl h1 hl hS ?_
  refine lq_ld X dL_law_1388 dL_law_1389 dL_law_1391 dL_law_1392 dL_law_1393 (v := 2) rfl h2 hl hS ?_
  refine lq_call X (a := 221) (b9 := 77) (As := [.int _, .int _]) (rest := [.int _]) rfl rfl rfl rfl (Nat.le_of_ble_eq_true rfl) (Nat.le_of_ble_eq_true rfl) (mq_at_in (q := (6, 49)) (by decide +kernel)) ⟨Nat.le_of_ble_eq_true rfl, Nat.le_of_ble_eq_true rfl⟩ hcs dL_law_1394 r2 hP hD hS hl.1 (fun H locs hP hD hS => ?_)
  exact lv_icmp_eq X.1 X.2.1 dL_law_1397 rfl (fun _ => kk H locs ls M2 _ hB2 hP hD hS hl) (fun q => absurd rfl q)
theorem lq_c38 (X : lq_X p s m c b L xs D tys cA) (h1 : vp_in (i + 1) L) (h2 : vp_in (i + 2) L) (hcs : kc ≤ room_1.cells ∧ ks ≤ room_1.slots) (kk : lq_H p l e s m below meth c Q D cA ad b kc ks 2139 i) : lq_H p l e s m below meth c Q D cA ad b kc ks 1402 i := by
  intro H locs ls M σ hB hP hD hS hl
  obtain ⟨M1, M2, r1, r2, hB2⟩ := b_change hB (xs (i + 1).toNatClampNeg) (xs (i + 2).toNatClampNeg)
  refine lv_aload_n X.1 X.2.1 dL_law_1402 rfl (lv_at hl 2 rfl) ?_
  refine lq_ld X dL_law_1403 dL_law_1404 dL_law_1406 dL_law_1407 dL_law_1408 (v := 1) rfl h1 hl hS ?_
  refine lq_ld X dL_law_1409 dL_law_1410 dL_law_1412 dL_law_1413 dL_law_1414 (v := 2) rfl h2 hl hS ?_
  refine lq_call X (a := 101) (b9 := 0) (As := [.int _, .int _]) (rest := []) rfl rfl rfl rfl (Nat.le_of_ble_eq_true rfl) (Nat.le_of_ble_eq_true rfl) (mq_at_in (q := (3, 111)) (by decide +kernel)) ⟨Nat.le_of_ble_eq_true rfl, Nat.le_of_ble_eq_true rfl⟩ hcs dL_law_1415 r1 hP hD hS hl.1 (fun H locs hP hD hS => ?_)
  refine lv_aload_n X.1 X.2.1 dL_law_1418 rfl (lv_at hl 3 rfl) ?_
  refine lq_ld X dL_law_1419 dL_law_1420 dL_law_1422 dL_law_1423 dL_law_1424 (v := 1) rfl h1 hl hS ?_
  refine lq_ld X dL_law_1425 dL_law_1426 dL_law_1428 dL_law_1429 dL_law_1430 (v := 2) rfl h2 hl hS ?_
  refine lq_call X (a := 223) (b9 := 77) (As := [.int _, .int _]) (rest := [.int _]) rfl rfl rfl rfl (Nat.le_of_ble_eq_true rfl) (Nat.le_of_ble_eq_true rfl) (mq_at_in (q := (6, 53)) (by decide +kernel)) ⟨Nat.le_of_ble_eq_true rfl, Nat.le_of_ble_eq_true rfl⟩ hcs dL_law_1431 r2 hP hD hS hl.1 (fun H locs hP hD hS => ?_)
  exact lv_icmp_eq X.1 X.2.1 dL_law_1434 rfl (fun _ => kk H locs ls M2 _ hB2 hP hD hS hl) (fun q => absurd rfl q)
theorem lq_c39 (X : lq_X p s m c b L xs D tys cA) (h1 : vp_in (i + 1) L) (h2 : vp_in (i + 2) L) (h3 : vp_in (i + 3) L) (hcs : kc ≤ room_1.cells ∧ ks ≤ room_1.slots) (kk : lq_H p l e s m below meth c Q D cA ad b kc ks 2139 i) : lq_H p l e s m below meth c Q D cA ad b kc ks 1439 i := by
  intro H locs ls M σ hB hP hD hS hl
  obtain ⟨M1, M2, r1, r2, hB2⟩ := b_table hB (xs (i + 1).toNatClampNeg) (xs (i + 2).toNatClampNeg) (xs (i + 3).toNatClampNeg)
  refine lv_aload_n X.1 X.2.1 dL_law_1439 rfl (lv_at hl 2 rfl) ?_
  refine lq_ld X dL_law_1440 dL_law_1441 dL_law_1443 dL_law_1444 dL_law_1445 (v := 1) rfl h1 hl hS ?_
  refine lq_ld X dL_law_1446 dL_law_1447 dL_law_1449 dL_law_1450 dL_law_1451 (v := 2) rfl h2 hl hS ?_
  refine lq_ld X dL_law_1452 dL_law_1453 dL_law_1455 dL_law_1456 dL_law_1457 (v := 3) rfl h3 hl hS ?_
  refine lq_call X (a := 102) (b9 := 0) (As := [.int _, .int _, .int _]) (rest := []) rfl rfl rfl rfl (Nat.le_of_ble_eq_true rfl) (Nat.le_of_ble_eq_true rfl) (mq_at_in (q := (3, 119)) (by decide +kernel)) ⟨Nat.le_of_ble_eq_true rfl, Nat.le_of_ble_eq_true rfl⟩ hcs dL_law_1458 r1 hP hD hS hl.1 (fun H locs hP hD hS => ?_)
  refine lv_aload_n X.1 X.2.1 dL_law_1461 rfl (lv_at hl 3 rfl) ?_
  refine lq_ld X dL_law_1462 dL_law_1463 dL_law_1465 dL_law_1466 dL_law_1467 (v := 1) rfl h1 hl hS ?_
  refine lq_ld X dL_law_1468 dL_law_1469 dL_law_1471 dL_law_1472 dL_law_1473 (v := 2) rfl h2 hl hS ?_
  refine lq_ld X dL_law_1474 dL_law_1475 dL_law_1477 dL_law_1478 dL_law_1479 (v := 3) rfl h3 hl hS ?_
  refine lq_call X (a := 224) (b9 := 77) (As := [.int _, .int _, .int _]) (rest := [.int _]) rfl rfl rfl rfl (Nat.le_of_ble_eq_true rfl) (Nat.le_of_ble_eq_true rfl) (mq_at_in (q := (6, 61)) (by decide +kernel)) ⟨Nat.le_of_ble_eq_true rfl, Nat.le_of_ble_eq_true rfl⟩ hcs dL_law_1480 r2 hP hD hS hl.1 (fun H locs hP hD hS => ?_)
  exact lv_icmp_eq X.1 X.2.1 dL_law_1483 rfl (fun _ => kk H locs ls M2 _ hB2 hP hD hS hl) (fun q => absurd rfl q)
theorem lq_c40 (X : lq_X p s m c b L xs D tys cA) (h1 : vp_in (i + 1) L) (hcs : kc ≤ room_1.cells ∧ ks ≤ room_1.slots) (kk : lq_H p l e s m below meth c Q D cA ad b kc ks 2139 i) : lq_H p l e s m below meth c Q D cA ad b kc ks 1488 i := by
  intro H locs ls M σ hB hP hD hS hl
  obtain ⟨M1, M2, r1, r2, hB2⟩ := b_complexity hB (xs (i + 1).toNatClampNeg)
  refine lv_aload_n X.1 X.2.1 dL_law_1488 rfl (lv_at hl 2 rfl) ?_
  refine lq_ld X dL_law_1489 dL_law_1490 dL_law_1492 dL_law_1493 dL_law_1494 (v := 1) rfl h1 hl hS ?_
  refine lq_call X (a := 103) (b9 := 0) (As := [.int _]) (rest := []) rfl rfl rfl rfl (Nat.le_of_ble_eq_true rfl) (Nat.le_of_ble_eq_true rfl) (mq_at_in (q := (3, 123)) (by decide +kernel)) ⟨Nat.le_of_ble_eq_true rfl, Nat.le_of_ble_eq_true rfl⟩ hcs dL_law_1495 r1 hP hD hS hl.1 (fun H locs hP hD hS => ?_)
  refine lv_aload_n X.1 X.2.1 dL_law_1498 rfl (lv_at hl 3 rfl) ?_
  refine lq_ld X dL_law_1499 dL_law_1500 dL_law_1502 dL_law_1503 dL_law_1504 (v := 1) rfl h1 hl hS ?_
  refine lq_call X (a := 225) (b9 := 77) (As := [.int _]) (rest := [.int _]) rfl rfl rfl rfl (Nat.le_of_ble_eq_true rfl) (Nat.le_of_ble_eq_true rfl) (mq_at_in (q := (6, 65)) (by decide +kernel)) ⟨Nat.le_of_ble_eq_true rfl, Nat.le_of_ble_eq_true rfl⟩ hcs dL_law_1505 r2 hP hD hS hl.1 (fun H locs hP hD hS => ?_)
  exact lv_icmp_eq X.1 X.2.1 dL_law_1508 rfl (fun _ => kk H locs ls M2 _ hB2 hP hD hS hl) (fun q => absurd rfl q)
theorem lq_c41 (X : lq_X p s m c b L xs D tys cA) (h1 : vp_in (i + 1) L) (h2 : vp_in (i + 2) L) (hcs : kc ≤ room_1.cells ∧ ks ≤ room_1.slots) (kk : lq_H p l e s m below meth c Q D cA ad b kc ks 2139 i) : lq_H p l e s m below meth c Q D cA ad b kc ks 1513 i := by
  intro H locs ls M σ hB hP hD hS hl
  obtain ⟨M1, M2, r1, r2, hB2⟩ := b_by hB (xs (i + 1).toNatClampNeg) (xs (i + 2).toNatClampNeg)
  refine lv_aload_n X.1 X.2.1 dL_law_1513 rfl (lv_at hl 2 rfl) ?_
  refine lq_ld X dL_law_1514 dL_law_1515 dL_law_1517 dL_law_1518 dL_law_1519 (v := 1) rfl h1 hl hS ?_
  refine lq_ld X dL_law_1520 dL_law_1521 dL_law_1523 dL_law_1524 dL_law_1525 (v := 2) rfl h2 hl hS ?_
  refine lq_call X (a := 104) (b9 := 0) (As := [.int _, .int _]) (rest := []) rfl rfl rfl rfl (Nat.le_of_ble_eq_true rfl) (Nat.le_of_ble_eq_true rfl) (mq_at_in (q := (3, 131)) (by decide +kernel)) ⟨Nat.le_of_ble_eq_true rfl, Nat.le_of_ble_eq_true rfl⟩ hcs dL_law_1526 r1 hP hD hS hl.1 (fun H locs hP hD hS => ?_)
  refine lv_aload_n X.1 X.2.1 dL_law_1529 rfl (lv_at hl 3 rfl) ?_
  refine lq_ld X dL_law_1530 dL_law_1531 dL_law_1533 dL_law_1534 dL_law_1535 (v := 1) rfl h1 hl hS ?_
  refine lq_ld X dL_law_1536 dL_law_1537 dL_law_1539 dL_law_1540 dL_law_1541 (v := 2) rfl h2 hl hS ?_
  refine lq_call X (a := 226) (b9 := 77) (As := [.int _, .int _]) (rest := [.int _]) rfl rfl rfl rfl (Nat.le_of_ble_eq_true rfl) (Nat.le_of_ble_eq_true rfl) (mq_at_in (q := (6, 74)) (by decide +kernel)) ⟨Nat.le_of_ble_eq_true rfl, Nat.le_of_ble_eq_true rfl⟩ hcs dL_law_1542 r2 hP hD hS hl.1 (fun H locs hP hD hS => ?_)
  exact lv_icmp_eq X.1 X.2.1 dL_law_1545 rfl (fun _ => kk H locs ls M2 _ hB2 hP hD hS hl) (fun q => absurd rfl q)
theorem lq_c42 (X : lq_X p s m c b L xs D tys cA) (h1 : vp_in (i + 1) L) (hcs : kc ≤ room_1.cells ∧ ks ≤ room_1.slots) (kk : lq_H p l e s m below meth c Q D cA ad b kc ks 2139 i) : lq_H p l e s m below meth c Q D cA ad b kc ks 1550 i := by
  intro H locs ls M σ hB hP hD hS hl
  obtain ⟨M1, M2, r1, r2, hB2⟩ := b_squares hB (xs (i + 1).toNatClampNeg)
  refine lv_aload_n X.1 X.2.1 dL_law_1550 rfl (lv_at hl 2 rfl) ?_
  refine lq_ld X dL_law_1551 dL_law_1552 dL_law_1554 dL_law_1555 dL_law_1556 (v := 1) rfl h1 hl hS ?_
  refine lq_call X (a := 105) (b9 := 0) (As := [.int _]) (rest := []) rfl rfl rfl rfl (Nat.le_of_ble_eq_true rfl) (Nat.le_of_ble_eq_true rfl) (mq_at_in (q := (3, 135)) (by decide +kernel)) ⟨Nat.le_of_ble_eq_true rfl, Nat.le_of_ble_eq_true rfl⟩ hcs dL_law_1557 r1 hP hD hS hl.1 (fun H locs hP hD hS => ?_)
  refine lv_aload_n X.1 X.2.1 dL_law_1560 rfl (lv_at hl 3 rfl) ?_
  refine lq_ld X dL_law_1561 dL_law_1562 dL_law_1564 dL_law_1565 dL_law_1566 (v := 1) rfl h1 hl hS ?_
  refine lq_call X (a := 227) (b9 := 77) (As := [.int _]) (rest := [.int _]) rfl rfl rfl rfl (Nat.le_of_ble_eq_true rfl) (Nat.le_of_ble_eq_true rfl) (mq_at_in (q := (6, 78)) (by decide +kernel)) ⟨Nat.le_of_ble_eq_true rfl, Nat.le_of_ble_eq_true rfl⟩ hcs dL_law_1567 r2 hP hD hS hl.1 (fun H locs hP hD hS => ?_)
  exact lv_icmp_eq X.1 X.2.1 dL_law_1570 rfl (fun _ => kk H locs ls M2 _ hB2 hP hD hS hl) (fun q => absurd rfl q)
theorem lq_c43 (X : lq_X p s m c b L xs D tys cA) (h1 : vp_in (i + 1) L) (h2 : vp_in (i + 2) L) (h3 : vp_in (i + 3) L) (hcs : kc ≤ room_1.cells ∧ ks ≤ room_1.slots) (kk : lq_H p l e s m below meth c Q D cA ad b kc ks 2139 i) : lq_H p l e s m below meth c Q D cA ad b kc ks 1575 i := by
  intro H locs ls M σ hB hP hD hS hl
  obtain ⟨M1, M2, r1, r2, hB2⟩ := b_productIn hB (xs (i + 1).toNatClampNeg) (xs (i + 2).toNatClampNeg) (xs (i + 3).toNatClampNeg)
  refine lv_aload_n X.1 X.2.1 dL_law_1575 rfl (lv_at hl 2 rfl) ?_
  refine lq_ld X dL_law_1576 dL_law_1577 dL_law_1579 dL_law_1580 dL_law_1581 (v := 1) rfl h1 hl hS ?_
  refine lq_ld X dL_law_1582 dL_law_1583 dL_law_1585 dL_law_1586 dL_law_1587 (v := 2) rfl h2 hl hS ?_
  refine lq_ld X dL_law_1588 dL_law_1589 dL_law_1591 dL_law_1592 dL_law_1593 (v := 3) rfl h3 hl hS ?_
  refine lq_call X (a := 106) (b9 := 0) (As := [.int _, .int _, .int _]) (rest := []) rfl rfl rfl rfl (Nat.le_of_ble_eq_true rfl) (Nat.le_of_ble_eq_true rfl) (mq_at_in (q := (3, 139)) (by decide +kernel)) ⟨Nat.le_of_ble_eq_true rfl, Nat.le_of_ble_eq_true rfl⟩ hcs dL_law_1594 r1 hP hD hS hl.1 (fun H locs hP hD hS => ?_)
  refine lv_aload_n X.1 X.2.1 dL_law_1597 rfl (lv_at hl 3 rfl) ?_
  refine lq_ld X dL_law_1598 dL_law_1599 dL_law_1601 dL_law_1602 dL_law_1603 (v := 1) rfl h1 hl hS ?_
  refine lq_ld X dL_law_1604 dL_law_1605 dL_law_1607 dL_law_1608 dL_law_1609 (v := 2) rfl h2 hl hS ?_
  refine lq_ld X dL_law_1610 dL_law_1611 dL_law_1613 dL_law_1614 dL_law_1615 (v := 3) rfl h3 hl hS ?_
  refine lq_call X (a := 228) (b9 := 77) (As := [.int _, .int _, .int _]) (rest := [.int _]) rfl rfl rfl rfl (Nat.le_of_ble_eq_true rfl) (Nat.le_of_ble_eq_true rfl) (mq_at_in (q := (6, 82)) (by decide +kernel)) ⟨Nat.le_of_ble_eq_true rfl, Nat.le_of_ble_eq_true rfl⟩ hcs dL_law_1616 r2 hP hD hS hl.1 (fun H locs hP hD hS => ?_)
  exact lv_icmp_eq X.1 X.2.1 dL_law_1619 rfl (fun _ => kk H locs ls M2 _ hB2 hP hD hS hl) (fun q => absurd rfl q)
theorem lq_c44 (X : lq_X p s m c b L xs D tys cA) (h1 : vp_in (i + 1) L) (h2 : vp_in (i + 2) L) (h3 : vp_in (i + 3) L) (hcs : kc ≤ room_1.cells ∧ ks ≤ room_1.slots) (kk : lq_H p l e s m below meth c Q D cA ad b kc ks 2139 i) : lq_H p l e s m below meth c Q D cA ad b kc ks 1624 i := by
  intro H locs ls M σ hB hP hD hS hl
  obtain ⟨M1, M2, r1, r2, hB2⟩ := b_far hB (xs (i + 1).toNatClampNeg) (xs (i + 2).toNatClampNeg) (xs (i + 3).toNatClampNeg)
  refine lv_aload_n X.1 X.2.1 dL_law_1624 rfl (lv_at hl 2 rfl) ?_
  refine lq_ld X dL_law_1625 dL_law_1626 dL_law_1628 dL_law_1629 dL_law_1630 (v := 1) rfl h1 hl hS ?_
  refine lq_ld X dL_law_1631 dL_law_1632 dL_law_1634 dL_law_1635 dL_law_1636 (v := 2) rfl h2 hl hS ?_
  refine lq_ld X dL_law_1637 dL_law_1638 dL_law_1640 dL_law_1641 dL_law_1642 (v := 3) rfl h3 hl hS ?_
  refine lq_call X (a := 107) (b9 := 0) (As := [.int _, .int _, .int _]) (rest := []) rfl rfl rfl rfl (Nat.le_of_ble_eq_true rfl) (Nat.le_of_ble_eq_true rfl) (mq_at_in (q := (3, 143)) (by decide +kernel)) ⟨Nat.le_of_ble_eq_true rfl, Nat.le_of_ble_eq_true rfl⟩ hcs dL_law_1643 r1 hP hD hS hl.1 (fun H locs hP hD hS => ?_)
  refine lv_aload_n X.1 X.2.1 dL_law_1646 rfl (lv_at hl 3 rfl) ?_
  refine lq_ld X dL_law_1647 dL_law_1648 dL_law_1650 dL_law_1651 dL_law_1652 (v := 1) rfl h1 hl hS ?_
  refine lq_ld X dL_law_1653 dL_law_1654 dL_law_1656 dL_law_1657 dL_law_1658 (v := 2) rfl h2 hl hS ?_
  refine lq_ld X dL_law_1659 dL_law_1660 dL_law_1662 dL_law_1663 dL_law_1664 (v := 3) rfl h3 hl hS ?_
  refine lq_call X (a := 229) (b9 := 77) (As := [.int _, .int _, .int _]) (rest := [.int _]) rfl rfl rfl rfl (Nat.le_of_ble_eq_true rfl) (Nat.le_of_ble_eq_true rfl) (mq_at_in (q := (6, 86)) (by decide +kernel)) ⟨Nat.le_of_ble_eq_true rfl, Nat.le_of_ble_eq_true rfl⟩ hcs dL_law_1665 r2 hP hD hS hl.1 (fun H locs hP hD hS => ?_)
  exact lv_icmp_eq X.1 X.2.1 dL_law_1668 rfl (fun _ => kk H locs ls M2 _ hB2 hP hD hS hl) (fun q => absurd rfl q)
theorem lq_c45 (X : lq_X p s m c b L xs D tys cA) (h1 : vp_in (i + 1) L) (hcs : kc ≤ room_1.cells ∧ ks ≤ room_1.slots) (kk : lq_H p l e s m below meth c Q D cA ad b kc ks 2139 i) : lq_H p l e s m below meth c Q D cA ad b kc ks 1673 i := by
  intro H locs ls M σ hB hP hD hS hl
  obtain ⟨M1, M2, r1, r2, hB2⟩ := b_steady hB (xs (i + 1).toNatClampNeg)
  refine lv_aload_n X.1 X.2.1 dL_law_1673 rfl (lv_at hl 2 rfl) ?_
  refine lq_ld X dL_law_1674 dL_law_1675 dL_law_1677 dL_law_1678 dL_law_1679 (v := 1) rfl h1 hl hS ?_
  refine lq_call X (a := 108) (b9 := 0) (As := [.int _]) (rest := []) rfl rfl rfl rfl (Nat.le_of_ble_eq_true rfl) (Nat.le_of_ble_eq_true rfl) (mq_at_in (q := (3, 147)) (by decide +kernel)) ⟨Nat.le_of_ble_eq_true rfl, Nat.le_of_ble_eq_true rfl⟩ hcs dL_law_1680 r1 hP hD hS hl.1 (fun H locs hP hD hS => ?_)
  refine lv_aload_n X.1 X.2.1 dL_law_1683 rfl (lv_at hl 3 rfl) ?_
  refine lq_ld X dL_law_1684 dL_law_1685 dL_law_1687 dL_law_1688 dL_law_1689 (v := 1) rfl h1 hl hS ?_
  refine lq_call X (a := 230) (b9 := 77) (As := [.int _]) (rest := [.int _]) rfl rfl rfl rfl (Nat.le_of_ble_eq_true rfl) (Nat.le_of_ble_eq_true rfl) (mq_at_in (q := (6, 90)) (by decide +kernel)) ⟨Nat.le_of_ble_eq_true rfl, Nat.le_of_ble_eq_true rfl⟩ hcs dL_law_1690 r2 hP hD hS hl.1 (fun H locs hP hD hS => ?_)
  exact lv_icmp_eq X.1 X.2.1 dL_law_1693 rfl (fun _ => kk H locs ls M2 _ hB2 hP hD hS hl) (fun q => absurd rfl q)
theorem lq_c46 (X : lq_X p s m c b L xs D tys cA) (h1 : vp_in (i + 1) L) (hcs : kc ≤ room_1.cells ∧ ks ≤ room_1.slots) (kk : lq_H p l e s m below meth c Q D cA ad b kc ks 2139 i) : lq_H p l e s m below meth c Q D cA ad b kc ks 1698 i := by
  intro H locs ls M σ hB hP hD hS hl
  obtain ⟨M1, M2, r1, r2, hB2⟩ := b_bestScale hB (xs (i + 1).toNatClampNeg)
  refine lv_aload_n X.1 X.2.1 dL_law_1698 rfl (lv_at hl 2 rfl) ?_
  refine lq_ld X dL_law_1699 dL_law_1700 dL_law_1702 dL_law_1703 dL_law_1704 (v := 1) rfl h1 hl hS ?_
  refine lq_call X (a := 109) (b9 := 0) (As := [.int _]) (rest := []) rfl rfl rfl rfl (Nat.le_of_ble_eq_true rfl) (Nat.le_of_ble_eq_true rfl) (mq_at_in (q := (3, 151)) (by decide +kernel)) ⟨Nat.le_of_ble_eq_true rfl, Nat.le_of_ble_eq_true rfl⟩ hcs dL_law_1705 r1 hP hD hS hl.1 (fun H locs hP hD hS => ?_)
  refine lv_aload_n X.1 X.2.1 dL_law_1708 rfl (lv_at hl 3 rfl) ?_
  refine lq_ld X dL_law_1709 dL_law_1710 dL_law_1712 dL_law_1713 dL_law_1714 (v := 1) rfl h1 hl hS ?_
  refine lq_call X (a := 231) (b9 := 77) (As := [.int _]) (rest := [.int _]) rfl rfl rfl rfl (Nat.le_of_ble_eq_true rfl) (Nat.le_of_ble_eq_true rfl) (mq_at_in (q := (6, 94)) (by decide +kernel)) ⟨Nat.le_of_ble_eq_true rfl, Nat.le_of_ble_eq_true rfl⟩ hcs dL_law_1715 r2 hP hD hS hl.1 (fun H locs hP hD hS => ?_)
  exact lv_icmp_eq X.1 X.2.1 dL_law_1718 rfl (fun _ => kk H locs ls M2 _ hB2 hP hD hS hl) (fun q => absurd rfl q)
theorem lq_c47 (X : lq_X p s m c b L xs D tys cA) (h1 : vp_in (i + 1) L) (h2 : vp_in (i + 2) L) (hcs : kc ≤ room_1.cells ∧ ks ≤ room_1.slots) (kk : lq_H p l e s m below meth c Q D cA ad b kc ks 2139 i) : lq_H p l e s m below meth c Q D cA ad b kc ks 1723 i := by
  intro H locs ls M σ hB hP hD hS hl
  obtain ⟨M1, M2, r1, r2, hB2⟩ := b_same hB (xs (i + 1).toNatClampNeg) (xs (i + 2).toNatClampNeg)
  refine lv_aload_n X.1 X.2.1 dL_law_1723 rfl (lv_at hl 2 rfl) ?_
  refine lq_ld X dL_law_1724 dL_law_1725 dL_law_1727 dL_law_1728 dL_law_1729 (v := 1) rfl h1 hl hS ?_
  refine lq_ld X dL_law_1730 dL_law_1731 dL_law_1733 dL_law_1734 dL_law_1735 (v := 2) rfl h2 hl hS ?_
  refine lq_call X (a := 110) (b9 := 0) (As := [.int _, .int _]) (rest := []) rfl rfl rfl rfl (Nat.le_of_ble_eq_true rfl) (Nat.le_of_ble_eq_true rfl) (mq_at_in (q := (3, 155)) (by decide +kernel)) ⟨Nat.le_of_ble_eq_true rfl, Nat.le_of_ble_eq_true rfl⟩ hcs dL_law_1736 r1 hP hD hS hl.1 (fun H locs hP hD hS => ?_)
  refine lv_aload_n X.1 X.2.1 dL_law_1739 rfl (lv_at hl 3 rfl) ?_
  refine lq_ld X dL_law_1740 dL_law_1741 dL_law_1743 dL_law_1744 dL_law_1745 (v := 1) rfl h1 hl hS ?_
  refine lq_ld X dL_law_1746 dL_law_1747 dL_law_1749 dL_law_1750 dL_law_1751 (v := 2) rfl h2 hl hS ?_
  refine lq_call X (a := 232) (b9 := 77) (As := [.int _, .int _]) (rest := [.int _]) rfl rfl rfl rfl (Nat.le_of_ble_eq_true rfl) (Nat.le_of_ble_eq_true rfl) (mq_at_in (q := (6, 98)) (by decide +kernel)) ⟨Nat.le_of_ble_eq_true rfl, Nat.le_of_ble_eq_true rfl⟩ hcs dL_law_1752 r2 hP hD hS hl.1 (fun H locs hP hD hS => ?_)
  exact lv_icmp_eq X.1 X.2.1 dL_law_1755 rfl (fun _ => kk H locs ls M2 _ hB2 hP hD hS hl) (fun q => absurd rfl q)
theorem lq_c48 (X : lq_X p s m c b L xs D tys cA) (h1 : vp_in (i + 1) L) (h2 : vp_in (i + 2) L) (hcs : kc ≤ room_1.cells ∧ ks ≤ room_1.slots) (kk : lq_H p l e s m below meth c Q D cA ad b kc ks 2139 i) : lq_H p l e s m below meth c Q D cA ad b kc ks 1760 i := by
  intro H locs ls M σ hB hP hD hS hl
  obtain ⟨M1, M2, r1, r2, hB2⟩ := b_dual hB (xs (i + 1).toNatClampNeg) (xs (i + 2).toNatClampNeg)
  refine lv_aload_n X.1 X.2.1 dL_law_1760 rfl (lv_at hl 2 rfl) ?_
  refine lq_ld X dL_law_1761 dL_law_1762 dL_law_1764 dL_law_1765 dL_law_1766 (v := 1) rfl h1 hl hS ?_
  refine lq_ld X dL_law_1767 dL_law_1768 dL_law_1770 dL_law_1771 dL_law_1772 (v := 2) rfl h2 hl hS ?_
  refine lq_call X (a := 111) (b9 := 0) (As := [.int _, .int _]) (rest := []) rfl rfl rfl rfl (Nat.le_of_ble_eq_true rfl) (Nat.le_of_ble_eq_true rfl) (mq_at_in (q := (3, 163)) (by decide +kernel)) ⟨Nat.le_of_ble_eq_true rfl, Nat.le_of_ble_eq_true rfl⟩ hcs dL_law_1773 r1 hP hD hS hl.1 (fun H locs hP hD hS => ?_)
  refine lv_aload_n X.1 X.2.1 dL_law_1776 rfl (lv_at hl 3 rfl) ?_
  refine lq_ld X dL_law_1777 dL_law_1778 dL_law_1780 dL_law_1781 dL_law_1782 (v := 1) rfl h1 hl hS ?_
  refine lq_ld X dL_law_1783 dL_law_1784 dL_law_1786 dL_law_1787 dL_law_1788 (v := 2) rfl h2 hl hS ?_
  refine lq_call X (a := 235) (b9 := 77) (As := [.int _, .int _]) (rest := [.int _]) rfl rfl rfl rfl (Nat.le_of_ble_eq_true rfl) (Nat.le_of_ble_eq_true rfl) (mq_at_in (q := (6, 102)) (by decide +kernel)) ⟨Nat.le_of_ble_eq_true rfl, Nat.le_of_ble_eq_true rfl⟩ hcs dL_law_1789 r2 hP hD hS hl.1 (fun H locs hP hD hS => ?_)
  exact lv_icmp_eq X.1 X.2.1 dL_law_1792 rfl (fun _ => kk H locs ls M2 _ hB2 hP hD hS hl) (fun q => absurd rfl q)
theorem lq_c49 (X : lq_X p s m c b L xs D tys cA) (h1 : vp_in (i + 1) L) (hcs : kc ≤ room_1.cells ∧ ks ≤ room_1.slots) (kk : lq_H p l e s m below meth c Q D cA ad b kc ks 2139 i) : lq_H p l e s m below meth c Q D cA ad b kc ks 1797 i := by
  intro H locs ls M σ hB hP hD hS hl
  obtain ⟨M1, M2, r1, r2, hB2⟩ := b_weakly hB (xs (i + 1).toNatClampNeg)
  refine lv_aload_n X.1 X.2.1 dL_law_1797 rfl (lv_at hl 2 rfl) ?_
  refine lq_ld X dL_law_1798 dL_law_1799 dL_law_1801 dL_law_1802 dL_law_1803 (v := 1) rfl h1 hl hS ?_
  refine lq_call X (a := 112) (b9 := 0) (As := [.int _]) (rest := []) rfl rfl rfl rfl (Nat.le_of_ble_eq_true rfl) (Nat.le_of_ble_eq_true rfl) (mq_at_in (q := (3, 180)) (by decide +kernel)) ⟨Nat.le_of_ble_eq_true rfl, Nat.le_of_ble_eq_true rfl⟩ hcs dL_law_1804 r1 hP hD hS hl.1 (fun H locs hP hD hS => ?_)
  refine lv_aload_n X.1 X.2.1 dL_law_1807 rfl (lv_at hl 3 rfl) ?_
  refine lq_ld X dL_law_1808 dL_law_1809 dL_law_1811 dL_law_1812 dL_law_1813 (v := 1) rfl h1 hl hS ?_
  refine lq_call X (a := 237) (b9 := 77) (As := [.int _]) (rest := [.int _]) rfl rfl rfl rfl (Nat.le_of_ble_eq_true rfl) (Nat.le_of_ble_eq_true rfl) (mq_at_in (q := (6, 114)) (by decide +kernel)) ⟨Nat.le_of_ble_eq_true rfl, Nat.le_of_ble_eq_true rfl⟩ hcs dL_law_1814 r2 hP hD hS hl.1 (fun H locs hP hD hS => ?_)
  exact lv_icmp_eq X.1 X.2.1 dL_law_1817 rfl (fun _ => kk H locs ls M2 _ hB2 hP hD hS hl) (fun q => absurd rfl q)
theorem lq_c50 (X : lq_X p s m c b L xs D tys cA) (h1 : vp_in (i + 1) L) (hcs : kc ≤ room_1.cells ∧ ks ≤ room_1.slots) (kk : lq_H p l e s m below meth c Q D cA ad b kc ks 2139 i) : lq_H p l e s m below meth c Q D cA ad b kc ks 1822 i := by
  intro H locs ls M σ hB hP hD hS hl
  obtain ⟨M1, M2, r1, r2, hB2⟩ := b_traces hB (xs (i + 1).toNatClampNeg)
  refine lv_aload_n X.1 X.2.1 dL_law_1822 rfl (lv_at hl 2 rfl) ?_
  refine lq_ld X dL_law_1823 dL_law_1824 dL_law_1826 dL_law_1827 dL_law_1828 (v := 1) rfl h1 hl hS ?_
  refine lq_call X (a := 113) (b9 := 0) (As := [.int _]) (rest := []) rfl rfl rfl rfl (Nat.le_of_ble_eq_true rfl) (Nat.le_of_ble_eq_true rfl) (mq_at_in (q := (3, 189)) (by decide +kernel)) ⟨Nat.le_of_ble_eq_true rfl, Nat.le_of_ble_eq_true rfl⟩ hcs dL_law_1829 r1 hP hD hS hl.1 (fun H locs hP hD hS => ?_)
  refine lv_aload_n X.1 X.2.1 dL_law_1832 rfl (lv_at hl 3 rfl) ?_
  refine lq_ld X dL_law_1833 dL_law_1834 dL_law_1836 dL_law_1837 dL_law_1838 (v := 1) rfl h1 hl hS ?_
  refine lq_call X (a := 238) (b9 := 77) (As := [.int _]) (rest := [.int _]) rfl rfl rfl rfl (Nat.le_of_ble_eq_true rfl) (Nat.le_of_ble_eq_true rfl) (mq_at_in (q := (6, 122)) (by decide +kernel)) ⟨Nat.le_of_ble_eq_true rfl, Nat.le_of_ble_eq_true rfl⟩ hcs dL_law_1839 r2 hP hD hS hl.1 (fun H locs hP hD hS => ?_)
  exact lv_icmp_eq X.1 X.2.1 dL_law_1842 rfl (fun _ => kk H locs ls M2 _ hB2 hP hD hS hl) (fun q => absurd rfl q)
theorem lq_c51 (X : lq_X p s m c b L xs D tys cA) (h1 : vp_in (i + 1) L) (h2 : vp_in (i + 2) L) (h3 : vp_in (i + 3) L) (hcs : kc ≤ room_1.cells ∧ ks ≤ room_1.slots) (kk : lq_H p l e s m below meth c Q D cA ad b kc ks 2139 i) : lq_H p l e s m below meth c Q D cA ad b kc ks 1847 i := by
  intro H locs ls M σ hB hP hD hS hl
  obtain ⟨M1, M2, r1, r2, hB2⟩ := b_tower hB (xs (i + 1).toNatClampNeg) (xs (i + 2).toNatClampNeg) (xs (i + 3).toNatClampNeg)
  refine lv_aload_n X.1 X.2.1 dL_law_1847 rfl (lv_at hl 2 rfl) ?_
  refine lq_ld X dL_law_1848 dL_law_1849 dL_law_1851 dL_law_1852 dL_law_1853 (v := 1) rfl h1 hl hS ?_
  refine lq_ld X dL_law_1854 dL_law_1855 dL_law_1857 dL_law_1858 dL_law_1859 (v := 2) rfl h2 hl hS ?_
  refine lq_ld X dL_law_1860 dL_law_1861 dL_law_1863 dL_law_1864 dL_law_1865 (v := 3) rfl h3 hl hS ?_
  refine lq_call X (a := 114) (b9 := 0) (As := [.int _, .int _, .int _]) (rest := []) rfl rfl rfl rfl (Nat.le_of_ble_eq_true rfl) (Nat.le_of_ble_eq_true rfl) (mq_at_in (q := (3, 194)) (by decide +kernel)) ⟨Nat.le_of_ble_eq_true rfl, Nat.le_of_ble_eq_true rfl⟩ hcs dL_law_1866 r1 hP hD hS hl.1 (fun H locs hP hD hS => ?_)
  refine lv_aload_n X.1 X.2.1 dL_law_1869 rfl (lv_at hl 3 rfl) ?_
  refine lq_ld X dL_law_1870 dL_law_1871 dL_law_1873 dL_law_1874 dL_law_1875 (v := 1) rfl h1 hl hS ?_
  refine lq_ld X dL_law_1876 dL_law_1877 dL_law_1879 dL_law_1880 dL_law_1881 (v := 2) rfl h2 hl hS ?_
  refine lq_ld X dL_law_1882 dL_law_1883 dL_law_1885 dL_law_1886 dL_law_1887 (v := 3) rfl h3 hl hS ?_
  refine lq_call X (a := 239) (b9 := 77) (As := [.int _, .int _, .int _]) (rest := [.int _]) rfl rfl rfl rfl (Nat.le_of_ble_eq_true rfl) (Nat.le_of_ble_eq_true rfl) (mq_at_in (q := (6, 126)) (by decide +kernel)) ⟨Nat.le_of_ble_eq_true rfl, Nat.le_of_ble_eq_true rfl⟩ hcs dL_law_1888 r2 hP hD hS hl.1 (fun H locs hP hD hS => ?_)
  exact lv_icmp_eq X.1 X.2.1 dL_law_1891 rfl (fun _ => kk H locs ls M2 _ hB2 hP hD hS hl) (fun q => absurd rfl q)
theorem lq_c52 (X : lq_X p s m c b L xs D tys cA) (h1 : vp_in (i + 1) L) (hcs : kc ≤ room_1.cells ∧ ks ≤ room_1.slots) (kk : lq_H p l e s m below meth c Q D cA ad b kc ks 2139 i) : lq_H p l e s m below meth c Q D cA ad b kc ks 1896 i := by
  intro H locs ls M σ hB hP hD hS hl
  obtain ⟨M1, M2, r1, r2, hB2⟩ := b_fits hB (xs (i + 1).toNatClampNeg)
  refine lv_aload_n X.1 X.2.1 dL_law_1896 rfl (lv_at hl 2 rfl) ?_
  refine lq_ld X dL_law_1897 dL_law_1898 dL_law_1900 dL_law_1901 dL_law_1902 (v := 1) rfl h1 hl hS ?_
  refine lq_call X (a := 115) (b9 := 0) (As := [.int _]) (rest := []) rfl rfl rfl rfl (Nat.le_of_ble_eq_true rfl) (Nat.le_of_ble_eq_true rfl) (mq_at_in (q := (3, 202)) (by decide +kernel)) ⟨Nat.le_of_ble_eq_true rfl, Nat.le_of_ble_eq_true rfl⟩ hcs dL_law_1903 r1 hP hD hS hl.1 (fun H locs hP hD hS => ?_)
  refine lv_aload_n X.1 X.2.1 dL_law_1906 rfl (lv_at hl 3 rfl) ?_
  refine lq_ld X dL_law_1907 dL_law_1908 dL_law_1910 dL_law_1911 dL_law_1912 (v := 1) rfl h1 hl hS ?_
  refine lq_call X (a := 241) (b9 := 77) (As := [.int _]) (rest := [.int _]) rfl rfl rfl rfl (Nat.le_of_ble_eq_true rfl) (Nat.le_of_ble_eq_true rfl) (mq_at_in (q := (6, 130)) (by decide +kernel)) ⟨Nat.le_of_ble_eq_true rfl, Nat.le_of_ble_eq_true rfl⟩ hcs dL_law_1913 r2 hP hD hS hl.1 (fun H locs hP hD hS => ?_)
  exact lv_icmp_eq X.1 X.2.1 dL_law_1916 rfl (fun _ => kk H locs ls M2 _ hB2 hP hD hS hl) (fun q => absurd rfl q)
theorem lq_c53 (X : lq_X p s m c b L xs D tys cA) (h1 : vp_in (i + 1) L) (h2 : vp_in (i + 2) L) (h3 : vp_in (i + 3) L) (hcs : kc ≤ room_1.cells ∧ ks ≤ room_1.slots) (kk : lq_H p l e s m below meth c Q D cA ad b kc ks 2139 i) : lq_H p l e s m below meth c Q D cA ad b kc ks 1921 i := by
  intro H locs ls M σ hB hP hD hS hl
  obtain ⟨M1, M2, r1, r2, hB2⟩ := b_maps hB (xs (i + 1).toNatClampNeg) (xs (i + 2).toNatClampNeg) (xs (i + 3).toNatClampNeg)
  refine lv_aload_n X.1 X.2.1 dL_law_1921 rfl (lv_at hl 2 rfl) ?_
  refine lq_ld X dL_law_1922 dL_law_1923 dL_law_1925 dL_law_1926 dL_law_1927 (v := 1) rfl h1 hl hS ?_
  refine lq_ld X dL_law_1928 dL_law_1929 dL_law_1931 dL_law_1932 dL_law_1933 (v := 2) rfl h2 hl hS ?_
  refine lq_ld X dL_law_1934 dL_law_1935 dL_law_1937 dL_law_1938 dL_law_1939 (v := 3) rfl h3 hl hS ?_
  refine lq_call X (a := 116) (b9 := 0) (As := [.int _, .int _, .int _]) (rest := []) rfl rfl rfl rfl (Nat.le_of_ble_eq_true rfl) (Nat.le_of_ble_eq_true rfl) (mq_at_in (q := (3, 210)) (by decide +kernel)) ⟨Nat.le_of_ble_eq_true rfl, Nat.le_of_ble_eq_true rfl⟩ hcs dL_law_1940 r1 hP hD hS hl.1 (fun H locs hP hD hS => ?_)
  refine lv_aload_n X.1 X.2.1 dL_law_1943 rfl (lv_at hl 3 rfl) ?_
  refine lq_ld X dL_law_1944 dL_law_1945 dL_law_1947 dL_law_1948 dL_law_1949 (v := 1) rfl h1 hl hS ?_
  refine lq_ld X dL_law_1950 dL_law_1951 dL_law_1953 dL_law_1954 dL_law_1955 (v := 2) rfl h2 hl hS ?_
  refine lq_ld X dL_law_1956 dL_law_1957 dL_law_1959 dL_law_1960 dL_law_1961 (v := 3) rfl h3 hl hS ?_
  refine lq_call X (a := 242) (b9 := 77) (As := [.int _, .int _, .int _]) (rest := [.int _]) rfl rfl rfl rfl (Nat.le_of_ble_eq_true rfl) (Nat.le_of_ble_eq_true rfl) (mq_at_in (q := (6, 138)) (by decide +kernel)) ⟨Nat.le_of_ble_eq_true rfl, Nat.le_of_ble_eq_true rfl⟩ hcs dL_law_1962 r2 hP hD hS hl.1 (fun H locs hP hD hS => ?_)
  exact lv_icmp_eq X.1 X.2.1 dL_law_1965 rfl (fun _ => kk H locs ls M2 _ hB2 hP hD hS hl) (fun q => absurd rfl q)
theorem lq_c54 (X : lq_X p s m c b L xs D tys cA) (h1 : vp_in (i + 1) L) (hcs : kc ≤ room_1.cells ∧ ks ≤ room_1.slots) (kk : lq_H p l e s m below meth c Q D cA ad b kc ks 2139 i) : lq_H p l e s m below meth c Q D cA ad b kc ks 1970 i := by
  intro H locs ls M σ hB hP hD hS hl
  obtain ⟨M1, M2, r1, r2, hB2⟩ := b_irreducibles hB (xs (i + 1).toNatClampNeg)
  refine lv_aload_n X.1 X.2.1 dL_law_1970 rfl (lv_at hl 2 rfl) ?_
  refine lq_ld X dL_law_1971 dL_law_1972 dL_law_1974 dL_law_1975 dL_law_1976 (v := 1) rfl h1 hl hS ?_
  refine lq_call X (a := 117) (b9 := 0) (As := [.int _]) (rest := []) rfl rfl rfl rfl (Nat.le_of_ble_eq_true rfl) (Nat.le_of_ble_eq_true rfl) (mq_at_in (q := (3, 214)) (by decide +kernel)) ⟨Nat.le_of_ble_eq_true rfl, Nat.le_of_ble_eq_true rfl⟩ hcs dL_law_1977 r1 hP hD hS hl.1 (fun H locs hP hD hS => ?_)
  refine lv_aload_n X.1 X.2.1 dL_law_1980 rfl (lv_at hl 3 rfl) ?_
  refine lq_ld X dL_law_1981 dL_law_1982 dL_law_1984 dL_law_1985 dL_law_1986 (v := 1) rfl h1 hl hS ?_
  refine lq_call X (a := 244) (b9 := 77) (As := [.int _]) (rest := [.int _]) rfl rfl rfl rfl (Nat.le_of_ble_eq_true rfl) (Nat.le_of_ble_eq_true rfl) (mq_at_in (q := (6, 142)) (by decide +kernel)) ⟨Nat.le_of_ble_eq_true rfl, Nat.le_of_ble_eq_true rfl⟩ hcs dL_law_1987 r2 hP hD hS hl.1 (fun H locs hP hD hS => ?_)
  exact lv_icmp_eq X.1 X.2.1 dL_law_1990 rfl (fun _ => kk H locs ls M2 _ hB2 hP hD hS hl) (fun q => absurd rfl q)
theorem lq_c55 (X : lq_X p s m c b L xs D tys cA) (hcs : kc ≤ room_1.cells ∧ ks ≤ room_1.slots) (kk : lq_H p l e s m below meth c Q D cA ad b kc ks 2139 i) : lq_H p l e s m below meth c Q D cA ad b kc ks 1995 i := by
  intro H locs ls M σ hB hP hD hS hl
  obtain ⟨M1, M2, r1, r2, hB2⟩ := b_undo hB
  refine lv_aload_n X.1 X.2.1 dL_law_1995 rfl (lv_at hl 2 rfl) ?_
  refine lq_call X (a := 118) (b9 := 0) (As := []) (rest := []) rfl rfl rfl rfl (Nat.le_of_ble_eq_true rfl) (Nat.le_of_ble_eq_true rfl) (mq_at_in (q := (3, 221)) (by decide +kernel)) ⟨Nat.le_of_ble_eq_true rfl, Nat.le_of_ble_eq_true rfl⟩ hcs dL_law_1996 r1 hP hD hS hl.1 (fun H locs hP hD hS => ?_)
  refine lv_aload_n X.1 X.2.1 dL_law_1999 rfl (lv_at hl 3 rfl) ?_
  refine lq_call X (a := 245) (b9 := 77) (As := []) (rest := [.int _]) rfl rfl rfl rfl (Nat.le_of_ble_eq_true rfl) (Nat.le_of_ble_eq_true rfl) (mq_at_in (q := (6, 150)) (by decide +kernel)) ⟨Nat.le_of_ble_eq_true rfl, Nat.le_of_ble_eq_true rfl⟩ hcs dL_law_2000 r2 hP hD hS hl.1 (fun H locs hP hD hS => ?_)
  exact lv_icmp_eq X.1 X.2.1 dL_law_2003 rfl (fun _ => kk H locs ls M2 _ hB2 hP hD hS hl) (fun q => absurd rfl q)
theorem lq_c56 (X : lq_X p s m c b L xs D tys cA) (hcs : kc ≤ room_1.cells ∧ ks ≤ room_1.slots) (kk : lq_H p l e s m below meth c Q D cA ad b kc ks 2139 i) : lq_H p l e s m below meth c Q D cA ad b kc ks 2008 i := by
  intro H locs ls M σ hB hP hD hS hl
  obtain ⟨M1, M2, r1, r2, hB2⟩ := b_keeps hB
  refine lv_aload_n X.1 X.2.1 dL_law_2008 rfl (lv_at hl 2 rfl) ?_
  refine lq_call X (a := 119) (b9 := 0) (As := []) (rest := []) rfl rfl rfl rfl (Nat.le_of_ble_eq_true rfl) (Nat.le_of_ble_eq_true rfl) (mq_at_in (q := (3, 233)) (by decide +kernel)) ⟨Nat.le_of_ble_eq_true rfl, Nat.le_of_ble_eq_true rfl⟩ hcs dL_law_2009 r1 hP hD hS hl.1 (fun H locs hP hD hS => ?_)
  refine lv_aload_n X.1 X.2.1 dL_law_2012 rfl (lv_at hl 3 rfl) ?_
  refine lq_call X (a := 246) (b9 := 77) (As := []) (rest := [.int _]) rfl rfl rfl rfl (Nat.le_of_ble_eq_true rfl) (Nat.le_of_ble_eq_true rfl) (mq_at_in (q := (6, 154)) (by decide +kernel)) ⟨Nat.le_of_ble_eq_true rfl, Nat.le_of_ble_eq_true rfl⟩ hcs dL_law_2013 r2 hP hD hS hl.1 (fun H locs hP hD hS => ?_)
  exact lv_icmp_eq X.1 X.2.1 dL_law_2016 rfl (fun _ => kk H locs ls M2 _ hB2 hP hD hS hl) (fun q => absurd rfl q)
theorem lq_c57 (X : lq_X p s m c b L xs D tys cA) (hcs : kc ≤ room_1.cells ∧ ks ≤ room_1.slots) (kk : lq_H p l e s m below meth c Q D cA ad b kc ks 2139 i) : lq_H p l e s m below meth c Q D cA ad b kc ks 2021 i := by
  intro H locs ls M σ hB hP hD hS hl
  obtain ⟨M1, M2, r1, r2, hB2⟩ := b_back hB
  refine lv_aload_n X.1 X.2.1 dL_law_2021 rfl (lv_at hl 2 rfl) ?_
  refine lq_call X (a := 120) (b9 := 0) (As := []) (rest := []) rfl rfl rfl rfl (Nat.le_of_ble_eq_true rfl) (Nat.le_of_ble_eq_true rfl) (mq_at_in (q := (3, 238)) (by decide +kernel)) ⟨Nat.le_of_ble_eq_true rfl, Nat.le_of_ble_eq_true rfl⟩ hcs dL_law_2022 r1 hP hD hS hl.1 (fun H locs hP hD hS => ?_)
  refine lv_aload_n X.1 X.2.1 dL_law_2025 rfl (lv_at hl 3 rfl) ?_
  refine lq_call X (a := 247) (b9 := 77) (As := []) (rest := [.int _]) rfl rfl rfl rfl (Nat.le_of_ble_eq_true rfl) (Nat.le_of_ble_eq_true rfl) (mq_at_in (q := (6, 158)) (by decide +kernel)) ⟨Nat.le_of_ble_eq_true rfl, Nat.le_of_ble_eq_true rfl⟩ hcs dL_law_2026 r2 hP hD hS hl.1 (fun H locs hP hD hS => ?_)
  exact lv_icmp_eq X.1 X.2.1 dL_law_2029 rfl (fun _ => kk H locs ls M2 _ hB2 hP hD hS hl) (fun q => absurd rfl q)
theorem lq_c58 (X : lq_X p s m c b L xs D tys cA) (h1 : vp_in (i + 1) L) (hcs : kc ≤ room_1.cells ∧ ks ≤ room_1.slots) (kk : lq_H p l e s m below meth c Q D cA ad b kc ks 2139 i) : lq_H p l e s m below meth c Q D cA ad b kc ks 2034 i := by
  intro H locs ls M σ hB hP hD hS hl
  obtain ⟨M1, M2, r1, r2, hB2⟩ := b_written hB (xs (i + 1).toNatClampNeg)
  refine lv_aload_n X.1 X.2.1 dL_law_2034 rfl (lv_at hl 2 rfl) ?_
  refine lq_ld X dL_law_2035 dL_law_2036 dL_law_2038 dL_law_2039 dL_law_2040 (v := 1) rfl h1 hl hS ?_
  refine lq_call X (a := 121) (b9 := 0) (As := [.int _]) (rest := []) rfl rfl rfl rfl (Nat.le_of_ble_eq_true rfl) (Nat.le_of_ble_eq_true rfl) (mq_at_in (q := (4, 2)) (by decide +kernel)) ⟨Nat.le_of_ble_eq_true rfl, Nat.le_of_ble_eq_true rfl⟩ hcs dL_law_2041 r1 hP hD hS hl.1 (fun H locs hP hD hS => ?_)
  refine lv_aload_n X.1 X.2.1 dL_law_2044 rfl (lv_at hl 3 rfl) ?_
  refine lq_ld X dL_law_2045 dL_law_2046 dL_law_2048 dL_law_2049 dL_law_2050 (v := 1) rfl h1 hl hS ?_
  refine lq_call X (a := 249) (b9 := 77) (As := [.int _]) (rest := [.int _]) rfl rfl rfl rfl (Nat.le_of_ble_eq_true rfl) (Nat.le_of_ble_eq_true rfl) (mq_at_in (q := (6, 162)) (by decide +kernel)) ⟨Nat.le_of_ble_eq_true rfl, Nat.le_of_ble_eq_true rfl⟩ hcs dL_law_2051 r2 hP hD hS hl.1 (fun H locs hP hD hS => ?_)
  exact lv_icmp_eq X.1 X.2.1 dL_law_2054 rfl (fun _ => kk H locs ls M2 _ hB2 hP hD hS hl) (fun q => absurd rfl q)
theorem lq_c59 (X : lq_X p s m c b L xs D tys cA) (h1 : vp_in (i + 1) L) (hcs : kc ≤ room_1.cells ∧ ks ≤ room_1.slots) (kk : lq_H p l e s m below meth c Q D cA ad b kc ks 2139 i) : lq_H p l e s m below meth c Q D cA ad b kc ks 2059 i := by
  intro H locs ls M σ hB hP hD hS hl
  obtain ⟨M1, M2, r1, r2, hB2⟩ := b_count hB (xs (i + 1).toNatClampNeg)
  refine lv_aload_n X.1 X.2.1 dL_law_2059 rfl (lv_at hl 2 rfl) ?_
  refine lq_ld X dL_law_2060 dL_law_2061 dL_law_2063 dL_law_2064 dL_law_2065 (v := 1) rfl h1 hl hS ?_
  refine lq_call X (a := 122) (b9 := 0) (As := [.int _]) (rest := []) rfl rfl rfl rfl (Nat.le_of_ble_eq_true rfl) (Nat.le_of_ble_eq_true rfl) (mq_at_in (q := (4, 14)) (by decide +kernel)) ⟨Nat.le_of_ble_eq_true rfl, Nat.le_of_ble_eq_true rfl⟩ hcs dL_law_2066 r1 hP hD hS hl.1 (fun H locs hP hD hS => ?_)
  refine lv_aload_n X.1 X.2.1 dL_law_2069 rfl (lv_at hl 3 rfl) ?_
  refine lq_ld X dL_law_2070 dL_law_2071 dL_law_2073 dL_law_2074 dL_law_2075 (v := 1) rfl h1 hl hS ?_
  refine lq_call X (a := 250) (b9 := 77) (As := [.int _]) (rest := [.int _]) rfl rfl rfl rfl (Nat.le_of_ble_eq_true rfl) (Nat.le_of_ble_eq_true rfl) (mq_at_in (q := (6, 170)) (by decide +kernel)) ⟨Nat.le_of_ble_eq_true rfl, Nat.le_of_ble_eq_true rfl⟩ hcs dL_law_2076 r2 hP hD hS hl.1 (fun H locs hP hD hS => ?_)
  exact lv_icmp_eq X.1 X.2.1 dL_law_2079 rfl (fun _ => kk H locs ls M2 _ hB2 hP hD hS hl) (fun q => absurd rfl q)
end LQ
