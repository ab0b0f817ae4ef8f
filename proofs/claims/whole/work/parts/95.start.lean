/-! the law's start -/
theorem qgoodL {y : MethodName} {cc : ByteArray} {n : Nat} {r : Option FieldType} (h : Cond.code y cc n r ∈ mq_Ts) : GoodIn lw_tbl (Cond.code y cc n r :: mq_Ts) := by
  intro w hw
  rcases List.mem_cons.mp hw with rfl | hw
  · exact ⟨mq_in_tbl h, good_of_word (mq_hg _ h)⟩
  · exact ⟨mq_in_tbl hw, good_of_word (mq_hg _ hw)⟩
theorem q_arr {s : State} {ty : FieldType} {args : Array Value} (hno : ∀ C, ty ≠ .object C) (h : (Cond.arrayClass ty).before args s = true) : ∃ cA : ClassId, ArrOfT s cA ty ∧ va_RA s cA ty := by
  obtain ⟨cA, kA, comp, h1, h2, h3⟩ := Cond.arrayClass_spec h
  refine ⟨cA, fun n z => ⟨fun k hk => ?_, kA, h2, comp, h3⟩, ?_⟩
  · cases hk
  · cases ty with
    | object C => exact absurd rfl (hno C)
    | _ => exact h1
theorem q_arrO {s : State} {C : String} (h : va_AO C s) : ∃ cA : ClassId, ArrOfT s cA (.object C) ∧ va_RA s cA (.object C) := by
  obtain ⟨comp, cA, kA, h1, h2, h3, h4, h5⟩ := Cond.arrayOver_spec h
  exact ⟨cA, fun n z => ⟨(fun k hk => by cases hk), kA, h3, comp, h4⟩, kA, comp, h3, h4, h1, h5⟩
theorem q_arrA {s : State} {t : FieldType} (h : va_AOA t s) : ∃ cA : ClassId, ArrOfT s cA (.array t) ∧ va_RA s cA (.array t) := by
  obtain ⟨comp, cA, kA, h1, h2, h3, h4, h5⟩ := arrayOverA_spec h
  exact ⟨cA, fun n z => ⟨(fun k hk => by cases hk), kA, h3, comp, h4⟩, h5⟩
theorem q_E0 {s : State} {args : Array Value} (hts : ∀ w ∈ lw_tbl, w.before args s = true) : qE s := by
  refine ⟨fun q hq => ?_, ?_, ?_⟩
  · simp only [qN, List.mem_cons, List.not_mem_nil, or_false] at hq
    rcases hq with rfl | rfl | rfl | rfl | rfl | rfl | rfl
    · exact va_Nw.of rfl (hts _ (List.mem_append_right _ (List.mem_append_left _ (List.mem_of_getElem? (i := 29) (by decide +kernel)))))
    · exact va_Nw.of rfl (hts _ (List.mem_append_right _ (List.mem_append_left _ (List.mem_of_getElem? (i := 35) (by decide +kernel)))))
    · exact va_Nw.of rfl (hts _ (List.mem_append_right _ (List.mem_append_left _ (List.mem_of_getElem? (i := 66) (by decide +kernel)))))
    · exact va_Nw.of rfl (hts _ (List.mem_append_right _ (List.mem_append_left _ (List.mem_of_getElem? (i := 93) (by decide +kernel)))))
    · exact va_Nw.of rfl (hts _ (List.mem_append_right _ (List.mem_append_left _ (List.mem_of_getElem? (i := 116) (by decide +kernel)))))
    · exact va_Nw.of rfl (hts _ (List.mem_append_right _ (List.mem_append_left _ (List.mem_of_getElem? (i := 130) (by decide +kernel)))))
    · exact va_Nw.of rfl (hts _ (List.mem_append_right _ (List.mem_append_left _ (List.mem_of_getElem? (i := 150) (by decide +kernel)))))
  · exact over_moved (a := #[]) (Vm.Alike.refl _) (hts (.arrayOver (.array .int)) (List.mem_append_right _ (List.mem_append_left _ (List.mem_of_getElem? (i := 98) (by decide +kernel)))))
  · exact va_AO.of (hts _ (List.mem_append_right _ (List.mem_append_left _ (List.mem_of_getElem? (i := 115) (by decide +kernel)))))
theorem q_Z0 {s : State} {b : Nat} (hts : ∀ w ∈ lw_tbl, w.before #[Value.ref b] s = true) (hgv : (Jvm.Cond.and given_1 narrow_1).before #[Value.ref b] s = true) : qZ (lq_A s) s s.heap := by
  have hs := flat_of_before _ hgv
  have hA : ∀ a : Nat, a < s.heap.size → ¬ lq_A s a := fun a h => Nat.not_le.mpr h
  have hini : (Cond.initialized Bundle.tN).before #[Value.ref b] s = true := hts _ (List.mem_append_right _ (List.mem_append_left _ (List.mem_of_getElem? (i := 15) (by decide +kernel))))
  refine ⟨vx_Zqof (args := #[Value.ref b]) (hts _ (List.mem_append_right _ (List.mem_append_right _ (List.mem_append_right _ (List.mem_append_right _ (List.mem_append_left _ (List.mem_of_getElem? (i := 65) (by decide +kernel)))))))) hini (hs _ (by decide +kernel)) hA, vx_Zqof (args := #[Value.ref b]) (hts _ (List.mem_append_right _ (List.mem_append_right _ (List.mem_append_right _ (List.mem_append_right _ (List.mem_append_left _ (List.mem_of_getElem? (i := 67) (by decide +kernel)))))))) hini (hs _ (by decide +kernel)) hA, fun w hw => va_Nw.of (qB_tab w hw) (hts w (qB_tbl w hw))⟩
theorem q_K0 {s : State} {b : Nat} (hts : ∀ w ∈ lw_tbl, w.before #[Value.ref b] s = true) (hE : qE s) : ∃ (D : va_G) (cA : Nat → Nat), va_K D vwCl (qT cA) s := by
  have hq : ∀ w ∈ mq_Ts, w.before #[Value.ref b] s = true := fun w hw => hts w (mq_in_tbl hw)
  obtain ⟨c0, i0, k0⟩ := u_known (C := RX0) (T := TX0) (N := 6) (n := 6) hq (fun w hw => mq_iu w (mq_u0 w hw)) (hq _ (mq_at_in (q := (1, 34)) (by decide +kernel)))
  obtain ⟨c1, i1, k1⟩ := u_known (C := RX1) (T := TX1) (N := 3) (n := 3) hq (fun w hw => mq_iu w (mq_u1 w hw)) (hq _ (mq_at_in (q := (1, 65)) (by decide +kernel)))
  obtain ⟨c2, i2, k2⟩ := u_known (C := RX2) (T := TX2) (N := 2) (n := 2) hq (fun w hw => mq_iu w (mq_u2 w hw)) (hq _ (mq_at_in (q := (1, 28)) (by decide +kernel)))
  obtain ⟨c3, i3, k3⟩ := u_known (C := RX3) (T := TX3) (N := 3) (n := 3) hq (fun w hw => mq_iu w (mq_u3 w hw)) (hq _ (mq_at_in (q := (1, 109)) (by decide +kernel)))
  obtain ⟨c4, i4, k4⟩ := u_known (C := RX6) (T := TX6) (N := 2) (n := 2) hq (fun w hw => mq_iu w (mq_u4 w hw)) (hq _ (mq_at_in (q := (1, 149)) (by decide +kernel)))
  obtain ⟨c5, i5, k5⟩ := u_known (C := RX7) (T := TX7) (N := 2) (n := 2) hq (fun w hw => mq_iu w (mq_u5 w hw)) (hq _ (mq_at_in (q := (1, 92)) (by decide +kernel)))
  obtain ⟨c6, i6, k6⟩ := u_known (C := RX8) (T := TX8) (N := 4) (n := 4) hq (fun w hw => mq_iu w (mq_u6 w hw)) (hq _ (mq_at_in (q := (1, 129)) (by decide +kernel)))
  obtain ⟨c7, i7, k7⟩ := u_known (C := RX9) (T := TX9) (N := 11) (n := 11) hq (fun w hw => mq_iu w (mq_u7 w hw)) (hq _ (mq_at_in (q := (1, 20)) (by decide +kernel)))
  obtain ⟨c8, i8, k8⟩ := u_known (C := RX10) (T := TX10) (N := 24) (n := 24) hq (fun w hw => mq_iu w (mq_u8 w hw)) (hq _ (mq_at_in (q := (4, 100)) (by decide +kernel)))
  obtain ⟨dC, dI, hKc⟩ : ∃ (dC : Nat → ClassId) (dI : Nat → Nat → Nat), ∀ (k : Nat) (q : vw_C), vwCl[k]? = some q → u_Kn s q.1 q.2.1 q.2.2 (dC k) (dI k) := by
    refine ⟨fun k => match k with
      | 0 => c0
      | 1 => c1
      | 2 => c2
      | 3 => c3
      | 4 => c4
      | 5 => c5
      | 6 => c6
      | 7 => c7
      | _ => c8, fun k => match k with
      | 0 => i0
      | 1 => i1
      | 2 => i2
      | 3 => i3
      | 4 => i4
      | 5 => i5
      | 6 => i6
      | 7 => i7
      | _ => i8, ?_⟩
    intro k q hq9
    match k, hq9 with
    | 0, hq9 => cases hq9; exact k0
    | 1, hq9 => cases hq9; exact k1
    | 2, hq9 => cases hq9; exact k2
    | 3, hq9 => cases hq9; exact k3
    | 4, hq9 => cases hq9; exact k4
    | 5, hq9 => cases hq9; exact k5
    | 6, hq9 => cases hq9; exact k6
    | 7, hq9 => cases hq9; exact k7
    | 8, hq9 => cases hq9; exact k8
    | k + 9, hq9 => simp [vwCl] at hq9
  obtain ⟨a0, r0⟩ := q_arr (s := s) (ty := .int) (fun C h => by cases h) (hq _ (mq_at_in (q := (1, 63)) (by decide +kernel)))
  obtain ⟨a1, r1⟩ := q_arr (s := s) (ty := .byte) (fun C h => by cases h) (hq _ (mq_at_in (q := (4, 189)) (by decide +kernel)))
  obtain ⟨a2, r2⟩ := q_arr (s := s) (ty := .long) (fun C h => by cases h) (hq _ (mq_at_in (q := (1, 163)) (by decide +kernel)))
  obtain ⟨a3, r3⟩ := q_arrO hE.2.2
  obtain ⟨a4, r4⟩ := q_arrA hE.2.1
  refine ⟨(dC, dI), fun k => match k with
    | 0 => a0
    | 1 => a1
    | 2 => a2
    | 3 => a3
    | _ => a4, hKc, fun k q h => ?_⟩
  match k, h with
  | 0, h => cases h; exact r0
  | 1, h => cases h; exact r1
  | 2, h => cases h; exact r2
  | 3, h => cases h; exact r3
  | 4, h => cases h; exact r4
  | k + 5, h => simp [qT] at h
theorem mq_sk_last : mq_sk = mq_sk91 ++ [.inl (2, 1, [])] := by decide +kernel
theorem q_len91 : mq_sk91.length = 91 := by decide +kernel
theorem q_ok91 : mq_sk91.all (shOk 91) = true := by decide +kernel
set_option maxHeartbeats 8000000 in
set_option maxRecDepth 100000 in
theorem whole_start {p : Program} {e : Env} {s : State} {m : MethodId} {below : List Frame} {meth : Method} {c : Code} (l : Launch) (hflags : l.flags = flags0) {b L : Nat} {xs : Nat → Int32} (hL : L ≤ 2048) (C0 : lw_At p s m meth c b L xs) : W p l e room_1 s m #[Value.ref b] below meth c s.heap [] 0 0 (lw_Z below #[Value.ref b] s) (entryFrame m ([Value.ref b] : List Value).toArray 8) := by
  have hl9 : l.stackTraces = false := by
    show (!l.flags.contains noTraceFlag) = false
    rw [hflags]
    decide +kernel
  obtain ⟨hx, hb, hr, hml, hown, hts, hX, hbl, hlocks, hgv⟩ := id C0
  have hq : ∀ w ∈ mq_Ts, w.before #[Value.ref b] s = true := fun w hw => hts w (mq_in_tbl hw)
  have hA : ∀ q : Nat, s.heap.size ≤ q → lq_A s q := fun _ h => h
  have hE := q_E0 hts
  have hZ0 := q_Z0 hts hgv
  obtain ⟨D, cA, hK⟩ := q_K0 hts hE
  have hS : va_S (lq_A s) s.heap s.heap [] := va_S.rf
  have hP : va_P D vwCl [] s.heap := fun k q h => by simp at h
  have hD : va_D (lq_A s) [] := ⟨fun i j p q h => by simp at h, fun k q h => by simp at h⟩
  have hl := lv_entry ([.ref b]) (n := 8) (Nat.le_of_ble_eq_true rfl)
  rw [lg_entry_eq]
  generalize (lg_sl ([.ref b]) ++ List.replicate (8 - (lg_sl ([.ref b])).length) Slot.unset).toArray = ls at hl ⊢
  have hl : lv_has ls 8 [(0, .ref b)] := hl
  refine va_new (ci := 7) (fs := [.null, .null, .null, .null, .null, .null, .null, .null, .null, .null, .int 0]) (C := RX9) (T := TX9) (N := 11) hx hb hq (fun w hw => mq_iu w (mq_u7 w hw)) tyX9 tyX9_ok hown (hq _ (mq_at_in (q := (1, 19)) (by decide +kernel))) (hq _ (mq_at_in (q := (1, 20)) (by decide +kernel))) (hq _ (mq_at_in (q := (1, 1)) (by decide +kernel))) hK hP hD hS hA rfl (fun j hj => by rcases (show j = 0 ∨ j = 1 ∨ j = 2 ∨ j = 3 ∨ j = 4 ∨ j = 5 ∨ j = 6 ∨ j = 7 ∨ j = 8 ∨ j = 9 ∨ j = 10 by omega) with rfl | rfl | rfl | rfl | rfl | rfl | rfl | rfl | rfl | rfl | rfl <;> rfl) (Nat.le_of_ble_eq_true rfl) (Nat.le_of_ble_eq_true rfl) dL_law_0 (fun q1 H hP hD hS => ?_)
  have hP : va_P D vwCl [(q1, .inr (7, [.null, .null, .null, .null, .null, .null, .null, .null, .null, .null, .int 0]))] H := hP
  have hD : va_D (lq_A s) [(q1, .inr (7, [.null, .null, .null, .null, .null, .null, .null, .null, .null, .null, .int 0]))] := hD
  refine lv_dup hx hb dL_law_3 rfl ?_
  have hs9 : ∀ x, va_A [(q1, .inr (7, [.null, .null, .null, .null, .null, .null, .null, .null, .null, .null, .int 0]))] H.size x → lq_A s x := by
    rintro x (⟨k, e0, h⟩ | h)
    · exact hD.2 k _ h
    · exact hA x (Nat.le_trans hS.1 h)
  refine va_callv (va_runI (As := []) (rest := [.ref q1]) ⟨hx, hb, hml, hown, hts⟩ (cF_X9 l D cA q1 H.size) (cwI 0 hts (qgoodL (mq_at_in (q := (1, 23)) (by decide +kernel))) rfl rfl rfl (hq _ (mq_at_in (q := (1, 1)) (by decide +kernel))) (hq _ (mq_at_in (q := (1, 21)) (by decide +kernel))) (hq _ (mq_at_in (q := (1, 22)) (by decide +kernel))) rfl (by decide +kernel) ⟨(Nat.le_of_ble_eq_true rfl), (Nat.le_of_ble_eq_true rfl)⟩) ⟨fun a U g mk z => ?_, fun U hU hW => ⟨rfl, by rw [hU], by rw [hU]; exact hP, va_K.moved hW.alike hK, hD.weaken (fun _ _ _ _ => trivial), hE.warm hW⟩⟩ rfl rfl hl.1 rfl (lv_room (Nat.le_of_ble_eq_true rfl)) dL_law_4 ⟨(Nat.le_of_ble_eq_true rfl), (Nat.le_of_ble_eq_true rfl)⟩) hS (fun x _ h => hs9 x h) hs9 (fun u t H1 locs1 ht hvm hw hB hz1 hk1 hS => ?_)
  · obtain ⟨q0, q1, qP, qK, qD, qE⟩ := z
    exact ⟨q0, q1, qP, va_K.moved (u := U) (U := U.calling g mk a) (Vm.Alike.refl U.vm) qK, qD, qE.calling⟩
  obtain ⟨ad0, M0⟩ := u
  obtain ⟨w1, hQ, hz⟩ := hw
  obtain ⟨hPn, -, hDn⟩ := hB
  have hDn := hDn.weaken (fun _ _ _ h => hs9 _ h)
  rw [ht] at hPn
  have w1 : ad0 0 = q1 := w1
  have hQ : zQ q_s0 M0 := hQ
  have hz : ∀ c, 77 ≤ c → M0.1 c = (fun _ => 0) ∧ M0.2 c = (fun _ => 0) := hz
  have hP : va_P D vwCl (mz_wl cA ad0 M0 0 mq_sk77) H1 := hPn
  have hD : va_D (lq_A s) (mz_wl cA ad0 M0 0 mq_sk77) := hDn
  refine lv_astore_n (i := 1) (nL := 8) (lv' := [(1, .ref q1), (0, .ref b)]) hx hb dL_law_7 rfl hl (by decide) rfl (fun ls hl => ?_)
  refine va_new (ci := 8) (fs := [.null, .null, .null, .int 0, .null, .int 0, .null, .int 0, .null, .int 0, .int 0, .int 0, .int 0, .null, .null, .null, .null, .null, .int 0, .int 0, .int 0, .null, .null, .int 0]) (C := RX10) (T := TX10) (N := 24) hx hb hq (fun w hw => mq_iu w (mq_u8 w hw)) tyX10 tyX10_ok hown (hq _ (mq_at_in (q := (4, 99)) (by decide +kernel))) (hq _ (mq_at_in (q := (4, 100)) (by decide +kernel))) (hq _ (mq_at_in (q := (1, 10)) (by decide +kernel))) hK hP hD hS hA rfl (fun j hj => by rcases (show j = 0 ∨ j = 1 ∨ j = 2 ∨ j = 3 ∨ j = 4 ∨ j = 5 ∨ j = 6 ∨ j = 7 ∨ j = 8 ∨ j = 9 ∨ j = 10 ∨ j = 11 ∨ j = 12 ∨ j = 13 ∨ j = 14 ∨ j = 15 ∨ j = 16 ∨ j = 17 ∨ j = 18 ∨ j = 19 ∨ j = 20 ∨ j = 21 ∨ j = 22 ∨ j = 23 by omega) with rfl | rfl | rfl | rfl | rfl | rfl | rfl | rfl | rfl | rfl | rfl | rfl | rfl | rfl | rfl | rfl | rfl | rfl | rfl | rfl | rfl | rfl | rfl | rfl <;> rfl) (Nat.le_of_ble_eq_true rfl) (Nat.le_of_ble_eq_true rfl) dL_law_8 (fun q2 H hP hD hS => ?_)
  have hP : va_P D vwCl (mz_wl cA ad0 M0 0 mq_sk77 ++ [(q2, .inr (8, [.null, .null, .null, .int 0, .null, .int 0, .null, .int 0, .null, .int 0, .int 0, .int 0, .int 0, .null, .null, .null, .null, .null, .int 0, .int 0, .int 0, .null, .null, .int 0]))]) H := hP
  have hD : va_D (lq_A s) (mz_wl cA ad0 M0 0 mq_sk77 ++ [(q2, .inr (8, [.null, .null, .null, .int 0, .null, .int 0, .null, .int 0, .null, .int 0, .int 0, .int 0, .int 0, .null, .null, .null, .null, .null, .int 0, .int 0, .int 0, .null, .null, .int 0]))]) := hD
  refine lv_dup hx hb dL_law_11 rfl ?_
  have hs10 : ∀ x, va_A (mz_wl cA ad0 M0 0 mq_sk77 ++ [(q2, .inr (8, [.null, .null, .null, .int 0, .null, .int 0, .null, .int 0, .null, .int 0, .int 0, .int 0, .int 0, .null, .null, .null, .null, .null, .int 0, .int 0, .int 0, .null, .null, .int 0]))]) H.size x → lq_A s x := by
    rintro x (⟨k, e0, h⟩ | h)
    · exact hD.2 k _ h
    · exact hA x (Nat.le_trans hS.1 h)
  refine va_callv (va_runI (As := []) (rest := [.ref q2]) ⟨hx, hb, hml, hown, hts⟩ (cF_X10 l D cA ad0 M0 hQ hz q2 H.size) (cwI 0 hts (qgoodL (mq_at_in (q := (4, 103)) (by decide +kernel))) rfl rfl rfl (hq _ (mq_at_in (q := (1, 10)) (by decide +kernel))) (hq _ (mq_at_in (q := (4, 101)) (by decide +kernel))) (hq _ (mq_at_in (q := (4, 102)) (by decide +kernel))) rfl (by decide +kernel) ⟨(Nat.le_of_ble_eq_true rfl), (Nat.le_of_ble_eq_true rfl)⟩) ⟨fun a U g mk z => ?_, fun U hU hW => ⟨rfl, by rw [hU], by rw [hU]; exact hP, va_K.moved hW.alike hK, hD.weaken (fun _ _ _ _ => trivial), hE.warm hW⟩⟩ rfl rfl hl.1 rfl (lv_room (Nat.le_of_ble_eq_true rfl)) dL_law_12 ⟨(Nat.le_of_ble_eq_true rfl), (Nat.le_of_ble_eq_true rfl)⟩) hS (fun x _ h => hs10 x h) hs10 (fun u t H1 locs1 ht hvm hw hB hz1 hk1 hS => ?_)
  · obtain ⟨q0, q1, qP, qK, qD, qE⟩ := z
    exact ⟨q0, q1, qP, va_K.moved (u := U) (U := U.calling g mk a) (Vm.Alike.refl U.vm) qK, qD, qE.calling⟩
  obtain ⟨ad1, M1⟩ := u
  obtain ⟨w2, w3, hB2, hz2⟩ := hw
  obtain ⟨hPn, -, hDn⟩ := hB
  have hDn := hDn.weaken (fun _ _ _ h => hs10 _ h)
  rw [ht] at hPn
  have w2 : ad1 77 = q2 := w2
  have w3 : ∀ i, i < 77 → ad1 i = ad0 i := w3
  have hB2 : zBo q_s0 M1 := hB2
  have hz2 : M1.2 91 = (fun _ => 0) := hz2
  have hP : va_P D vwCl (mz_wl cA ad1 M1 0 mq_sk91) _ := hPn
  have hD : va_D (lq_A s) (mz_wl cA ad1 M1 0 mq_sk91) := hDn
  refine lv_astore_n (i := 2) (nL := 8) (lv' := [(2, .ref q2), (1, .ref q1), (0, .ref b)]) hx hb dL_law_15 rfl hl (by decide) rfl (fun ls hl => ?_)
  refine lv_iconst (v := 1) hx hb dL_law_16 rfl ?_
  refine qNewa (atype := .long) (t := 2) (N := 1) (k := 0) hx hb (hq _ (mq_at_in (q := (1, 163)) (by decide +kernel))) rfl (fun c => qz2 c _ _) hK hP hD hS hA (by decide +kernel) (by decide +kernel) (Nat.le_of_ble_eq_true rfl) (Nat.le_of_ble_eq_true rfl) (Nat.le_of_ble_eq_true rfl) dL_law_17 (fun q3 H hP hD hS => ?_)
  refine lv_astore_n (i := 3) (nL := 8) (lv' := [(3, .ref q3), (2, .ref q2), (1, .ref q1), (0, .ref b)]) hx hb dL_law_19 rfl hl (by decide) rfl (fun ls hl => ?_)
  refine lv_iconst (v := nI 0) hx hb dL_law_20 rfl ?_
  refine lv_istore (i := 4) (nL := 8) (lv' := [(4, .int (nI 0)), (3, .ref q3), (2, .ref q2), (1, .ref q1), (0, .ref b)]) hx hb dL_law_21 hl (by decide) rfl (fun ls hl => ?_)
  obtain ⟨ad, g1, g2⟩ : ∃ ad : Nat → Nat, (∀ i, i < 91 → ad i = ad1 i) ∧ ad 91 = q3 := ⟨fun i => if i < 91 then ad1 i else q3, fun i hi => by dsimp only; rw [if_pos hi], rfl⟩
  have ew : mz_wl cA ad M1 0 mq_sk = mz_wl cA ad1 M1 0 mq_sk91 ++ [(q3, .inl (cA 2, 1, mz_con (fun _ => 0) mq_z0 0 2 []))] := by
    rw [mq_sk_last, mz_wl_app _ _ 0 91 q_len91, qadWl (a := ad1) (N := 91) g1 mq_sk91 0 (Nat.le_of_eq q_len91) q_ok91]
    refine congrArg (fun z => mz_wl cA ad1 M1 0 mq_sk91 ++ z) ?_
    show [(ad 91, (.inl (cA 2, 1, .inr (.inl (M1.2 91))) : va_E))] = _
    rw [g2, hz2]
    all_goals rfl
  rw [← ew] at hP hD
  have x1 : ad 0 = q1 := by rw [g1 0 (by decide), w3 0 (by decide), w1]
  have x2 : ad 77 = q2 := by rw [g1 77 (by decide), w2]
  rw [← x1, ← x2, ← g2] at hl
  have X : lq_X p s m c b L xs D (qT cA) cA := ⟨hx, hb, hml, hown, hts, hX, hbl, hK, q_tys_all cA⟩
  have kend : ∀ (H : Heap) (locs : List Loc) (ls : Array Slot) (kc ks : Nat), kc ≤ 601024 → ks ≤ 7293034 → va_S (lq_A s) s.heap H locs → W p l e room_1 s m #[Value.ref b] below meth c H locs kc ks (lw_Z below #[Value.ref b] s) (F0 m 2145 ls []) := fun H locs ls kc ks h1 h2 h3 => by
    refine W.widen (k := 601024) (n := 7293034) h1 h2 ?_
    refine va_forget (fun q hq9 => h3.2.2 q hq9) ?_
    refine lv_iconst (v := 1) hx hb dL_law_2145 rfl ?_
    exact lw_ret hx hb hr hlocks dL_law_2146
  exact lq_loop X hL kend (fun i kc ks h1 h2 h3 kk => lq_c60 X hl9 hZ0 h1 h2 h3 kk) 512 0 _ _ (by omega) (by omega) (Nat.le_of_ble_eq_true rfl) (Nat.le_of_ble_eq_true rfl) _ _ _ M1 q_s0 hB2 hP hD hS (lv_sub hl [0, 4, 3, 2, 1] rfl)
