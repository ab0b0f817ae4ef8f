/-! the constructors -/
def qnth : List Nat → Nat → Nat
  | [], _ => 0
  | a :: _, 0 => a
  | _ :: l, n + 1 => qnth l n
-- decode rows of X0
theorem dX0_init_0 : decode cX0_init 0 = .ok (.aload_n 0, 1) := by decide +kernel
theorem dX0_init_1 : decode cX0_init 1 = .ok (.invokespecial 3, 3) := by decide +kernel
theorem dX0_init_4 : decode cX0_init 4 = .ok (.aload_n 0, 1) := by decide +kernel
theorem dX0_init_5 : decode cX0_init 5 = .ok (.sipush 256, 3) := by decide +kernel
theorem dX0_init_8 : decode cX0_init 8 = .ok (.newarray .int, 2) := by decide +kernel
theorem dX0_init_10 : decode cX0_init 10 = .ok (.putfield 9, 3) := by decide +kernel
theorem dX0_init_13 : decode cX0_init 13 = .ok (.aload_n 0, 1) := by decide +kernel
theorem dX0_init_14 : decode cX0_init 14 = .ok (.sipush 256, 3) := by decide +kernel
theorem dX0_init_17 : decode cX0_init 17 = .ok (.newarray .int, 2) := by decide +kernel
theorem dX0_init_19 : decode cX0_init 19 = .ok (.putfield 15, 3) := by decide +kernel
theorem dX0_init_22 : decode cX0_init 22 = .ok (.return_, 1) := by decide +kernel
-- decode rows of X1
theorem dX1_init_0 : decode cX1_init 0 = .ok (.aload_n 0, 1) := by decide +kernel
theorem dX1_init_1 : decode cX1_init 1 = .ok (.invokespecial 3, 3) := by decide +kernel
theorem dX1_init_4 : decode cX1_init 4 = .ok (.aload_n 0, 1) := by decide +kernel
theorem dX1_init_5 : decode cX1_init 5 = .ok (.bipush 8, 2) := by decide +kernel
theorem dX1_init_7 : decode cX1_init 7 = .ok (.newarray .int, 2) := by decide +kernel
theorem dX1_init_9 : decode cX1_init 9 = .ok (.putfield 9, 3) := by decide +kernel
theorem dX1_init_12 : decode cX1_init 12 = .ok (.aload_n 0, 1) := by decide +kernel
theorem dX1_init_13 : decode cX1_init 13 = .ok (.bipush 8, 2) := by decide +kernel
theorem dX1_init_15 : decode cX1_init 15 = .ok (.newarray .int, 2) := by decide +kernel
theorem dX1_init_17 : decode cX1_init 17 = .ok (.putfield 15, 3) := by decide +kernel
theorem dX1_init_20 : decode cX1_init 20 = .ok (.return_, 1) := by decide +kernel
-- decode rows of X2
theorem dX2_init_0 : decode cX2_init 0 = .ok (.aload_n 0, 1) := by decide +kernel
theorem dX2_init_1 : decode cX2_init 1 = .ok (.invokespecial 3, 3) := by decide +kernel
theorem dX2_init_4 : decode cX2_init 4 = .ok (.aload_n 0, 1) := by decide +kernel
theorem dX2_init_5 : decode cX2_init 5 = .ok (.new 9, 3) := by decide +kernel
theorem dX2_init_8 : decode cX2_init 8 = .ok (.dup, 1) := by decide +kernel
theorem dX2_init_9 : decode cX2_init 9 = .ok (.invokespecial 11, 3) := by decide +kernel
theorem dX2_init_12 : decode cX2_init 12 = .ok (.putfield 12, 3) := by decide +kernel
theorem dX2_init_15 : decode cX2_init 15 = .ok (.aload_n 0, 1) := by decide +kernel
theorem dX2_init_16 : decode cX2_init 16 = .ok (.new 18, 3) := by decide +kernel
theorem dX2_init_19 : decode cX2_init 19 = .ok (.dup, 1) := by decide +kernel
theorem dX2_init_20 : decode cX2_init 20 = .ok (.invokespecial 20, 3) := by decide +kernel
theorem dX2_init_23 : decode cX2_init 23 = .ok (.putfield 21, 3) := by decide +kernel
theorem dX2_init_26 : decode cX2_init 26 = .ok (.return_, 1) := by decide +kernel
-- decode rows of X3
theorem dX3_init_0 : decode cX3_init 0 = .ok (.aload_n 0, 1) := by decide +kernel
theorem dX3_init_1 : decode cX3_init 1 = .ok (.invokespecial 1, 3) := by decide +kernel
theorem dX3_init_4 : decode cX3_init 4 = .ok (.aload_n 0, 1) := by decide +kernel
theorem dX3_init_5 : decode cX3_init 5 = .ok (.bipush 8, 2) := by decide +kernel
theorem dX3_init_7 : decode cX3_init 7 = .ok (.anewarray 9, 3) := by decide +kernel
theorem dX3_init_10 : decode cX3_init 10 = .ok (.putfield 11, 3) := by decide +kernel
theorem dX3_init_13 : decode cX3_init 13 = .ok (.iconst 0, 1) := by decide +kernel
theorem dX3_init_14 : decode cX3_init 14 = .ok (.istore_n 1, 1) := by decide +kernel
theorem dX3_init_15 : decode cX3_init 15 = .ok (.iload_n 1, 1) := by decide +kernel
theorem dX3_init_16 : decode cX3_init 16 = .ok (.bipush 8, 2) := by decide +kernel
theorem dX3_init_18 : decode cX3_init 18 = .ok (.if_icmp .ge 22, 3) := by decide +kernel
theorem dX3_init_21 : decode cX3_init 21 = .ok (.aload_n 0, 1) := by decide +kernel
theorem dX3_init_22 : decode cX3_init 22 = .ok (.getfield 11, 3) := by decide +kernel
theorem dX3_init_25 : decode cX3_init 25 = .ok (.iload_n 1, 1) := by decide +kernel
theorem dX3_init_26 : decode cX3_init 26 = .ok (.new 9, 3) := by decide +kernel
theorem dX3_init_29 : decode cX3_init 29 = .ok (.dup, 1) := by decide +kernel
theorem dX3_init_30 : decode cX3_init 30 = .ok (.invokespecial 15, 3) := by decide +kernel
theorem dX3_init_33 : decode cX3_init 33 = .ok (.aastore, 1) := by decide +kernel
theorem dX3_init_34 : decode cX3_init 34 = .ok (.iinc 1 1, 3) := by decide +kernel
theorem dX3_init_37 : decode cX3_init 37 = .ok (.goto (-22), 3) := by decide +kernel
theorem dX3_init_40 : decode cX3_init 40 = .ok (.return_, 1) := by decide +kernel
-- decode rows of X6
theorem dX6_init_0 : decode cX6_init 0 = .ok (.aload_n 0, 1) := by decide +kernel
theorem dX6_init_1 : decode cX6_init 1 = .ok (.invokespecial 1, 3) := by decide +kernel
theorem dX6_init_4 : decode cX6_init 4 = .ok (.aload_n 0, 1) := by decide +kernel
theorem dX6_init_5 : decode cX6_init 5 = .ok (.bipush 16, 2) := by decide +kernel
theorem dX6_init_7 : decode cX6_init 7 = .ok (.newarray .long, 2) := by decide +kernel
theorem dX6_init_9 : decode cX6_init 9 = .ok (.putfield 7, 3) := by decide +kernel
theorem dX6_init_12 : decode cX6_init 12 = .ok (.return_, 1) := by decide +kernel
-- decode rows of X7
theorem dX7_init_0 : decode cX7_init 0 = .ok (.aload_n 0, 1) := by decide +kernel
theorem dX7_init_1 : decode cX7_init 1 = .ok (.invokespecial 3, 3) := by decide +kernel
theorem dX7_init_4 : decode cX7_init 4 = .ok (.aload_n 0, 1) := by decide +kernel
theorem dX7_init_5 : decode cX7_init 5 = .ok (.iconst 4, 1) := by decide +kernel
theorem dX7_init_6 : decode cX7_init 6 = .ok (.bipush 8, 2) := by decide +kernel
theorem dX7_init_8 : decode cX7_init 8 = .ok (.multianewarray 11 2, 4) := by decide +kernel
theorem dX7_init_12 : decode cX7_init 12 = .ok (.putfield 13, 3) := by decide +kernel
theorem dX7_init_15 : decode cX7_init 15 = .ok (.return_, 1) := by decide +kernel
-- decode rows of X8
theorem dX8_init_0 : decode cX8_init 0 = .ok (.aload_n 0, 1) := by decide +kernel
theorem dX8_init_1 : decode cX8_init 1 = .ok (.invokespecial 3, 3) := by decide +kernel
theorem dX8_init_4 : decode cX8_init 4 = .ok (.aload_n 0, 1) := by decide +kernel
theorem dX8_init_5 : decode cX8_init 5 = .ok (.bipush 100, 2) := by decide +kernel
theorem dX8_init_7 : decode cX8_init 7 = .ok (.newarray .int, 2) := by decide +kernel
theorem dX8_init_9 : decode cX8_init 9 = .ok (.putfield 11, 3) := by decide +kernel
theorem dX8_init_12 : decode cX8_init 12 = .ok (.aload_n 0, 1) := by decide +kernel
theorem dX8_init_13 : decode cX8_init 13 = .ok (.bipush 32, 2) := by decide +kernel
theorem dX8_init_15 : decode cX8_init 15 = .ok (.newarray .int, 2) := by decide +kernel
theorem dX8_init_17 : decode cX8_init 17 = .ok (.putfield 15, 3) := by decide +kernel
theorem dX8_init_20 : decode cX8_init 20 = .ok (.return_, 1) := by decide +kernel
def sk_X0 : List mz_E := [.inr (0, [none, none, none, some 1, some 2, none]), .inl (0, 256, []), .inl (0, 256, [])]
def rm_X0 : Room := { frames := 1, cells := 2, slots := 512, locals := 12 }
set_option maxHeartbeats 4000000 in
set_option maxRecDepth 100000 in
theorem cI_X0 (l : Launch) (D : va_G) (cA : Nat → Nat) : qI l D cA yX0_init cX0_init 1 (.inr (0, [.int 0, .int 0, .int 0, .null, .null, .int 0])) sk_X0 rm_X0 := by
  intro h0 sz
  refine Met.ofW (cc := cX0_init) (maxL := 1) (ret := none) (by decide) rfl ?_
  intro p e s m args below meth c s₁ B hml hv
  obtain ⟨rfl, hsz, hP, hK, hD0, hE⟩ := hv
  have hx := B.exec
  have hb := B.bytes
  have hr := B.returns
  have hts := atoms_spec (ws := Cond.code yX0_init cX0_init 1 none :: mq_Ts) B.pre
  have hq : ∀ w ∈ mq_Ts, w.before ([Value.ref h0] : List Value).toArray s = true := fun w hw => hts w (List.mem_cons_of_mem _ hw)
  have hown : s.vm.findClass RX0 = some m.cls := findClass_of_methodNamed B.named
  have hlocks := B.notSynchronized
  have hin : meth.name = "<init>" := (name_of_methodNamed B.named B.method).1
  subst hsz
  have hD := hD0.self (sz := s.heap.size)
  generalize hAe : va_A [(h0, .inr (0, [.int 0, .int 0, .int 0, .null, .null, .int 0]))] s.heap.size = A at hD ⊢
  have hA : ∀ q : Nat, s.heap.size ≤ q → A q := fun q h => by rw [← hAe]; exact Or.inr h
  have hS : va_S A s.heap s.heap [] := va_S.rf
  have hl := lv_entry ([.ref h0]) (n := 1) (Nat.le_of_ble_eq_true rfl)
  rw [lg_entry_eq]
  generalize (lg_sl ([.ref h0]) ++ List.replicate (1 - (lg_sl ([.ref h0])).length) Slot.unset).toArray = ls at hl ⊢
  have hl : lv_has ls 1 [(0, .ref h0)] := hl
  refine lv_aload_n hx hb dX0_init_0 rfl (lv_at hl 0 rfl) ?_
  refine W.objInit hx hb hown (hq _ (mq_at_in (q := (1, 38)) (by decide +kernel))) (hq _ (mq_at_in (q := (1, 25)) (by decide +kernel))) (hq _ (mq_at_in (q := (1, 26)) (by decide +kernel))) rfl (by rw [hml]; exact hl.1) rfl dX0_init_1 (Nat.le_of_ble_eq_true rfl) (Nat.le_of_ble_eq_true rfl) ?_
  refine W.eq (g2 := F0 m 4 ls []) rfl ?_
  refine lv_aload_n hx hb dX0_init_4 rfl (lv_at hl 0 rfl) ?_
  refine lv_sipush (v := 256) hx hb dX0_init_5 rfl ?_
  refine qNewa (atype := .int) (t := 0) (N := 256) (k := 0) hx hb (hq _ (mq_at_in (q := (1, 63)) (by decide +kernel))) rfl (fun c => qz0 c _ _) hK hP hD hS hA (by decide +kernel) (by decide +kernel) (Nat.le_of_ble_eq_true rfl) (Nat.le_of_ble_eq_true rfl) (Nat.le_of_ble_eq_true rfl) dX0_init_8 (fun q1 H hP hD hS => ?_)
  have hP : va_P D vwCl [(h0, .inr (0, [.int 0, .int 0, .int 0, .null, .null, .int 0])), (q1, .inl (cA 0, 256, mz_con (fun _ => 0) mq_z0 0 0 []))] H := hP
  have hD : va_D A [(h0, .inr (0, [.int 0, .int 0, .int 0, .null, .null, .int 0])), (q1, .inl (cA 0, 256, mz_con (fun _ => 0) mq_z0 0 0 []))] := hD
  refine va_putF (D := D) (ci := 0) (v := .ref q1) (ty := .array .int) (C := RX0) (T := TX0) (N := 6) hx hb hq (fun w hw => mq_iu w (mq_u0 w hw)) tyX0 tyX0_ok nmX0 hown hK hP hD hS 0 rfl rfl 3 (by decide) (hq _ (mq_at_in (q := (1, 47)) (by decide +kernel))) (fun _ h9 => h9) rfl hin rfl (by decide +kernel) rfl rfl (Nat.le_of_ble_eq_true rfl) dX0_init_10 (fun H locs hP hD hS => ?_)
  have hP : va_P D vwCl [(h0, .inr (0, [.int 0, .int 0, .int 0, .ref q1, .null, .int 0])), (q1, .inl (cA 0, 256, mz_con (fun _ => 0) mq_z0 0 0 []))] H := hP
  have hD : va_D A [(h0, .inr (0, [.int 0, .int 0, .int 0, .ref q1, .null, .int 0])), (q1, .inl (cA 0, 256, mz_con (fun _ => 0) mq_z0 0 0 []))] := hD
  refine lv_aload_n hx hb dX0_init_13 rfl (lv_at hl 0 rfl) ?_
  refine lv_sipush (v := 256) hx hb dX0_init_14 rfl ?_
  refine qNewa (atype := .int) (t := 0) (N := 256) (k := 0) hx hb (hq _ (mq_at_in (q := (1, 63)) (by decide +kernel))) rfl (fun c => qz0 c _ _) hK hP hD hS hA (by decide +kernel) (by decide +kernel) (Nat.le_of_ble_eq_true rfl) (Nat.le_of_ble_eq_true rfl) (Nat.le_of_ble_eq_true rfl) dX0_init_17 (fun q2 H hP hD hS => ?_)
  have hP : va_P D vwCl [(h0, .inr (0, [.int 0, .int 0, .int 0, .ref q1, .null, .int 0])), (q1, .inl (cA 0, 256, mz_con (fun _ => 0) mq_z0 0 0 [])), (q2, .inl (cA 0, 256, mz_con (fun _ => 0) mq_z0 0 0 []))] H := hP
  have hD : va_D A [(h0, .inr (0, [.int 0, .int 0, .int 0, .ref q1, .null, .int 0])), (q1, .inl (cA 0, 256, mz_con (fun _ => 0) mq_z0 0 0 [])), (q2, .inl (cA 0, 256, mz_con (fun _ => 0) mq_z0 0 0 []))] := hD
  refine va_putF (D := D) (ci := 0) (v := .ref q2) (ty := .array .int) (C := RX0) (T := TX0) (N := 6) hx hb hq (fun w hw => mq_iu w (mq_u0 w hw)) tyX0 tyX0_ok nmX0 hown hK hP hD hS 0 rfl rfl 4 (by decide) (hq _ (mq_at_in (q := (1, 48)) (by decide +kernel))) (fun _ h9 => h9) rfl hin rfl (by decide +kernel) rfl rfl (Nat.le_of_ble_eq_true rfl) dX0_init_19 (fun H locs hP hD hS => ?_)
  have hP : va_P D vwCl [(h0, .inr (0, [.int 0, .int 0, .int 0, .ref q1, .ref q2, .int 0])), (q1, .inl (cA 0, 256, mz_con (fun _ => 0) mq_z0 0 0 [])), (q2, .inl (cA 0, 256, mz_con (fun _ => 0) mq_z0 0 0 []))] H := hP
  have hD : va_D A [(h0, .inr (0, [.int 0, .int 0, .int 0, .ref q1, .ref q2, .int 0])), (q1, .inl (cA 0, 256, mz_con (fun _ => 0) mq_z0 0 0 [])), (q2, .inl (cA 0, 256, mz_con (fun _ => 0) mq_z0 0 0 []))] := hD
  exact W.vret hx hb hr (fun t ht hW => ⟨⟨qnth [h0, q1, q2], rfl, rfl, by rw [ht]; exact hP, va_K.moved hW.alike hK, hD⟩, hS.F ht⟩) hS.2.2 dX0_init_22
def sk_X1 : List mz_E := [.inr (1, [some 1, some 2, none]), .inl (0, 8, []), .inl (0, 8, [])]
def rm_X1 : Room := { frames := 1, cells := 2, slots := 16, locals := 12 }
set_option maxHeartbeats 4000000 in
set_option maxRecDepth 100000 in
theorem cI_X1 (l : Launch) (D : va_G) (cA : Nat → Nat) : qI l D cA yX1_init cX1_init 1 (.inr (1, [.null, .null, .int 0])) sk_X1 rm_X1 := by
  intro h0 sz
  refine Met.ofW (cc := cX1_init) (maxL := 1) (ret := none) (by decide) rfl ?_
  intro p e s m args below meth c s₁ B hml hv
  obtain ⟨rfl, hsz, hP, hK, hD0, hE⟩ := hv
  have hx := B.exec
  have hb := B.bytes
  have hr := B.returns
  have hts := atoms_spec (ws := Cond.code yX1_init cX1_init 1 none :: mq_Ts) B.pre
  have hq : ∀ w ∈ mq_Ts, w.before ([Value.ref h0] : List Value).toArray s = true := fun w hw => hts w (List.mem_cons_of_mem _ hw)
  have hown : s.vm.findClass RX1 = some m.cls := findClass_of_methodNamed B.named
  have hlocks := B.notSynchronized
  have hin : meth.name = "<init>" := (name_of_methodNamed B.named B.method).1
  subst hsz
  have hD := hD0.self (sz := s.heap.size)
  generalize hAe : va_A [(h0, .inr (1, [.null, .null, .int 0]))] s.heap.size = A at hD ⊢
  have hA : ∀ q : Nat, s.heap.size ≤ q → A q := fun q h => by rw [← hAe]; exact Or.inr h
  have hS : va_S A s.heap s.heap [] := va_S.rf
  have hl := lv_entry ([.ref h0]) (n := 1) (Nat.le_of_ble_eq_true rfl)
  rw [lg_entry_eq]
  generalize (lg_sl ([.ref h0]) ++ List.replicate (1 - (lg_sl ([.ref h0])).length) Slot.unset).toArray = ls at hl ⊢
  have hl : lv_has ls 1 [(0, .ref h0)] := hl
  refine lv_aload_n hx hb dX1_init_0 rfl (lv_at hl 0 rfl) ?_
  refine W.objInit hx hb hown (hq _ (mq_at_in (q := (1, 69)) (by decide +kernel))) (hq _ (mq_at_in (q := (1, 25)) (by decide +kernel))) (hq _ (mq_at_in (q := (1, 26)) (by decide +kernel))) rfl (by rw [hml]; exact hl.1) rfl dX1_init_1 (Nat.le_of_ble_eq_true rfl) (Nat.le_of_ble_eq_true rfl) ?_
  refine W.eq (g2 := F0 m 4 ls []) rfl ?_
  refine lv_aload_n hx hb dX1_init_4 rfl (lv_at hl 0 rfl) ?_
  refine lv_bipush (v := 8) hx hb dX1_init_5 rfl ?_
  refine qNewa (atype := .int) (t := 0) (N := 8) (k := 0) hx hb (hq _ (mq_at_in (q := (1, 63)) (by decide +kernel))) rfl (fun c => qz0 c _ _) hK hP hD hS hA (by decide +kernel) (by decide +kernel) (Nat.le_of_ble_eq_true rfl) (Nat.le_of_ble_eq_true rfl) (Nat.le_of_ble_eq_true rfl) dX1_init_7 (fun q1 H hP hD hS => ?_)
  have hP : va_P D vwCl [(h0, .inr (1, [.null, .null, .int 0])), (q1, .inl (cA 0, 8, mz_con (fun _ => 0) mq_z0 0 0 []))] H := hP
  have hD : va_D A [(h0, .inr (1, [.null, .null, .int 0])), (q1, .inl (cA 0, 8, mz_con (fun _ => 0) mq_z0 0 0 []))] := hD
  refine va_putF (D := D) (ci := 1) (v := .ref q1) (ty := .array .int) (C := RX1) (T := TX1) (N := 3) hx hb hq (fun w hw => mq_iu w (mq_u1 w hw)) tyX1 tyX1_ok nmX1 hown hK hP hD hS 0 rfl rfl 0 (by decide) (hq _ (mq_at_in (q := (1, 70)) (by decide +kernel))) (fun _ h9 => h9) rfl hin rfl (by decide +kernel) rfl rfl (Nat.le_of_ble_eq_true rfl) dX1_init_9 (fun H locs hP hD hS => ?_)
  have hP : va_P D vwCl [(h0, .inr (1, [.ref q1, .null, .int 0])), (q1, .inl (cA 0, 8, mz_con (fun _ => 0) mq_z0 0 0 []))] H := hP
  have hD : va_D A [(h0, .inr (1, [.ref q1, .null, .int 0])), (q1, .inl (cA 0, 8, mz_con (fun _ => 0) mq_z0 0 0 []))] := hD
  refine lv_aload_n hx hb dX1_init_12 rfl (lv_at hl 0 rfl) ?_
  refine lv_bipush (v := 8) hx hb dX1_init_13 rfl ?_
  refine qNewa (atype := .int) (t := 0) (N := 8) (k := 0) hx hb (hq _ (mq_at_in (q := (1, 63)) (by decide +kernel))) rfl (fun c => qz0 c _ _) hK hP hD hS hA (by decide +kernel) (by decide +kernel) (Nat.le_of_ble_eq_true rfl) (Nat.le_of_ble_eq_true rfl) (Nat.le_of_ble_eq_true rfl) dX1_init_15 (fun q2 H hP hD hS => ?_)
  have hP : va_P D vwCl [(h0, .inr (1, [.ref q1, .null, .int 0])), (q1, .inl (cA 0, 8, mz_con (fun _ => 0) mq_z0 0 0 [])), (q2, .inl (cA 0, 8, mz_con (fun _ => 0) mq_z0 0 0 []))] H := hP
  have hD : va_D A [(h0, .inr (1, [.ref q1, .null, .int 0])), (q1, .inl (cA 0, 8, mz_con (fun _ => 0) mq_z0 0 0 [])), (q2, .inl (cA 0, 8, mz_con (fun _ => 0) mq_z0 0 0 []))] := hD
  refine va_putF (D := D) (ci := 1) (v := .ref q2) (ty := .array .int) (C := RX1) (T := TX1) (N := 3) hx hb hq (fun w hw => mq_iu w (mq_u1 w hw)) tyX1 tyX1_ok nmX1 hown hK hP hD hS 0 rfl rfl 1 (by decide) (hq _ (mq_at_in (q := (1, 71)) (by decide +kernel))) (fun _ h9 => h9) rfl hin rfl (by decide +kernel) rfl rfl (Nat.le_of_ble_eq_true rfl) dX1_init_17 (fun H locs hP hD hS => ?_)
  have hP : va_P D vwCl [(h0, .inr (1, [.ref q1, .ref q2, .int 0])), (q1, .inl (cA 0, 8, mz_con (fun _ => 0) mq_z0 0 0 [])), (q2, .inl (cA 0, 8, mz_con (fun _ => 0) mq_z0 0 0 []))] H := hP
  have hD : va_D A [(h0, .inr (1, [.ref q1, .ref q2, .int 0])), (q1, .inl (cA 0, 8, mz_con (fun _ => 0) mq_z0 0 0 [])), (q2, .inl (cA 0, 8, mz_con (fun _ => 0) mq_z0 0 0 []))] := hD
  exact W.vret hx hb hr (fun t ht hW => ⟨⟨qnth [h0, q1, q2], rfl, rfl, by rw [ht]; exact hP, va_K.moved hW.alike hK, hD⟩, hS.F ht⟩) hS.2.2 dX1_init_20
def sk_X6 : List mz_E := [.inr (4, [some 1, none]), .inl (2, 16, [])]
def rm_X6 : Room := { frames := 1, cells := 1, slots := 16, locals := 12 }
set_option maxHeartbeats 4000000 in
set_option maxRecDepth 100000 in
theorem cI_X6 (l : Launch) (D : va_G) (cA : Nat → Nat) : qI l D cA yX6_init cX6_init 1 (.inr (4, [.null, .int 0])) sk_X6 rm_X6 := by
  intro h0 sz
  refine Met.ofW (cc := cX6_init) (maxL := 1) (ret := none) (by decide) rfl ?_
  intro p e s m args below meth c s₁ B hml hv
  obtain ⟨rfl, hsz, hP, hK, hD0, hE⟩ := hv
  have hx := B.exec
  have hb := B.bytes
  have hr := B.returns
  have hts := atoms_spec (ws := Cond.code yX6_init cX6_init 1 none :: mq_Ts) B.pre
  have hq : ∀ w ∈ mq_Ts, w.before ([Value.ref h0] : List Value).toArray s = true := fun w hw => hts w (List.mem_cons_of_mem _ hw)
  have hown : s.vm.findClass RX6 = some m.cls := findClass_of_methodNamed B.named
  have hlocks := B.notSynchronized
  have hin : meth.name = "<init>" := (name_of_methodNamed B.named B.method).1
  subst hsz
  have hD := hD0.self (sz := s.heap.size)
  generalize hAe : va_A [(h0, .inr (4, [.null, .int 0]))] s.heap.size = A at hD ⊢
  have hA : ∀ q : Nat, s.heap.size ≤ q → A q := fun q h => by rw [← hAe]; exact Or.inr h
  have hS : va_S A s.heap s.heap [] := va_S.rf
  have hl := lv_entry ([.ref h0]) (n := 1) (Nat.le_of_ble_eq_true rfl)
  rw [lg_entry_eq]
  generalize (lg_sl ([.ref h0]) ++ List.replicate (1 - (lg_sl ([.ref h0])).length) Slot.unset).toArray = ls at hl ⊢
  have hl : lv_has ls 1 [(0, .ref h0)] := hl
  refine lv_aload_n hx hb dX6_init_0 rfl (lv_at hl 0 rfl) ?_
  refine W.objInit hx hb hown (hq _ (mq_at_in (q := (1, 153)) (by decide +kernel))) (hq _ (mq_at_in (q := (1, 25)) (by decide +kernel))) (hq _ (mq_at_in (q := (1, 26)) (by decide +kernel))) rfl (by rw [hml]; exact hl.1) rfl dX6_init_1 (Nat.le_of_ble_eq_true rfl) (Nat.le_of_ble_eq_true rfl) ?_
  refine W.eq (g2 := F0 m 4 ls []) rfl ?_
  refine lv_aload_n hx hb dX6_init_4 rfl (lv_at hl 0 rfl) ?_
  refine lv_bipush (v := 16) hx hb dX6_init_5 rfl ?_
  refine qNewa (atype := .long) (t := 2) (N := 16) (k := 0) hx hb (hq _ (mq_at_in (q := (1, 163)) (by decide +kernel))) rfl (fun c => qz2 c _ _) hK hP hD hS hA (by decide +kernel) (by decide +kernel) (Nat.le_of_ble_eq_true rfl) (Nat.le_of_ble_eq_true rfl) (Nat.le_of_ble_eq_true rfl) dX6_init_7 (fun q1 H hP hD hS => ?_)
  have hP : va_P D vwCl [(h0, .inr (4, [.null, .int 0])), (q1, .inl (cA 2, 16, mz_con (fun _ => 0) mq_z0 0 2 []))] H := hP
  have hD : va_D A [(h0, .inr (4, [.null, .int 0])), (q1, .inl (cA 2, 16, mz_con (fun _ => 0) mq_z0 0 2 []))] := hD
  refine va_putF (D := D) (ci := 4) (v := .ref q1) (ty := .array .long) (C := RX6) (T := TX6) (N := 2) hx hb hq (fun w hw => mq_iu w (mq_u4 w hw)) tyX6 tyX6_ok nmX6 hown hK hP hD hS 0 rfl rfl 0 (by decide) (hq _ (mq_at_in (q := (1, 154)) (by decide +kernel))) (fun _ h9 => h9) rfl hin rfl (by decide +kernel) rfl rfl (Nat.le_of_ble_eq_true rfl) dX6_init_9 (fun H locs hP hD hS => ?_)
  have hP : va_P D vwCl [(h0, .inr (4, [.ref q1, .int 0])), (q1, .inl (cA 2, 16, mz_con (fun _ => 0) mq_z0 0 2 []))] H := hP
  have hD : va_D A [(h0, .inr (4, [.ref q1, .int 0])), (q1, .inl (cA 2, 16, mz_con (fun _ => 0) mq_z0 0 2 []))] := hD
  exact W.vret hx hb hr (fun t ht hW => ⟨⟨qnth [h0, q1], rfl, rfl, by rw [ht]; exact hP, va_K.moved hW.alike hK, hD⟩, hS.F ht⟩) hS.2.2 dX6_init_12
def sk_X8 : List mz_E := [.inr (6, [some 1, some 2, none, none]), .inl (0, 100, []), .inl (0, 32, [])]
def rm_X8 : Room := { frames := 1, cells := 2, slots := 132, locals := 12 }
set_option maxHeartbeats 4000000 in
set_option maxRecDepth 100000 in
theorem cI_X8 (l : Launch) (D : va_G) (cA : Nat → Nat) : qI l D cA yX8_init cX8_init 1 (.inr (6, [.null, .null, .int 0, .int 0])) sk_X8 rm_X8 := by
  intro h0 sz
  refine Met.ofW (cc := cX8_init) (maxL := 1) (ret := none) (by decide) rfl ?_
  intro p e s m args below meth c s₁ B hml hv
  obtain ⟨rfl, hsz, hP, hK, hD0, hE⟩ := hv
  have hx := B.exec
  have hb := B.bytes
  have hr := B.returns
  have hts := atoms_spec (ws := Cond.code yX8_init cX8_init 1 none :: mq_Ts) B.pre
  have hq : ∀ w ∈ mq_Ts, w.before ([Value.ref h0] : List Value).toArray s = true := fun w hw => hts w (List.mem_cons_of_mem _ hw)
  have hown : s.vm.findClass RX8 = some m.cls := findClass_of_methodNamed B.named
  have hlocks := B.notSynchronized
  have hin : meth.name = "<init>" := (name_of_methodNamed B.named B.method).1
  subst hsz
  have hD := hD0.self (sz := s.heap.size)
  generalize hAe : va_A [(h0, .inr (6, [.null, .null, .int 0, .int 0]))] s.heap.size = A at hD ⊢
  have hA : ∀ q : Nat, s.heap.size ≤ q → A q := fun q h => by rw [← hAe]; exact Or.inr h
  have hS : va_S A s.heap s.heap [] := va_S.rf
  have hl := lv_entry ([.ref h0]) (n := 1) (Nat.le_of_ble_eq_true rfl)
  rw [lg_entry_eq]
  generalize (lg_sl ([.ref h0]) ++ List.replicate (1 - (lg_sl ([.ref h0])).length) Slot.unset).toArray = ls at hl ⊢
  have hl : lv_has ls 1 [(0, .ref h0)] := hl
  refine lv_aload_n hx hb dX8_init_0 rfl (lv_at hl 0 rfl) ?_
  refine W.objInit hx hb hown (hq _ (mq_at_in (q := (1, 133)) (by decide +kernel))) (hq _ (mq_at_in (q := (1, 25)) (by decide +kernel))) (hq _ (mq_at_in (q := (1, 26)) (by decide +kernel))) rfl (by rw [hml]; exact hl.1) rfl dX8_init_1 (Nat.le_of_ble_eq_true rfl) (Nat.le_of_ble_eq_true rfl) ?_
  refine W.eq (g2 := F0 m 4 ls []) rfl ?_
  refine lv_aload_n hx hb dX8_init_4 rfl (lv_at hl 0 rfl) ?_
  refine lv_bipush (v := 100) hx hb dX8_init_5 rfl ?_
  refine qNewa (atype := .int) (t := 0) (N := 100) (k := 0) hx hb (hq _ (mq_at_in (q := (1, 63)) (by decide +kernel))) rfl (fun c => qz0 c _ _) hK hP hD hS hA (by decide +kernel) (by decide +kernel) (Nat.le_of_ble_eq_true rfl) (Nat.le_of_ble_eq_true rfl) (Nat.le_of_ble_eq_true rfl) dX8_init_7 (fun q1 H hP hD hS => ?_)
  have hP : va_P D vwCl [(h0, .inr (6, [.null, .null, .int 0, .int 0])), (q1, .inl (cA 0, 100, mz_con (fun _ => 0) mq_z0 0 0 []))] H := hP
  have hD : va_D A [(h0, .inr (6, [.null, .null, .int 0, .int 0])), (q1, .inl (cA 0, 100, mz_con (fun _ => 0) mq_z0 0 0 []))] := hD
  refine va_putF (D := D) (ci := 6) (v := .ref q1) (ty := .array .int) (C := RX8) (T := TX8) (N := 4) hx hb hq (fun w hw => mq_iu w (mq_u6 w hw)) tyX8 tyX8_ok nmX8 hown hK hP hD hS 0 rfl rfl 0 (by decide) (hq _ (mq_at_in (q := (1, 134)) (by decide +kernel))) (fun _ h9 => h9) rfl hin rfl (by decide +kernel) rfl rfl (Nat.le_of_ble_eq_true rfl) dX8_init_9 (fun H locs hP hD hS => ?_)
  have hP : va_P D vwCl [(h0, .inr (6, [.ref q1, .null, .int 0, .int 0])), (q1, .inl (cA 0, 100, mz_con (fun _ => 0) mq_z0 0 0 []))] H := hP
  have hD : va_D A [(h0, .inr (6, [.ref q1, .null, .int 0, .int 0])), (q1, .inl (cA 0, 100, mz_con (fun _ => 0) mq_z0 0 0 []))] := hD
  refine lv_aload_n hx hb dX8_init_12 rfl (lv_at hl 0 rfl) ?_
  refine lv_bipush (v := 32) hx hb dX8_init_13 rfl ?_
  refine qNewa (atype := .int) (t := 0) (N := 32) (k := 0) hx hb (hq _ (mq_at_in (q := (1, 63)) (by decide +kernel))) rfl (fun c => qz0 c _ _) hK hP hD hS hA (by decide +kernel) (by decide +kernel) (Nat.le_of_ble_eq_true rfl) (Nat.le_of_ble_eq_true rfl) (Nat.le_of_ble_eq_true rfl) dX8_init_15 (fun q2 H hP hD hS => ?_)
  have hP : va_P D vwCl [(h0, .inr (6, [.ref q1, .null, .int 0, .int 0])), (q1, .inl (cA 0, 100, mz_con (fun _ => 0) mq_z0 0 0 [])), (q2, .inl (cA 0, 32, mz_con (fun _ => 0) mq_z0 0 0 []))] H := hP
  have hD : va_D A [(h0, .inr (6, [.ref q1, .null, .int 0, .int 0])), (q1, .inl (cA 0, 100, mz_con (fun _ => 0) mq_z0 0 0 [])), (q2, .inl (cA 0, 32, mz_con (fun _ => 0) mq_z0 0 0 []))] := hD
  refine va_putF (D := D) (ci := 6) (v := .ref q2) (ty := .array .int) (C := RX8) (T := TX8) (N := 4) hx hb hq (fun w hw => mq_iu w (mq_u6 w hw)) tyX8 tyX8_ok nmX8 hown hK hP hD hS 0 rfl rfl 1 (by decide) (hq _ (mq_at_in (q := (1, 135)) (by decide +kernel))) (fun _ h9 => h9) rfl hin rfl (by decide +kernel) rfl rfl (Nat.le_of_ble_eq_true rfl) dX8_init_17 (fun H locs hP hD hS => ?_)
  have hP : va_P D vwCl [(h0, .inr (6, [.ref q1, .ref q2, .int 0, .int 0])), (q1, .inl (cA 0, 100, mz_con (fun _ => 0) mq_z0 0 0 [])), (q2, .inl (cA 0, 32, mz_con (fun _ => 0) mq_z0 0 0 []))] H := hP
  have hD : va_D A [(h0, .inr (6, [.ref q1, .ref q2, .int 0, .int 0])), (q1, .inl (cA 0, 100, mz_con (fun _ => 0) mq_z0 0 0 [])), (q2, .inl (cA 0, 32, mz_con (fun _ => 0) mq_z0 0 0 []))] := hD
  exact W.vret hx hb hr (fun t ht hW => ⟨⟨qnth [h0, q1, q2], rfl, rfl, by rw [ht]; exact hP, va_K.moved hW.alike hK, hD⟩, hS.F ht⟩) hS.2.2 dX8_init_20
def sk_X7 : List mz_E := [.inr (5, [none, some 1]), .inl (4, 4, [2, 3, 4, 5]), .inl (0, 8, []), .inl (0, 8, []), .inl (0, 8, []), .inl (0, 8, [])]
def rm_X7 : Room := { frames := 1, cells := 5, slots := 36, locals := 12 }
set_option maxHeartbeats 4000000 in
set_option maxRecDepth 100000 in
theorem cI_X7 (l : Launch) (D : va_G) (cA : Nat → Nat) : qI l D cA yX7_init cX7_init 1 (.inr (5, [.int 0, .null])) sk_X7 rm_X7 := by
  intro h0 sz
  refine Met.ofW (cc := cX7_init) (maxL := 1) (ret := none) (by decide) rfl ?_
  intro p e s m args below meth c s₁ B hml hv
  obtain ⟨rfl, hsz, hP, hK, hD0, hE⟩ := hv
  have hx := B.exec
  have hb := B.bytes
  have hr := B.returns
  have hts := atoms_spec (ws := Cond.code yX7_init cX7_init 1 none :: mq_Ts) B.pre
  have hq : ∀ w ∈ mq_Ts, w.before ([Value.ref h0] : List Value).toArray s = true := fun w hw => hts w (List.mem_cons_of_mem _ hw)
  have hown : s.vm.findClass RX7 = some m.cls := findClass_of_methodNamed B.named
  have hlocks := B.notSynchronized
  have hin : meth.name = "<init>" := (name_of_methodNamed B.named B.method).1
  subst hsz
  have hD := hD0.self (sz := s.heap.size)
  generalize hAe : va_A [(h0, .inr (5, [.int 0, .null]))] s.heap.size = A at hD ⊢
  have hA : ∀ q : Nat, s.heap.size ≤ q → A q := fun q h => by rw [← hAe]; exact Or.inr h
  have hS : va_S A s.heap s.heap [] := va_S.rf
  have hl := lv_entry ([.ref h0]) (n := 1) (Nat.le_of_ble_eq_true rfl)
  rw [lg_entry_eq]
  generalize (lg_sl ([.ref h0]) ++ List.replicate (1 - (lg_sl ([.ref h0])).length) Slot.unset).toArray = ls at hl ⊢
  have hl : lv_has ls 1 [(0, .ref h0)] := hl
  refine lv_aload_n hx hb dX7_init_0 rfl (lv_at hl 0 rfl) ?_
  refine W.objInit hx hb hown (hq _ (mq_at_in (q := (1, 96)) (by decide +kernel))) (hq _ (mq_at_in (q := (1, 25)) (by decide +kernel))) (hq _ (mq_at_in (q := (1, 26)) (by decide +kernel))) rfl (by rw [hml]; exact hl.1) rfl dX7_init_1 (Nat.le_of_ble_eq_true rfl) (Nat.le_of_ble_eq_true rfl) ?_
  refine W.eq (g2 := F0 m 4 ls []) rfl ?_
  refine lv_aload_n hx hb dX7_init_4 rfl (lv_at hl 0 rfl) ?_
  refine lv_iconst (v := 4) hx hb dX7_init_5 rfl ?_
  refine lv_bipush (v := 8) hx hb dX7_init_6 rfl ?_
  refine va_mna (X := [(h0, .inr (5, [.int 0, .null]))]) (L := []) (f := fun _ => .inr (0, [])) (ty := .int) (cy := cA 0) (n := 4) (k := 8) (N' := 4) (K' := 8) (z := (8, mz_con (fun _ => 0) mq_z0 0 0 [])) hx hb hown (by rw [show ("[" ++ (FieldType.array FieldType.int).toString) = "[[I" by decide +kernel]; exact (hq _ (mq_at_in (q := (1, 97)) (by decide +kernel)))) hE.2.1 (hq _ (mq_at_in (q := (1, 63)) (by decide +kernel))) (by rw [show (FieldType.array FieldType.int).toString = "[I" by decide +kernel]; exact va_nm_int (hK.2 0 _ rfl).2) hK hP hD hS hA (by decide +kernel) (by decide +kernel) (by decide +kernel) (by decide +kernel) (Nat.le_of_ble_eq_true rfl) (Nat.le_of_ble_eq_true rfl) (Nat.le_of_ble_eq_true rfl) (by decide +kernel) (by decide +kernel) (Nat.le_of_ble_eq_true rfl) (Nat.le_of_ble_eq_true rfl) (fun _ => rfl) dX7_init_8 (fun q r c4 H hr1 hr2 hK1 hP hD hS => ?_)
  obtain rfl := qK_eq hK1 4 rfl
  have e1 : va_pl ([] ++ (List.range 4).map r) (vr_up (fun _ => (.inr (0, []) : va_E)) ((List.range 4).map r) (.inl (cA 0, (8, mz_con (fun _ => 0) mq_z0 0 0 [])))) = [(r 0, .inl (cA 0, (8, mz_con (fun _ => 0) mq_z0 0 0 []))), (r 1, .inl (cA 0, (8, mz_con (fun _ => 0) mq_z0 0 0 []))), (r 2, .inl (cA 0, (8, mz_con (fun _ => 0) mq_z0 0 0 []))), (r 3, .inl (cA 0, (8, mz_con (fun _ => 0) mq_z0 0 0 [])))] := by
    simp [va_pl, vr_up, List.range, List.range.loop]
  rw [e1] at hP hD
  have e2 : (fun i => if i < 4 then some (r i) else none) = (fun j => if j < ([2, 3, 4, 5] : List Nat).length then some (qnth [h0, q, r 0, r 1, r 2, r 3] (([2, 3, 4, 5] : List Nat).getD j 0)) else none) := by
    funext j
    match j with
    | 0 => rfl
    | 1 => rfl
    | 2 => rfl
    | 3 => rfl
    | n + 4 =>
      show (if n + 4 < 4 then _ else none) = (if n + 4 < 4 then _ else none)
      rw [if_neg (by omega), if_neg (by omega)]
  rw [e2] at hP hD
  refine va_putF (D := D) (ci := 5) (v := .ref q) (ty := .array (.array .int)) (C := RX7) (T := TX7) (N := 2) hx hb hq (fun w hw => mq_iu w (mq_u5 w hw)) tyX7 tyX7_ok nmX7 hown hK hP hD hS 0 rfl rfl 1 (by decide) (hq _ (mq_at_in (q := (1, 101)) (by decide +kernel))) (fun _ h9 => h9) rfl hin rfl (by decide +kernel) rfl rfl (Nat.le_of_ble_eq_true rfl) dX7_init_12 (fun H locs hP hD hS => ?_)
  exact W.vret hx hb hr (fun t ht hW => ⟨⟨qnth [h0, q, r 0, r 1, r 2, r 3], rfl, rfl, by rw [ht]; exact hP, va_K.moved hW.alike hK, hD⟩, hS.F ht⟩) hS.2.2 dX7_init_15
def sk_X2 : List mz_E := [.inr (2, [some 1, some 4]), .inr (0, [none, none, none, some 2, some 3, none]), .inl (0, 256, []), .inl (0, 256, []), .inr (1, [some 5, some 6, none]), .inl (0, 8, []), .inl (0, 8, [])]
def rm_X2 : Room := { frames := 2, cells := 6, slots := 537, locals := 32 }
set_option maxHeartbeats 4000000 in
set_option maxRecDepth 100000 in
theorem cI_X2 (l : Launch) (D : va_G) (cA : Nat → Nat) : qI l D cA yX2_init cX2_init 1 (.inr (2, [.null, .null])) sk_X2 rm_X2 := by
  intro h0 sz
  refine Met.ofW (cc := cX2_init) (maxL := 1) (ret := none) (by decide) rfl ?_
  intro p e s m args below meth c s₁ B hml hv
  obtain ⟨rfl, hsz, hP, hK, hD0, hE⟩ := hv
  have hx := B.exec
  have hb := B.bytes
  have hr := B.returns
  have hts := atoms_spec (ws := Cond.code yX2_init cX2_init 1 none :: mq_Ts) B.pre
  have hq : ∀ w ∈ mq_Ts, w.before ([Value.ref h0] : List Value).toArray s = true := fun w hw => hts w (List.mem_cons_of_mem _ hw)
  have hown : s.vm.findClass RX2 = some m.cls := findClass_of_methodNamed B.named
  have hlocks := B.notSynchronized
  have hin : meth.name = "<init>" := (name_of_methodNamed B.named B.method).1
  subst hsz
  have hD := hD0.self (sz := s.heap.size)
  generalize hAe : va_A [(h0, .inr (2, [.null, .null]))] s.heap.size = A at hD ⊢
  have hA : ∀ q : Nat, s.heap.size ≤ q → A q := fun q h => by rw [← hAe]; exact Or.inr h
  have hS : va_S A s.heap s.heap [] := va_S.rf
  have hl := lv_entry ([.ref h0]) (n := 1) (Nat.le_of_ble_eq_true rfl)
  rw [lg_entry_eq]
  generalize (lg_sl ([.ref h0]) ++ List.replicate (1 - (lg_sl ([.ref h0])).length) Slot.unset).toArray = ls at hl ⊢
  have hl : lv_has ls 1 [(0, .ref h0)] := hl
  refine lv_aload_n hx hb dX2_init_0 rfl (lv_at hl 0 rfl) ?_
  refine W.objInit hx hb hown (hq _ (mq_at_in (q := (1, 32)) (by decide +kernel))) (hq _ (mq_at_in (q := (1, 25)) (by decide +kernel))) (hq _ (mq_at_in (q := (1, 26)) (by decide +kernel))) rfl (by rw [hml]; exact hl.1) rfl dX2_init_1 (Nat.le_of_ble_eq_true rfl) (Nat.le_of_ble_eq_true rfl) ?_
  refine W.eq (g2 := F0 m 4 ls []) rfl ?_
  refine lv_aload_n hx hb dX2_init_4 rfl (lv_at hl 0 rfl) ?_
  refine va_new (ci := 0) (fs := [.int 0, .int 0, .int 0, .null, .null, .int 0]) (C := RX0) (T := TX0) (N := 6) hx hb hq (fun w hw => mq_iu w (mq_u0 w hw)) tyX0 tyX0_ok hown (hq _ (mq_at_in (q := (1, 33)) (by decide +kernel))) (hq _ (mq_at_in (q := (1, 34)) (by decide +kernel))) (hq _ (mq_at_in (q := (1, 3)) (by decide +kernel))) hK hP hD hS hA rfl (fun j hj => by rcases (show j = 0 ∨ j = 1 ∨ j = 2 ∨ j = 3 ∨ j = 4 ∨ j = 5 by omega) with rfl | rfl | rfl | rfl | rfl | rfl <;> rfl) (Nat.le_of_ble_eq_true rfl) (Nat.le_of_ble_eq_true rfl) dX2_init_5 (fun q1 H hP hD hS => ?_)
  have hP : va_P D vwCl ([(h0, .inr (2, [.null, .null]))] ++ [(q1, .inr (0, [.int 0, .int 0, .int 0, .null, .null, .int 0]))]) H := hP
  have hD : va_D A ([(h0, .inr (2, [.null, .null]))] ++ [(q1, .inr (0, [.int 0, .int 0, .int 0, .null, .null, .int 0]))]) := hD
  refine lv_dup hx hb dX2_init_8 rfl ?_
  refine qI_callN (own := RX2) (idx := 11) (ws := [(h0, .inr (2, [.null, .null]))]) (cI_X0 l D cA) hx hb hml hown hts (mq_good (mq_at_in (q := (1, 37)) (by decide +kernel)) (fun w hw => List.mem_cons_of_mem _ hw)) (hq _ (mq_at_in (q := (1, 3)) (by decide +kernel))) (by decide +kernel) (hq _ (mq_at_in (q := (1, 36)) (by decide +kernel))) rfl (by decide +kernel) ⟨(Nat.le_of_ble_eq_true rfl), (Nat.le_of_ble_eq_true rfl)⟩ hK hE hP hD hS hA hl.1 (Nat.le_of_ble_eq_true rfl) dX2_init_9 ⟨(Nat.le_of_ble_eq_true rfl), (Nat.le_of_ble_eq_true rfl)⟩ (fun a1 H locs h1 hPn hDn hS => ?_)
  obtain rfl := h1
  have hP := hPn
  have hD := hDn
  refine va_putF (D := D) (ci := 2) (v := .ref (a1 0)) (ty := .object RX0) (C := RX2) (T := TX2) (N := 2) hx hb hq (fun w hw => mq_iu w (mq_u2 w hw)) tyX2 tyX2_ok nmX2 hown hK hP hD hS 0 rfl rfl 0 (by decide) (hq _ (mq_at_in (q := (1, 82)) (by decide +kernel))) (fun _ h9 => h9) rfl hin rfl (by decide +kernel) rfl rfl (Nat.le_of_ble_eq_true rfl) dX2_init_12 (fun H locs hP hD hS => ?_)
  have hP : va_P D vwCl ([(h0, .inr (2, [.ref (a1 0), .null]))] ++ mz_wl cA a1 mq_z0 0 sk_X0) H := hP
  have hD : va_D A ([(h0, .inr (2, [.ref (a1 0), .null]))] ++ mz_wl cA a1 mq_z0 0 sk_X0) := hD
  refine lv_aload_n hx hb dX2_init_15 rfl (lv_at hl 0 rfl) ?_
  refine va_new (ci := 1) (fs := [.null, .null, .int 0]) (C := RX1) (T := TX1) (N := 3) hx hb hq (fun w hw => mq_iu w (mq_u1 w hw)) tyX1 tyX1_ok hown (hq _ (mq_at_in (q := (1, 64)) (by decide +kernel))) (hq _ (mq_at_in (q := (1, 65)) (by decide +kernel))) (hq _ (mq_at_in (q := (1, 4)) (by decide +kernel))) hK hP hD hS hA rfl (fun j hj => by rcases (show j = 0 ∨ j = 1 ∨ j = 2 by omega) with rfl | rfl | rfl <;> rfl) (Nat.le_of_ble_eq_true rfl) (Nat.le_of_ble_eq_true rfl) dX2_init_16 (fun q2 H hP hD hS => ?_)
  have hP : va_P D vwCl (([(h0, .inr (2, [.ref (a1 0), .null]))] ++ mz_wl cA a1 mq_z0 0 sk_X0) ++ [(q2, .inr (1, [.null, .null, .int 0]))]) H := hP
  have hD : va_D A (([(h0, .inr (2, [.ref (a1 0), .null]))] ++ mz_wl cA a1 mq_z0 0 sk_X0) ++ [(q2, .inr (1, [.null, .null, .int 0]))]) := hD
  refine lv_dup hx hb dX2_init_19 rfl ?_
  refine qI_callN (own := RX2) (idx := 20) (ws := ([(h0, .inr (2, [.ref (a1 0), .null]))] ++ mz_wl cA a1 mq_z0 0 sk_X0)) (cI_X1 l D cA) hx hb hml hown hts (mq_good (mq_at_in (q := (1, 68)) (by decide +kernel)) (fun w hw => List.mem_cons_of_mem _ hw)) (hq _ (mq_at_in (q := (1, 4)) (by decide +kernel))) (by decide +kernel) (hq _ (mq_at_in (q := (1, 67)) (by decide +kernel))) rfl (by decide +kernel) ⟨(Nat.le_of_ble_eq_true rfl), (Nat.le_of_ble_eq_true rfl)⟩ hK hE hP hD hS hA hl.1 (Nat.le_of_ble_eq_true rfl) dX2_init_20 ⟨(Nat.le_of_ble_eq_true rfl), (Nat.le_of_ble_eq_true rfl)⟩ (fun a2 H locs h1 hPn hDn hS => ?_)
  obtain rfl := h1
  have hP := hPn
  have hD := hDn
  refine va_putF (D := D) (ci := 2) (v := .ref (a2 0)) (ty := .object RX1) (C := RX2) (T := TX2) (N := 2) hx hb hq (fun w hw => mq_iu w (mq_u2 w hw)) tyX2 tyX2_ok nmX2 hown hK hP hD hS 0 rfl rfl 1 (by decide) (hq _ (mq_at_in (q := (1, 84)) (by decide +kernel))) (fun _ h9 => h9) rfl hin rfl (by decide +kernel) rfl rfl (Nat.le_of_ble_eq_true rfl) dX2_init_23 (fun H locs hP hD hS => ?_)
  exact W.vret hx hb hr (fun t ht hW => ⟨⟨qnth [h0, a1 0, a1 1, a1 2, a2 0, a2 1, a2 2], rfl, rfl, by rw [ht]; exact hP, va_K.moved hW.alike hK, hD⟩, hS.F ht⟩) hS.2.2 dX2_init_26
